set_option maxHeartbeats 4000000 in
set_option maxRecDepth 100000 in
theorem w6_gallingOfAll_b4 {X : sf_X} {V : sf_V} {s : sf_Sg} {r : Int32} {k4 : Int32 → Int32 → Int32 → Option Int32} (C : sf_C X V cX6_gallingOfAll 4 RX6 (some .int) 3) (hk4 : ∀  (x1 : Int32) (x2 : Int32) (x3 : Int32), k4 x1 x2 x3 = some r → sf_G X V 4 (sf_Q X V (sf_Qi V r s)) s 4 [(0, .ref (V.2.1 9)), (1, .int x1), (2, .int x2), (3, .int x3)] []) {x1 : Int32} {x2 : Int32} {x3 : Int32} (h : f6_gallingOfAll_b4 s k4 x1 x2 x3 = some r) : sf_G X V 4 (sf_Q X V (sf_Qi V r s)) s 4 [(0, .ref (V.2.1 9)), (1, .int x1), (2, .int x2), (3, .int x3)] [] := by
  unfold f6_gallingOfAll_b4 at h
  refine sf_iload_n (pc := 4) C 3 dX6_gallingOfAll_4 rfl ?_
  refine sf_aload_n (pc := 5) C 0 dX6_gallingOfAll_5 rfl ?_
  refine sf_getr (pc := 6) C nk_9 sh_9 rfl fl_6_12 dX6_gallingOfAll_6 ?_
  refine sf_get (pc := 9) C nk_10 sh_10 rfl fl_6_58 dX6_gallingOfAll_9 ?_
  refine sf_icmp_ge (tgt := 35) (pc := 12) C dX6_gallingOfAll_12 rfl (fun c12 => ?_) (fun c12 => ?_)
  · replace h := (if_pos c12).symm.trans h
    refine sf_iload_n (pc := 35) C 2 dX6_gallingOfAll_35 rfl ?_
    exact sf_iretR (pc := 36) C dX6_gallingOfAll_36 h
  · replace h := (if_neg c12).symm.trans h
    refine sf_iload_n (pc := 15) C 2 dX6_gallingOfAll_15 rfl ?_
    refine sf_aload_n (pc := 16) C 0 dX6_gallingOfAll_16 rfl ?_
    refine sf_iload_n (pc := 17) C 3 dX6_gallingOfAll_17 rfl ?_
    refine sf_aload_n (pc := 18) C 0 dX6_gallingOfAll_18 rfl ?_
    refine sf_iload_n (pc := 19) C 3 dX6_gallingOfAll_19 rfl ?_
    obtain ⟨v20, e20, h⟩ := sf_ob h
    refine sf_callVi (pc := 20) C (As := [.int x3]) nk_9 sh_9 rfl yk_X6_carriedBy cl_6_47 (k6_carriedBy e20) (by decide) rfl (Nat.le_of_ble_eq_true rfl) rfl dX6_gallingOfAll_20 ?_
    refine sf_iload_n (pc := 23) C 1 dX6_gallingOfAll_23 rfl ?_
    obtain ⟨v24, e24, h⟩ := sf_ob h
    refine sf_callVi (pc := 24) C (As := [.int x3, .int v20, .int x1]) nk_9 sh_9 rfl yk_X6_gallingOf cl_6_94 (k6_gallingOf e24) (by decide) rfl (Nat.le_of_ble_eq_true rfl) rfl dX6_gallingOfAll_24 ?_
    refine sf_iadd (pc := 27) C dX6_gallingOfAll_27 ?_
    refine sf_istore_n (lv' := [(2, .int (x2 + v24)), (0, .ref (V.2.1 9)), (1, .int x1), (3, .int x3)]) (pc := 28) C dX6_gallingOfAll_28 (by decide) rfl ?_
    refine sf_iinc (v := (x3 + 1)) (lv' := [(3, .int (x3 + 1)), (2, .int (x2 + v24)), (0, .ref (V.2.1 9)), (1, .int x1)]) (pc := 29) C 3 dX6_gallingOfAll_29 rfl rfl (by decide) rfl ?_
    refine sf_goto (tgt := 4) (pc := 32) C dX6_gallingOfAll_32 rfl ?_
    refine sf_sub [2, 3, 1, 0] rfl ?_
    exact hk4 _ _ _ h
set_option maxHeartbeats 4000000 in
set_option maxRecDepth 100000 in
theorem w6_gallingOfAll_L4 {X : sf_X} {V : sf_V} {s : sf_Sg} {r : Int32} (C : sf_C X V cX6_gallingOfAll 4 RX6 (some .int) 3) : ∀  (x1 : Int32) (x2 : Int32) (x3 : Int32), f6_gallingOfAll_L4 s x1 x2 x3 = some r → sf_G X V 4 (sf_Q X V (sf_Qi V r s)) s 4 [(0, .ref (V.2.1 9)), (1, .int x1), (2, .int x2), (3, .int x3)] [] :=
  sf_it_ind (fun (k : Int32 → Int32 → Int32 → Option Int32) => ∀  (x1 : Int32) (x2 : Int32) (x3 : Int32), k x1 x2 x3 = some r → sf_G X V 4 (sf_Q X V (sf_Qi V r s)) s 4 [(0, .ref (V.2.1 9)), (1, .int x1), (2, .int x2), (3, .int x3)] []) _ _ (fun x1 x2 x3 h => by cases h) (fun k hk x1 x2 x3 h => w6_gallingOfAll_b4 C hk h) _
set_option maxHeartbeats 4000000 in
set_option maxRecDepth 100000 in
theorem w6_gallingOfAll_b0 {X : sf_X} {V : sf_V} {s : sf_Sg} {r : Int32} (C : sf_C X V cX6_gallingOfAll 4 RX6 (some .int) 3) {x1 : Int32} (h : f6_gallingOfAll_b0 s x1 = some r) : sf_G X V 4 (sf_Q X V (sf_Qi V r s)) s 0 [(0, .ref (V.2.1 9)), (1, .int x1)] [] := by
  unfold f6_gallingOfAll_b0 at h
  refine sf_iconst (v := 0) (pc := 0) C dX6_gallingOfAll_0 (by decide) ?_
  refine sf_istore_n (lv' := [(2, .int (0 : Int32)), (0, .ref (V.2.1 9)), (1, .int x1)]) (pc := 1) C dX6_gallingOfAll_1 (by decide) rfl ?_
  refine sf_iconst (v := 0) (pc := 2) C dX6_gallingOfAll_2 (by decide) ?_
  refine sf_istore_n (lv' := [(3, .int (0 : Int32)), (2, .int (0 : Int32)), (0, .ref (V.2.1 9)), (1, .int x1)]) (pc := 3) C dX6_gallingOfAll_3 (by decide) rfl ?_
  refine sf_sub [2, 3, 1, 0] rfl ?_
  exact w6_gallingOfAll_L4 C _ _ _ h
set_option maxHeartbeats 4000000 in
set_option maxRecDepth 100000 in
theorem k6_gallingOfAll {l : Launch} {V : sf_V} {s : sf_Sg} {x1 : Int32} {r : Int32} (h : f6_gallingOfAll s x1 = some r) : sf_M l V yX6_gallingOfAll (.code yX6_gallingOfAll cX6_gallingOfAll 4 (some .int)) 3 [.ref (V.2.1 9), .int x1] s (sf_Qi V r s) := by
  refine sf_enter (by decide) (Nat.le_of_ble_eq_true rfl) (fun X hX C => ?_)
  refine sf_sub [0, 1] rfl ?_
  exact w6_gallingOfAll_b0 (show sf_C X V cX6_gallingOfAll 4 RX6 (some .int) 3 from C)  h
set_option maxHeartbeats 4000000 in
set_option maxRecDepth 100000 in
theorem w3_isCarried_b0 {X : sf_X} {V : sf_V} {c : Nat} (hc : sf_isL c) {s : sf_Sg} {r : Int32} (C : sf_C X V cX3_isCarried 2 RX3 (some .boolean) 0) {x1 : Int32} (h : f3_isCarried_b0 c s x1 = some r) : sf_G X V 2 (sf_Q X V (sf_Qi V r s)) s 0 [(0, .ref (V.2.1 c)), (1, .int x1)] [] := by
  unfold f3_isCarried_b0 at h
  refine sf_aload_n (pc := 0) C 0 dX3_isCarried_0 rfl ?_
  refine sf_getr (pc := 1) C (sf_kL0 hc) (sf_shL hc).1.1 rfl fl_3_18 dX3_isCarried_1 ?_
  refine sf_iload_n (pc := 4) C 1 dX3_isCarried_4 rfl ?_
  obtain ⟨v5, e5, h⟩ := sf_ob h
  refine sf_iald (pc := 5) C (sf_kL hc 3 (by decide)) (sf_shL hc).1.2.2.2.1 e5 dX3_isCarried_5 ?_
  refine sf_iconst (v := -1) (pc := 6) C dX3_isCarried_6 (by decide) ?_
  refine sf_icmp_eq (tgt := 14) (pc := 7) C dX3_isCarried_7 rfl (fun c7 => ?_) (fun c7 => ?_)
  · replace h := (if_pos c7).symm.trans h
    refine sf_iconst (v := 0) (pc := 14) C dX3_isCarried_14 (by decide) ?_
    exact sf_zretR (pc := 15) C (by first | rfl | exact sf_nb_in _ _ _) dX3_isCarried_15 h
  · replace h := (if_neg c7).symm.trans h
    refine sf_iconst (v := 1) (pc := 10) C dX3_isCarried_10 (by decide) ?_
    refine sf_goto (tgt := 15) (pc := 11) C dX3_isCarried_11 rfl ?_
    exact sf_zretR (pc := 15) C (by first | rfl | exact sf_nb_in _ _ _) dX3_isCarried_15 h
set_option maxHeartbeats 4000000 in
set_option maxRecDepth 100000 in
theorem k3_isCarried {l : Launch} {V : sf_V} {c : Nat} (hc : sf_isL c) {s : sf_Sg} {x1 : Int32} {r : Int32} (h : f3_isCarried c s x1 = some r) : sf_M l V yX3_isCarried (.code yX3_isCarried cX3_isCarried 2 (some .boolean)) 0 [.ref (V.2.1 c), .int x1] s (sf_Qi V r s) := by
  refine sf_enter (by decide) (Nat.le_of_ble_eq_true rfl) (fun X hX C => ?_)
  refine sf_sub [0, 1] rfl ?_
  exact w3_isCarried_b0 hc (show sf_C X V cX3_isCarried 2 RX3 (some .boolean) 0 from C)  h
set_option maxHeartbeats 4000000 in
set_option maxRecDepth 100000 in
theorem w6_carriedByNobody_b32 {X : sf_X} {V : sf_V} {s : sf_Sg} {r : Int32} {k4 : Int32 → Int32 → Option Int32} (C : sf_C X V cX6_carriedByNobody 3 RX6 (some .int) 1) (hk4 : ∀  (x1 : Int32) (x2 : Int32), k4 x1 x2 = some r → sf_G X V 3 (sf_Q X V (sf_Qi V r s)) s 4 [(0, .ref (V.2.1 9)), (1, .int x1), (2, .int x2)] []) {x1 : Int32} {x2 : Int32} (h : f6_carriedByNobody_b32 s k4 x1 x2 = some r) : sf_G X V 3 (sf_Q X V (sf_Qi V r s)) s 32 [(0, .ref (V.2.1 9)), (1, .int x1), (2, .int x2)] [] := by
  unfold f6_carriedByNobody_b32 at h
  refine sf_iinc (v := (x2 + 1)) (lv' := [(2, .int (x2 + 1)), (0, .ref (V.2.1 9)), (1, .int x1)]) (pc := 32) C 2 dX6_carriedByNobody_32 rfl rfl (by decide) rfl ?_
  refine sf_goto (tgt := 4) (pc := 35) C dX6_carriedByNobody_35 rfl ?_
  refine sf_sub [1, 2, 0] rfl ?_
  exact hk4 _ _ h
set_option maxHeartbeats 4000000 in
set_option maxRecDepth 100000 in
theorem w6_carriedByNobody_b4 {X : sf_X} {V : sf_V} {s : sf_Sg} {r : Int32} {k4 : Int32 → Int32 → Option Int32} (C : sf_C X V cX6_carriedByNobody 3 RX6 (some .int) 1) (hk4 : ∀  (x1 : Int32) (x2 : Int32), k4 x1 x2 = some r → sf_G X V 3 (sf_Q X V (sf_Qi V r s)) s 4 [(0, .ref (V.2.1 9)), (1, .int x1), (2, .int x2)] []) {x1 : Int32} {x2 : Int32} (h : f6_carriedByNobody_b4 s k4 x1 x2 = some r) : sf_G X V 3 (sf_Q X V (sf_Qi V r s)) s 4 [(0, .ref (V.2.1 9)), (1, .int x1), (2, .int x2)] [] := by
  unfold f6_carriedByNobody_b4 at h
  refine sf_iload_n (pc := 4) C 2 dX6_carriedByNobody_4 rfl ?_
  refine sf_aload_n (pc := 5) C 0 dX6_carriedByNobody_5 rfl ?_
  refine sf_getr (pc := 6) C nk_9 sh_9 rfl fl_6_12 dX6_carriedByNobody_6 ?_
  refine sf_get (pc := 9) C nk_10 sh_10 rfl fl_6_25 dX6_carriedByNobody_9 ?_
  refine sf_icmp_ge (tgt := 38) (pc := 12) C dX6_carriedByNobody_12 rfl (fun c12 => ?_) (fun c12 => ?_)
  · replace h := (if_pos c12).symm.trans h
    refine sf_iload_n (pc := 38) C 1 dX6_carriedByNobody_38 rfl ?_
    exact sf_iretR (pc := 39) C dX6_carriedByNobody_39 h
  · replace h := (if_neg c12).symm.trans h
    refine sf_aload_n (pc := 15) C 0 dX6_carriedByNobody_15 rfl ?_
    refine sf_getr (pc := 16) C nk_9 sh_9 rfl fl_6_21 dX6_carriedByNobody_16 ?_
    refine sf_iload_n (pc := 19) C 2 dX6_carriedByNobody_19 rfl ?_
    obtain ⟨v20, e20, h⟩ := sf_ob h
    refine sf_callVi (pc := 20) C (As := [.int x2]) nk_16 sh_16 rfl yk_X3_isCarried cl_6_33 (k3_isCarried sf_L0 e20) (by decide) rfl (Nat.le_of_ble_eq_true rfl) rfl dX6_carriedByNobody_20 ?_
    refine sf_if_ne (tgt := 32) (pc := 23) C dX6_carriedByNobody_23 rfl (fun c23 => ?_) (fun c23 => ?_)
    · replace h := (if_neg c23).symm.trans h
      exact w6_carriedByNobody_b32 C hk4 h
    · replace h := (if_pos c23).symm.trans h
      refine sf_iload_n (pc := 26) C 1 dX6_carriedByNobody_26 rfl ?_
      refine sf_iconst (v := 1) (pc := 27) C dX6_carriedByNobody_27 (by decide) ?_
      refine sf_iload_n (pc := 28) C 2 dX6_carriedByNobody_28 rfl ?_
      refine sf_ishl (pc := 29) C dX6_carriedByNobody_29 ?_
      refine sf_ior (pc := 30) C dX6_carriedByNobody_30 ?_
      refine sf_istore_n (lv' := [(1, .int (x1 ||| ((1 : Int32) <<< (x2 &&& 31)))), (0, .ref (V.2.1 9)), (2, .int x2)]) (pc := 31) C dX6_carriedByNobody_31 (by decide) rfl ?_
      refine sf_sub [1, 0, 2] rfl ?_
      exact w6_carriedByNobody_b32 C hk4 h
set_option maxHeartbeats 4000000 in
set_option maxRecDepth 100000 in
theorem w6_carriedByNobody_L4 {X : sf_X} {V : sf_V} {s : sf_Sg} {r : Int32} (C : sf_C X V cX6_carriedByNobody 3 RX6 (some .int) 1) : ∀  (x1 : Int32) (x2 : Int32), f6_carriedByNobody_L4 s x1 x2 = some r → sf_G X V 3 (sf_Q X V (sf_Qi V r s)) s 4 [(0, .ref (V.2.1 9)), (1, .int x1), (2, .int x2)] [] :=
  sf_it_ind (fun (k : Int32 → Int32 → Option Int32) => ∀  (x1 : Int32) (x2 : Int32), k x1 x2 = some r → sf_G X V 3 (sf_Q X V (sf_Qi V r s)) s 4 [(0, .ref (V.2.1 9)), (1, .int x1), (2, .int x2)] []) _ _ (fun x1 x2 h => by cases h) (fun k hk x1 x2 h => w6_carriedByNobody_b4 C hk h) _
set_option maxHeartbeats 4000000 in
set_option maxRecDepth 100000 in
theorem w6_carriedByNobody_b0 {X : sf_X} {V : sf_V} {s : sf_Sg} {r : Int32} (C : sf_C X V cX6_carriedByNobody 3 RX6 (some .int) 1) (h : f6_carriedByNobody_b0 s = some r) : sf_G X V 3 (sf_Q X V (sf_Qi V r s)) s 0 [(0, .ref (V.2.1 9))] [] := by
  unfold f6_carriedByNobody_b0 at h
  refine sf_iconst (v := 0) (pc := 0) C dX6_carriedByNobody_0 (by decide) ?_
  refine sf_istore_n (lv' := [(1, .int (0 : Int32)), (0, .ref (V.2.1 9))]) (pc := 1) C dX6_carriedByNobody_1 (by decide) rfl ?_
  refine sf_iconst (v := 0) (pc := 2) C dX6_carriedByNobody_2 (by decide) ?_
  refine sf_istore_n (lv' := [(2, .int (0 : Int32)), (1, .int (0 : Int32)), (0, .ref (V.2.1 9))]) (pc := 3) C dX6_carriedByNobody_3 (by decide) rfl ?_
  refine sf_sub [2, 1, 0] rfl ?_
  exact w6_carriedByNobody_L4 C _ _ h
set_option maxHeartbeats 4000000 in
set_option maxRecDepth 100000 in
theorem k6_carriedByNobody {l : Launch} {V : sf_V} {s : sf_Sg} {r : Int32} (h : f6_carriedByNobody s = some r) : sf_M l V yX6_carriedByNobody (.code yX6_carriedByNobody cX6_carriedByNobody 3 (some .int)) 1 [.ref (V.2.1 9)] s (sf_Qi V r s) := by
  refine sf_enter (by decide) (Nat.le_of_ble_eq_true rfl) (fun X hX C => ?_)
  refine sf_sub [0] rfl ?_
  exact w6_carriedByNobody_b0 (show sf_C X V cX6_carriedByNobody 3 RX6 (some .int) 1 from C)  h
set_option maxHeartbeats 4000000 in
set_option maxRecDepth 100000 in
theorem w6_sharedOnes_b32 {X : sf_X} {V : sf_V} {s : sf_Sg} {r : Int32} {k4 : Int32 → Int32 → Option Int32} (C : sf_C X V cX6_sharedOnes 3 RX6 (some .int) 1) (hk4 : ∀  (x1 : Int32) (x2 : Int32), k4 x1 x2 = some r → sf_G X V 3 (sf_Q X V (sf_Qi V r s)) s 4 [(0, .ref (V.2.1 9)), (1, .int x1), (2, .int x2)] []) {x1 : Int32} {x2 : Int32} (h : f6_sharedOnes_b32 s k4 x1 x2 = some r) : sf_G X V 3 (sf_Q X V (sf_Qi V r s)) s 32 [(0, .ref (V.2.1 9)), (1, .int x1), (2, .int x2)] [] := by
  unfold f6_sharedOnes_b32 at h
  refine sf_iinc (v := (x2 + 1)) (lv' := [(2, .int (x2 + 1)), (0, .ref (V.2.1 9)), (1, .int x1)]) (pc := 32) C 2 dX6_sharedOnes_32 rfl rfl (by decide) rfl ?_
  refine sf_goto (tgt := 4) (pc := 35) C dX6_sharedOnes_35 rfl ?_
  refine sf_sub [1, 2, 0] rfl ?_
  exact hk4 _ _ h
set_option maxHeartbeats 4000000 in
set_option maxRecDepth 100000 in
theorem w6_sharedOnes_b4 {X : sf_X} {V : sf_V} {s : sf_Sg} {r : Int32} {k4 : Int32 → Int32 → Option Int32} (C : sf_C X V cX6_sharedOnes 3 RX6 (some .int) 1) (hk4 : ∀  (x1 : Int32) (x2 : Int32), k4 x1 x2 = some r → sf_G X V 3 (sf_Q X V (sf_Qi V r s)) s 4 [(0, .ref (V.2.1 9)), (1, .int x1), (2, .int x2)] []) {x1 : Int32} {x2 : Int32} (h : f6_sharedOnes_b4 s k4 x1 x2 = some r) : sf_G X V 3 (sf_Q X V (sf_Qi V r s)) s 4 [(0, .ref (V.2.1 9)), (1, .int x1), (2, .int x2)] [] := by
  unfold f6_sharedOnes_b4 at h
  refine sf_iload_n (pc := 4) C 2 dX6_sharedOnes_4 rfl ?_
  refine sf_aload_n (pc := 5) C 0 dX6_sharedOnes_5 rfl ?_
  refine sf_getr (pc := 6) C nk_9 sh_9 rfl fl_6_12 dX6_sharedOnes_6 ?_
  refine sf_get (pc := 9) C nk_10 sh_10 rfl fl_6_25 dX6_sharedOnes_9 ?_
  refine sf_icmp_ge (tgt := 38) (pc := 12) C dX6_sharedOnes_12 rfl (fun c12 => ?_) (fun c12 => ?_)
  · replace h := (if_pos c12).symm.trans h
    refine sf_iload_n (pc := 38) C 1 dX6_sharedOnes_38 rfl ?_
    exact sf_iretR (pc := 39) C dX6_sharedOnes_39 h
  · replace h := (if_neg c12).symm.trans h
    refine sf_aload_n (pc := 15) C 0 dX6_sharedOnes_15 rfl ?_
    refine sf_getr (pc := 16) C nk_9 sh_9 rfl fl_6_21 dX6_sharedOnes_16 ?_
    refine sf_iload_n (pc := 19) C 2 dX6_sharedOnes_19 rfl ?_
    obtain ⟨v20, e20, h⟩ := sf_ob h
    refine sf_callVi (pc := 20) C (As := [.int x2]) nk_16 sh_16 rfl yk_X3_isShared cl_6_37 (k3_isShared sf_L0 e20) (by decide) rfl (Nat.le_of_ble_eq_true rfl) rfl dX6_sharedOnes_20 ?_
    refine sf_if_eq (tgt := 32) (pc := 23) C dX6_sharedOnes_23 rfl (fun c23 => ?_) (fun c23 => ?_)
    · replace h := (if_pos c23).symm.trans h
      exact w6_sharedOnes_b32 C hk4 h
    · replace h := (if_neg c23).symm.trans h
      refine sf_iload_n (pc := 26) C 1 dX6_sharedOnes_26 rfl ?_
      refine sf_iconst (v := 1) (pc := 27) C dX6_sharedOnes_27 (by decide) ?_
      refine sf_iload_n (pc := 28) C 2 dX6_sharedOnes_28 rfl ?_
      refine sf_ishl (pc := 29) C dX6_sharedOnes_29 ?_
      refine sf_ior (pc := 30) C dX6_sharedOnes_30 ?_
      refine sf_istore_n (lv' := [(1, .int (x1 ||| ((1 : Int32) <<< (x2 &&& 31)))), (0, .ref (V.2.1 9)), (2, .int x2)]) (pc := 31) C dX6_sharedOnes_31 (by decide) rfl ?_
      refine sf_sub [1, 0, 2] rfl ?_
      exact w6_sharedOnes_b32 C hk4 h
set_option maxHeartbeats 4000000 in
set_option maxRecDepth 100000 in
theorem w6_sharedOnes_L4 {X : sf_X} {V : sf_V} {s : sf_Sg} {r : Int32} (C : sf_C X V cX6_sharedOnes 3 RX6 (some .int) 1) : ∀  (x1 : Int32) (x2 : Int32), f6_sharedOnes_L4 s x1 x2 = some r → sf_G X V 3 (sf_Q X V (sf_Qi V r s)) s 4 [(0, .ref (V.2.1 9)), (1, .int x1), (2, .int x2)] [] :=
  sf_it_ind (fun (k : Int32 → Int32 → Option Int32) => ∀  (x1 : Int32) (x2 : Int32), k x1 x2 = some r → sf_G X V 3 (sf_Q X V (sf_Qi V r s)) s 4 [(0, .ref (V.2.1 9)), (1, .int x1), (2, .int x2)] []) _ _ (fun x1 x2 h => by cases h) (fun k hk x1 x2 h => w6_sharedOnes_b4 C hk h) _
set_option maxHeartbeats 4000000 in
set_option maxRecDepth 100000 in
theorem w6_sharedOnes_b0 {X : sf_X} {V : sf_V} {s : sf_Sg} {r : Int32} (C : sf_C X V cX6_sharedOnes 3 RX6 (some .int) 1) (h : f6_sharedOnes_b0 s = some r) : sf_G X V 3 (sf_Q X V (sf_Qi V r s)) s 0 [(0, .ref (V.2.1 9))] [] := by
  unfold f6_sharedOnes_b0 at h
  refine sf_iconst (v := 0) (pc := 0) C dX6_sharedOnes_0 (by decide) ?_
  refine sf_istore_n (lv' := [(1, .int (0 : Int32)), (0, .ref (V.2.1 9))]) (pc := 1) C dX6_sharedOnes_1 (by decide) rfl ?_
  refine sf_iconst (v := 0) (pc := 2) C dX6_sharedOnes_2 (by decide) ?_
  refine sf_istore_n (lv' := [(2, .int (0 : Int32)), (1, .int (0 : Int32)), (0, .ref (V.2.1 9))]) (pc := 3) C dX6_sharedOnes_3 (by decide) rfl ?_
  refine sf_sub [2, 1, 0] rfl ?_
  exact w6_sharedOnes_L4 C _ _ h
set_option maxHeartbeats 4000000 in
set_option maxRecDepth 100000 in
theorem k6_sharedOnes {l : Launch} {V : sf_V} {s : sf_Sg} {r : Int32} (h : f6_sharedOnes s = some r) : sf_M l V yX6_sharedOnes (.code yX6_sharedOnes cX6_sharedOnes 3 (some .int)) 1 [.ref (V.2.1 9)] s (sf_Qi V r s) := by
  refine sf_enter (by decide) (Nat.le_of_ble_eq_true rfl) (fun X hX C => ?_)
  refine sf_sub [0] rfl ?_
  exact w6_sharedOnes_b0 (show sf_C X V cX6_sharedOnes 3 RX6 (some .int) 1 from C)  h
set_option maxHeartbeats 4000000 in
set_option maxRecDepth 100000 in
theorem w6_partsOn_b42 {X : sf_X} {V : sf_V} {s : sf_Sg} {r : Int32} {k11 : Int32 → Int32 → Int32 → Int32 → Option Int32} (C : sf_C X V cX6_partsOn 5 RX6 (some .int) 2) (hk11 : ∀  (x1 : Int32) (x2 : Int32) (x3 : Int32) (x4 : Int32), k11 x1 x2 x3 x4 = some r → sf_G X V 5 (sf_Q X V (sf_Qi V r s)) s 11 [(0, .ref (V.2.1 9)), (1, .int x1), (2, .int x2), (3, .int x3), (4, .int x4)] []) {x1 : Int32} {x2 : Int32} {x3 : Int32} {x4 : Int32} (h : f6_partsOn_b42 s k11 x1 x2 x3 x4 = some r) : sf_G X V 5 (sf_Q X V (sf_Qi V r s)) s 42 [(0, .ref (V.2.1 9)), (1, .int x1), (2, .int x2), (3, .int x3), (4, .int x4)] [] := by
  unfold f6_partsOn_b42 at h
  refine sf_iinc (v := (x4 + 1)) (lv' := [(4, .int (x4 + 1)), (0, .ref (V.2.1 9)), (1, .int x1), (2, .int x2), (3, .int x3)]) (pc := 42) C 4 dX6_partsOn_42 rfl rfl (by decide) rfl ?_
  refine sf_goto (tgt := 11) (pc := 45) C dX6_partsOn_45 rfl ?_
  refine sf_sub [1, 2, 3, 4, 0] rfl ?_
  exact hk11 _ _ _ _ h
set_option maxHeartbeats 4000000 in
set_option maxRecDepth 100000 in
theorem w6_partsOn_b11 {X : sf_X} {V : sf_V} {s : sf_Sg} {r : Int32} {k11 : Int32 → Int32 → Int32 → Int32 → Option Int32} (C : sf_C X V cX6_partsOn 5 RX6 (some .int) 2) (hk11 : ∀  (x1 : Int32) (x2 : Int32) (x3 : Int32) (x4 : Int32), k11 x1 x2 x3 x4 = some r → sf_G X V 5 (sf_Q X V (sf_Qi V r s)) s 11 [(0, .ref (V.2.1 9)), (1, .int x1), (2, .int x2), (3, .int x3), (4, .int x4)] []) {x1 : Int32} {x2 : Int32} {x3 : Int32} {x4 : Int32} (h : f6_partsOn_b11 s k11 x1 x2 x3 x4 = some r) : sf_G X V 5 (sf_Q X V (sf_Qi V r s)) s 11 [(0, .ref (V.2.1 9)), (1, .int x1), (2, .int x2), (3, .int x3), (4, .int x4)] [] := by
  unfold f6_partsOn_b11 at h
  refine sf_iload (pc := 11) C 4 dX6_partsOn_11 rfl ?_
  refine sf_aload_n (pc := 13) C 0 dX6_partsOn_13 rfl ?_
  refine sf_getr (pc := 14) C nk_9 sh_9 rfl fl_6_12 dX6_partsOn_14 ?_
  refine sf_get (pc := 17) C nk_10 sh_10 rfl fl_6_25 dX6_partsOn_17 ?_
  refine sf_icmp_ge (tgt := 48) (pc := 20) C dX6_partsOn_20 rfl (fun c20 => ?_) (fun c20 => ?_)
  · replace h := (if_pos c20).symm.trans h
    refine sf_iload_n (pc := 48) C 3 dX6_partsOn_48 rfl ?_
    exact sf_iretR (pc := 49) C dX6_partsOn_49 h
  · replace h := (if_neg c20).symm.trans h
    refine sf_iload_n (pc := 23) C 2 dX6_partsOn_23 rfl ?_
    refine sf_iload (pc := 24) C 4 dX6_partsOn_24 rfl ?_
    refine sf_callNi (pc := 26) C (As := [.int x2, .int x4]) yk_X9_has cl_6_51 (k9_has rfl) (by decide) rfl (Nat.le_of_ble_eq_true rfl) rfl dX6_partsOn_26 ?_
    refine sf_if_eq (tgt := 42) (pc := 29) C dX6_partsOn_29 rfl (fun c29 => ?_) (fun c29 => ?_)
    · replace h := (if_pos c29).symm.trans h
      exact w6_partsOn_b42 C hk11 h
    · replace h := (if_neg c29).symm.trans h
      refine sf_iload_n (pc := 32) C 3 dX6_partsOn_32 rfl ?_
      refine sf_aload_n (pc := 33) C 0 dX6_partsOn_33 rfl ?_
      refine sf_iload (pc := 34) C 4 dX6_partsOn_34 rfl ?_
      refine sf_iload_n (pc := 36) C 1 dX6_partsOn_36 rfl ?_
      obtain ⟨v37, e37, h⟩ := sf_ob h
      refine sf_callVi (pc := 37) C (As := [.int x4, .int x1]) nk_9 sh_9 rfl yk_X6_partOf cl_6_54 (k6_partOf e37) (by decide) rfl (Nat.le_of_ble_eq_true rfl) rfl dX6_partsOn_37 ?_
      refine sf_iadd (pc := 40) C dX6_partsOn_40 ?_
      refine sf_istore_n (lv' := [(3, .int (x3 + v37)), (0, .ref (V.2.1 9)), (1, .int x1), (2, .int x2), (4, .int x4)]) (pc := 41) C dX6_partsOn_41 (by decide) rfl ?_
      refine sf_sub [1, 2, 3, 0, 4] rfl ?_
      exact w6_partsOn_b42 C hk11 h
set_option maxHeartbeats 4000000 in
set_option maxRecDepth 100000 in
theorem w6_partsOn_L11 {X : sf_X} {V : sf_V} {s : sf_Sg} {r : Int32} (C : sf_C X V cX6_partsOn 5 RX6 (some .int) 2) : ∀  (x1 : Int32) (x2 : Int32) (x3 : Int32) (x4 : Int32), f6_partsOn_L11 s x1 x2 x3 x4 = some r → sf_G X V 5 (sf_Q X V (sf_Qi V r s)) s 11 [(0, .ref (V.2.1 9)), (1, .int x1), (2, .int x2), (3, .int x3), (4, .int x4)] [] :=
  sf_it_ind (fun (k : Int32 → Int32 → Int32 → Int32 → Option Int32) => ∀  (x1 : Int32) (x2 : Int32) (x3 : Int32) (x4 : Int32), k x1 x2 x3 x4 = some r → sf_G X V 5 (sf_Q X V (sf_Qi V r s)) s 11 [(0, .ref (V.2.1 9)), (1, .int x1), (2, .int x2), (3, .int x3), (4, .int x4)] []) _ _ (fun x1 x2 x3 x4 h => by cases h) (fun k hk x1 x2 x3 x4 h => w6_partsOn_b11 C hk h) _
set_option maxHeartbeats 4000000 in
set_option maxRecDepth 100000 in
theorem w6_partsOn_b0 {X : sf_X} {V : sf_V} {s : sf_Sg} {r : Int32} (C : sf_C X V cX6_partsOn 5 RX6 (some .int) 2) {x1 : Int32} (h : f6_partsOn_b0 s x1 = some r) : sf_G X V 5 (sf_Q X V (sf_Qi V r s)) s 0 [(0, .ref (V.2.1 9)), (1, .int x1)] [] := by
  unfold f6_partsOn_b0 at h
  refine sf_aload_n (pc := 0) C 0 dX6_partsOn_0 rfl ?_
  refine sf_iload_n (pc := 1) C 1 dX6_partsOn_1 rfl ?_
  obtain ⟨v2, e2, h⟩ := sf_ob h
  refine sf_callVi (pc := 2) C (As := [.int x1]) nk_9 sh_9 rfl yk_X6_carriedBy cl_6_47 (k6_carriedBy e2) (by decide) rfl (Nat.le_of_ble_eq_true rfl) rfl dX6_partsOn_2 ?_
  refine sf_istore_n (lv' := [(2, .int v2), (0, .ref (V.2.1 9)), (1, .int x1)]) (pc := 5) C dX6_partsOn_5 (by decide) rfl ?_
  refine sf_iconst (v := 0) (pc := 6) C dX6_partsOn_6 (by decide) ?_
  refine sf_istore_n (lv' := [(3, .int (0 : Int32)), (2, .int v2), (0, .ref (V.2.1 9)), (1, .int x1)]) (pc := 7) C dX6_partsOn_7 (by decide) rfl ?_
  refine sf_iconst (v := 0) (pc := 8) C dX6_partsOn_8 (by decide) ?_
  refine sf_istore (lv' := [(4, .int (0 : Int32)), (3, .int (0 : Int32)), (2, .int v2), (0, .ref (V.2.1 9)), (1, .int x1)]) (pc := 9) C dX6_partsOn_9 (by decide) rfl ?_
  refine sf_sub [3, 4, 2, 1, 0] rfl ?_
  exact w6_partsOn_L11 C _ _ _ _ h
set_option maxHeartbeats 4000000 in
set_option maxRecDepth 100000 in
theorem k6_partsOn {l : Launch} {V : sf_V} {s : sf_Sg} {x1 : Int32} {r : Int32} (h : f6_partsOn s x1 = some r) : sf_M l V yX6_partsOn (.code yX6_partsOn cX6_partsOn 5 (some .int)) 2 [.ref (V.2.1 9), .int x1] s (sf_Qi V r s) := by
  refine sf_enter (by decide) (Nat.le_of_ble_eq_true rfl) (fun X hX C => ?_)
  refine sf_sub [0, 1] rfl ?_
  exact w6_partsOn_b0 (show sf_C X V cX6_partsOn 5 RX6 (some .int) 2 from C)  h
set_option maxHeartbeats 4000000 in
set_option maxRecDepth 100000 in
theorem w6_mostLaden_b35 {X : sf_X} {V : sf_V} {s : sf_Sg} {r : Int32} {k6 : Int32 → Int32 → Int32 → Option Int32} (C : sf_C X V cX6_mostLaden 5 RX6 (some .int) 3) (hk6 : ∀  (x1 : Int32) (x2 : Int32) (x3 : Int32), k6 x1 x2 x3 = some r → sf_G X V 5 (sf_Q X V (sf_Qi V r s)) s 6 [(0, .ref (V.2.1 9)), (1, .int x1), (2, .int x2), (3, .int x3)] []) {x1 : Int32} {x2 : Int32} {x3 : Int32} (h : f6_mostLaden_b35 s k6 x1 x2 x3 = some r) : sf_G X V 5 (sf_Q X V (sf_Qi V r s)) s 35 [(0, .ref (V.2.1 9)), (1, .int x1), (2, .int x2), (3, .int x3)] [] := by
  unfold f6_mostLaden_b35 at h
  refine sf_iinc (v := (x3 + 1)) (lv' := [(3, .int (x3 + 1)), (0, .ref (V.2.1 9)), (1, .int x1), (2, .int x2)]) (pc := 35) C 3 dX6_mostLaden_35 rfl rfl (by decide) rfl ?_
  refine sf_goto (tgt := 6) (pc := 38) C dX6_mostLaden_38 rfl ?_
  refine sf_sub [1, 2, 3, 0] rfl ?_
  exact hk6 _ _ _ h
set_option maxHeartbeats 4000000 in
set_option maxRecDepth 100000 in
theorem w6_mostLaden_b6 {X : sf_X} {V : sf_V} {s : sf_Sg} {r : Int32} {k6 : Int32 → Int32 → Int32 → Option Int32} (C : sf_C X V cX6_mostLaden 5 RX6 (some .int) 3) (hk6 : ∀  (x1 : Int32) (x2 : Int32) (x3 : Int32), k6 x1 x2 x3 = some r → sf_G X V 5 (sf_Q X V (sf_Qi V r s)) s 6 [(0, .ref (V.2.1 9)), (1, .int x1), (2, .int x2), (3, .int x3)] []) {x1 : Int32} {x2 : Int32} {x3 : Int32} (h : f6_mostLaden_b6 s k6 x1 x2 x3 = some r) : sf_G X V 5 (sf_Q X V (sf_Qi V r s)) s 6 [(0, .ref (V.2.1 9)), (1, .int x1), (2, .int x2), (3, .int x3)] [] := by
  unfold f6_mostLaden_b6 at h
  refine sf_iload_n (pc := 6) C 3 dX6_mostLaden_6 rfl ?_
  refine sf_aload_n (pc := 7) C 0 dX6_mostLaden_7 rfl ?_
  refine sf_getr (pc := 8) C nk_9 sh_9 rfl fl_6_12 dX6_mostLaden_8 ?_
  refine sf_get (pc := 11) C nk_10 sh_10 rfl fl_6_58 dX6_mostLaden_11 ?_
  refine sf_icmp_ge (tgt := 41) (pc := 14) C dX6_mostLaden_14 rfl (fun c14 => ?_) (fun c14 => ?_)
  · replace h := (if_pos c14).symm.trans h
    refine sf_iload_n (pc := 41) C 1 dX6_mostLaden_41 rfl ?_
    exact sf_iretR (pc := 42) C dX6_mostLaden_42 h
  · replace h := (if_neg c14).symm.trans h
    refine sf_aload_n (pc := 17) C 0 dX6_mostLaden_17 rfl ?_
    refine sf_iload_n (pc := 18) C 3 dX6_mostLaden_18 rfl ?_
    obtain ⟨v19, e19, h⟩ := sf_ob h
    refine sf_callVi (pc := 19) C (As := [.int x3]) nk_9 sh_9 rfl yk_X6_partsOn cl_6_61 (k6_partsOn e19) (by decide) rfl (Nat.le_of_ble_eq_true rfl) rfl dX6_mostLaden_19 ?_
    refine sf_istore (lv' := [(4, .int v19), (0, .ref (V.2.1 9)), (1, .int x1), (2, .int x2), (3, .int x3)]) (pc := 22) C dX6_mostLaden_22 (by decide) rfl ?_
    refine sf_iload (pc := 24) C 0 dX6_mostLaden_24 rfl ?_
    refine sf_iload_n (pc := 26) C 3 dX6_mostLaden_26 rfl ?_
    refine sf_icmp_le (tgt := 35) (pc := 27) C dX6_mostLaden_27 rfl (fun c27 => ?_) (fun c27 => ?_)
    · replace h := (if_pos c27).symm.trans h
      refine sf_sub [1, 2, 3, 4] rfl ?_
      exact w6_mostLaden_b35 C hk6 h
    · replace h := (if_neg c27).symm.trans h
      refine sf_iload (pc := 30) C 0 dX6_mostLaden_30 rfl ?_
      refine sf_istore_n (lv' := [(2, .int v19), (4, .int v19), (0, .ref (V.2.1 9)), (1, .int x1), (3, .int x3)]) (pc := 32) C dX6_mostLaden_32 (by decide) rfl ?_
      refine sf_iload_n (pc := 33) C 4 dX6_mostLaden_33 rfl ?_
      refine sf_istore_n (lv' := [(1, .int x3), (2, .int v19), (4, .int v19), (0, .ref (V.2.1 9)), (3, .int x3)]) (pc := 34) C dX6_mostLaden_34 (by decide) rfl ?_
      refine sf_sub [3, 0, 1, 4] rfl ?_
      exact w6_mostLaden_b35 C hk6 h
set_option maxHeartbeats 4000000 in
set_option maxRecDepth 100000 in
theorem w6_mostLaden_L6 {X : sf_X} {V : sf_V} {s : sf_Sg} {r : Int32} (C : sf_C X V cX6_mostLaden 5 RX6 (some .int) 3) : ∀  (x1 : Int32) (x2 : Int32) (x3 : Int32), f6_mostLaden_L6 s x1 x2 x3 = some r → sf_G X V 5 (sf_Q X V (sf_Qi V r s)) s 6 [(0, .ref (V.2.1 9)), (1, .int x1), (2, .int x2), (3, .int x3)] [] :=
  sf_it_ind (fun (k : Int32 → Int32 → Int32 → Option Int32) => ∀  (x1 : Int32) (x2 : Int32) (x3 : Int32), k x1 x2 x3 = some r → sf_G X V 5 (sf_Q X V (sf_Qi V r s)) s 6 [(0, .ref (V.2.1 9)), (1, .int x1), (2, .int x2), (3, .int x3)] []) _ _ (fun x1 x2 x3 h => by cases h) (fun k hk x1 x2 x3 h => w6_mostLaden_b6 C hk h) _
set_option maxHeartbeats 4000000 in
set_option maxRecDepth 100000 in
theorem w6_mostLaden_b0 {X : sf_X} {V : sf_V} {s : sf_Sg} {r : Int32} (C : sf_C X V cX6_mostLaden 5 RX6 (some .int) 3) (h : f6_mostLaden_b0 s = some r) : sf_G X V 5 (sf_Q X V (sf_Qi V r s)) s 0 [(0, .ref (V.2.1 9))] [] := by
  unfold f6_mostLaden_b0 at h
  refine sf_iconst (v := -1) (pc := 0) C dX6_mostLaden_0 (by decide) ?_
  refine sf_istore_n (lv' := [(1, .int (-1 : Int32)), (0, .ref (V.2.1 9))]) (pc := 1) C dX6_mostLaden_1 (by decide) rfl ?_
  refine sf_iconst (v := -1) (pc := 2) C dX6_mostLaden_2 (by decide) ?_
  refine sf_istore_n (lv' := [(2, .int (-1 : Int32)), (1, .int (-1 : Int32)), (0, .ref (V.2.1 9))]) (pc := 3) C dX6_mostLaden_3 (by decide) rfl ?_
  refine sf_iconst (v := 0) (pc := 4) C dX6_mostLaden_4 (by decide) ?_
  refine sf_istore_n (lv' := [(3, .int (0 : Int32)), (2, .int (-1 : Int32)), (1, .int (-1 : Int32)), (0, .ref (V.2.1 9))]) (pc := 5) C dX6_mostLaden_5 (by decide) rfl ?_
  refine sf_sub [3, 2, 1, 0] rfl ?_
  exact w6_mostLaden_L6 C _ _ _ h
set_option maxHeartbeats 4000000 in
set_option maxRecDepth 100000 in
theorem k6_mostLaden {l : Launch} {V : sf_V} {s : sf_Sg} {r : Int32} (h : f6_mostLaden s = some r) : sf_M l V yX6_mostLaden (.code yX6_mostLaden cX6_mostLaden 5 (some .int)) 3 [.ref (V.2.1 9)] s (sf_Qi V r s) := by
  refine sf_enter (by decide) (Nat.le_of_ble_eq_true rfl) (fun X hX C => ?_)
  refine sf_sub [0] rfl ?_
  exact w6_mostLaden_b0 (show sf_C X V cX6_mostLaden 5 RX6 (some .int) 3 from C)  h
set_option maxHeartbeats 4000000 in
set_option maxRecDepth 100000 in
theorem w6_flockForBurden_b70 {X : sf_X} {V : sf_V} {s : sf_Sg} {r : Int32} (C : sf_C X V cX6_flockForBurden 4 RX6 (some .int) 1) {x1 : Int32} {t0 : Int32} (h : f6_flockForBurden_b70 s x1 t0 = some r) : sf_G X V 4 (sf_Q X V (sf_Qi V r s)) s 70 [(0, .ref (V.2.1 9)), (1, .int x1)] [.int t0] := by
  unfold f6_flockForBurden_b70 at h
  refine sf_istore_n (lv' := [(3, .int t0), (0, .ref (V.2.1 9)), (1, .int x1)]) (pc := 70) C dX6_flockForBurden_70 (by decide) rfl ?_
  refine sf_iconst (v := 0) (pc := 71) C dX6_flockForBurden_71 (by decide) ?_
  refine sf_aload_n (pc := 72) C 1 dX6_flockForBurden_72 rfl ?_
  refine sf_getr (pc := 73) C nk_9 sh_9 rfl fl_6_12 dX6_flockForBurden_73 ?_
  refine sf_getr (pc := 76) C nk_10 sh_10 rfl fl_6_64 dX6_flockForBurden_76 ?_
  refine sf_iload_n (pc := 79) C 2 dX6_flockForBurden_79 rfl ?_
  obtain ⟨v80, e80, h⟩ := sf_ob h
  refine sf_iald (pc := 80) C nk_13 sh_13 e80 dX6_flockForBurden_80 ?_
  refine sf_aload_n (pc := 81) C 1 dX6_flockForBurden_81 rfl ?_
  refine sf_getr (pc := 82) C nk_9 sh_9 rfl fl_6_21 dX6_flockForBurden_82 ?_
  refine sf_getr (pc := 85) C nk_16 sh_16 rfl fl_6_67 dX6_flockForBurden_85 ?_
  refine sf_iload_n (pc := 88) C 2 dX6_flockForBurden_88 rfl ?_
  obtain ⟨v89, e89, h⟩ := sf_ob h
  refine sf_iald (pc := 89) C nk_18 sh_18 e89 dX6_flockForBurden_89 ?_
  refine sf_isub (pc := 90) C dX6_flockForBurden_90 ?_
  refine sf_iload_n (pc := 91) C 0 dX6_flockForBurden_91 rfl ?_
  refine sf_isub (pc := 92) C dX6_flockForBurden_92 ?_
  refine sf_mmax (pc := 93) C jd_6_70 (by decide) (Nat.le_of_ble_eq_true rfl) dX6_flockForBurden_93 ?_
  exact sf_iretR (pc := 96) C dX6_flockForBurden_96 h
set_option maxHeartbeats 4000000 in
set_option maxRecDepth 100000 in
theorem w6_flockForBurden_b69 {X : sf_X} {V : sf_V} {s : sf_Sg} {r : Int32} (C : sf_C X V cX6_flockForBurden 4 RX6 (some .int) 1) {x1 : Int32} (h : f6_flockForBurden_b69 s x1 = some r) : sf_G X V 4 (sf_Q X V (sf_Qi V r s)) s 69 [(0, .ref (V.2.1 9)), (1, .int x1)] [] := by
  unfold f6_flockForBurden_b69 at h
  refine sf_iconst (v := 0) (pc := 69) C dX6_flockForBurden_69 (by decide) ?_
  exact w6_flockForBurden_b70 C h
set_option maxHeartbeats 4000000 in
set_option maxRecDepth 100000 in
theorem w6_flockForBurden_b49 {X : sf_X} {V : sf_V} {s : sf_Sg} {r : Int32} (C : sf_C X V cX6_flockForBurden 4 RX6 (some .int) 1) {x1 : Int32} {x2 : Int32} (h : f6_flockForBurden_b49 s x1 x2 = some r) : sf_G X V 4 (sf_Q X V (sf_Qi V r s)) s 49 [(0, .ref (V.2.1 9)), (1, .int x1), (2, .int x2)] [] := by
  unfold f6_flockForBurden_b49 at h
  refine sf_iload_n (pc := 49) C 2 dX6_flockForBurden_49 rfl ?_
  refine sf_iconst (v := 1) (pc := 50) C dX6_flockForBurden_50 (by decide) ?_
  refine sf_icmp_ne (tgt := 69) (pc := 51) C dX6_flockForBurden_51 rfl (fun c51 => ?_) (fun c51 => ?_)
  · replace h := (if_neg c51).symm.trans h
    refine sf_sub [0, 1] rfl ?_
    exact w6_flockForBurden_b69 C h
  · replace h := (if_pos c51).symm.trans h
    refine sf_aload_n (pc := 54) C 0 dX6_flockForBurden_54 rfl ?_
    refine sf_getr (pc := 55) C nk_9 sh_9 rfl fl_6_21 dX6_flockForBurden_55 ?_
    refine sf_iload_n (pc := 58) C 1 dX6_flockForBurden_58 rfl ?_
    obtain ⟨v59, e59, h⟩ := sf_ob h
    refine sf_callVi (pc := 59) C (As := [.int x1]) nk_16 sh_16 rfl yk_X3_isShared cl_6_37 (k3_isShared sf_L0 e59) (by decide) rfl (Nat.le_of_ble_eq_true rfl) rfl dX6_flockForBurden_59 ?_
    refine sf_if_eq (tgt := 69) (pc := 62) C dX6_flockForBurden_62 rfl (fun c62 => ?_) (fun c62 => ?_)
    · replace h := (if_pos c62).symm.trans h
      refine sf_sub [0, 1] rfl ?_
      exact w6_flockForBurden_b69 C h
    · replace h := (if_neg c62).symm.trans h
      refine sf_iconst (v := 1) (pc := 65) C dX6_flockForBurden_65 (by decide) ?_
      refine sf_goto (tgt := 70) (pc := 66) C dX6_flockForBurden_66 rfl ?_
      refine sf_sub [0, 1] rfl ?_
      exact w6_flockForBurden_b70 C h
set_option maxHeartbeats 4000000 in
set_option maxRecDepth 100000 in
theorem w6_flockForBurden_b29 {X : sf_X} {V : sf_V} {s : sf_Sg} {r : Int32} (C : sf_C X V cX6_flockForBurden 4 RX6 (some .int) 1) {x1 : Int32} {x2 : Int32} (h : f6_flockForBurden_b29 s x1 x2 = some r) : sf_G X V 4 (sf_Q X V (sf_Qi V r s)) s 29 [(0, .ref (V.2.1 9)), (1, .int x1), (2, .int x2)] [] := by
  unfold f6_flockForBurden_b29 at h
  refine sf_iload_n (pc := 29) C 2 dX6_flockForBurden_29 rfl ?_
  refine sf_iconst (v := 4) (pc := 30) C dX6_flockForBurden_30 (by decide) ?_
  refine sf_icmp_ne (tgt := 49) (pc := 31) C dX6_flockForBurden_31 rfl (fun c31 => ?_) (fun c31 => ?_)
  · replace h := (if_neg c31).symm.trans h
    exact w6_flockForBurden_b49 C h
  · replace h := (if_pos c31).symm.trans h
    refine sf_aload_n (pc := 34) C 0 dX6_flockForBurden_34 rfl ?_
    refine sf_getr (pc := 35) C nk_9 sh_9 rfl fl_6_21 dX6_flockForBurden_35 ?_
    refine sf_get (pc := 38) C nk_16 sh_16 rfl fl_6_91 dX6_flockForBurden_38 ?_
    refine sf_callNi (pc := 41) C (As := [.int (s 16 0)]) yk_X9_isAugust cl_6_81 (k9_isAugust rfl) (by decide) rfl (Nat.le_of_ble_eq_true rfl) rfl dX6_flockForBurden_41 ?_
    refine sf_if_ne (tgt := 49) (pc := 44) C dX6_flockForBurden_44 rfl (fun c44 => ?_) (fun c44 => ?_)
    · replace h := (if_neg c44).symm.trans h
      exact w6_flockForBurden_b49 C h
    · replace h := (if_pos c44).symm.trans h
      refine sf_iconst (v := 0) (pc := 47) C dX6_flockForBurden_47 (by decide) ?_
      exact sf_iretR (pc := 48) C dX6_flockForBurden_48 h
set_option maxHeartbeats 4000000 in
set_option maxRecDepth 100000 in
theorem w6_flockForBurden_b0 {X : sf_X} {V : sf_V} {s : sf_Sg} {r : Int32} (C : sf_C X V cX6_flockForBurden 4 RX6 (some .int) 1) {x1 : Int32} (h : f6_flockForBurden_b0 s x1 = some r) : sf_G X V 4 (sf_Q X V (sf_Qi V r s)) s 0 [(0, .ref (V.2.1 9)), (1, .int x1)] [] := by
  unfold f6_flockForBurden_b0 at h
  refine sf_aload_n (pc := 0) C 0 dX6_flockForBurden_0 rfl ?_
  refine sf_getr (pc := 1) C nk_9 sh_9 rfl fl_6_12 dX6_flockForBurden_1 ?_
  refine sf_getr (pc := 4) C nk_10 sh_10 rfl fl_6_75 dX6_flockForBurden_4 ?_
  refine sf_iload_n (pc := 7) C 1 dX6_flockForBurden_7 rfl ?_
  obtain ⟨v8, e8, h⟩ := sf_ob h
  refine sf_iald (pc := 8) C nk_11 sh_11 e8 dX6_flockForBurden_8 ?_
  refine sf_istore_n (lv' := [(2, .int v8), (0, .ref (V.2.1 9)), (1, .int x1)]) (pc := 9) C dX6_flockForBurden_9 (by decide) rfl ?_
  refine sf_iload_n (pc := 10) C 0 dX6_flockForBurden_10 rfl ?_
  refine sf_iconst (v := 3) (pc := 11) C dX6_flockForBurden_11 (by decide) ?_
  refine sf_icmp_ne (tgt := 29) (pc := 12) C dX6_flockForBurden_12 rfl (fun c12 => ?_) (fun c12 => ?_)
  · replace h := (if_neg c12).symm.trans h
    refine sf_sub [1, 2, 0] rfl ?_
    exact w6_flockForBurden_b29 C h
  · replace h := (if_pos c12).symm.trans h
    refine sf_aload_n (pc := 15) C 1 dX6_flockForBurden_15 rfl ?_
    refine sf_getr (pc := 16) C nk_9 sh_9 rfl fl_6_21 dX6_flockForBurden_16 ?_
    refine sf_get (pc := 19) C nk_16 sh_16 rfl fl_6_91 dX6_flockForBurden_19 ?_
    refine sf_iconst (v := 2) (pc := 22) C dX6_flockForBurden_22 (by decide) ?_
    refine sf_irem (pc := 23) C dX6_flockForBurden_23 (by decide) ?_
    refine sf_if_eq (tgt := 29) (pc := 24) C dX6_flockForBurden_24 rfl (fun c24 => ?_) (fun c24 => ?_)
    · replace h := (if_pos c24).symm.trans h
      refine sf_sub [1, 2, 0] rfl ?_
      exact w6_flockForBurden_b29 C h
    · replace h := (if_neg c24).symm.trans h
      refine sf_iconst (v := -1) (pc := 27) C dX6_flockForBurden_27 (by decide) ?_
      exact sf_iretR (pc := 28) C dX6_flockForBurden_28 h
set_option maxHeartbeats 4000000 in
set_option maxRecDepth 100000 in
theorem k6_flockForBurden {l : Launch} {V : sf_V} {s : sf_Sg} {x1 : Int32} {r : Int32} (h : f6_flockForBurden s x1 = some r) : sf_M l V yX6_flockForBurden (.code yX6_flockForBurden cX6_flockForBurden 4 (some .int)) 1 [.ref (V.2.1 9), .int x1] s (sf_Qi V r s) := by
  refine sf_enter (by decide) (Nat.le_of_ble_eq_true rfl) (fun X hX C => ?_)
  refine sf_sub [0, 1] rfl ?_
  exact w6_flockForBurden_b0 (show sf_C X V cX6_flockForBurden 4 RX6 (some .int) 1 from C)  h
set_option maxHeartbeats 4000000 in
set_option maxRecDepth 100000 in
theorem w6_flockForBurdens_b43 {X : sf_X} {V : sf_V} {s : sf_Sg} {r : Int32} {k4 : Int32 → Int32 → Int32 → Option Int32} (C : sf_C X V cX6_flockForBurdens 5 RX6 (some .int) 2) (hk4 : ∀  (x1 : Int32) (x2 : Int32) (x3 : Int32), k4 x1 x2 x3 = some r → sf_G X V 5 (sf_Q X V (sf_Qi V r s)) s 4 [(0, .ref (V.2.1 9)), (1, .int x1), (2, .int x2), (3, .int x3)] []) {x1 : Int32} {x2 : Int32} {x3 : Int32} (h : f6_flockForBurdens_b43 s k4 x1 x2 x3 = some r) : sf_G X V 5 (sf_Q X V (sf_Qi V r s)) s 43 [(0, .ref (V.2.1 9)), (1, .int x1), (2, .int x2), (3, .int x3)] [] := by
  unfold f6_flockForBurdens_b43 at h
  refine sf_iinc (v := (x3 + 1)) (lv' := [(3, .int (x3 + 1)), (0, .ref (V.2.1 9)), (1, .int x1), (2, .int x2)]) (pc := 43) C 3 dX6_flockForBurdens_43 rfl rfl (by decide) rfl ?_
  refine sf_goto (tgt := 4) (pc := 46) C dX6_flockForBurdens_46 rfl ?_
  refine sf_sub [1, 2, 3, 0] rfl ?_
  exact hk4 _ _ _ h
set_option maxHeartbeats 4000000 in
set_option maxRecDepth 100000 in
theorem w6_flockForBurdens_b4 {X : sf_X} {V : sf_V} {s : sf_Sg} {r : Int32} {k4 : Int32 → Int32 → Int32 → Option Int32} (C : sf_C X V cX6_flockForBurdens 5 RX6 (some .int) 2) (hk4 : ∀  (x1 : Int32) (x2 : Int32) (x3 : Int32), k4 x1 x2 x3 = some r → sf_G X V 5 (sf_Q X V (sf_Qi V r s)) s 4 [(0, .ref (V.2.1 9)), (1, .int x1), (2, .int x2), (3, .int x3)] []) {x1 : Int32} {x2 : Int32} {x3 : Int32} (h : f6_flockForBurdens_b4 s k4 x1 x2 x3 = some r) : sf_G X V 5 (sf_Q X V (sf_Qi V r s)) s 4 [(0, .ref (V.2.1 9)), (1, .int x1), (2, .int x2), (3, .int x3)] [] := by
  unfold f6_flockForBurdens_b4 at h
  refine sf_iload_n (pc := 4) C 3 dX6_flockForBurdens_4 rfl ?_
  refine sf_aload_n (pc := 5) C 0 dX6_flockForBurdens_5 rfl ?_
  refine sf_getr (pc := 6) C nk_9 sh_9 rfl fl_6_12 dX6_flockForBurdens_6 ?_
  refine sf_get (pc := 9) C nk_10 sh_10 rfl fl_6_25 dX6_flockForBurdens_9 ?_
  refine sf_icmp_ge (tgt := 49) (pc := 12) C dX6_flockForBurdens_12 rfl (fun c12 => ?_) (fun c12 => ?_)
  · replace h := (if_pos c12).symm.trans h
    refine sf_iload_n (pc := 49) C 2 dX6_flockForBurdens_49 rfl ?_
    exact sf_iretR (pc := 50) C dX6_flockForBurdens_50 h
  · replace h := (if_neg c12).symm.trans h
    refine sf_iload_n (pc := 15) C 1 dX6_flockForBurdens_15 rfl ?_
    refine sf_iload_n (pc := 16) C 3 dX6_flockForBurdens_16 rfl ?_
    refine sf_callNi (pc := 17) C (As := [.int x1, .int x3]) yk_X9_has cl_6_51 (k9_has rfl) (by decide) rfl (Nat.le_of_ble_eq_true rfl) rfl dX6_flockForBurdens_17 ?_
    refine sf_if_eq (tgt := 43) (pc := 20) C dX6_flockForBurdens_20 rfl (fun c20 => ?_) (fun c20 => ?_)
    · replace h := (if_pos c20).symm.trans h
      exact w6_flockForBurdens_b43 C hk4 h
    · replace h := (if_neg c20).symm.trans h
      refine sf_aload_n (pc := 23) C 0 dX6_flockForBurdens_23 rfl ?_
      refine sf_iload_n (pc := 24) C 3 dX6_flockForBurdens_24 rfl ?_
      obtain ⟨v25, e25, h⟩ := sf_ob h
      refine sf_callVi (pc := 25) C (As := [.int x3]) nk_9 sh_9 rfl yk_X6_flockForBurden cl_6_111 (k6_flockForBurden e25) (by decide) rfl (Nat.le_of_ble_eq_true rfl) rfl dX6_flockForBurdens_25 ?_
      refine sf_istore (lv' := [(4, .int v25), (0, .ref (V.2.1 9)), (1, .int x1), (2, .int x2), (3, .int x3)]) (pc := 28) C dX6_flockForBurdens_28 (by decide) rfl ?_
      refine sf_iload (pc := 30) C 0 dX6_flockForBurdens_30 rfl ?_
      refine sf_iconst (v := -1) (pc := 32) C dX6_flockForBurdens_32 (by decide) ?_
      refine sf_icmp_ne (tgt := 38) (pc := 33) C dX6_flockForBurdens_33 rfl (fun c33 => ?_) (fun c33 => ?_)
      · replace h := (if_neg c33).symm.trans h
        refine sf_iload_n (pc := 38) C 3 dX6_flockForBurdens_38 rfl ?_
        refine sf_iload (pc := 39) C 0 dX6_flockForBurdens_39 rfl ?_
        refine sf_iadd (pc := 41) C dX6_flockForBurdens_41 ?_
        refine sf_istore_n (lv' := [(2, .int (x2 + v25)), (4, .int v25), (0, .ref (V.2.1 9)), (1, .int x1), (3, .int x3)]) (pc := 42) C dX6_flockForBurdens_42 (by decide) rfl ?_
        refine sf_sub [2, 3, 0, 4] rfl ?_
        exact w6_flockForBurdens_b43 C hk4 h
      · replace h := (if_pos c33).symm.trans h
        refine sf_iconst (v := -1) (pc := 36) C dX6_flockForBurdens_36 (by decide) ?_
        exact sf_iretR (pc := 37) C dX6_flockForBurdens_37 h
set_option maxHeartbeats 4000000 in
set_option maxRecDepth 100000 in
theorem w6_flockForBurdens_L4 {X : sf_X} {V : sf_V} {s : sf_Sg} {r : Int32} (C : sf_C X V cX6_flockForBurdens 5 RX6 (some .int) 2) : ∀  (x1 : Int32) (x2 : Int32) (x3 : Int32), f6_flockForBurdens_L4 s x1 x2 x3 = some r → sf_G X V 5 (sf_Q X V (sf_Qi V r s)) s 4 [(0, .ref (V.2.1 9)), (1, .int x1), (2, .int x2), (3, .int x3)] [] :=
  sf_it_ind (fun (k : Int32 → Int32 → Int32 → Option Int32) => ∀  (x1 : Int32) (x2 : Int32) (x3 : Int32), k x1 x2 x3 = some r → sf_G X V 5 (sf_Q X V (sf_Qi V r s)) s 4 [(0, .ref (V.2.1 9)), (1, .int x1), (2, .int x2), (3, .int x3)] []) _ _ (fun x1 x2 x3 h => by cases h) (fun k hk x1 x2 x3 h => w6_flockForBurdens_b4 C hk h) _
set_option maxHeartbeats 4000000 in
set_option maxRecDepth 100000 in
theorem w6_flockForBurdens_b0 {X : sf_X} {V : sf_V} {s : sf_Sg} {r : Int32} (C : sf_C X V cX6_flockForBurdens 5 RX6 (some .int) 2) {x1 : Int32} (h : f6_flockForBurdens_b0 s x1 = some r) : sf_G X V 5 (sf_Q X V (sf_Qi V r s)) s 0 [(0, .ref (V.2.1 9)), (1, .int x1)] [] := by
  unfold f6_flockForBurdens_b0 at h
  refine sf_iconst (v := 0) (pc := 0) C dX6_flockForBurdens_0 (by decide) ?_
  refine sf_istore_n (lv' := [(2, .int (0 : Int32)), (0, .ref (V.2.1 9)), (1, .int x1)]) (pc := 1) C dX6_flockForBurdens_1 (by decide) rfl ?_
  refine sf_iconst (v := 0) (pc := 2) C dX6_flockForBurdens_2 (by decide) ?_
  refine sf_istore_n (lv' := [(3, .int (0 : Int32)), (2, .int (0 : Int32)), (0, .ref (V.2.1 9)), (1, .int x1)]) (pc := 3) C dX6_flockForBurdens_3 (by decide) rfl ?_
  refine sf_sub [2, 3, 1, 0] rfl ?_
  exact w6_flockForBurdens_L4 C _ _ _ h
set_option maxHeartbeats 4000000 in
set_option maxRecDepth 100000 in
theorem k6_flockForBurdens {l : Launch} {V : sf_V} {s : sf_Sg} {x1 : Int32} {r : Int32} (h : f6_flockForBurdens s x1 = some r) : sf_M l V yX6_flockForBurdens (.code yX6_flockForBurdens cX6_flockForBurdens 5 (some .int)) 2 [.ref (V.2.1 9), .int x1] s (sf_Qi V r s) := by
  refine sf_enter (by decide) (Nat.le_of_ble_eq_true rfl) (fun X hX C => ?_)
  refine sf_sub [0, 1] rfl ?_
  exact w6_flockForBurdens_b0 (show sf_C X V cX6_flockForBurdens 5 RX6 (some .int) 2 from C)  h
set_option maxHeartbeats 4000000 in
set_option maxRecDepth 100000 in
theorem w6_flockForAll_b48 {X : sf_X} {V : sf_V} {s : sf_Sg} {r : Int32} (C : sf_C X V cX6_flockForAll 3 RX6 (some .int) 3) {x1 : Int32} (h : f6_flockForAll_b48 s x1 = some r) : sf_G X V 3 (sf_Q X V (sf_Qi V r s)) s 48 [(0, .ref (V.2.1 9)), (1, .int x1)] [] := by
  unfold f6_flockForAll_b48 at h
  refine sf_aload_n (pc := 48) C 0 dX6_flockForAll_48 rfl ?_
  refine sf_iload_n (pc := 49) C 1 dX6_flockForAll_49 rfl ?_
  obtain ⟨v50, e50, h⟩ := sf_ob h
  refine sf_callVi (pc := 50) C (As := [.int x1]) nk_9 sh_9 rfl yk_X6_flockForBurdens cl_6_114 (k6_flockForBurdens e50) (by decide) rfl (Nat.le_of_ble_eq_true rfl) rfl dX6_flockForAll_50 ?_
  exact sf_iretR (pc := 53) C dX6_flockForAll_53 h
set_option maxHeartbeats 4000000 in
set_option maxRecDepth 100000 in
theorem w6_flockForAll_b4 {X : sf_X} {V : sf_V} {s : sf_Sg} {r : Int32} {k4 : Int32 → Int32 → Option Int32} (C : sf_C X V cX6_flockForAll 3 RX6 (some .int) 3) (hk4 : ∀  (x1 : Int32) (x2 : Int32), k4 x1 x2 = some r → sf_G X V 3 (sf_Q X V (sf_Qi V r s)) s 4 [(0, .ref (V.2.1 9)), (1, .int x1), (2, .int x2)] []) {x1 : Int32} {x2 : Int32} (h : f6_flockForAll_b4 s k4 x1 x2 = some r) : sf_G X V 3 (sf_Q X V (sf_Qi V r s)) s 4 [(0, .ref (V.2.1 9)), (1, .int x1), (2, .int x2)] [] := by
  unfold f6_flockForAll_b4 at h
  refine sf_iload_n (pc := 4) C 2 dX6_flockForAll_4 rfl ?_
  refine sf_aload_n (pc := 5) C 0 dX6_flockForAll_5 rfl ?_
  refine sf_getr (pc := 6) C nk_9 sh_9 rfl fl_6_12 dX6_flockForAll_6 ?_
  refine sf_get (pc := 9) C nk_10 sh_10 rfl fl_6_58 dX6_flockForAll_9 ?_
  refine sf_icmp_ge (tgt := 48) (pc := 12) C dX6_flockForAll_12 rfl (fun c12 => ?_) (fun c12 => ?_)
  · replace h := (if_pos c12).symm.trans h
    refine sf_sub [0, 1] rfl ?_
    exact w6_flockForAll_b48 C h
  · replace h := (if_neg c12).symm.trans h
    refine sf_aload_n (pc := 15) C 0 dX6_flockForAll_15 rfl ?_
    refine sf_iload_n (pc := 16) C 2 dX6_flockForAll_16 rfl ?_
    obtain ⟨v17, e17, h⟩ := sf_ob h
    refine sf_callVi (pc := 17) C (As := [.int x2]) nk_9 sh_9 rfl yk_X6_partsOn cl_6_61 (k6_partsOn e17) (by decide) rfl (Nat.le_of_ble_eq_true rfl) rfl dX6_flockForAll_17 ?_
    refine sf_aload_n (pc := 20) C 0 dX6_flockForAll_20 rfl ?_
    refine sf_getr (pc := 21) C nk_9 sh_9 rfl fl_6_12 dX6_flockForAll_21 ?_
    refine sf_getr (pc := 24) C nk_10 sh_10 rfl fl_6_88 dX6_flockForAll_24 ?_
    refine sf_iload_n (pc := 27) C 2 dX6_flockForAll_27 rfl ?_
    obtain ⟨v28, e28, h⟩ := sf_ob h
    refine sf_iald (pc := 28) C nk_14 sh_14 e28 dX6_flockForAll_28 ?_
    refine sf_icmp_le (tgt := 34) (pc := 29) C dX6_flockForAll_29 rfl (fun c29 => ?_) (fun c29 => ?_)
    · replace h := (if_pos c29).symm.trans h
      refine sf_iload_n (pc := 34) C 1 dX6_flockForAll_34 rfl ?_
      refine sf_aload_n (pc := 35) C 0 dX6_flockForAll_35 rfl ?_
      refine sf_iload_n (pc := 36) C 2 dX6_flockForAll_36 rfl ?_
      obtain ⟨v37, e37, h⟩ := sf_ob h
      refine sf_callVi (pc := 37) C (As := [.int x2]) nk_9 sh_9 rfl yk_X6_carriedBy cl_6_47 (k6_carriedBy e37) (by decide) rfl (Nat.le_of_ble_eq_true rfl) rfl dX6_flockForAll_37 ?_
      refine sf_ior (pc := 40) C dX6_flockForAll_40 ?_
      refine sf_istore_n (lv' := [(1, .int (x1 ||| v37)), (0, .ref (V.2.1 9)), (2, .int x2)]) (pc := 41) C dX6_flockForAll_41 (by decide) rfl ?_
      refine sf_iinc (v := (x2 + 1)) (lv' := [(2, .int (x2 + 1)), (1, .int (x1 ||| v37)), (0, .ref (V.2.1 9))]) (pc := 42) C 2 dX6_flockForAll_42 rfl rfl (by decide) rfl ?_
      refine sf_goto (tgt := 4) (pc := 45) C dX6_flockForAll_45 rfl ?_
      refine sf_sub [2, 1, 0] rfl ?_
      exact hk4 _ _ h
    · replace h := (if_neg c29).symm.trans h
      refine sf_iconst (v := -1) (pc := 32) C dX6_flockForAll_32 (by decide) ?_
      exact sf_iretR (pc := 33) C dX6_flockForAll_33 h
set_option maxHeartbeats 4000000 in
set_option maxRecDepth 100000 in
theorem w6_flockForAll_L4 {X : sf_X} {V : sf_V} {s : sf_Sg} {r : Int32} (C : sf_C X V cX6_flockForAll 3 RX6 (some .int) 3) : ∀  (x1 : Int32) (x2 : Int32), f6_flockForAll_L4 s x1 x2 = some r → sf_G X V 3 (sf_Q X V (sf_Qi V r s)) s 4 [(0, .ref (V.2.1 9)), (1, .int x1), (2, .int x2)] [] :=
  sf_it_ind (fun (k : Int32 → Int32 → Option Int32) => ∀  (x1 : Int32) (x2 : Int32), k x1 x2 = some r → sf_G X V 3 (sf_Q X V (sf_Qi V r s)) s 4 [(0, .ref (V.2.1 9)), (1, .int x1), (2, .int x2)] []) _ _ (fun x1 x2 h => by cases h) (fun k hk x1 x2 h => w6_flockForAll_b4 C hk h) _
set_option maxHeartbeats 4000000 in
set_option maxRecDepth 100000 in
theorem w6_flockForAll_b0 {X : sf_X} {V : sf_V} {s : sf_Sg} {r : Int32} (C : sf_C X V cX6_flockForAll 3 RX6 (some .int) 3) (h : f6_flockForAll_b0 s = some r) : sf_G X V 3 (sf_Q X V (sf_Qi V r s)) s 0 [(0, .ref (V.2.1 9))] [] := by
  unfold f6_flockForAll_b0 at h
  refine sf_iconst (v := 0) (pc := 0) C dX6_flockForAll_0 (by decide) ?_
  refine sf_istore_n (lv' := [(1, .int (0 : Int32)), (0, .ref (V.2.1 9))]) (pc := 1) C dX6_flockForAll_1 (by decide) rfl ?_
  refine sf_iconst (v := 0) (pc := 2) C dX6_flockForAll_2 (by decide) ?_
  refine sf_istore_n (lv' := [(2, .int (0 : Int32)), (1, .int (0 : Int32)), (0, .ref (V.2.1 9))]) (pc := 3) C dX6_flockForAll_3 (by decide) rfl ?_
  refine sf_sub [2, 1, 0] rfl ?_
  exact w6_flockForAll_L4 C _ _ h
set_option maxHeartbeats 4000000 in
set_option maxRecDepth 100000 in
theorem k6_flockForAll {l : Launch} {V : sf_V} {s : sf_Sg} {r : Int32} (h : f6_flockForAll s = some r) : sf_M l V yX6_flockForAll (.code yX6_flockForAll cX6_flockForAll 3 (some .int)) 3 [.ref (V.2.1 9)] s (sf_Qi V r s) := by
  refine sf_enter (by decide) (Nat.le_of_ble_eq_true rfl) (fun X hX C => ?_)
  refine sf_sub [0] rfl ?_
  exact w6_flockForAll_b0 (show sf_C X V cX6_flockForAll 3 RX6 (some .int) 3 from C)  h
set_option maxHeartbeats 4000000 in
set_option maxRecDepth 100000 in
theorem w9_told_b0 {X : sf_X} {V : sf_V} {s : sf_Sg} {r : Int32} (C : sf_C X V cX9_told 2 RX9 (some .int) 4) {x1 : Int32} (h : f9_told_b0 s x1 = some r) : sf_G X V 2 (sf_Q X V (sf_Qi V r s)) s 0 [(0, .ref (V.2.1 0)), (1, .int x1)] [] := by
  unfold f9_told_b0 at h
  refine sf_iload_n (pc := 0) C 1 dX9_told_0 rfl ?_
  by_cases c1_0 : x1 = 0
  · replace h := (if_pos c1_0).symm.trans h
    refine sf_tabIn (off := 75) (tgt := 76) (pc := 1) C dX9_told_1 (by rw [c1_0]; decide) (by rw [c1_0]; decide) (by rw [c1_0]; rfl) rfl ?_
    refine sf_aload_n (pc := 76) C 0 dX9_told_76 rfl ?_
    refine sf_getr (pc := 77) C nk_0 sh_0 rfl fl_9_33 dX9_told_77 ?_
    refine sf_get (pc := 80) C nk_10 sh_10 rfl fl_9_119 dX9_told_80 ?_
    exact sf_iretR (pc := 83) C dX9_told_83 h
  replace h := (if_neg c1_0).symm.trans h
  by_cases c1_1 : x1 = 1
  · replace h := (if_pos c1_1).symm.trans h
    refine sf_tabIn (off := 83) (tgt := 84) (pc := 1) C dX9_told_1 (by rw [c1_1]; decide) (by rw [c1_1]; decide) (by rw [c1_1]; rfl) rfl ?_
    refine sf_aload_n (pc := 84) C 0 dX9_told_84 rfl ?_
    refine sf_getr (pc := 85) C nk_0 sh_0 rfl fl_9_33 dX9_told_85 ?_
    refine sf_get (pc := 88) C nk_10 sh_10 rfl fl_9_125 dX9_told_88 ?_
    exact sf_iretR (pc := 91) C dX9_told_91 h
  replace h := (if_neg c1_1).symm.trans h
  by_cases c1_2 : x1 = 2
  · replace h := (if_pos c1_2).symm.trans h
    refine sf_tabIn (off := 91) (tgt := 92) (pc := 1) C dX9_told_1 (by rw [c1_2]; decide) (by rw [c1_2]; decide) (by rw [c1_2]; rfl) rfl ?_
    refine sf_aload_n (pc := 92) C 0 dX9_told_92 rfl ?_
    refine sf_getr (pc := 93) C nk_0 sh_0 rfl fl_9_10 dX9_told_93 ?_
    refine sf_get (pc := 96) C nk_1 sh_1 rfl fl_9_98 dX9_told_96 ?_
    exact sf_iretR (pc := 99) C dX9_told_99 h
  replace h := (if_neg c1_2).symm.trans h
  by_cases c1_3 : x1 = 3
  · replace h := (if_pos c1_3).symm.trans h
    refine sf_tabIn (off := 99) (tgt := 100) (pc := 1) C dX9_told_1 (by rw [c1_3]; decide) (by rw [c1_3]; decide) (by rw [c1_3]; rfl) rfl ?_
    refine sf_aload_n (pc := 100) C 0 dX9_told_100 rfl ?_
    refine sf_getr (pc := 101) C nk_0 sh_0 rfl fl_9_38 dX9_told_101 ?_
    refine sf_get (pc := 104) C nk_16 sh_16 rfl fl_9_128 dX9_told_104 ?_
    exact sf_iretR (pc := 107) C dX9_told_107 h
  replace h := (if_neg c1_3).symm.trans h
  by_cases c1_4 : x1 = 4
  · replace h := (if_pos c1_4).symm.trans h
    refine sf_tabIn (off := 107) (tgt := 108) (pc := 1) C dX9_told_1 (by rw [c1_4]; decide) (by rw [c1_4]; decide) (by rw [c1_4]; rfl) rfl ?_
    refine sf_aload_n (pc := 108) C 0 dX9_told_108 rfl ?_
    refine sf_getr (pc := 109) C nk_0 sh_0 rfl fl_9_38 dX9_told_109 ?_
    refine sf_get (pc := 112) C nk_16 sh_16 rfl fl_9_131 dX9_told_112 ?_
    exact sf_iretR (pc := 115) C dX9_told_115 h
  replace h := (if_neg c1_4).symm.trans h
  by_cases c1_5 : x1 = 5
  · replace h := (if_pos c1_5).symm.trans h
    refine sf_tabIn (off := 115) (tgt := 116) (pc := 1) C dX9_told_1 (by rw [c1_5]; decide) (by rw [c1_5]; decide) (by rw [c1_5]; rfl) rfl ?_
    refine sf_aload_n (pc := 116) C 0 dX9_told_116 rfl ?_
    refine sf_getr (pc := 117) C nk_0 sh_0 rfl fl_9_26 dX9_told_117 ?_
    obtain ⟨v120, e120, h⟩ := sf_ob h
    refine sf_callVi (pc := 120) C (As := []) nk_9 sh_9 rfl yk_X6_galled cl_9_134 (k6_galled e120) (by decide) rfl (Nat.le_of_ble_eq_true rfl) rfl dX9_told_120 ?_
    exact sf_iretR (pc := 123) C dX9_told_123 h
  replace h := (if_neg c1_5).symm.trans h
  by_cases c1_6 : x1 = 6
  · replace h := (if_pos c1_6).symm.trans h
    refine sf_tabIn (off := 123) (tgt := 124) (pc := 1) C dX9_told_1 (by rw [c1_6]; decide) (by rw [c1_6]; decide) (by rw [c1_6]; rfl) rfl ?_
    refine sf_aload_n (pc := 124) C 0 dX9_told_124 rfl ?_
    refine sf_getr (pc := 125) C nk_0 sh_0 rfl fl_9_26 dX9_told_125 ?_
    refine sf_aload_n (pc := 128) C 0 dX9_told_128 rfl ?_
    refine sf_getr (pc := 129) C nk_0 sh_0 rfl fl_9_38 dX9_told_129 ?_
    refine sf_get (pc := 132) C nk_16 sh_16 rfl fl_9_128 dX9_told_132 ?_
    obtain ⟨v135, e135, h⟩ := sf_ob h
    refine sf_callVi (pc := 135) C (As := [.int (s 16 0)]) nk_9 sh_9 rfl yk_X6_gallingOfAll cl_9_138 (k6_gallingOfAll e135) (by decide) rfl (Nat.le_of_ble_eq_true rfl) rfl dX9_told_135 ?_
    exact sf_iretR (pc := 138) C dX9_told_138 h
  replace h := (if_neg c1_6).symm.trans h
  by_cases c1_7 : x1 = 7
  · replace h := (if_pos c1_7).symm.trans h
    refine sf_tabIn (off := 138) (tgt := 139) (pc := 1) C dX9_told_1 (by rw [c1_7]; decide) (by rw [c1_7]; decide) (by rw [c1_7]; rfl) rfl ?_
    refine sf_aload_n (pc := 139) C 0 dX9_told_139 rfl ?_
    refine sf_getr (pc := 140) C nk_0 sh_0 rfl fl_9_26 dX9_told_140 ?_
    obtain ⟨v143, e143, h⟩ := sf_ob h
    refine sf_callVi (pc := 143) C (As := []) nk_9 sh_9 rfl yk_X6_carriedByNobody cl_9_142 (k6_carriedByNobody e143) (by decide) rfl (Nat.le_of_ble_eq_true rfl) rfl dX9_told_143 ?_
    exact sf_iretR (pc := 146) C dX9_told_146 h
  replace h := (if_neg c1_7).symm.trans h
  by_cases c1_8 : x1 = 8
  · replace h := (if_pos c1_8).symm.trans h
    refine sf_tabIn (off := 146) (tgt := 147) (pc := 1) C dX9_told_1 (by rw [c1_8]; decide) (by rw [c1_8]; decide) (by rw [c1_8]; rfl) rfl ?_
    refine sf_aload_n (pc := 147) C 0 dX9_told_147 rfl ?_
    refine sf_getr (pc := 148) C nk_0 sh_0 rfl fl_9_26 dX9_told_148 ?_
    obtain ⟨v151, e151, h⟩ := sf_ob h
    refine sf_callVi (pc := 151) C (As := []) nk_9 sh_9 rfl yk_X6_sharedOnes cl_9_145 (k6_sharedOnes e151) (by decide) rfl (Nat.le_of_ble_eq_true rfl) rfl dX9_told_151 ?_
    exact sf_iretR (pc := 154) C dX9_told_154 h
  replace h := (if_neg c1_8).symm.trans h
  by_cases c1_9 : x1 = 9
  · replace h := (if_pos c1_9).symm.trans h
    refine sf_tabIn (off := 154) (tgt := 155) (pc := 1) C dX9_told_1 (by rw [c1_9]; decide) (by rw [c1_9]; decide) (by rw [c1_9]; rfl) rfl ?_
    refine sf_aload_n (pc := 155) C 0 dX9_told_155 rfl ?_
    refine sf_getr (pc := 156) C nk_0 sh_0 rfl fl_9_26 dX9_told_156 ?_
    obtain ⟨v159, e159, h⟩ := sf_ob h
    refine sf_callVi (pc := 159) C (As := []) nk_9 sh_9 rfl yk_X6_mostLaden cl_9_148 (k6_mostLaden e159) (by decide) rfl (Nat.le_of_ble_eq_true rfl) rfl dX9_told_159 ?_
    exact sf_iretR (pc := 162) C dX9_told_162 h
  replace h := (if_neg c1_9).symm.trans h
  by_cases c1_10 : x1 = 10
  · replace h := (if_pos c1_10).symm.trans h
    refine sf_tabIn (off := 162) (tgt := 163) (pc := 1) C dX9_told_1 (by rw [c1_10]; decide) (by rw [c1_10]; decide) (by rw [c1_10]; rfl) rfl ?_
    refine sf_aload_n (pc := 163) C 0 dX9_told_163 rfl ?_
    refine sf_getr (pc := 164) C nk_0 sh_0 rfl fl_9_38 dX9_told_164 ?_
    refine sf_get (pc := 167) C nk_16 sh_16 rfl fl_9_128 dX9_told_167 ?_
    refine sf_callSi (pc := 170) C (As := [.int (s 16 0)]) yk_X9_isAugust cl_9_151 (k9_isAugust rfl) (by decide) rfl (Nat.le_of_ble_eq_true rfl) rfl dX9_told_170 ?_
    refine sf_if_eq (tgt := 180) (pc := 173) C dX9_told_173 rfl (fun c173 => ?_) (fun c173 => ?_)
    · replace h := (if_pos c173).symm.trans h
      refine sf_iconst (v := 0) (pc := 180) C dX9_told_180 (by decide) ?_
      exact sf_iretR (pc := 181) C dX9_told_181 h
    · replace h := (if_neg c173).symm.trans h
      refine sf_iconst (v := 1) (pc := 176) C dX9_told_176 (by decide) ?_
      refine sf_goto (tgt := 181) (pc := 177) C dX9_told_177 rfl ?_
      exact sf_iretR (pc := 181) C dX9_told_181 h
  replace h := (if_neg c1_10).symm.trans h
  by_cases c1_11 : x1 = 11
  · replace h := (if_pos c1_11).symm.trans h
    refine sf_tabIn (off := 181) (tgt := 182) (pc := 1) C dX9_told_1 (by rw [c1_11]; decide) (by rw [c1_11]; decide) (by rw [c1_11]; rfl) rfl ?_
    refine sf_aload_n (pc := 182) C 0 dX9_told_182 rfl ?_
    refine sf_getr (pc := 183) C nk_0 sh_0 rfl fl_9_63 dX9_told_183 ?_
    refine sf_get (pc := 186) C nk_125 sh_125 rfl fl_9_154 dX9_told_186 ?_
    exact sf_iretR (pc := 189) C dX9_told_189 h
  replace h := (if_neg c1_11).symm.trans h
  by_cases c1_12 : x1 = 12
  · replace h := (if_pos c1_12).symm.trans h
    refine sf_tabIn (off := 189) (tgt := 190) (pc := 1) C dX9_told_1 (by rw [c1_12]; decide) (by rw [c1_12]; decide) (by rw [c1_12]; rfl) rfl ?_
    refine sf_aload_n (pc := 190) C 0 dX9_told_190 rfl ?_
    refine sf_getr (pc := 191) C nk_0 sh_0 rfl fl_9_70 dX9_told_191 ?_
    refine sf_get (pc := 194) C nk_131 sh_131 rfl fl_9_157 dX9_told_194 ?_
    exact sf_iretR (pc := 197) C dX9_told_197 h
  replace h := (if_neg c1_12).symm.trans h
  by_cases c1_13 : x1 = 13
  · replace h := (if_pos c1_13).symm.trans h
    refine sf_tabIn (off := 197) (tgt := 198) (pc := 1) C dX9_told_1 (by rw [c1_13]; decide) (by rw [c1_13]; decide) (by rw [c1_13]; rfl) rfl ?_
    refine sf_aload_n (pc := 198) C 0 dX9_told_198 rfl ?_
    refine sf_getr (pc := 199) C nk_0 sh_0 rfl fl_9_56 dX9_told_199 ?_
    refine sf_get (pc := 202) C nk_27 sh_27 rfl fl_9_158 dX9_told_202 ?_
    exact sf_iretR (pc := 205) C dX9_told_205 h
  replace h := (if_neg c1_13).symm.trans h
  by_cases c1_14 : x1 = 14
  · replace h := (if_pos c1_14).symm.trans h
    refine sf_tabIn (off := 205) (tgt := 206) (pc := 1) C dX9_told_1 (by rw [c1_14]; decide) (by rw [c1_14]; decide) (by rw [c1_14]; rfl) rfl ?_
    refine sf_aload_n (pc := 206) C 0 dX9_told_206 rfl ?_
    refine sf_getr (pc := 207) C nk_0 sh_0 rfl fl_9_26 dX9_told_207 ?_
    obtain ⟨v210, e210, h⟩ := sf_ob h
    refine sf_callVi (pc := 210) C (As := []) nk_9 sh_9 rfl yk_X6_flockForAll cl_9_159 (k6_flockForAll e210) (by decide) rfl (Nat.le_of_ble_eq_true rfl) rfl dX9_told_210 ?_
    exact sf_iretR (pc := 213) C dX9_told_213 h
  replace h := (if_neg c1_14).symm.trans h
  refine sf_tabOut (tgt := 214) (pc := 1) C dX9_told_1 (by have z0 := lv_neT (a := 0) c1_0 (by decide); have z1 := lv_neT (a := 1) c1_1 (by decide); have z2 := lv_neT (a := 2) c1_2 (by decide); have z3 := lv_neT (a := 3) c1_3 (by decide); have z4 := lv_neT (a := 4) c1_4 (by decide); have z5 := lv_neT (a := 5) c1_5 (by decide); have z6 := lv_neT (a := 6) c1_6 (by decide); have z7 := lv_neT (a := 7) c1_7 (by decide); have z8 := lv_neT (a := 8) c1_8 (by decide); have z9 := lv_neT (a := 9) c1_9 (by decide); have z10 := lv_neT (a := 10) c1_10 (by decide); have z11 := lv_neT (a := 11) c1_11 (by decide); have z12 := lv_neT (a := 12) c1_12 (by decide); have z13 := lv_neT (a := 13) c1_13 (by decide); have z14 := lv_neT (a := 14) c1_14 (by decide); omega) rfl ?_
  refine sf_ldc (v := -1000000002) (pc := 214) C dX9_told_214 tm_334 ?_
  exact sf_iretR (pc := 216) C dX9_told_216 h
set_option maxHeartbeats 4000000 in
set_option maxRecDepth 100000 in
theorem k9_told {l : Launch} {V : sf_V} {s : sf_Sg} {x1 : Int32} {r : Int32} (h : f9_told s x1 = some r) : sf_M l V yX9_told (.code yX9_told cX9_told 2 (some .int)) 4 [.ref (V.2.1 0), .int x1] s (sf_Qi V r s) := by
  refine sf_enter (by decide) (Nat.le_of_ble_eq_true rfl) (fun X hX C => ?_)
  refine sf_sub [0, 1] rfl ?_
  exact w9_told_b0 (show sf_C X V cX9_told 2 RX9 (some .int) 4 from C)  h
set_option maxHeartbeats 4000000 in
set_option maxRecDepth 100000 in
theorem w7_hasBurden_b22 {X : sf_X} {V : sf_V} {c : Nat} (hc : sf_isS c) {s : sf_Sg} {r : Int32} (C : sf_C X V cX7_hasBurden 2 RX7 (some .boolean) 0) (h : f7_hasBurden_b22 c s = r) : sf_G X V 2 (sf_Q X V (sf_Qi V r s)) s 22 [] [] := by
  unfold f7_hasBurden_b22 at h
  refine sf_iconst (v := 0) (pc := 22) C dX7_hasBurden_22 (by decide) ?_
  exact sf_zretT (pc := 23) C (by first | rfl | exact sf_nb_in _ _ _) dX7_hasBurden_23 h
set_option maxHeartbeats 4000000 in
set_option maxRecDepth 100000 in
theorem w7_hasBurden_b0 {X : sf_X} {V : sf_V} {c : Nat} (hc : sf_isS c) {s : sf_Sg} {r : Int32} (C : sf_C X V cX7_hasBurden 2 RX7 (some .boolean) 0) {x1 : Int32} (h : f7_hasBurden_b0 c s x1 = r) : sf_G X V 2 (sf_Q X V (sf_Qi V r s)) s 0 [(0, .ref (V.2.1 c)), (1, .int x1)] [] := by
  unfold f7_hasBurden_b0 at h
  refine sf_iload_n (pc := 0) C 1 dX7_hasBurden_0 rfl ?_
  refine sf_if_lt (tgt := 22) (pc := 1) C dX7_hasBurden_1 rfl (fun c1 => ?_) (fun c1 => ?_)
  · replace h := (if_pos c1).symm.trans h
    refine sf_sub [] rfl ?_
    exact w7_hasBurden_b22 hc C h
  · replace h := (if_neg c1).symm.trans h
    refine sf_iload_n (pc := 4) C 1 dX7_hasBurden_4 rfl ?_
    refine sf_aload_n (pc := 5) C 0 dX7_hasBurden_5 rfl ?_
    refine sf_get (pc := 6) C (sf_kS0 hc) (sf_shS hc).1.1 rfl fl_7_27 dX7_hasBurden_6 ?_
    refine sf_icmp_ge (tgt := 22) (pc := 9) C dX7_hasBurden_9 rfl (fun c9 => ?_) (fun c9 => ?_)
    · replace h := (if_pos c9).symm.trans h
      refine sf_sub [] rfl ?_
      exact w7_hasBurden_b22 hc C h
    · replace h := (if_neg c9).symm.trans h
      refine sf_iload_n (pc := 12) C 1 dX7_hasBurden_12 rfl ?_
      refine sf_bipush (v := 6) (pc := 13) C dX7_hasBurden_13 (by decide) ?_
      refine sf_icmp_ge (tgt := 22) (pc := 15) C dX7_hasBurden_15 rfl (fun c15 => ?_) (fun c15 => ?_)
      · replace h := (if_pos c15).symm.trans h
        refine sf_sub [] rfl ?_
        exact w7_hasBurden_b22 hc C h
      · replace h := (if_neg c15).symm.trans h
        refine sf_iconst (v := 1) (pc := 18) C dX7_hasBurden_18 (by decide) ?_
        refine sf_goto (tgt := 23) (pc := 19) C dX7_hasBurden_19 rfl ?_
        exact sf_zretT (pc := 23) C (by first | rfl | exact sf_nb_in _ _ _) dX7_hasBurden_23 h
set_option maxHeartbeats 4000000 in
set_option maxRecDepth 100000 in
theorem k7_hasBurden {l : Launch} {V : sf_V} {c : Nat} (hc : sf_isS c) {s : sf_Sg} {x1 : Int32} {r : Int32} (h : f7_hasBurden c s x1 = r) : sf_M l V yX7_hasBurden (.code yX7_hasBurden cX7_hasBurden 2 (some .boolean)) 0 [.ref (V.2.1 c), .int x1] s (sf_Qi V r s) := by
  refine sf_enter (by decide) (Nat.le_of_ble_eq_true rfl) (fun X hX C => ?_)
  refine sf_sub [0, 1] rfl ?_
  exact w7_hasBurden_b0 hc (show sf_C X V cX7_hasBurden 2 RX7 (some .boolean) 0 from C)  h
set_option maxHeartbeats 4000000 in
set_option maxRecDepth 100000 in
theorem w9_burden_b0 {X : sf_X} {V : sf_V} {s : sf_Sg} {r : Int32} (C : sf_C X V cX9_burden 3 RX9 (some .int) 1) {x1 : Int32} {x2 : Int32} (h : f9_burden_b0 s x1 x2 = some r) : sf_G X V 3 (sf_Q X V (sf_Qi V r s)) s 0 [(0, .ref (V.2.1 0)), (1, .int x1), (2, .int x2)] [] := by
  unfold f9_burden_b0 at h
  refine sf_aload_n (pc := 0) C 0 dX9_burden_0 rfl ?_
  refine sf_getr (pc := 1) C nk_0 sh_0 rfl fl_9_33 dX9_burden_1 ?_
  refine sf_iload_n (pc := 4) C 1 dX9_burden_4 rfl ?_
  refine sf_callVi (pc := 5) C (As := [.int x1]) nk_10 sh_10 rfl yk_X7_hasBurden cl_9_162 (k7_hasBurden sf_S1 rfl) (by decide) rfl (Nat.le_of_ble_eq_true rfl) rfl dX9_burden_5 ?_
  refine sf_if_ne (tgt := 14) (pc := 8) C dX9_burden_8 rfl (fun c8 => ?_) (fun c8 => ?_)
  · replace h := (if_neg c8).symm.trans h
    refine sf_iload_n (pc := 14) C 2 dX9_burden_14 rfl ?_
    by_cases c15_0 : x2 = 0
    · replace h := (if_pos c15_0).symm.trans h
      refine sf_tabIn (off := 37) (tgt := 52) (pc := 15) C dX9_burden_15 (by rw [c15_0]; decide) (by rw [c15_0]; decide) (by rw [c15_0]; rfl) rfl ?_
      refine sf_aload_n (pc := 52) C 0 dX9_burden_52 rfl ?_
      refine sf_getr (pc := 53) C nk_0 sh_0 rfl fl_9_33 dX9_burden_53 ?_
      refine sf_getr (pc := 56) C nk_10 sh_10 rfl fl_9_166 dX9_burden_56 ?_
      refine sf_iload_n (pc := 59) C 1 dX9_burden_59 rfl ?_
      obtain ⟨v60, e60, h⟩ := sf_ob h
      refine sf_iald (pc := 60) C nk_11 sh_11 e60 dX9_burden_60 ?_
      exact sf_iretR (pc := 61) C dX9_burden_61 h
    replace h := (if_neg c15_0).symm.trans h
    by_cases c15_1 : x2 = 1
    · replace h := (if_pos c15_1).symm.trans h
      refine sf_tabIn (off := 47) (tgt := 62) (pc := 15) C dX9_burden_15 (by rw [c15_1]; decide) (by rw [c15_1]; decide) (by rw [c15_1]; rfl) rfl ?_
      refine sf_aload_n (pc := 62) C 0 dX9_burden_62 rfl ?_
      refine sf_getr (pc := 63) C nk_0 sh_0 rfl fl_9_38 dX9_burden_63 ?_
      refine sf_getr (pc := 66) C nk_16 sh_16 rfl fl_9_169 dX9_burden_66 ?_
      refine sf_iload_n (pc := 69) C 1 dX9_burden_69 rfl ?_
      obtain ⟨v70, e70, h⟩ := sf_ob h
      refine sf_iald (pc := 70) C nk_17 sh_17 e70 dX9_burden_70 ?_
      exact sf_iretR (pc := 71) C dX9_burden_71 h
    replace h := (if_neg c15_1).symm.trans h
    by_cases c15_2 : x2 = 2
    · replace h := (if_pos c15_2).symm.trans h
      refine sf_tabIn (off := 57) (tgt := 72) (pc := 15) C dX9_burden_15 (by rw [c15_2]; decide) (by rw [c15_2]; decide) (by rw [c15_2]; rfl) rfl ?_
      refine sf_aload_n (pc := 72) C 0 dX9_burden_72 rfl ?_
      refine sf_getr (pc := 73) C nk_0 sh_0 rfl fl_9_33 dX9_burden_73 ?_
      refine sf_getr (pc := 76) C nk_10 sh_10 rfl fl_9_172 dX9_burden_76 ?_
      refine sf_iload_n (pc := 79) C 1 dX9_burden_79 rfl ?_
      obtain ⟨v80, e80, h⟩ := sf_ob h
      refine sf_iald (pc := 80) C nk_13 sh_13 e80 dX9_burden_80 ?_
      exact sf_iretR (pc := 81) C dX9_burden_81 h
    replace h := (if_neg c15_2).symm.trans h
    by_cases c15_3 : x2 = 3
    · replace h := (if_pos c15_3).symm.trans h
      refine sf_tabIn (off := 67) (tgt := 82) (pc := 15) C dX9_burden_15 (by rw [c15_3]; decide) (by rw [c15_3]; decide) (by rw [c15_3]; rfl) rfl ?_
      refine sf_aload_n (pc := 82) C 0 dX9_burden_82 rfl ?_
      refine sf_getr (pc := 83) C nk_0 sh_0 rfl fl_9_38 dX9_burden_83 ?_
      refine sf_getr (pc := 86) C nk_16 sh_16 rfl fl_9_175 dX9_burden_86 ?_
      refine sf_iload_n (pc := 89) C 1 dX9_burden_89 rfl ?_
      obtain ⟨v90, e90, h⟩ := sf_ob h
      refine sf_iald (pc := 90) C nk_18 sh_18 e90 dX9_burden_90 ?_
      exact sf_iretR (pc := 91) C dX9_burden_91 h
    replace h := (if_neg c15_3).symm.trans h
    by_cases c15_4 : x2 = 4
    · replace h := (if_pos c15_4).symm.trans h
      refine sf_tabIn (off := 77) (tgt := 92) (pc := 15) C dX9_burden_15 (by rw [c15_4]; decide) (by rw [c15_4]; decide) (by rw [c15_4]; rfl) rfl ?_
      refine sf_aload_n (pc := 92) C 0 dX9_burden_92 rfl ?_
      refine sf_getr (pc := 93) C nk_0 sh_0 rfl fl_9_38 dX9_burden_93 ?_
      refine sf_getr (pc := 96) C nk_16 sh_16 rfl fl_9_178 dX9_burden_96 ?_
      refine sf_iload_n (pc := 99) C 1 dX9_burden_99 rfl ?_
      obtain ⟨v100, e100, h⟩ := sf_ob h
      refine sf_iald (pc := 100) C nk_19 sh_19 e100 dX9_burden_100 ?_
      exact sf_iretR (pc := 101) C dX9_burden_101 h
    replace h := (if_neg c15_4).symm.trans h
    by_cases c15_5 : x2 = 5
    · replace h := (if_pos c15_5).symm.trans h
      refine sf_tabIn (off := 87) (tgt := 102) (pc := 15) C dX9_burden_15 (by rw [c15_5]; decide) (by rw [c15_5]; decide) (by rw [c15_5]; rfl) rfl ?_
      refine sf_aload_n (pc := 102) C 0 dX9_burden_102 rfl ?_
      refine sf_getr (pc := 103) C nk_0 sh_0 rfl fl_9_38 dX9_burden_103 ?_
      refine sf_getr (pc := 106) C nk_16 sh_16 rfl fl_9_181 dX9_burden_106 ?_
      refine sf_iload_n (pc := 109) C 1 dX9_burden_109 rfl ?_
      obtain ⟨v110, e110, h⟩ := sf_ob h
      refine sf_iald (pc := 110) C nk_20 sh_20 e110 dX9_burden_110 ?_
      exact sf_iretR (pc := 111) C dX9_burden_111 h
    replace h := (if_neg c15_5).symm.trans h
    refine sf_tabOut (tgt := 112) (pc := 15) C dX9_burden_15 (by have z0 := lv_neT (a := 0) c15_0 (by decide); have z1 := lv_neT (a := 1) c15_1 (by decide); have z2 := lv_neT (a := 2) c15_2 (by decide); have z3 := lv_neT (a := 3) c15_3 (by decide); have z4 := lv_neT (a := 4) c15_4 (by decide); have z5 := lv_neT (a := 5) c15_5 (by decide); omega) rfl ?_
    refine sf_ldc (v := -1000000002) (pc := 112) C dX9_burden_112 tm_334 ?_
    exact sf_iretR (pc := 114) C dX9_burden_114 h
  · replace h := (if_pos c8).symm.trans h
    refine sf_ldc (v := -1000000001) (pc := 11) C dX9_burden_11 tm_501 ?_
    exact sf_iretR (pc := 13) C dX9_burden_13 h
set_option maxHeartbeats 4000000 in
set_option maxRecDepth 100000 in
theorem k9_burden {l : Launch} {V : sf_V} {s : sf_Sg} {x1 : Int32} {x2 : Int32} {r : Int32} (h : f9_burden s x1 x2 = some r) : sf_M l V yX9_burden (.code yX9_burden cX9_burden 3 (some .int)) 1 [.ref (V.2.1 0), .int x1, .int x2] s (sf_Qi V r s) := by
  refine sf_enter (by decide) (Nat.le_of_ble_eq_true rfl) (fun X hX C => ?_)
  refine sf_sub [0, 1, 2] rfl ?_
  exact w9_burden_b0 (show sf_C X V cX9_burden 3 RX9 (some .int) 1 from C)  h
set_option maxHeartbeats 4000000 in
set_option maxRecDepth 100000 in
theorem w7_hasBack_b21 {X : sf_X} {V : sf_V} {c : Nat} (hc : sf_isS c) {s : sf_Sg} {r : Int32} (C : sf_C X V cX7_hasBack 2 RX7 (some .boolean) 0) (h : f7_hasBack_b21 c s = r) : sf_G X V 2 (sf_Q X V (sf_Qi V r s)) s 21 [] [] := by
  unfold f7_hasBack_b21 at h
  refine sf_iconst (v := 0) (pc := 21) C dX7_hasBack_21 (by decide) ?_
  exact sf_zretT (pc := 22) C (by first | rfl | exact sf_nb_in _ _ _) dX7_hasBack_22 h
set_option maxHeartbeats 4000000 in
set_option maxRecDepth 100000 in
theorem w7_hasBack_b0 {X : sf_X} {V : sf_V} {c : Nat} (hc : sf_isS c) {s : sf_Sg} {r : Int32} (C : sf_C X V cX7_hasBack 2 RX7 (some .boolean) 0) {x1 : Int32} (h : f7_hasBack_b0 c s x1 = r) : sf_G X V 2 (sf_Q X V (sf_Qi V r s)) s 0 [(0, .ref (V.2.1 c)), (1, .int x1)] [] := by
  unfold f7_hasBack_b0 at h
  refine sf_iload_n (pc := 0) C 1 dX7_hasBack_0 rfl ?_
  refine sf_if_lt (tgt := 21) (pc := 1) C dX7_hasBack_1 rfl (fun c1 => ?_) (fun c1 => ?_)
  · replace h := (if_pos c1).symm.trans h
    refine sf_sub [] rfl ?_
    exact w7_hasBack_b21 hc C h
  · replace h := (if_neg c1).symm.trans h
    refine sf_iload_n (pc := 4) C 1 dX7_hasBack_4 rfl ?_
    refine sf_aload_n (pc := 5) C 0 dX7_hasBack_5 rfl ?_
    refine sf_get (pc := 6) C (sf_kS0 hc) (sf_shS hc).1.1 rfl fl_7_31 dX7_hasBack_6 ?_
    refine sf_icmp_ge (tgt := 21) (pc := 9) C dX7_hasBack_9 rfl (fun c9 => ?_) (fun c9 => ?_)
    · replace h := (if_pos c9).symm.trans h
      refine sf_sub [] rfl ?_
      exact w7_hasBack_b21 hc C h
    · replace h := (if_neg c9).symm.trans h
      refine sf_iload_n (pc := 12) C 1 dX7_hasBack_12 rfl ?_
      refine sf_iconst (v := 5) (pc := 13) C dX7_hasBack_13 (by decide) ?_
      refine sf_icmp_ge (tgt := 21) (pc := 14) C dX7_hasBack_14 rfl (fun c14 => ?_) (fun c14 => ?_)
      · replace h := (if_pos c14).symm.trans h
        refine sf_sub [] rfl ?_
        exact w7_hasBack_b21 hc C h
      · replace h := (if_neg c14).symm.trans h
        refine sf_iconst (v := 1) (pc := 17) C dX7_hasBack_17 (by decide) ?_
        refine sf_goto (tgt := 22) (pc := 18) C dX7_hasBack_18 rfl ?_
        exact sf_zretT (pc := 22) C (by first | rfl | exact sf_nb_in _ _ _) dX7_hasBack_22 h
set_option maxHeartbeats 4000000 in
set_option maxRecDepth 100000 in
theorem k7_hasBack {l : Launch} {V : sf_V} {c : Nat} (hc : sf_isS c) {s : sf_Sg} {x1 : Int32} {r : Int32} (h : f7_hasBack c s x1 = r) : sf_M l V yX7_hasBack (.code yX7_hasBack cX7_hasBack 2 (some .boolean)) 0 [.ref (V.2.1 c), .int x1] s (sf_Qi V r s) := by
  refine sf_enter (by decide) (Nat.le_of_ble_eq_true rfl) (fun X hX C => ?_)
  refine sf_sub [0, 1] rfl ?_
  exact w7_hasBack_b0 hc (show sf_C X V cX7_hasBack 2 RX7 (some .boolean) 0 from C)  h
set_option maxHeartbeats 4000000 in
set_option maxRecDepth 100000 in
theorem w6_gallingToday_b0 {X : sf_X} {V : sf_V} {s : sf_Sg} {r : Int32} (C : sf_C X V cX6_gallingToday 2 RX6 (some .int) 3) {x1 : Int32} (h : f6_gallingToday_b0 s x1 = some r) : sf_G X V 2 (sf_Q X V (sf_Qi V r s)) s 0 [(0, .ref (V.2.1 9)), (1, .int x1)] [] := by
  unfold f6_gallingToday_b0 at h
  refine sf_aload_n (pc := 0) C 0 dX6_gallingToday_0 rfl ?_
  refine sf_iload_n (pc := 1) C 1 dX6_gallingToday_1 rfl ?_
  refine sf_aload_n (pc := 2) C 0 dX6_gallingToday_2 rfl ?_
  refine sf_iload_n (pc := 3) C 1 dX6_gallingToday_3 rfl ?_
  obtain ⟨v4, e4, h⟩ := sf_ob h
  refine sf_callVi (pc := 4) C (As := [.int x1]) nk_9 sh_9 rfl yk_X6_carriedBy cl_6_47 (k6_carriedBy e4) (by decide) rfl (Nat.le_of_ble_eq_true rfl) rfl dX6_gallingToday_4 ?_
  refine sf_aload_n (pc := 7) C 0 dX6_gallingToday_7 rfl ?_
  refine sf_getr (pc := 8) C nk_9 sh_9 rfl fl_6_21 dX6_gallingToday_8 ?_
  refine sf_get (pc := 11) C nk_16 sh_16 rfl fl_6_91 dX6_gallingToday_11 ?_
  obtain ⟨v14, e14, h⟩ := sf_ob h
  refine sf_callVi (pc := 14) C (As := [.int x1, .int v4, .int (s 16 0)]) nk_9 sh_9 rfl yk_X6_gallingOf cl_6_94 (k6_gallingOf e14) (by decide) rfl (Nat.le_of_ble_eq_true rfl) rfl dX6_gallingToday_14 ?_
  exact sf_iretR (pc := 17) C dX6_gallingToday_17 h
set_option maxHeartbeats 4000000 in
set_option maxRecDepth 100000 in
theorem k6_gallingToday {l : Launch} {V : sf_V} {s : sf_Sg} {x1 : Int32} {r : Int32} (h : f6_gallingToday s x1 = some r) : sf_M l V yX6_gallingToday (.code yX6_gallingToday cX6_gallingToday 2 (some .int)) 3 [.ref (V.2.1 9), .int x1] s (sf_Qi V r s) := by
  refine sf_enter (by decide) (Nat.le_of_ble_eq_true rfl) (fun X hX C => ?_)
  refine sf_sub [0, 1] rfl ?_
  exact w6_gallingToday_b0 (show sf_C X V cX6_gallingToday 2 RX6 (some .int) 3 from C)  h
set_option maxHeartbeats 4000000 in
set_option maxRecDepth 100000 in
theorem w6_flockForBack_b0 {X : sf_X} {V : sf_V} {s : sf_Sg} {r : Int32} (C : sf_C X V cX6_flockForBack 2 RX6 (some .int) 3) {x1 : Int32} (h : f6_flockForBack_b0 s x1 = some r) : sf_G X V 2 (sf_Q X V (sf_Qi V r s)) s 0 [(0, .ref (V.2.1 9)), (1, .int x1)] [] := by
  unfold f6_flockForBack_b0 at h
  refine sf_aload_n (pc := 0) C 0 dX6_flockForBack_0 rfl ?_
  refine sf_iload_n (pc := 1) C 1 dX6_flockForBack_1 rfl ?_
  obtain ⟨v2, e2, h⟩ := sf_ob h
  refine sf_callVi (pc := 2) C (As := [.int x1]) nk_9 sh_9 rfl yk_X6_partsOn cl_6_61 (k6_partsOn e2) (by decide) rfl (Nat.le_of_ble_eq_true rfl) rfl dX6_flockForBack_2 ?_
  refine sf_aload_n (pc := 5) C 0 dX6_flockForBack_5 rfl ?_
  refine sf_getr (pc := 6) C nk_9 sh_9 rfl fl_6_12 dX6_flockForBack_6 ?_
  refine sf_getr (pc := 9) C nk_10 sh_10 rfl fl_6_88 dX6_flockForBack_9 ?_
  refine sf_iload_n (pc := 12) C 1 dX6_flockForBack_12 rfl ?_
  obtain ⟨v13, e13, h⟩ := sf_ob h
  refine sf_iald (pc := 13) C nk_14 sh_14 e13 dX6_flockForBack_13 ?_
  refine sf_icmp_le (tgt := 21) (pc := 14) C dX6_flockForBack_14 rfl (fun c14 => ?_) (fun c14 => ?_)
  · replace h := (if_pos c14).symm.trans h
    refine sf_aload_n (pc := 21) C 0 dX6_flockForBack_21 rfl ?_
    refine sf_aload_n (pc := 22) C 0 dX6_flockForBack_22 rfl ?_
    refine sf_iload_n (pc := 23) C 1 dX6_flockForBack_23 rfl ?_
    obtain ⟨v24, e24, h⟩ := sf_ob h
    refine sf_callVi (pc := 24) C (As := [.int x1]) nk_9 sh_9 rfl yk_X6_carriedBy cl_6_47 (k6_carriedBy e24) (by decide) rfl (Nat.le_of_ble_eq_true rfl) rfl dX6_flockForBack_24 ?_
    obtain ⟨v27, e27, h⟩ := sf_ob h
    refine sf_callVi (pc := 27) C (As := [.int v24]) nk_9 sh_9 rfl yk_X6_flockForBurdens cl_6_114 (k6_flockForBurdens e27) (by decide) rfl (Nat.le_of_ble_eq_true rfl) rfl dX6_flockForBack_27 ?_
    exact sf_iretR (pc := 30) C dX6_flockForBack_30 h
  · replace h := (if_neg c14).symm.trans h
    refine sf_iconst (v := -1) (pc := 17) C dX6_flockForBack_17 (by decide) ?_
    refine sf_goto (tgt := 30) (pc := 18) C dX6_flockForBack_18 rfl ?_
    exact sf_iretR (pc := 30) C dX6_flockForBack_30 h
set_option maxHeartbeats 4000000 in
set_option maxRecDepth 100000 in
theorem k6_flockForBack {l : Launch} {V : sf_V} {s : sf_Sg} {x1 : Int32} {r : Int32} (h : f6_flockForBack s x1 = some r) : sf_M l V yX6_flockForBack (.code yX6_flockForBack cX6_flockForBack 2 (some .int)) 3 [.ref (V.2.1 9), .int x1] s (sf_Qi V r s) := by
  refine sf_enter (by decide) (Nat.le_of_ble_eq_true rfl) (fun X hX C => ?_)
  refine sf_sub [0, 1] rfl ?_
  exact w6_flockForBack_b0 (show sf_C X V cX6_flockForBack 2 RX6 (some .int) 3 from C)  h
set_option maxHeartbeats 4000000 in
set_option maxRecDepth 100000 in
theorem w6_ringOf_b81 {X : sf_X} {V : sf_V} {s : sf_Sg} {r : Int32} {k6 : Int32 → Int32 → Option Int32} {k14 : Int32 → Int32 → Int32 → Option Int32} (C : sf_C X V cX6_ringOf 6 RX6 (some .int) 1) (hk6 : ∀  (x2 : Int32) (x3 : Int32), k6 x2 x3 = some r → sf_G X V 6 (sf_Q X V (sf_Qi V r s)) s 6 [(0, .ref (V.2.1 9)), (2, .int x2), (3, .int x3)] []) (hk14 : ∀  (x2 : Int32) (x3 : Int32) (x4 : Int32), k14 x2 x3 x4 = some r → sf_G X V 6 (sf_Q X V (sf_Qi V r s)) s 14 [(0, .ref (V.2.1 9)), (2, .int x2), (3, .int x3), (4, .int x4)] []) {x2 : Int32} {x3 : Int32} {x4 : Int32} (h : f6_ringOf_b81 s k6 k14 x2 x3 x4 = some r) : sf_G X V 6 (sf_Q X V (sf_Qi V r s)) s 81 [(0, .ref (V.2.1 9)), (2, .int x2), (3, .int x3), (4, .int x4)] [] := by
  unfold f6_ringOf_b81 at h
  refine sf_iinc (v := (x4 + 1)) (lv' := [(4, .int (x4 + 1)), (0, .ref (V.2.1 9)), (2, .int x2), (3, .int x3)]) (pc := 81) C 3 dX6_ringOf_81 rfl rfl (by decide) rfl ?_
  refine sf_goto (tgt := 14) (pc := 84) C dX6_ringOf_84 rfl ?_
  refine sf_sub [1, 2, 3, 0] rfl ?_
  exact hk14 _ _ _ h
set_option maxHeartbeats 4000000 in
set_option maxRecDepth 100000 in
theorem w6_ringOf_b67 {X : sf_X} {V : sf_V} {s : sf_Sg} {r : Int32} {k6 : Int32 → Int32 → Option Int32} {k14 : Int32 → Int32 → Int32 → Option Int32} (C : sf_C X V cX6_ringOf 6 RX6 (some .int) 1) (hk6 : ∀  (x2 : Int32) (x3 : Int32), k6 x2 x3 = some r → sf_G X V 6 (sf_Q X V (sf_Qi V r s)) s 6 [(0, .ref (V.2.1 9)), (2, .int x2), (3, .int x3)] []) (hk14 : ∀  (x2 : Int32) (x3 : Int32) (x4 : Int32), k14 x2 x3 x4 = some r → sf_G X V 6 (sf_Q X V (sf_Qi V r s)) s 14 [(0, .ref (V.2.1 9)), (2, .int x2), (3, .int x3), (4, .int x4)] []) {x2 : Int32} {x3 : Int32} {x4 : Int32} {t0 : Int32} (h : f6_ringOf_b67 s k6 k14 x2 x3 x4 t0 = some r) : sf_G X V 6 (sf_Q X V (sf_Qi V r s)) s 67 [(0, .ref (V.2.1 9)), (2, .int x2), (3, .int x3), (4, .int x4)] [.int t0] := by
  unfold f6_ringOf_b67 at h
  refine sf_istore (lv' := [(5, .int t0), (0, .ref (V.2.1 9)), (2, .int x2), (3, .int x3), (4, .int x4)]) (pc := 67) C dX6_ringOf_67 (by decide) rfl ?_
  refine sf_iload_n (pc := 69) C 2 dX6_ringOf_69 rfl ?_
  refine sf_iload (pc := 70) C 0 dX6_ringOf_70 rfl ?_
  refine sf_iand (pc := 72) C dX6_ringOf_72 ?_
  refine sf_if_eq (tgt := 81) (pc := 73) C dX6_ringOf_73 rfl (fun c73 => ?_) (fun c73 => ?_)
  · replace h := (if_pos c73).symm.trans h
    refine sf_sub [1, 2, 3, 4] rfl ?_
    exact w6_ringOf_b81 C hk6 hk14 h
  · replace h := (if_neg c73).symm.trans h
    refine sf_iload_n (pc := 76) C 2 dX6_ringOf_76 rfl ?_
    refine sf_iload (pc := 77) C 0 dX6_ringOf_77 rfl ?_
    refine sf_ior (pc := 79) C dX6_ringOf_79 ?_
    refine sf_istore_n (lv' := [(2, .int (x2 ||| t0)), (5, .int t0), (0, .ref (V.2.1 9)), (3, .int x3), (4, .int x4)]) (pc := 80) C dX6_ringOf_80 (by decide) rfl ?_
    refine sf_sub [2, 0, 3, 4] rfl ?_
    exact w6_ringOf_b81 C hk6 hk14 h
set_option maxHeartbeats 4000000 in
set_option maxRecDepth 100000 in
theorem w6_ringOf_b87 {X : sf_X} {V : sf_V} {s : sf_Sg} {r : Int32} {k6 : Int32 → Int32 → Option Int32} (C : sf_C X V cX6_ringOf 6 RX6 (some .int) 1) (hk6 : ∀  (x2 : Int32) (x3 : Int32), k6 x2 x3 = some r → sf_G X V 6 (sf_Q X V (sf_Qi V r s)) s 6 [(0, .ref (V.2.1 9)), (2, .int x2), (3, .int x3)] []) {x2 : Int32} {x3 : Int32} (h : f6_ringOf_b87 s k6 x2 x3 = some r) : sf_G X V 6 (sf_Q X V (sf_Qi V r s)) s 87 [(0, .ref (V.2.1 9)), (2, .int x2), (3, .int x3)] [] := by
  unfold f6_ringOf_b87 at h
  refine sf_iinc (v := (x3 + 1)) (lv' := [(3, .int (x3 + 1)), (0, .ref (V.2.1 9)), (2, .int x2)]) (pc := 87) C 2 dX6_ringOf_87 rfl rfl (by decide) rfl ?_
  refine sf_goto (tgt := 6) (pc := 90) C dX6_ringOf_90 rfl ?_
  refine sf_sub [1, 2, 0] rfl ?_
  exact hk6 _ _ h
set_option maxHeartbeats 4000000 in
set_option maxRecDepth 100000 in
theorem w6_ringOf_b14 {X : sf_X} {V : sf_V} {s : sf_Sg} {r : Int32} {k6 : Int32 → Int32 → Option Int32} {k14 : Int32 → Int32 → Int32 → Option Int32} (C : sf_C X V cX6_ringOf 6 RX6 (some .int) 1) (hk6 : ∀  (x2 : Int32) (x3 : Int32), k6 x2 x3 = some r → sf_G X V 6 (sf_Q X V (sf_Qi V r s)) s 6 [(0, .ref (V.2.1 9)), (2, .int x2), (3, .int x3)] []) (hk14 : ∀  (x2 : Int32) (x3 : Int32) (x4 : Int32), k14 x2 x3 x4 = some r → sf_G X V 6 (sf_Q X V (sf_Qi V r s)) s 14 [(0, .ref (V.2.1 9)), (2, .int x2), (3, .int x3), (4, .int x4)] []) {x2 : Int32} {x3 : Int32} {x4 : Int32} (h : f6_ringOf_b14 s k6 k14 x2 x3 x4 = some r) : sf_G X V 6 (sf_Q X V (sf_Qi V r s)) s 14 [(0, .ref (V.2.1 9)), (2, .int x2), (3, .int x3), (4, .int x4)] [] := by
  unfold f6_ringOf_b14 at h
  refine sf_iload (pc := 14) C 3 dX6_ringOf_14 rfl ?_
  refine sf_aload_n (pc := 16) C 0 dX6_ringOf_16 rfl ?_
  refine sf_getr (pc := 17) C nk_9 sh_9 rfl fl_6_12 dX6_ringOf_17 ?_
  refine sf_get (pc := 20) C nk_10 sh_10 rfl fl_6_25 dX6_ringOf_20 ?_
  refine sf_icmp_ge (tgt := 87) (pc := 23) C dX6_ringOf_23 rfl (fun c23 => ?_) (fun c23 => ?_)
  · replace h := (if_pos c23).symm.trans h
    refine sf_sub [0, 1, 2] rfl ?_
    exact w6_ringOf_b87 C hk6 h
  · replace h := (if_neg c23).symm.trans h
    refine sf_aload_n (pc := 26) C 0 dX6_ringOf_26 rfl ?_
    refine sf_getr (pc := 27) C nk_9 sh_9 rfl fl_6_21 dX6_ringOf_27 ?_
    refine sf_iload (pc := 30) C 3 dX6_ringOf_30 rfl ?_
    obtain ⟨v32, e32, h⟩ := sf_ob h
    refine sf_callVi (pc := 32) C (As := [.int x4]) nk_16 sh_16 rfl yk_X3_isShared cl_6_37 (k3_isShared sf_L0 e32) (by decide) rfl (Nat.le_of_ble_eq_true rfl) rfl dX6_ringOf_32 ?_
    refine sf_if_eq (tgt := 66) (pc := 35) C dX6_ringOf_35 rfl (fun c35 => ?_) (fun c35 => ?_)
    · replace h := (if_pos c35).symm.trans h
      refine sf_iconst (v := 0) (pc := 66) C dX6_ringOf_66 (by decide) ?_
      exact w6_ringOf_b67 C hk6 hk14 h
    · replace h := (if_neg c35).symm.trans h
      refine sf_iconst (v := 1) (pc := 38) C dX6_ringOf_38 (by decide) ?_
      refine sf_aload_n (pc := 39) C 0 dX6_ringOf_39 rfl ?_
      refine sf_getr (pc := 40) C nk_9 sh_9 rfl fl_6_21 dX6_ringOf_40 ?_
      refine sf_getr (pc := 43) C nk_16 sh_16 rfl fl_6_44 dX6_ringOf_43 ?_
      refine sf_iload (pc := 46) C 3 dX6_ringOf_46 rfl ?_
      obtain ⟨v48, e48, h⟩ := sf_ob h
      refine sf_iald (pc := 48) C nk_19 sh_19 e48 dX6_ringOf_48 ?_
      refine sf_ishl (pc := 49) C dX6_ringOf_49 ?_
      refine sf_iconst (v := 1) (pc := 50) C dX6_ringOf_50 (by decide) ?_
      refine sf_aload_n (pc := 51) C 0 dX6_ringOf_51 rfl ?_
      refine sf_getr (pc := 52) C nk_9 sh_9 rfl fl_6_21 dX6_ringOf_52 ?_
      refine sf_getr (pc := 55) C nk_16 sh_16 rfl fl_6_117 dX6_ringOf_55 ?_
      refine sf_iload (pc := 58) C 3 dX6_ringOf_58 rfl ?_
      obtain ⟨v60, e60, h⟩ := sf_ob h
      refine sf_iald (pc := 60) C nk_20 sh_20 e60 dX6_ringOf_60 ?_
      refine sf_ishl (pc := 61) C dX6_ringOf_61 ?_
      refine sf_ior (pc := 62) C dX6_ringOf_62 ?_
      refine sf_goto (tgt := 67) (pc := 63) C dX6_ringOf_63 rfl ?_
      exact w6_ringOf_b67 C hk6 hk14 h
set_option maxHeartbeats 4000000 in
set_option maxRecDepth 100000 in
theorem w6_ringOf_L14 {X : sf_X} {V : sf_V} {s : sf_Sg} {r : Int32} {k6 : Int32 → Int32 → Option Int32} (C : sf_C X V cX6_ringOf 6 RX6 (some .int) 1) (hk6 : ∀  (x2 : Int32) (x3 : Int32), k6 x2 x3 = some r → sf_G X V 6 (sf_Q X V (sf_Qi V r s)) s 6 [(0, .ref (V.2.1 9)), (2, .int x2), (3, .int x3)] []) : ∀  (x2 : Int32) (x3 : Int32) (x4 : Int32), f6_ringOf_L14 s k6 x2 x3 x4 = some r → sf_G X V 6 (sf_Q X V (sf_Qi V r s)) s 14 [(0, .ref (V.2.1 9)), (2, .int x2), (3, .int x3), (4, .int x4)] [] :=
  sf_it_ind (fun (k : Int32 → Int32 → Int32 → Option Int32) => ∀  (x2 : Int32) (x3 : Int32) (x4 : Int32), k x2 x3 x4 = some r → sf_G X V 6 (sf_Q X V (sf_Qi V r s)) s 14 [(0, .ref (V.2.1 9)), (2, .int x2), (3, .int x3), (4, .int x4)] []) _ _ (fun x2 x3 x4 h => by cases h) (fun k hk x2 x3 x4 h => w6_ringOf_b14 C hk6 hk h) _
set_option maxHeartbeats 4000000 in
set_option maxRecDepth 100000 in
theorem w6_ringOf_b6 {X : sf_X} {V : sf_V} {s : sf_Sg} {r : Int32} {k6 : Int32 → Int32 → Option Int32} (C : sf_C X V cX6_ringOf 6 RX6 (some .int) 1) (hk6 : ∀  (x2 : Int32) (x3 : Int32), k6 x2 x3 = some r → sf_G X V 6 (sf_Q X V (sf_Qi V r s)) s 6 [(0, .ref (V.2.1 9)), (2, .int x2), (3, .int x3)] []) {x2 : Int32} {x3 : Int32} (h : f6_ringOf_b6 s k6 x2 x3 = some r) : sf_G X V 6 (sf_Q X V (sf_Qi V r s)) s 6 [(0, .ref (V.2.1 9)), (2, .int x2), (3, .int x3)] [] := by
  unfold f6_ringOf_b6 at h
  refine sf_iload_n (pc := 6) C 2 dX6_ringOf_6 rfl ?_
  refine sf_iconst (v := 5) (pc := 7) C dX6_ringOf_7 (by decide) ?_
  refine sf_icmp_ge (tgt := 93) (pc := 8) C dX6_ringOf_8 rfl (fun c8 => ?_) (fun c8 => ?_)
  · replace h := (if_pos c8).symm.trans h
    refine sf_iload_n (pc := 93) C 1 dX6_ringOf_93 rfl ?_
    exact sf_iretR (pc := 94) C dX6_ringOf_94 h
  · replace h := (if_neg c8).symm.trans h
    refine sf_iconst (v := 0) (pc := 11) C dX6_ringOf_11 (by decide) ?_
    refine sf_istore (lv' := [(4, .int (0 : Int32)), (0, .ref (V.2.1 9)), (2, .int x2), (3, .int x3)]) (pc := 12) C dX6_ringOf_12 (by decide) rfl ?_
    refine sf_sub [1, 2, 3, 0] rfl ?_
    exact w6_ringOf_L14 C hk6 _ _ _ h
set_option maxHeartbeats 4000000 in
set_option maxRecDepth 100000 in
theorem w6_ringOf_L6 {X : sf_X} {V : sf_V} {s : sf_Sg} {r : Int32} (C : sf_C X V cX6_ringOf 6 RX6 (some .int) 1) : ∀  (x2 : Int32) (x3 : Int32), f6_ringOf_L6 s x2 x3 = some r → sf_G X V 6 (sf_Q X V (sf_Qi V r s)) s 6 [(0, .ref (V.2.1 9)), (2, .int x2), (3, .int x3)] [] :=
  sf_it_ind (fun (k : Int32 → Int32 → Option Int32) => ∀  (x2 : Int32) (x3 : Int32), k x2 x3 = some r → sf_G X V 6 (sf_Q X V (sf_Qi V r s)) s 6 [(0, .ref (V.2.1 9)), (2, .int x2), (3, .int x3)] []) _ _ (fun x2 x3 h => by cases h) (fun k hk x2 x3 h => w6_ringOf_b6 C hk h) _
set_option maxHeartbeats 4000000 in
set_option maxRecDepth 100000 in
theorem w6_ringOf_b0 {X : sf_X} {V : sf_V} {s : sf_Sg} {r : Int32} (C : sf_C X V cX6_ringOf 6 RX6 (some .int) 1) {x1 : Int32} (h : f6_ringOf_b0 s x1 = some r) : sf_G X V 6 (sf_Q X V (sf_Qi V r s)) s 0 [(0, .ref (V.2.1 9)), (1, .int x1)] [] := by
  unfold f6_ringOf_b0 at h
  refine sf_iconst (v := 1) (pc := 0) C dX6_ringOf_0 (by decide) ?_
  refine sf_iload_n (pc := 1) C 1 dX6_ringOf_1 rfl ?_
  refine sf_ishl (pc := 2) C dX6_ringOf_2 ?_
  refine sf_istore_n (lv' := [(2, .int ((1 : Int32) <<< (x1 &&& 31))), (0, .ref (V.2.1 9)), (1, .int x1)]) (pc := 3) C dX6_ringOf_3 (by decide) rfl ?_
  refine sf_iconst (v := 0) (pc := 4) C dX6_ringOf_4 (by decide) ?_
  refine sf_istore_n (lv' := [(3, .int (0 : Int32)), (2, .int ((1 : Int32) <<< (x1 &&& 31))), (0, .ref (V.2.1 9)), (1, .int x1)]) (pc := 5) C dX6_ringOf_5 (by decide) rfl ?_
  refine sf_sub [2, 1, 0] rfl ?_
  exact w6_ringOf_L6 C _ _ h
set_option maxHeartbeats 4000000 in
set_option maxRecDepth 100000 in
theorem k6_ringOf {l : Launch} {V : sf_V} {s : sf_Sg} {x1 : Int32} {r : Int32} (h : f6_ringOf s x1 = some r) : sf_M l V yX6_ringOf (.code yX6_ringOf cX6_ringOf 6 (some .int)) 1 [.ref (V.2.1 9), .int x1] s (sf_Qi V r s) := by
  refine sf_enter (by decide) (Nat.le_of_ble_eq_true rfl) (fun X hX C => ?_)
  refine sf_sub [0, 1] rfl ?_
  exact w6_ringOf_b0 (show sf_C X V cX6_ringOf 6 RX6 (some .int) 1 from C)  h
set_option maxHeartbeats 4000000 in
set_option maxRecDepth 100000 in
theorem w9_back_b0 {X : sf_X} {V : sf_V} {s : sf_Sg} {r : Int32} (C : sf_C X V cX9_back 3 RX9 (some .int) 4) {x1 : Int32} {x2 : Int32} (h : f9_back_b0 s x1 x2 = some r) : sf_G X V 3 (sf_Q X V (sf_Qi V r s)) s 0 [(0, .ref (V.2.1 0)), (1, .int x1), (2, .int x2)] [] := by
  unfold f9_back_b0 at h
  refine sf_aload_n (pc := 0) C 0 dX9_back_0 rfl ?_
  refine sf_getr (pc := 1) C nk_0 sh_0 rfl fl_9_33 dX9_back_1 ?_
  refine sf_iload_n (pc := 4) C 1 dX9_back_4 rfl ?_
  refine sf_callVi (pc := 5) C (As := [.int x1]) nk_10 sh_10 rfl yk_X7_hasBack cl_9_184 (k7_hasBack sf_S1 rfl) (by decide) rfl (Nat.le_of_ble_eq_true rfl) rfl dX9_back_5 ?_
  refine sf_if_ne (tgt := 14) (pc := 8) C dX9_back_8 rfl (fun c8 => ?_) (fun c8 => ?_)
  · replace h := (if_neg c8).symm.trans h
    refine sf_iload_n (pc := 14) C 2 dX9_back_14 rfl ?_
    by_cases c15_0 : x2 = 0
    · replace h := (if_pos c15_0).symm.trans h
      refine sf_tabIn (off := 45) (tgt := 60) (pc := 15) C dX9_back_15 (by rw [c15_0]; decide) (by rw [c15_0]; decide) (by rw [c15_0]; rfl) rfl ?_
      refine sf_aload_n (pc := 60) C 0 dX9_back_60 rfl ?_
      refine sf_getr (pc := 61) C nk_0 sh_0 rfl fl_9_33 dX9_back_61 ?_
      refine sf_getr (pc := 64) C nk_10 sh_10 rfl fl_9_187 dX9_back_64 ?_
      refine sf_iload_n (pc := 67) C 1 dX9_back_67 rfl ?_
      obtain ⟨v68, e68, h⟩ := sf_ob h
      refine sf_iald (pc := 68) C nk_14 sh_14 e68 dX9_back_68 ?_
      exact sf_iretR (pc := 69) C dX9_back_69 h
    replace h := (if_neg c15_0).symm.trans h
    by_cases c15_1 : x2 = 1
    · replace h := (if_pos c15_1).symm.trans h
      refine sf_tabIn (off := 55) (tgt := 70) (pc := 15) C dX9_back_15 (by rw [c15_1]; decide) (by rw [c15_1]; decide) (by rw [c15_1]; rfl) rfl ?_
      refine sf_aload_n (pc := 70) C 0 dX9_back_70 rfl ?_
      refine sf_getr (pc := 71) C nk_0 sh_0 rfl fl_9_33 dX9_back_71 ?_
      refine sf_getr (pc := 74) C nk_10 sh_10 rfl fl_9_190 dX9_back_74 ?_
      refine sf_iload_n (pc := 77) C 1 dX9_back_77 rfl ?_
      obtain ⟨v78, e78, h⟩ := sf_ob h
      refine sf_iald (pc := 78) C nk_15 sh_15 e78 dX9_back_78 ?_
      exact sf_iretR (pc := 79) C dX9_back_79 h
    replace h := (if_neg c15_1).symm.trans h
    by_cases c15_2 : x2 = 2
    · replace h := (if_pos c15_2).symm.trans h
      refine sf_tabIn (off := 65) (tgt := 80) (pc := 15) C dX9_back_15 (by rw [c15_2]; decide) (by rw [c15_2]; decide) (by rw [c15_2]; rfl) rfl ?_
      refine sf_aload_n (pc := 80) C 0 dX9_back_80 rfl ?_
      refine sf_getr (pc := 81) C nk_0 sh_0 rfl fl_9_38 dX9_back_81 ?_
      refine sf_getr (pc := 84) C nk_16 sh_16 rfl fl_9_193 dX9_back_84 ?_
      refine sf_iload_n (pc := 87) C 1 dX9_back_87 rfl ?_
      obtain ⟨v88, e88, h⟩ := sf_ob h
      refine sf_iald (pc := 88) C nk_21 sh_21 e88 dX9_back_88 ?_
      exact sf_iretR (pc := 89) C dX9_back_89 h
    replace h := (if_neg c15_2).symm.trans h
    by_cases c15_3 : x2 = 3
    · replace h := (if_pos c15_3).symm.trans h
      refine sf_tabIn (off := 75) (tgt := 90) (pc := 15) C dX9_back_15 (by rw [c15_3]; decide) (by rw [c15_3]; decide) (by rw [c15_3]; rfl) rfl ?_
      refine sf_aload_n (pc := 90) C 0 dX9_back_90 rfl ?_
      refine sf_getr (pc := 91) C nk_0 sh_0 rfl fl_9_26 dX9_back_91 ?_
      refine sf_iload_n (pc := 94) C 1 dX9_back_94 rfl ?_
      obtain ⟨v95, e95, h⟩ := sf_ob h
      refine sf_callVi (pc := 95) C (As := [.int x1]) nk_9 sh_9 rfl yk_X6_gallingToday cl_9_196 (k6_gallingToday e95) (by decide) rfl (Nat.le_of_ble_eq_true rfl) rfl dX9_back_95 ?_
      exact sf_iretR (pc := 98) C dX9_back_98 h
    replace h := (if_neg c15_3).symm.trans h
    by_cases c15_4 : x2 = 4
    · replace h := (if_pos c15_4).symm.trans h
      refine sf_tabIn (off := 84) (tgt := 99) (pc := 15) C dX9_back_15 (by rw [c15_4]; decide) (by rw [c15_4]; decide) (by rw [c15_4]; rfl) rfl ?_
      refine sf_aload_n (pc := 99) C 0 dX9_back_99 rfl ?_
      refine sf_getr (pc := 100) C nk_0 sh_0 rfl fl_9_26 dX9_back_100 ?_
      refine sf_iload_n (pc := 103) C 1 dX9_back_103 rfl ?_
      obtain ⟨v104, e104, h⟩ := sf_ob h
      refine sf_callVi (pc := 104) C (As := [.int x1]) nk_9 sh_9 rfl yk_X6_carriedBy cl_9_199 (k6_carriedBy e104) (by decide) rfl (Nat.le_of_ble_eq_true rfl) rfl dX9_back_104 ?_
      exact sf_iretR (pc := 107) C dX9_back_107 h
    replace h := (if_neg c15_4).symm.trans h
    by_cases c15_5 : x2 = 5
    · replace h := (if_pos c15_5).symm.trans h
      refine sf_tabIn (off := 93) (tgt := 108) (pc := 15) C dX9_back_15 (by rw [c15_5]; decide) (by rw [c15_5]; decide) (by rw [c15_5]; rfl) rfl ?_
      refine sf_aload_n (pc := 108) C 0 dX9_back_108 rfl ?_
      refine sf_getr (pc := 109) C nk_0 sh_0 rfl fl_9_26 dX9_back_109 ?_
      refine sf_iload_n (pc := 112) C 1 dX9_back_112 rfl ?_
      obtain ⟨v113, e113, h⟩ := sf_ob h
      refine sf_callVi (pc := 113) C (As := [.int x1]) nk_9 sh_9 rfl yk_X6_partsOn cl_9_202 (k6_partsOn e113) (by decide) rfl (Nat.le_of_ble_eq_true rfl) rfl dX9_back_113 ?_
      exact sf_iretR (pc := 116) C dX9_back_116 h
    replace h := (if_neg c15_5).symm.trans h
    by_cases c15_6 : x2 = 6
    · replace h := (if_pos c15_6).symm.trans h
      refine sf_tabIn (off := 102) (tgt := 117) (pc := 15) C dX9_back_15 (by rw [c15_6]; decide) (by rw [c15_6]; decide) (by rw [c15_6]; rfl) rfl ?_
      refine sf_aload_n (pc := 117) C 0 dX9_back_117 rfl ?_
      refine sf_getr (pc := 118) C nk_0 sh_0 rfl fl_9_26 dX9_back_118 ?_
      refine sf_iload_n (pc := 121) C 1 dX9_back_121 rfl ?_
      obtain ⟨v122, e122, h⟩ := sf_ob h
      refine sf_callVi (pc := 122) C (As := [.int x1]) nk_9 sh_9 rfl yk_X6_flockForBack cl_9_205 (k6_flockForBack e122) (by decide) rfl (Nat.le_of_ble_eq_true rfl) rfl dX9_back_122 ?_
      exact sf_iretR (pc := 125) C dX9_back_125 h
    replace h := (if_neg c15_6).symm.trans h
    by_cases c15_7 : x2 = 7
    · replace h := (if_pos c15_7).symm.trans h
      refine sf_tabIn (off := 111) (tgt := 126) (pc := 15) C dX9_back_15 (by rw [c15_7]; decide) (by rw [c15_7]; decide) (by rw [c15_7]; rfl) rfl ?_
      refine sf_aload_n (pc := 126) C 0 dX9_back_126 rfl ?_
      refine sf_getr (pc := 127) C nk_0 sh_0 rfl fl_9_26 dX9_back_127 ?_
      refine sf_iload_n (pc := 130) C 1 dX9_back_130 rfl ?_
      obtain ⟨v131, e131, h⟩ := sf_ob h
      refine sf_callVi (pc := 131) C (As := [.int x1]) nk_9 sh_9 rfl yk_X6_ringOf cl_9_208 (k6_ringOf e131) (by decide) rfl (Nat.le_of_ble_eq_true rfl) rfl dX9_back_131 ?_
      exact sf_iretR (pc := 134) C dX9_back_134 h
    replace h := (if_neg c15_7).symm.trans h
    refine sf_tabOut (tgt := 135) (pc := 15) C dX9_back_15 (by have z0 := lv_neT (a := 0) c15_0 (by decide); have z1 := lv_neT (a := 1) c15_1 (by decide); have z2 := lv_neT (a := 2) c15_2 (by decide); have z3 := lv_neT (a := 3) c15_3 (by decide); have z4 := lv_neT (a := 4) c15_4 (by decide); have z5 := lv_neT (a := 5) c15_5 (by decide); have z6 := lv_neT (a := 6) c15_6 (by decide); have z7 := lv_neT (a := 7) c15_7 (by decide); omega) rfl ?_
    refine sf_ldc (v := -1000000002) (pc := 135) C dX9_back_135 tm_334 ?_
    exact sf_iretR (pc := 137) C dX9_back_137 h
  · replace h := (if_pos c8).symm.trans h
    refine sf_ldc (v := -1000000001) (pc := 11) C dX9_back_11 tm_501 ?_
    exact sf_iretR (pc := 13) C dX9_back_13 h
set_option maxHeartbeats 4000000 in
set_option maxRecDepth 100000 in
theorem k9_back {l : Launch} {V : sf_V} {s : sf_Sg} {x1 : Int32} {x2 : Int32} {r : Int32} (h : f9_back s x1 x2 = some r) : sf_M l V yX9_back (.code yX9_back cX9_back 3 (some .int)) 4 [.ref (V.2.1 0), .int x1, .int x2] s (sf_Qi V r s) := by
  refine sf_enter (by decide) (Nat.le_of_ble_eq_true rfl) (fun X hX C => ?_)
  refine sf_sub [0, 1, 2] rfl ?_
  exact w9_back_b0 (show sf_C X V cX9_back 3 RX9 (some .int) 4 from C)  h
set_option maxHeartbeats 4000000 in
set_option maxRecDepth 100000 in
theorem w9_refusalOfDays_b0 {X : sf_X} {V : sf_V} {s : sf_Sg} {r : Int32} (C : sf_C X V cX9_refusalOfDays 2 RX9 (some .int) 1) {x1 : Int32} (h : f9_refusalOfDays_b0 s x1 = r) : sf_G X V 2 (sf_Q X V (sf_Qi V r s)) s 0 [(0, .ref (V.2.1 0)), (1, .int x1)] [] := by
  unfold f9_refusalOfDays_b0 at h
  refine sf_iload_n (pc := 0) C 1 dX9_refusalOfDays_0 rfl ?_
  refine sf_iconst (v := 1) (pc := 1) C dX9_refusalOfDays_1 (by decide) ?_
  refine sf_bipush (v := 60) (pc := 2) C dX9_refusalOfDays_2 (by decide) ?_
  refine sf_callSi (pc := 4) C (As := [.int x1, .int (1 : Int32), .int (60 : Int32)]) yk_X9_within cl_9_89 (k9_within rfl) (by decide) rfl (Nat.le_of_ble_eq_true rfl) rfl dX9_refusalOfDays_4 ?_
  refine sf_if_ne (tgt := 13) (pc := 7) C dX9_refusalOfDays_7 rfl (fun c7 => ?_) (fun c7 => ?_)
  · replace h := (if_neg c7).symm.trans h
    refine sf_aload_n (pc := 13) C 0 dX9_refusalOfDays_13 rfl ?_
    refine sf_getr (pc := 14) C nk_0 sh_0 rfl fl_9_33 dX9_refusalOfDays_14 ?_
    refine sf_get (pc := 17) C nk_10 sh_10 rfl fl_9_262 dX9_refusalOfDays_17 ?_
    refine sf_if_ne (tgt := 26) (pc := 20) C dX9_refusalOfDays_20 rfl (fun c20 => ?_) (fun c20 => ?_)
    · replace h := (if_neg c20).symm.trans h
      refine sf_aload_n (pc := 26) C 0 dX9_refusalOfDays_26 rfl ?_
      refine sf_getr (pc := 27) C nk_0 sh_0 rfl fl_9_38 dX9_refusalOfDays_27 ?_
      refine sf_get (pc := 30) C nk_16 sh_16 rfl fl_9_128 dX9_refusalOfDays_30 ?_
      refine sf_sipush (v := 9000) (pc := 33) C dX9_refusalOfDays_33 (by decide) ?_
      refine sf_icmp_le (tgt := 44) (pc := 36) C dX9_refusalOfDays_36 rfl (fun c36 => ?_) (fun c36 => ?_)
      · replace h := (if_pos c36).symm.trans h
        refine sf_iconst (v := 0) (pc := 44) C dX9_refusalOfDays_44 (by decide) ?_
        exact sf_iretT (pc := 45) C dX9_refusalOfDays_45 h
      · replace h := (if_neg c36).symm.trans h
        refine sf_ldc (v := -1000000004) (pc := 39) C dX9_refusalOfDays_39 tm_339 ?_
        refine sf_goto (tgt := 45) (pc := 41) C dX9_refusalOfDays_41 rfl ?_
        exact sf_iretT (pc := 45) C dX9_refusalOfDays_45 h
    · replace h := (if_pos c20).symm.trans h
      refine sf_ldc (v := -1000000003) (pc := 23) C dX9_refusalOfDays_23 tm_532 ?_
      exact sf_iretT (pc := 25) C dX9_refusalOfDays_25 h
  · replace h := (if_pos c7).symm.trans h
    refine sf_ldc (v := -1000000002) (pc := 10) C dX9_refusalOfDays_10 tm_334 ?_
    exact sf_iretT (pc := 12) C dX9_refusalOfDays_12 h
set_option maxHeartbeats 4000000 in
set_option maxRecDepth 100000 in
theorem k9_refusalOfDays {l : Launch} {V : sf_V} {s : sf_Sg} {x1 : Int32} {r : Int32} (h : f9_refusalOfDays s x1 = r) : sf_M l V yX9_refusalOfDays (.code yX9_refusalOfDays cX9_refusalOfDays 2 (some .int)) 1 [.ref (V.2.1 0), .int x1] s (sf_Qi V r s) := by
  refine sf_enter (by decide) (Nat.le_of_ble_eq_true rfl) (fun X hX C => ?_)
  refine sf_sub [0, 1] rfl ?_
  exact w9_refusalOfDays_b0 (show sf_C X V cX9_refusalOfDays 2 RX9 (some .int) 1 from C)  h
set_option maxHeartbeats 4000000 in
set_option maxRecDepth 100000 in
theorem w3_copyFrom_b80 {X : sf_X} {V : sf_V} {c : Nat} {c1 : Nat} (hc : sf_isL c) (hc1 : sf_isL c1) {s' : sf_Sg} {k80 : sf_Sg → Int32 → Option sf_Sg} (C : sf_C X V cX3_copyFrom 3 RX3 none 0) (hk80 : ∀  (s : sf_Sg) (x2 : Int32), k80 s x2 = some s' → sf_G X V 3 (sf_Q X V (sf_Qv V s')) s 80 [(0, .ref (V.2.1 c)), (1, .ref (V.2.1 c1)), (2, .int x2)] []) {s : sf_Sg} {x2 : Int32} (h : f3_copyFrom_b80 c c1 k80 s x2 = some s') : sf_G X V 3 (sf_Q X V (sf_Qv V s')) s 80 [(0, .ref (V.2.1 c)), (1, .ref (V.2.1 c1)), (2, .int x2)] [] := by
  unfold f3_copyFrom_b80 at h
  refine sf_iload_n (pc := 80) C 2 dX3_copyFrom_80 rfl ?_
  refine sf_iconst (v := 5) (pc := 81) C dX3_copyFrom_81 (by decide) ?_
  refine sf_icmp_ge (tgt := 103) (pc := 82) C dX3_copyFrom_82 rfl (fun c82 => ?_) (fun c82 => ?_)
  · replace h := (if_pos c82).symm.trans h
    exact sf_vretW (pc := 103) C dX3_copyFrom_103 h
  · replace h := (if_neg c82).symm.trans h
    refine sf_aload_n (pc := 85) C 0 dX3_copyFrom_85 rfl ?_
    refine sf_getr (pc := 86) C (sf_kL0 hc) (sf_shL hc).1.1 rfl fl_3_24 dX3_copyFrom_86 ?_
    refine sf_iload_n (pc := 89) C 2 dX3_copyFrom_89 rfl ?_
    refine sf_aload_n (pc := 90) C 1 dX3_copyFrom_90 rfl ?_
    refine sf_getr (pc := 91) C (sf_kL0 hc1) (sf_shL hc1).1.1 rfl fl_3_24 dX3_copyFrom_91 ?_
    refine sf_iload_n (pc := 94) C 2 dX3_copyFrom_94 rfl ?_
    obtain ⟨v95, e95, h⟩ := sf_ob h
    refine sf_iald (pc := 95) C (sf_kL hc1 5 (by decide)) (sf_shL hc1).1.2.2.2.2.2 e95 dX3_copyFrom_95 ?_
    obtain ⟨s96, e96, h⟩ := sf_ob h
    refine sf_iast (pc := 96) C (sf_kL hc 5 (by decide)) (sf_shL hc).1.2.2.2.2.2 e96 dX3_copyFrom_96 ?_
    refine sf_iinc (v := (x2 + 1)) (lv' := [(2, .int (x2 + 1)), (0, .ref (V.2.1 c)), (1, .ref (V.2.1 c1))]) (pc := 97) C 2 dX3_copyFrom_97 rfl rfl (by decide) rfl ?_
    refine sf_goto (tgt := 80) (pc := 100) C dX3_copyFrom_100 rfl ?_
    refine sf_sub [1, 2, 0] rfl ?_
    exact hk80 _ _ h
set_option maxHeartbeats 4000000 in
set_option maxRecDepth 100000 in
theorem w3_copyFrom_L80 {X : sf_X} {V : sf_V} {c : Nat} {c1 : Nat} (hc : sf_isL c) (hc1 : sf_isL c1) {s' : sf_Sg} (C : sf_C X V cX3_copyFrom 3 RX3 none 0) : ∀  (s : sf_Sg) (x2 : Int32), f3_copyFrom_L80 c c1 s x2 = some s' → sf_G X V 3 (sf_Q X V (sf_Qv V s')) s 80 [(0, .ref (V.2.1 c)), (1, .ref (V.2.1 c1)), (2, .int x2)] [] :=
  sf_it_ind (fun (k : sf_Sg → Int32 → Option sf_Sg) => ∀  (s : sf_Sg) (x2 : Int32), k s x2 = some s' → sf_G X V 3 (sf_Q X V (sf_Qv V s')) s 80 [(0, .ref (V.2.1 c)), (1, .ref (V.2.1 c1)), (2, .int x2)] []) _ _ (fun s x2 h => by cases h) (fun k hk s x2 h => w3_copyFrom_b80 hc hc1 C hk h) _
set_option maxHeartbeats 4000000 in
set_option maxRecDepth 100000 in
theorem w3_copyFrom_b78 {X : sf_X} {V : sf_V} {c : Nat} {c1 : Nat} (hc : sf_isL c) (hc1 : sf_isL c1) {s' : sf_Sg} (C : sf_C X V cX3_copyFrom 3 RX3 none 0) {s : sf_Sg} (h : f3_copyFrom_b78 c c1 s = some s') : sf_G X V 3 (sf_Q X V (sf_Qv V s')) s 78 [(0, .ref (V.2.1 c)), (1, .ref (V.2.1 c1))] [] := by
  unfold f3_copyFrom_b78 at h
  refine sf_iconst (v := 0) (pc := 78) C dX3_copyFrom_78 (by decide) ?_
  refine sf_istore_n (lv' := [(2, .int (0 : Int32)), (0, .ref (V.2.1 c)), (1, .ref (V.2.1 c1))]) (pc := 79) C dX3_copyFrom_79 (by decide) rfl ?_
  refine sf_sub [1, 2, 0] rfl ?_
  exact w3_copyFrom_L80 hc hc1 C _ _ h
set_option maxHeartbeats 4000000 in
set_option maxRecDepth 100000 in
theorem w3_copyFrom_b18 {X : sf_X} {V : sf_V} {c : Nat} {c1 : Nat} (hc : sf_isL c) (hc1 : sf_isL c1) {s' : sf_Sg} {k18 : sf_Sg → Int32 → Option sf_Sg} (C : sf_C X V cX3_copyFrom 3 RX3 none 0) (hk18 : ∀  (s : sf_Sg) (x2 : Int32), k18 s x2 = some s' → sf_G X V 3 (sf_Q X V (sf_Qv V s')) s 18 [(0, .ref (V.2.1 c)), (1, .ref (V.2.1 c1)), (2, .int x2)] []) {s : sf_Sg} {x2 : Int32} (h : f3_copyFrom_b18 c c1 k18 s x2 = some s') : sf_G X V 3 (sf_Q X V (sf_Qv V s')) s 18 [(0, .ref (V.2.1 c)), (1, .ref (V.2.1 c1)), (2, .int x2)] [] := by
  unfold f3_copyFrom_b18 at h
  refine sf_iload_n (pc := 18) C 2 dX3_copyFrom_18 rfl ?_
  refine sf_bipush (v := 6) (pc := 19) C dX3_copyFrom_19 (by decide) ?_
  refine sf_icmp_ge (tgt := 78) (pc := 21) C dX3_copyFrom_21 rfl (fun c21 => ?_) (fun c21 => ?_)
  · replace h := (if_pos c21).symm.trans h
    refine sf_sub [0, 1] rfl ?_
    exact w3_copyFrom_b78 hc hc1 C h
  · replace h := (if_neg c21).symm.trans h
    refine sf_aload_n (pc := 24) C 0 dX3_copyFrom_24 rfl ?_
    refine sf_getr (pc := 25) C (sf_kL0 hc) (sf_shL hc).1.1 rfl fl_3_9 dX3_copyFrom_25 ?_
    refine sf_iload_n (pc := 28) C 2 dX3_copyFrom_28 rfl ?_
    refine sf_aload_n (pc := 29) C 1 dX3_copyFrom_29 rfl ?_
    refine sf_getr (pc := 30) C (sf_kL0 hc1) (sf_shL hc1).1.1 rfl fl_3_9 dX3_copyFrom_30 ?_
    refine sf_iload_n (pc := 33) C 2 dX3_copyFrom_33 rfl ?_
    obtain ⟨v34, e34, h⟩ := sf_ob h
    refine sf_iald (pc := 34) C (sf_kL hc1 1 (by decide)) (sf_shL hc1).1.2.1 e34 dX3_copyFrom_34 ?_
    obtain ⟨s35, e35, h⟩ := sf_ob h
    refine sf_iast (pc := 35) C (sf_kL hc 1 (by decide)) (sf_shL hc).1.2.1 e35 dX3_copyFrom_35 ?_
    refine sf_aload_n (pc := 36) C 0 dX3_copyFrom_36 rfl ?_
    refine sf_getr (pc := 37) C (sf_kL0 hc) (sf_shL hc).1.1 rfl fl_3_15 dX3_copyFrom_37 ?_
    refine sf_iload_n (pc := 40) C 2 dX3_copyFrom_40 rfl ?_
    refine sf_aload_n (pc := 41) C 1 dX3_copyFrom_41 rfl ?_
    refine sf_getr (pc := 42) C (sf_kL0 hc1) (sf_shL hc1).1.1 rfl fl_3_15 dX3_copyFrom_42 ?_
    refine sf_iload_n (pc := 45) C 2 dX3_copyFrom_45 rfl ?_
    obtain ⟨v46, e46, h⟩ := sf_ob h
    refine sf_iald (pc := 46) C (sf_kL hc1 2 (by decide)) (sf_shL hc1).1.2.2.1 e46 dX3_copyFrom_46 ?_
    obtain ⟨s47, e47, h⟩ := sf_ob h
    refine sf_iast (pc := 47) C (sf_kL hc 2 (by decide)) (sf_shL hc).1.2.2.1 e47 dX3_copyFrom_47 ?_
    refine sf_aload_n (pc := 48) C 0 dX3_copyFrom_48 rfl ?_
    refine sf_getr (pc := 49) C (sf_kL0 hc) (sf_shL hc).1.1 rfl fl_3_18 dX3_copyFrom_49 ?_
    refine sf_iload_n (pc := 52) C 2 dX3_copyFrom_52 rfl ?_
    refine sf_aload_n (pc := 53) C 1 dX3_copyFrom_53 rfl ?_
    refine sf_getr (pc := 54) C (sf_kL0 hc1) (sf_shL hc1).1.1 rfl fl_3_18 dX3_copyFrom_54 ?_
    refine sf_iload_n (pc := 57) C 2 dX3_copyFrom_57 rfl ?_
    obtain ⟨v58, e58, h⟩ := sf_ob h
    refine sf_iald (pc := 58) C (sf_kL hc1 3 (by decide)) (sf_shL hc1).1.2.2.2.1 e58 dX3_copyFrom_58 ?_
    obtain ⟨s59, e59, h⟩ := sf_ob h
    refine sf_iast (pc := 59) C (sf_kL hc 3 (by decide)) (sf_shL hc).1.2.2.2.1 e59 dX3_copyFrom_59 ?_
    refine sf_aload_n (pc := 60) C 0 dX3_copyFrom_60 rfl ?_
    refine sf_getr (pc := 61) C (sf_kL0 hc) (sf_shL hc).1.1 rfl fl_3_21 dX3_copyFrom_61 ?_
    refine sf_iload_n (pc := 64) C 2 dX3_copyFrom_64 rfl ?_
    refine sf_aload_n (pc := 65) C 1 dX3_copyFrom_65 rfl ?_
    refine sf_getr (pc := 66) C (sf_kL0 hc1) (sf_shL hc1).1.1 rfl fl_3_21 dX3_copyFrom_66 ?_
    refine sf_iload_n (pc := 69) C 2 dX3_copyFrom_69 rfl ?_
    obtain ⟨v70, e70, h⟩ := sf_ob h
    refine sf_iald (pc := 70) C (sf_kL hc1 4 (by decide)) (sf_shL hc1).1.2.2.2.2.1 e70 dX3_copyFrom_70 ?_
    obtain ⟨s71, e71, h⟩ := sf_ob h
    refine sf_iast (pc := 71) C (sf_kL hc 4 (by decide)) (sf_shL hc).1.2.2.2.2.1 e71 dX3_copyFrom_71 ?_
    refine sf_iinc (v := (x2 + 1)) (lv' := [(2, .int (x2 + 1)), (0, .ref (V.2.1 c)), (1, .ref (V.2.1 c1))]) (pc := 72) C 2 dX3_copyFrom_72 rfl rfl (by decide) rfl ?_
    refine sf_goto (tgt := 18) (pc := 75) C dX3_copyFrom_75 rfl ?_
    refine sf_sub [1, 2, 0] rfl ?_
    exact hk18 _ _ h
set_option maxHeartbeats 4000000 in
set_option maxRecDepth 100000 in
theorem w3_copyFrom_L18 {X : sf_X} {V : sf_V} {c : Nat} {c1 : Nat} (hc : sf_isL c) (hc1 : sf_isL c1) {s' : sf_Sg} (C : sf_C X V cX3_copyFrom 3 RX3 none 0) : ∀  (s : sf_Sg) (x2 : Int32), f3_copyFrom_L18 c c1 s x2 = some s' → sf_G X V 3 (sf_Q X V (sf_Qv V s')) s 18 [(0, .ref (V.2.1 c)), (1, .ref (V.2.1 c1)), (2, .int x2)] [] :=
  sf_it_ind (fun (k : sf_Sg → Int32 → Option sf_Sg) => ∀  (s : sf_Sg) (x2 : Int32), k s x2 = some s' → sf_G X V 3 (sf_Q X V (sf_Qv V s')) s 18 [(0, .ref (V.2.1 c)), (1, .ref (V.2.1 c1)), (2, .int x2)] []) _ _ (fun s x2 h => by cases h) (fun k hk s x2 h => w3_copyFrom_b18 hc hc1 C hk h) _
set_option maxHeartbeats 4000000 in
set_option maxRecDepth 100000 in
theorem w3_copyFrom_b0 {X : sf_X} {V : sf_V} {c : Nat} {c1 : Nat} (hc : sf_isL c) (hc1 : sf_isL c1) {s' : sf_Sg} (C : sf_C X V cX3_copyFrom 3 RX3 none 0) {s : sf_Sg} (h : f3_copyFrom_b0 c c1 s = some s') : sf_G X V 3 (sf_Q X V (sf_Qv V s')) s 0 [(0, .ref (V.2.1 c)), (1, .ref (V.2.1 c1))] [] := by
  unfold f3_copyFrom_b0 at h
  refine sf_aload_n (pc := 0) C 0 dX3_copyFrom_0 rfl ?_
  refine sf_aload_n (pc := 1) C 1 dX3_copyFrom_1 rfl ?_
  refine sf_get (pc := 2) C (sf_kL0 hc1) (sf_shL hc1).1.1 rfl fl_3_27 dX3_copyFrom_2 ?_
  refine sf_put (pc := 5) C (sf_kL0 hc) (sf_shL hc).1.1 rfl fw_3_27 rfl rfl dX3_copyFrom_5 ?_
  refine sf_aload_n (pc := 8) C 0 dX3_copyFrom_8 rfl ?_
  refine sf_aload_n (pc := 9) C 1 dX3_copyFrom_9 rfl ?_
  refine sf_get (pc := 10) C (sf_kL0 hc1) (sf_shL hc1).1.1 rfl fl_3_36 dX3_copyFrom_10 ?_
  refine sf_put (pc := 13) C (sf_kL0 hc) (sf_shL hc).1.1 rfl fw_3_36 rfl rfl dX3_copyFrom_13 ?_
  refine sf_iconst (v := 0) (pc := 16) C dX3_copyFrom_16 (by decide) ?_
  refine sf_istore_n (lv' := [(2, .int (0 : Int32)), (0, .ref (V.2.1 c)), (1, .ref (V.2.1 c1))]) (pc := 17) C dX3_copyFrom_17 (by decide) rfl ?_
  refine sf_sub [1, 2, 0] rfl ?_
  exact w3_copyFrom_L18 hc hc1 C _ _ h
set_option maxHeartbeats 4000000 in
set_option maxRecDepth 100000 in
theorem k3_copyFrom {l : Launch} {V : sf_V} {c : Nat} {c1 : Nat} (hc : sf_isL c) (hc1 : sf_isL c1) {s : sf_Sg} {s' : sf_Sg} (h : f3_copyFrom c c1 s = some s') : sf_M l V yX3_copyFrom (.code yX3_copyFrom cX3_copyFrom 3 none) 0 [.ref (V.2.1 c), .ref (V.2.1 c1)] s (sf_Qv V s') := by
  refine sf_enter (by decide) (Nat.le_of_ble_eq_true rfl) (fun X hX C => ?_)
  refine sf_sub [0, 1] rfl ?_
  exact w3_copyFrom_b0 hc hc1 (show sf_C X V cX3_copyFrom 3 RX3 none 0 from C)  h
set_option maxHeartbeats 4000000 in
set_option maxRecDepth 100000 in
theorem w4_add_b0 {X : sf_X} {V : sf_V} {c1 : Nat} (hc1 : sf_isL c1) {s' : sf_Sg} (C : sf_C X V cX4_add 2 RX4 none 1) {s : sf_Sg} (h : f4_add_b0 c1 s = some s') : sf_G X V 2 (sf_Q X V (sf_Qv V s')) s 0 [(0, .ref (V.2.1 27)), (1, .ref (V.2.1 c1))] [] := by
  unfold f4_add_b0 at h
  refine sf_aload_n (pc := 0) C 0 dX4_add_0 rfl ?_
  refine sf_getr (pc := 1) C nk_27 sh_27 rfl fl_4_11 dX4_add_1 ?_
  refine sf_aload_n (pc := 4) C 0 dX4_add_4 rfl ?_
  refine sf_get (pc := 5) C nk_27 sh_27 rfl fl_4_22 dX4_add_5 ?_
  obtain ⟨j8, e8, h⟩ := sf_ob h
  refine sf_aald (pc := 8) C nk_28 sh_28 e8 dX4_add_8 ?_
  refine sf_aload_n (pc := 9) C 1 dX4_add_9 rfl ?_
  obtain ⟨s10, e10, h⟩ := sf_ob h
  refine sf_callVv (pc := 10) C (As := [.ref (V.2.1 c1)]) (sf_kL0 (sf_Lp (sf_ix_of e8).2.2)) (sf_shL (sf_Lp (sf_ix_of e8).2.2)).1.1 rfl yk_X3_copyFrom cl_4_25 (k3_copyFrom (sf_Lp (sf_ix_of e8).2.2) hc1 e10) (by decide) rfl (Nat.le_of_ble_eq_true rfl) rfl dX4_add_10 ?_
  refine sf_aload_n (pc := 13) C 0 dX4_add_13 rfl ?_
  refine sf_aload_n (pc := 14) C 0 dX4_add_14 rfl ?_
  refine sf_get (pc := 15) C nk_27 sh_27 rfl fl_4_22 dX4_add_15 ?_
  refine sf_iconst (v := 1) (pc := 18) C dX4_add_18 (by decide) ?_
  refine sf_iadd (pc := 19) C dX4_add_19 ?_
  refine sf_bipush (v := 16) (pc := 20) C dX4_add_20 (by decide) ?_
  refine sf_irem (pc := 22) C dX4_add_22 (by decide) ?_
  refine sf_put (pc := 23) C nk_27 sh_27 rfl fw_4_22 rfl rfl dX4_add_23 ?_
  refine sf_aload_n (pc := 26) C 0 dX4_add_26 rfl ?_
  refine sf_aload_n (pc := 27) C 0 dX4_add_27 rfl ?_
  refine sf_get (pc := 28) C nk_27 sh_27 rfl fl_4_18 dX4_add_28 ?_
  refine sf_iconst (v := 1) (pc := 31) C dX4_add_31 (by decide) ?_
  refine sf_iadd (pc := 32) C dX4_add_32 ?_
  refine sf_bipush (v := 16) (pc := 33) C dX4_add_33 (by decide) ?_
  refine sf_mmin (pc := 35) C jd_4_29 (by decide) (Nat.le_of_ble_eq_true rfl) dX4_add_35 ?_
  refine sf_put (pc := 38) C nk_27 sh_27 rfl fw_4_18 rfl rfl dX4_add_38 ?_
  exact sf_vretW (pc := 41) C dX4_add_41 h
set_option maxHeartbeats 4000000 in
set_option maxRecDepth 100000 in
theorem k4_add {l : Launch} {V : sf_V} {c1 : Nat} (hc1 : sf_isL c1) {s : sf_Sg} {s' : sf_Sg} (h : f4_add c1 s = some s') : sf_M l V yX4_add (.code yX4_add cX4_add 2 none) 1 [.ref (V.2.1 27), .ref (V.2.1 c1)] s (sf_Qv V s') := by
  refine sf_enter (by decide) (Nat.le_of_ble_eq_true rfl) (fun X hX C => ?_)
  refine sf_sub [0, 1] rfl ?_
  exact w4_add_b0 hc1 (show sf_C X V cX4_add 2 RX4 none 1 from C)  h
set_option maxHeartbeats 4000000 in
set_option maxRecDepth 100000 in
theorem w6_soreBehindDay_b0 {X : sf_X} {V : sf_V} {s : sf_Sg} {r : Int32} (C : sf_C X V cX6_soreBehindDay 5 RX6 (some .int) 3) {x1 : Int32} {x2 : Int32} {x3 : Int32} {x4 : Int32} (h : f6_soreBehindDay_b0 s x1 x2 x3 x4 = some r) : sf_G X V 5 (sf_Q X V (sf_Qi V r s)) s 0 [(0, .ref (V.2.1 9)), (1, .int x1), (2, .int x2), (3, .int x3), (4, .int x4)] [] := by
  unfold f6_soreBehindDay_b0 at h
  refine sf_iload_n (pc := 0) C 3 dX6_soreBehindDay_0 rfl ?_
  refine sf_if_ne (tgt := 12) (pc := 1) C dX6_soreBehindDay_1 rfl (fun c1 => ?_) (fun c1 => ?_)
  · replace h := (if_neg c1).symm.trans h
    refine sf_sipush (v := 9999) (pc := 12) C dX6_soreBehindDay_12 (by decide) ?_
    refine sf_iload_n (pc := 15) C 2 dX6_soreBehindDay_15 rfl ?_
    refine sf_aload_n (pc := 16) C 0 dX6_soreBehindDay_16 rfl ?_
    refine sf_iload_n (pc := 17) C 1 dX6_soreBehindDay_17 rfl ?_
    refine sf_iload_n (pc := 18) C 3 dX6_soreBehindDay_18 rfl ?_
    refine sf_iload (pc := 19) C 4 dX6_soreBehindDay_19 rfl ?_
    obtain ⟨v21, e21, h⟩ := sf_ob h
    refine sf_callVi (pc := 21) C (As := [.int x1, .int x3, .int x4]) nk_9 sh_9 rfl yk_X6_gallingOf cl_6_94 (k6_gallingOf e21) (by decide) rfl (Nat.le_of_ble_eq_true rfl) rfl dX6_soreBehindDay_21 ?_
    refine sf_iadd (pc := 24) C dX6_soreBehindDay_24 ?_
    refine sf_mmin (pc := 25) C jd_6_101 (by decide) (Nat.le_of_ble_eq_true rfl) dX6_soreBehindDay_25 ?_
    exact sf_iretR (pc := 28) C dX6_soreBehindDay_28 h
  · replace h := (if_pos c1).symm.trans h
    refine sf_iconst (v := 0) (pc := 4) C dX6_soreBehindDay_4 (by decide) ?_
    refine sf_iload_n (pc := 5) C 2 dX6_soreBehindDay_5 rfl ?_
    refine sf_iconst (v := 3) (pc := 6) C dX6_soreBehindDay_6 (by decide) ?_
    refine sf_isub (pc := 7) C dX6_soreBehindDay_7 ?_
    refine sf_mmax (pc := 8) C jd_6_70 (by decide) (Nat.le_of_ble_eq_true rfl) dX6_soreBehindDay_8 ?_
    exact sf_iretR (pc := 11) C dX6_soreBehindDay_11 h
set_option maxHeartbeats 4000000 in
set_option maxRecDepth 100000 in
theorem k6_soreBehindDay {l : Launch} {V : sf_V} {s : sf_Sg} {x1 : Int32} {x2 : Int32} {x3 : Int32} {x4 : Int32} {r : Int32} (h : f6_soreBehindDay s x1 x2 x3 x4 = some r) : sf_M l V yX6_soreBehindDay (.code yX6_soreBehindDay cX6_soreBehindDay 5 (some .int)) 3 [.ref (V.2.1 9), .int x1, .int x2, .int x3, .int x4] s (sf_Qi V r s) := by
  refine sf_enter (by decide) (Nat.le_of_ble_eq_true rfl) (fun X hX C => ?_)
  refine sf_sub [0, 1, 2, 3, 4] rfl ?_
  exact w6_soreBehindDay_b0 (show sf_C X V cX6_soreBehindDay 5 RX6 (some .int) 3 from C)  h
set_option maxHeartbeats 4000000 in
set_option maxRecDepth 100000 in
theorem w6_passDay_b54 {X : sf_X} {V : sf_V} {s' : sf_Sg} (C : sf_C X V cX6_passDay 2 RX6 none 4) {s : sf_Sg} (h : f6_passDay_b54 s = some s') : sf_G X V 2 (sf_Q X V (sf_Qv V s')) s 54 [(0, .ref (V.2.1 9))] [] := by
  unfold f6_passDay_b54 at h
  refine sf_aload_n (pc := 54) C 0 dX6_passDay_54 rfl ?_
  refine sf_getr (pc := 55) C nk_9 sh_9 rfl fl_6_21 dX6_passDay_55 ?_
  refine sf_dup (pc := 58) C dX6_passDay_58 rfl ?_
  refine sf_get (pc := 59) C nk_16 sh_16 rfl fl_6_91 dX6_passDay_59 ?_
  refine sf_iconst (v := 1) (pc := 62) C dX6_passDay_62 (by decide) ?_
  refine sf_iadd (pc := 63) C dX6_passDay_63 ?_
  refine sf_put (pc := 64) C nk_16 sh_16 rfl fw_6_91 rfl rfl dX6_passDay_64 ?_
  exact sf_vretW (pc := 67) C dX6_passDay_67 h
set_option maxHeartbeats 4000000 in
set_option maxRecDepth 100000 in
theorem w6_passDay_b2 {X : sf_X} {V : sf_V} {s' : sf_Sg} {k2 : sf_Sg → Int32 → Option sf_Sg} (C : sf_C X V cX6_passDay 2 RX6 none 4) (hk2 : ∀  (s : sf_Sg) (x1 : Int32), k2 s x1 = some s' → sf_G X V 2 (sf_Q X V (sf_Qv V s')) s 2 [(0, .ref (V.2.1 9)), (1, .int x1)] []) {s : sf_Sg} {x1 : Int32} (h : f6_passDay_b2 k2 s x1 = some s') : sf_G X V 2 (sf_Q X V (sf_Qv V s')) s 2 [(0, .ref (V.2.1 9)), (1, .int x1)] [] := by
  unfold f6_passDay_b2 at h
  refine sf_iload_n (pc := 2) C 1 dX6_passDay_2 rfl ?_
  refine sf_aload_n (pc := 3) C 0 dX6_passDay_3 rfl ?_
  refine sf_getr (pc := 4) C nk_9 sh_9 rfl fl_6_12 dX6_passDay_4 ?_
  refine sf_get (pc := 7) C nk_10 sh_10 rfl fl_6_58 dX6_passDay_7 ?_
  refine sf_icmp_ge (tgt := 54) (pc := 10) C dX6_passDay_10 rfl (fun c10 => ?_) (fun c10 => ?_)
  · replace h := (if_pos c10).symm.trans h
    refine sf_sub [0] rfl ?_
    exact w6_passDay_b54 C h
  · replace h := (if_neg c10).symm.trans h
    refine sf_aload_n (pc := 13) C 0 dX6_passDay_13 rfl ?_
    refine sf_getr (pc := 14) C nk_9 sh_9 rfl fl_6_21 dX6_passDay_14 ?_
    refine sf_getr (pc := 17) C nk_16 sh_16 rfl fl_6_98 dX6_passDay_17 ?_
    refine sf_iload_n (pc := 20) C 1 dX6_passDay_20 rfl ?_
    refine sf_aload_n (pc := 21) C 0 dX6_passDay_21 rfl ?_
    refine sf_iload_n (pc := 22) C 1 dX6_passDay_22 rfl ?_
    refine sf_aload_n (pc := 23) C 0 dX6_passDay_23 rfl ?_
    refine sf_getr (pc := 24) C nk_9 sh_9 rfl fl_6_21 dX6_passDay_24 ?_
    refine sf_getr (pc := 27) C nk_16 sh_16 rfl fl_6_98 dX6_passDay_27 ?_
    refine sf_iload_n (pc := 30) C 1 dX6_passDay_30 rfl ?_
    obtain ⟨v31, e31, h⟩ := sf_ob h
    refine sf_iald (pc := 31) C nk_21 sh_21 e31 dX6_passDay_31 ?_
    refine sf_aload_n (pc := 32) C 0 dX6_passDay_32 rfl ?_
    refine sf_iload_n (pc := 33) C 1 dX6_passDay_33 rfl ?_
    obtain ⟨v34, e34, h⟩ := sf_ob h
    refine sf_callVi (pc := 34) C (As := [.int x1]) nk_9 sh_9 rfl yk_X6_carriedBy cl_6_47 (k6_carriedBy e34) (by decide) rfl (Nat.le_of_ble_eq_true rfl) rfl dX6_passDay_34 ?_
    refine sf_aload_n (pc := 37) C 0 dX6_passDay_37 rfl ?_
    refine sf_getr (pc := 38) C nk_9 sh_9 rfl fl_6_21 dX6_passDay_38 ?_
    refine sf_get (pc := 41) C nk_16 sh_16 rfl fl_6_91 dX6_passDay_41 ?_
    obtain ⟨v44, e44, h⟩ := sf_ob h
    refine sf_callVi (pc := 44) C (As := [.int x1, .int v31, .int v34, .int (s 16 0)]) nk_9 sh_9 rfl yk_X6_soreBehindDay cl_6_104 (k6_soreBehindDay e44) (by decide) rfl (Nat.le_of_ble_eq_true rfl) rfl dX6_passDay_44 ?_
    obtain ⟨s47, e47, h⟩ := sf_ob h
    refine sf_iast (pc := 47) C nk_21 sh_21 e47 dX6_passDay_47 ?_
    refine sf_iinc (v := (x1 + 1)) (lv' := [(1, .int (x1 + 1)), (0, .ref (V.2.1 9))]) (pc := 48) C 1 dX6_passDay_48 rfl rfl (by decide) rfl ?_
    refine sf_goto (tgt := 2) (pc := 51) C dX6_passDay_51 rfl ?_
    refine sf_sub [1, 0] rfl ?_
    exact hk2 _ _ h
set_option maxHeartbeats 4000000 in
set_option maxRecDepth 100000 in
theorem w6_passDay_L2 {X : sf_X} {V : sf_V} {s' : sf_Sg} (C : sf_C X V cX6_passDay 2 RX6 none 4) : ∀  (s : sf_Sg) (x1 : Int32), f6_passDay_L2 s x1 = some s' → sf_G X V 2 (sf_Q X V (sf_Qv V s')) s 2 [(0, .ref (V.2.1 9)), (1, .int x1)] [] :=
  sf_it_ind (fun (k : sf_Sg → Int32 → Option sf_Sg) => ∀  (s : sf_Sg) (x1 : Int32), k s x1 = some s' → sf_G X V 2 (sf_Q X V (sf_Qv V s')) s 2 [(0, .ref (V.2.1 9)), (1, .int x1)] []) _ _ (fun s x1 h => by cases h) (fun k hk s x1 h => w6_passDay_b2 C hk h) _
set_option maxHeartbeats 4000000 in
set_option maxRecDepth 100000 in
theorem w6_passDay_b0 {X : sf_X} {V : sf_V} {s' : sf_Sg} (C : sf_C X V cX6_passDay 2 RX6 none 4) {s : sf_Sg} (h : f6_passDay_b0 s = some s') : sf_G X V 2 (sf_Q X V (sf_Qv V s')) s 0 [(0, .ref (V.2.1 9))] [] := by
  unfold f6_passDay_b0 at h
  refine sf_iconst (v := 0) (pc := 0) C dX6_passDay_0 (by decide) ?_
  refine sf_istore_n (lv' := [(1, .int (0 : Int32)), (0, .ref (V.2.1 9))]) (pc := 1) C dX6_passDay_1 (by decide) rfl ?_
  refine sf_sub [1, 0] rfl ?_
  exact w6_passDay_L2 C _ _ h
set_option maxHeartbeats 4000000 in
set_option maxRecDepth 100000 in
theorem k6_passDay {l : Launch} {V : sf_V} {s : sf_Sg} {s' : sf_Sg} (h : f6_passDay s = some s') : sf_M l V yX6_passDay (.code yX6_passDay cX6_passDay 2 none) 4 [.ref (V.2.1 9)] s (sf_Qv V s') := by
  refine sf_enter (by decide) (Nat.le_of_ble_eq_true rfl) (fun X hX C => ?_)
  refine sf_sub [0] rfl ?_
  exact w6_passDay_b0 (show sf_C X V cX6_passDay 2 RX6 none 4 from C)  h
set_option maxHeartbeats 4000000 in
set_option maxRecDepth 100000 in
theorem w9_day_b43 {X : sf_X} {V : sf_V} {r : Int32} {s' : sf_Sg} (C : sf_C X V cX9_day 4 RX9 (some .int) 5) {s : sf_Sg} (h : f9_day_b43 s = some (r, s')) : sf_G X V 4 (sf_Q X V (sf_Qi V r s')) s 43 [(0, .ref (V.2.1 0))] [] := by
  unfold f9_day_b43 at h
  refine sf_aload_n (pc := 43) C 0 dX9_day_43 rfl ?_
  refine sf_getr (pc := 44) C nk_0 sh_0 rfl fl_9_26 dX9_day_44 ?_
  obtain ⟨v47, e47, h⟩ := sf_ob h
  refine sf_callVi (pc := 47) C (As := []) nk_9 sh_9 rfl yk_X6_galled cl_9_134 (k6_galled e47) (by decide) rfl (Nat.le_of_ble_eq_true rfl) rfl dX9_day_47 ?_
  exact sf_iretW (pc := 50) C dX9_day_50 h
set_option maxHeartbeats 4000000 in
set_option maxRecDepth 100000 in
theorem w9_day_b25 {X : sf_X} {V : sf_V} {r : Int32} {s' : sf_Sg} {k25 : sf_Sg → Int32 → Int32 → Option (Int32 × sf_Sg)} (C : sf_C X V cX9_day 4 RX9 (some .int) 5) (hk25 : ∀  (s : sf_Sg) (x1 : Int32) (x3 : Int32), k25 s x1 x3 = some (r, s') → sf_G X V 4 (sf_Q X V (sf_Qi V r s')) s 25 [(0, .ref (V.2.1 0)), (1, .int x1), (3, .int x3)] []) {s : sf_Sg} {x1 : Int32} {x3 : Int32} (h : f9_day_b25 k25 s x1 x3 = some (r, s')) : sf_G X V 4 (sf_Q X V (sf_Qi V r s')) s 25 [(0, .ref (V.2.1 0)), (1, .int x1), (3, .int x3)] [] := by
  unfold f9_day_b25 at h
  refine sf_iload_n (pc := 25) C 2 dX9_day_25 rfl ?_
  refine sf_iload_n (pc := 26) C 1 dX9_day_26 rfl ?_
  refine sf_icmp_ge (tgt := 43) (pc := 27) C dX9_day_27 rfl (fun c27 => ?_) (fun c27 => ?_)
  · replace h := (if_pos c27).symm.trans h
    refine sf_sub [0] rfl ?_
    exact w9_day_b43 C h
  · replace h := (if_neg c27).symm.trans h
    refine sf_aload_n (pc := 30) C 0 dX9_day_30 rfl ?_
    refine sf_getr (pc := 31) C nk_0 sh_0 rfl fl_9_26 dX9_day_31 ?_
    obtain ⟨s34, e34, h⟩ := sf_ob h
    refine sf_callVv (pc := 34) C (As := []) nk_9 sh_9 rfl yk_X6_passDay cl_9_217 (k6_passDay e34) (by decide) rfl (Nat.le_of_ble_eq_true rfl) rfl dX9_day_34 ?_
    refine sf_iinc (v := (x3 + 1)) (lv' := [(3, .int (x3 + 1)), (0, .ref (V.2.1 0)), (1, .int x1)]) (pc := 37) C 2 dX9_day_37 rfl rfl (by decide) rfl ?_
    refine sf_goto (tgt := 25) (pc := 40) C dX9_day_40 rfl ?_
    refine sf_sub [1, 2, 0] rfl ?_
    exact hk25 _ _ _ h
set_option maxHeartbeats 4000000 in
set_option maxRecDepth 100000 in
theorem w9_day_L25 {X : sf_X} {V : sf_V} {r : Int32} {s' : sf_Sg} (C : sf_C X V cX9_day 4 RX9 (some .int) 5) : ∀  (s : sf_Sg) (x1 : Int32) (x3 : Int32), f9_day_L25 s x1 x3 = some (r, s') → sf_G X V 4 (sf_Q X V (sf_Qi V r s')) s 25 [(0, .ref (V.2.1 0)), (1, .int x1), (3, .int x3)] [] :=
  sf_it_ind (fun (k : sf_Sg → Int32 → Int32 → Option (Int32 × sf_Sg)) => ∀  (s : sf_Sg) (x1 : Int32) (x3 : Int32), k s x1 x3 = some (r, s') → sf_G X V 4 (sf_Q X V (sf_Qi V r s')) s 25 [(0, .ref (V.2.1 0)), (1, .int x1), (3, .int x3)] []) _ _ (fun s x1 x3 h => by cases h) (fun k hk s x1 x3 h => w9_day_b25 C hk h) _
set_option maxHeartbeats 4000000 in
set_option maxRecDepth 100000 in
theorem w9_day_b0 {X : sf_X} {V : sf_V} {r : Int32} {s' : sf_Sg} (C : sf_C X V cX9_day 4 RX9 (some .int) 5) {s : sf_Sg} {x1 : Int32} (h : f9_day_b0 s x1 = some (r, s')) : sf_G X V 4 (sf_Q X V (sf_Qi V r s')) s 0 [(0, .ref (V.2.1 0)), (1, .int x1)] [] := by
  unfold f9_day_b0 at h
  refine sf_aload_n (pc := 0) C 0 dX9_day_0 rfl ?_
  refine sf_iload_n (pc := 1) C 1 dX9_day_1 rfl ?_
  refine sf_callVi (pc := 2) C (As := [.int x1]) nk_0 sh_0 rfl yk_X9_refusalOfDays cl_9_211 (k9_refusalOfDays rfl) (by decide) rfl (Nat.le_of_ble_eq_true rfl) rfl dX9_day_2 ?_
  refine sf_istore_n (lv' := [(2, .int (f9_refusalOfDays s x1)), (0, .ref (V.2.1 0)), (1, .int x1)]) (pc := 5) C dX9_day_5 (by decide) rfl ?_
  refine sf_iload_n (pc := 6) C 0 dX9_day_6 rfl ?_
  refine sf_if_eq (tgt := 12) (pc := 7) C dX9_day_7 rfl (fun c7 => ?_) (fun c7 => ?_)
  · replace h := (if_pos c7).symm.trans h
    refine sf_aload_n (pc := 12) C 1 dX9_day_12 rfl ?_
    refine sf_getr (pc := 13) C nk_0 sh_0 rfl fl_9_56 dX9_day_13 ?_
    refine sf_aload_n (pc := 16) C 1 dX9_day_16 rfl ?_
    refine sf_getr (pc := 17) C nk_0 sh_0 rfl fl_9_38 dX9_day_17 ?_
    obtain ⟨s20, e20, h⟩ := sf_ob h
    refine sf_callVv (pc := 20) C (As := [.ref (V.2.1 16)]) nk_27 sh_27 rfl yk_X4_add cl_9_214 (k4_add sf_L0 e20) (by decide) rfl (Nat.le_of_ble_eq_true rfl) rfl dX9_day_20 ?_
    refine sf_iconst (v := 0) (pc := 23) C dX9_day_23 (by decide) ?_
    refine sf_istore_n (lv' := [(3, .int (0 : Int32)), (2, .int (f9_refusalOfDays s x1)), (0, .ref (V.2.1 0)), (1, .int x1)]) (pc := 24) C dX9_day_24 (by decide) rfl ?_
    refine sf_sub [2, 3, 0] rfl ?_
    exact w9_day_L25 C _ _ _ h
  · replace h := (if_neg c7).symm.trans h
    refine sf_iload_n (pc := 10) C 0 dX9_day_10 rfl ?_
    exact sf_iretW (pc := 11) C dX9_day_11 h
set_option maxHeartbeats 4000000 in
set_option maxRecDepth 100000 in
theorem k9_day {l : Launch} {V : sf_V} {s : sf_Sg} {x1 : Int32} {r : Int32} {s' : sf_Sg} (h : f9_day s x1 = some (r, s')) : sf_M l V yX9_day (.code yX9_day cX9_day 4 (some .int)) 5 [.ref (V.2.1 0), .int x1] s (sf_Qi V r s') := by
  refine sf_enter (by decide) (Nat.le_of_ble_eq_true rfl) (fun X hX C => ?_)
  refine sf_sub [0, 1] rfl ?_
  exact w9_day_b0 (show sf_C X V cX9_day 4 RX9 (some .int) 5 from C)  h
set_option maxHeartbeats 4000000 in
set_option maxRecDepth 100000 in
theorem w3_putOn_b0 {X : sf_X} {V : sf_V} {c : Nat} (hc : sf_isL c) {s' : sf_Sg} (C : sf_C X V cX3_putOn 3 RX3 none 0) {s : sf_Sg} {x1 : Int32} {x2 : Int32} (h : f3_putOn_b0 c s x1 x2 = some s') : sf_G X V 3 (sf_Q X V (sf_Qv V s')) s 0 [(0, .ref (V.2.1 c)), (1, .int x1), (2, .int x2)] [] := by
  unfold f3_putOn_b0 at h
  refine sf_aload_n (pc := 0) C 0 dX3_putOn_0 rfl ?_
  refine sf_getr (pc := 1) C (sf_kL0 hc) (sf_shL hc).1.1 rfl fl_3_18 dX3_putOn_1 ?_
  refine sf_iload_n (pc := 4) C 1 dX3_putOn_4 rfl ?_
  refine sf_iload_n (pc := 5) C 2 dX3_putOn_5 rfl ?_
  obtain ⟨s6, e6, h⟩ := sf_ob h
  refine sf_iast (pc := 6) C (sf_kL hc 3 (by decide)) (sf_shL hc).1.2.2.2.1 e6 dX3_putOn_6 ?_
  exact sf_vretW (pc := 7) C dX3_putOn_7 h
set_option maxHeartbeats 4000000 in
set_option maxRecDepth 100000 in
theorem k3_putOn {l : Launch} {V : sf_V} {c : Nat} (hc : sf_isL c) {s : sf_Sg} {x1 : Int32} {x2 : Int32} {s' : sf_Sg} (h : f3_putOn c s x1 x2 = some s') : sf_M l V yX3_putOn (.code yX3_putOn cX3_putOn 3 none) 0 [.ref (V.2.1 c), .int x1, .int x2] s (sf_Qv V s') := by
  refine sf_enter (by decide) (Nat.le_of_ble_eq_true rfl) (fun X hX C => ?_)
  refine sf_sub [0, 1, 2] rfl ?_
  exact w3_putOn_b0 hc (show sf_C X V cX3_putOn 3 RX3 none 0 from C)  h
set_option maxHeartbeats 4000000 in
set_option maxRecDepth 100000 in
theorem w9_take_b0 {X : sf_X} {V : sf_V} {r : Int32} {s' : sf_Sg} (C : sf_C X V cX9_take 3 RX9 (some .int) 4) {s : sf_Sg} {x1 : Int32} {x2 : Int32} (h : f9_take_b0 s x1 x2 = some (r, s')) : sf_G X V 3 (sf_Q X V (sf_Qi V r s')) s 0 [(0, .ref (V.2.1 0)), (1, .int x1), (2, .int x2)] [] := by
  unfold f9_take_b0 at h
  refine sf_aload_n (pc := 0) C 0 dX9_take_0 rfl ?_
  refine sf_getr (pc := 1) C nk_0 sh_0 rfl fl_9_33 dX9_take_1 ?_
  refine sf_iload_n (pc := 4) C 1 dX9_take_4 rfl ?_
  refine sf_callVi (pc := 5) C (As := [.int x1]) nk_10 sh_10 rfl yk_X7_hasBurden cl_9_162 (k7_hasBurden sf_S1 rfl) (by decide) rfl (Nat.le_of_ble_eq_true rfl) rfl dX9_take_5 ?_
  refine sf_if_eq (tgt := 22) (pc := 8) C dX9_take_8 rfl (fun c8 => ?_) (fun c8 => ?_)
  · replace h := (if_pos c8).symm.trans h
    refine sf_ldc (v := -1000000001) (pc := 22) C dX9_take_22 tm_501 ?_
    exact sf_iretW (pc := 24) C dX9_take_24 h
  · replace h := (if_neg c8).symm.trans h
    refine sf_aload_n (pc := 11) C 0 dX9_take_11 rfl ?_
    refine sf_getr (pc := 12) C nk_0 sh_0 rfl fl_9_33 dX9_take_12 ?_
    refine sf_iload_n (pc := 15) C 2 dX9_take_15 rfl ?_
    refine sf_callVi (pc := 16) C (As := [.int x2]) nk_10 sh_10 rfl yk_X7_hasBack cl_9_184 (k7_hasBack sf_S1 rfl) (by decide) rfl (Nat.le_of_ble_eq_true rfl) rfl dX9_take_16 ?_
    refine sf_if_ne (tgt := 25) (pc := 19) C dX9_take_19 rfl (fun c19 => ?_) (fun c19 => ?_)
    · replace h := (if_neg c19).symm.trans h
      refine sf_aload_n (pc := 25) C 0 dX9_take_25 rfl ?_
      refine sf_getr (pc := 26) C nk_0 sh_0 rfl fl_9_38 dX9_take_26 ?_
      refine sf_iload_n (pc := 29) C 1 dX9_take_29 rfl ?_
      obtain ⟨v30, e30, h⟩ := sf_ob h
      refine sf_callVi (pc := 30) C (As := [.int x1]) nk_16 sh_16 rfl yk_X3_isCarried cl_9_220 (k3_isCarried sf_L0 e30) (by decide) rfl (Nat.le_of_ble_eq_true rfl) rfl dX9_take_30 ?_
      refine sf_if_eq (tgt := 39) (pc := 33) C dX9_take_33 rfl (fun c33 => ?_) (fun c33 => ?_)
      · replace h := (if_pos c33).symm.trans h
        refine sf_aload_n (pc := 39) C 0 dX9_take_39 rfl ?_
        refine sf_getr (pc := 40) C nk_0 sh_0 rfl fl_9_56 dX9_take_40 ?_
        refine sf_aload_n (pc := 43) C 0 dX9_take_43 rfl ?_
        refine sf_getr (pc := 44) C nk_0 sh_0 rfl fl_9_38 dX9_take_44 ?_
        obtain ⟨s47, e47, h⟩ := sf_ob h
        refine sf_callVv (pc := 47) C (As := [.ref (V.2.1 16)]) nk_27 sh_27 rfl yk_X4_add cl_9_214 (k4_add sf_L0 e47) (by decide) rfl (Nat.le_of_ble_eq_true rfl) rfl dX9_take_47 ?_
        refine sf_aload_n (pc := 50) C 0 dX9_take_50 rfl ?_
        refine sf_getr (pc := 51) C nk_0 sh_0 rfl fl_9_38 dX9_take_51 ?_
        refine sf_iload_n (pc := 54) C 1 dX9_take_54 rfl ?_
        refine sf_iload_n (pc := 55) C 2 dX9_take_55 rfl ?_
        obtain ⟨s56, e56, h⟩ := sf_ob h
        refine sf_callVv (pc := 56) C (As := [.int x1, .int x2]) nk_16 sh_16 rfl yk_X3_putOn cl_9_224 (k3_putOn sf_L0 e56) (by decide) rfl (Nat.le_of_ble_eq_true rfl) rfl dX9_take_56 ?_
        refine sf_aload_n (pc := 59) C 0 dX9_take_59 rfl ?_
        refine sf_getr (pc := 60) C nk_0 sh_0 rfl fl_9_26 dX9_take_60 ?_
        refine sf_iload_n (pc := 63) C 2 dX9_take_63 rfl ?_
        obtain ⟨v64, e64, h⟩ := sf_ob h
        refine sf_callVi (pc := 64) C (As := [.int x2]) nk_9 sh_9 rfl yk_X6_gallingToday cl_9_196 (k6_gallingToday e64) (by decide) rfl (Nat.le_of_ble_eq_true rfl) rfl dX9_take_64 ?_
        exact sf_iretW (pc := 67) C dX9_take_67 h
      · replace h := (if_neg c33).symm.trans h
        refine sf_ldc (v := -1000000003) (pc := 36) C dX9_take_36 tm_532 ?_
        exact sf_iretW (pc := 38) C dX9_take_38 h
    · replace h := (if_pos c19).symm.trans h
      refine sf_ldc (v := -1000000001) (pc := 22) C dX9_take_22 tm_501 ?_
      exact sf_iretW (pc := 24) C dX9_take_24 h
set_option maxHeartbeats 4000000 in
set_option maxRecDepth 100000 in
theorem k9_take {l : Launch} {V : sf_V} {s : sf_Sg} {x1 : Int32} {x2 : Int32} {r : Int32} {s' : sf_Sg} (h : f9_take s x1 x2 = some (r, s')) : sf_M l V yX9_take (.code yX9_take cX9_take 3 (some .int)) 4 [.ref (V.2.1 0), .int x1, .int x2] s (sf_Qi V r s') := by
  refine sf_enter (by decide) (Nat.le_of_ble_eq_true rfl) (fun X hX C => ?_)
  refine sf_sub [0, 1, 2] rfl ?_
  exact w9_take_b0 (show sf_C X V cX9_take 3 RX9 (some .int) 4 from C)  h
set_option maxHeartbeats 4000000 in
set_option maxRecDepth 100000 in
theorem w3_canJoin_b30 {X : sf_X} {V : sf_V} {c : Nat} (hc : sf_isL c) {s : sf_Sg} {r : Int32} (C : sf_C X V cX3_canJoin 3 RX3 (some .boolean) 1) (h : f3_canJoin_b30 c s = some r) : sf_G X V 3 (sf_Q X V (sf_Qi V r s)) s 30 [] [] := by
  unfold f3_canJoin_b30 at h
  refine sf_iconst (v := 0) (pc := 30) C dX3_canJoin_30 (by decide) ?_
  exact sf_zretR (pc := 31) C (by first | rfl | exact sf_nb_in _ _ _) dX3_canJoin_31 h
set_option maxHeartbeats 4000000 in
set_option maxRecDepth 100000 in
theorem w3_canJoin_b0 {X : sf_X} {V : sf_V} {c : Nat} (hc : sf_isL c) {s : sf_Sg} {r : Int32} (C : sf_C X V cX3_canJoin 3 RX3 (some .boolean) 1) {x1 : Int32} {x2 : Int32} (h : f3_canJoin_b0 c s x1 x2 = some r) : sf_G X V 3 (sf_Q X V (sf_Qi V r s)) s 0 [(0, .ref (V.2.1 c)), (1, .int x1), (2, .int x2)] [] := by
  unfold f3_canJoin_b0 at h
  refine sf_aload_n (pc := 0) C 0 dX3_canJoin_0 rfl ?_
  refine sf_iload_n (pc := 1) C 1 dX3_canJoin_1 rfl ?_
  obtain ⟨v2, e2, h⟩ := sf_ob h
  refine sf_callVi (pc := 2) C (As := [.int x1]) (sf_kL0 hc) (sf_shL hc).1.1 rfl yk_X3_isCarried cl_3_42 (k3_isCarried hc e2) (by decide) rfl (Nat.le_of_ble_eq_true rfl) rfl dX3_canJoin_2 ?_
  refine sf_if_eq (tgt := 30) (pc := 5) C dX3_canJoin_5 rfl (fun c5 => ?_) (fun c5 => ?_)
  · replace h := (if_pos c5).symm.trans h
    refine sf_sub [] rfl ?_
    exact w3_canJoin_b30 hc C h
  · replace h := (if_neg c5).symm.trans h
    refine sf_aload_n (pc := 8) C 0 dX3_canJoin_8 rfl ?_
    refine sf_iload_n (pc := 9) C 1 dX3_canJoin_9 rfl ?_
    obtain ⟨v10, e10, h⟩ := sf_ob h
    refine sf_callVi (pc := 10) C (As := [.int x1]) (sf_kL0 hc) (sf_shL hc).1.1 rfl yk_X3_isShared cl_3_46 (k3_isShared hc e10) (by decide) rfl (Nat.le_of_ble_eq_true rfl) rfl dX3_canJoin_10 ?_
    refine sf_if_ne (tgt := 30) (pc := 13) C dX3_canJoin_13 rfl (fun c13 => ?_) (fun c13 => ?_)
    · replace h := (if_neg c13).symm.trans h
      refine sf_sub [] rfl ?_
      exact w3_canJoin_b30 hc C h
    · replace h := (if_pos c13).symm.trans h
      refine sf_aload_n (pc := 16) C 0 dX3_canJoin_16 rfl ?_
      refine sf_getr (pc := 17) C (sf_kL0 hc) (sf_shL hc).1.1 rfl fl_3_18 dX3_canJoin_17 ?_
      refine sf_iload_n (pc := 20) C 1 dX3_canJoin_20 rfl ?_
      obtain ⟨v21, e21, h⟩ := sf_ob h
      refine sf_iald (pc := 21) C (sf_kL hc 3 (by decide)) (sf_shL hc).1.2.2.2.1 e21 dX3_canJoin_21 ?_
      refine sf_iload_n (pc := 22) C 2 dX3_canJoin_22 rfl ?_
      refine sf_icmp_eq (tgt := 30) (pc := 23) C dX3_canJoin_23 rfl (fun c23 => ?_) (fun c23 => ?_)
      · replace h := (if_pos c23).symm.trans h
        refine sf_sub [] rfl ?_
        exact w3_canJoin_b30 hc C h
      · replace h := (if_neg c23).symm.trans h
        refine sf_iconst (v := 1) (pc := 26) C dX3_canJoin_26 (by decide) ?_
        refine sf_goto (tgt := 31) (pc := 27) C dX3_canJoin_27 rfl ?_
        exact sf_zretR (pc := 31) C (by first | rfl | exact sf_nb_in _ _ _) dX3_canJoin_31 h
set_option maxHeartbeats 4000000 in
set_option maxRecDepth 100000 in
theorem k3_canJoin {l : Launch} {V : sf_V} {c : Nat} (hc : sf_isL c) {s : sf_Sg} {x1 : Int32} {x2 : Int32} {r : Int32} (h : f3_canJoin c s x1 x2 = some r) : sf_M l V yX3_canJoin (.code yX3_canJoin cX3_canJoin 3 (some .boolean)) 1 [.ref (V.2.1 c), .int x1, .int x2] s (sf_Qi V r s) := by
  refine sf_enter (by decide) (Nat.le_of_ble_eq_true rfl) (fun X hX C => ?_)
  refine sf_sub [0, 1, 2] rfl ?_
  exact w3_canJoin_b0 hc (show sf_C X V cX3_canJoin 3 RX3 (some .boolean) 1 from C)  h
set_option maxHeartbeats 4000000 in
set_option maxRecDepth 100000 in
theorem w3_join_b0 {X : sf_X} {V : sf_V} {c : Nat} (hc : sf_isL c) {s' : sf_Sg} (C : sf_C X V cX3_join 3 RX3 none 0) {s : sf_Sg} {x1 : Int32} {x2 : Int32} (h : f3_join_b0 c s x1 x2 = some s') : sf_G X V 3 (sf_Q X V (sf_Qv V s')) s 0 [(0, .ref (V.2.1 c)), (1, .int x1), (2, .int x2)] [] := by
  unfold f3_join_b0 at h
  refine sf_aload_n (pc := 0) C 0 dX3_join_0 rfl ?_
  refine sf_getr (pc := 1) C (sf_kL0 hc) (sf_shL hc).1.1 rfl fl_3_21 dX3_join_1 ?_
  refine sf_iload_n (pc := 4) C 1 dX3_join_4 rfl ?_
  refine sf_iload_n (pc := 5) C 2 dX3_join_5 rfl ?_
  obtain ⟨s6, e6, h⟩ := sf_ob h
  refine sf_iast (pc := 6) C (sf_kL hc 4 (by decide)) (sf_shL hc).1.2.2.2.2.1 e6 dX3_join_6 ?_
  exact sf_vretW (pc := 7) C dX3_join_7 h
set_option maxHeartbeats 4000000 in
set_option maxRecDepth 100000 in
theorem k3_join {l : Launch} {V : sf_V} {c : Nat} (hc : sf_isL c) {s : sf_Sg} {x1 : Int32} {x2 : Int32} {s' : sf_Sg} (h : f3_join c s x1 x2 = some s') : sf_M l V yX3_join (.code yX3_join cX3_join 3 none) 0 [.ref (V.2.1 c), .int x1, .int x2] s (sf_Qv V s') := by
  refine sf_enter (by decide) (Nat.le_of_ble_eq_true rfl) (fun X hX C => ?_)
  refine sf_sub [0, 1, 2] rfl ?_
  exact w3_join_b0 hc (show sf_C X V cX3_join 3 RX3 none 0 from C)  h
set_option maxHeartbeats 4000000 in
set_option maxRecDepth 100000 in
theorem w9_share_b0 {X : sf_X} {V : sf_V} {r : Int32} {s' : sf_Sg} (C : sf_C X V cX9_share 3 RX9 (some .int) 4) {s : sf_Sg} {x1 : Int32} {x2 : Int32} (h : f9_share_b0 s x1 x2 = some (r, s')) : sf_G X V 3 (sf_Q X V (sf_Qi V r s')) s 0 [(0, .ref (V.2.1 0)), (1, .int x1), (2, .int x2)] [] := by
  unfold f9_share_b0 at h
  refine sf_aload_n (pc := 0) C 0 dX9_share_0 rfl ?_
  refine sf_getr (pc := 1) C nk_0 sh_0 rfl fl_9_33 dX9_share_1 ?_
  refine sf_iload_n (pc := 4) C 1 dX9_share_4 rfl ?_
  refine sf_callVi (pc := 5) C (As := [.int x1]) nk_10 sh_10 rfl yk_X7_hasBurden cl_9_162 (k7_hasBurden sf_S1 rfl) (by decide) rfl (Nat.le_of_ble_eq_true rfl) rfl dX9_share_5 ?_
  refine sf_if_eq (tgt := 22) (pc := 8) C dX9_share_8 rfl (fun c8 => ?_) (fun c8 => ?_)
  · replace h := (if_pos c8).symm.trans h
    refine sf_ldc (v := -1000000001) (pc := 22) C dX9_share_22 tm_501 ?_
    exact sf_iretW (pc := 24) C dX9_share_24 h
  · replace h := (if_neg c8).symm.trans h
    refine sf_aload_n (pc := 11) C 0 dX9_share_11 rfl ?_
    refine sf_getr (pc := 12) C nk_0 sh_0 rfl fl_9_33 dX9_share_12 ?_
    refine sf_iload_n (pc := 15) C 2 dX9_share_15 rfl ?_
    refine sf_callVi (pc := 16) C (As := [.int x2]) nk_10 sh_10 rfl yk_X7_hasBack cl_9_184 (k7_hasBack sf_S1 rfl) (by decide) rfl (Nat.le_of_ble_eq_true rfl) rfl dX9_share_16 ?_
    refine sf_if_ne (tgt := 25) (pc := 19) C dX9_share_19 rfl (fun c19 => ?_) (fun c19 => ?_)
    · replace h := (if_neg c19).symm.trans h
      refine sf_aload_n (pc := 25) C 0 dX9_share_25 rfl ?_
      refine sf_getr (pc := 26) C nk_0 sh_0 rfl fl_9_38 dX9_share_26 ?_
      refine sf_iload_n (pc := 29) C 1 dX9_share_29 rfl ?_
      refine sf_iload_n (pc := 30) C 2 dX9_share_30 rfl ?_
      obtain ⟨v31, e31, h⟩ := sf_ob h
      refine sf_callVi (pc := 31) C (As := [.int x1, .int x2]) nk_16 sh_16 rfl yk_X3_canJoin cl_9_228 (k3_canJoin sf_L0 e31) (by decide) rfl (Nat.le_of_ble_eq_true rfl) rfl dX9_share_31 ?_
      refine sf_if_ne (tgt := 40) (pc := 34) C dX9_share_34 rfl (fun c34 => ?_) (fun c34 => ?_)
      · replace h := (if_neg c34).symm.trans h
        refine sf_aload_n (pc := 40) C 0 dX9_share_40 rfl ?_
        refine sf_getr (pc := 41) C nk_0 sh_0 rfl fl_9_56 dX9_share_41 ?_
        refine sf_aload_n (pc := 44) C 0 dX9_share_44 rfl ?_
        refine sf_getr (pc := 45) C nk_0 sh_0 rfl fl_9_38 dX9_share_45 ?_
        obtain ⟨s48, e48, h⟩ := sf_ob h
        refine sf_callVv (pc := 48) C (As := [.ref (V.2.1 16)]) nk_27 sh_27 rfl yk_X4_add cl_9_214 (k4_add sf_L0 e48) (by decide) rfl (Nat.le_of_ble_eq_true rfl) rfl dX9_share_48 ?_
        refine sf_aload_n (pc := 51) C 0 dX9_share_51 rfl ?_
        refine sf_getr (pc := 52) C nk_0 sh_0 rfl fl_9_38 dX9_share_52 ?_
        refine sf_iload_n (pc := 55) C 1 dX9_share_55 rfl ?_
        refine sf_iload_n (pc := 56) C 2 dX9_share_56 rfl ?_
        obtain ⟨s57, e57, h⟩ := sf_ob h
        refine sf_callVv (pc := 57) C (As := [.int x1, .int x2]) nk_16 sh_16 rfl yk_X3_join cl_9_232 (k3_join sf_L0 e57) (by decide) rfl (Nat.le_of_ble_eq_true rfl) rfl dX9_share_57 ?_
        refine sf_aload_n (pc := 60) C 0 dX9_share_60 rfl ?_
        refine sf_getr (pc := 61) C nk_0 sh_0 rfl fl_9_26 dX9_share_61 ?_
        refine sf_iload_n (pc := 64) C 2 dX9_share_64 rfl ?_
        obtain ⟨v65, e65, h⟩ := sf_ob h
        refine sf_callVi (pc := 65) C (As := [.int x2]) nk_9 sh_9 rfl yk_X6_gallingToday cl_9_196 (k6_gallingToday e65) (by decide) rfl (Nat.le_of_ble_eq_true rfl) rfl dX9_share_65 ?_
        exact sf_iretW (pc := 68) C dX9_share_68 h
      · replace h := (if_pos c34).symm.trans h
        refine sf_ldc (v := -1000000003) (pc := 37) C dX9_share_37 tm_532 ?_
        exact sf_iretW (pc := 39) C dX9_share_39 h
    · replace h := (if_pos c19).symm.trans h
      refine sf_ldc (v := -1000000001) (pc := 22) C dX9_share_22 tm_501 ?_
      exact sf_iretW (pc := 24) C dX9_share_24 h
set_option maxHeartbeats 4000000 in
set_option maxRecDepth 100000 in
theorem k9_share {l : Launch} {V : sf_V} {s : sf_Sg} {x1 : Int32} {x2 : Int32} {r : Int32} {s' : sf_Sg} (h : f9_share s x1 x2 = some (r, s')) : sf_M l V yX9_share (.code yX9_share cX9_share 3 (some .int)) 4 [.ref (V.2.1 0), .int x1, .int x2] s (sf_Qi V r s') := by
  refine sf_enter (by decide) (Nat.le_of_ble_eq_true rfl) (fun X hX C => ?_)
  refine sf_sub [0, 1, 2] rfl ?_
  exact w9_share_b0 (show sf_C X V cX9_share 3 RX9 (some .int) 4 from C)  h
