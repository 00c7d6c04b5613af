set_option maxHeartbeats 4000000 in
set_option maxRecDepth 100000 in
theorem w10_weigh_b0 {X : sf_X} {V : sf_V} {r : Int32} {s' : sf_Sg} (C : sf_C X V cX10_weigh 4 RX10 (some .int) 2) {s : sf_Sg} {x1 : Int32} {x2 : Int32} (h : f10_weigh_b0 s x1 x2 = some (r, s')) : sf_G X V 4 (sf_Q X V (sf_Qi V r s')) s 0 [(0, .ref (V.2.1 149)), (1, .int x1), (2, .int x2)] [] := by
  unfold f10_weigh_b0 at h
  refine sf_aload_n (pc := 0) C 0 dX10_weigh_0 rfl ?_
  refine sf_iload_n (pc := 1) C 1 dX10_weigh_1 rfl ?_
  refine sf_callVi (pc := 2) C (As := [.int x1]) nk_149 sh_149 rfl yk_X10_isBurden cl_10_233 (k10_isBurden rfl) (by decide) rfl (Nat.le_of_ble_eq_true rfl) rfl dX10_weigh_2 ?_
  refine sf_if_ne (tgt := 11) (pc := 5) C dX10_weigh_5 rfl (fun c5 => ?_) (fun c5 => ?_)
  · replace h := (if_neg c5).symm.trans h
    refine sf_iload_n (pc := 11) C 2 dX10_weigh_11 rfl ?_
    refine sf_i2l (pc := 12) C dX10_weigh_12 ?_
    refine sf_lconst (v := 1) (pc := 13) C dX10_weigh_13 (by decide) ?_
    refine sf_ldc2 (v := 60) (pc := 14) C dX10_weigh_14 tm_1098 ?_
    refine sf_callSi (pc := 17) C (As := [.long x2.toInt64, .long (1 : Int64), .long (60 : Int64)]) yk_X10_in cl_10_91 (k10_in rfl) (by decide) rfl (Nat.le_of_ble_eq_true rfl) rfl dX10_weigh_17 ?_
    refine sf_if_ne (tgt := 26) (pc := 20) C dX10_weigh_20 rfl (fun c20 => ?_) (fun c20 => ?_)
    · replace h := (if_neg c20).symm.trans h
      refine sf_aload_n (pc := 26) C 0 dX10_weigh_26 rfl ?_
      obtain ⟨s27, e27, h⟩ := sf_ob h
      refine sf_callVv (pc := 27) C (As := []) nk_149 sh_149 rfl yk_X10_remember cl_10_255 (k10_remember e27) (by decide) rfl (Nat.le_of_ble_eq_true rfl) rfl dX10_weigh_27 ?_
      refine sf_aload_n (pc := 30) C 0 dX10_weigh_30 rfl ?_
      refine sf_getr (pc := 31) C nk_149 sh_149 rfl fl_10_25 dX10_weigh_31 ?_
      refine sf_iload_n (pc := 34) C 1 dX10_weigh_34 rfl ?_
      obtain ⟨v35, e35, h⟩ := sf_ob h
      refine sf_iald (pc := 35) C nk_155 sh_155 e35 dX10_weigh_35 ?_
      refine sf_istore_n (lv' := [(3, .int v35), (0, .ref (V.2.1 149)), (1, .int x1), (2, .int x2)]) (pc := 36) C dX10_weigh_36 (by decide) rfl ?_
      refine sf_aload_n (pc := 37) C 1 dX10_weigh_37 rfl ?_
      refine sf_getr (pc := 38) C nk_149 sh_149 rfl fl_10_25 dX10_weigh_38 ?_
      refine sf_iload_n (pc := 41) C 2 dX10_weigh_41 rfl ?_
      refine sf_iload_n (pc := 42) C 3 dX10_weigh_42 rfl ?_
      obtain ⟨s43, e43, h⟩ := sf_ob h
      refine sf_iast (pc := 43) C nk_155 sh_155 e43 dX10_weigh_43 ?_
      refine sf_iload_n (pc := 44) C 0 dX10_weigh_44 rfl ?_
      exact sf_iretW (pc := 45) C dX10_weigh_45 h
    · replace h := (if_pos c20).symm.trans h
      refine sf_ldc (v := -1000000002) (pc := 23) C dX10_weigh_23 tm_940 ?_
      exact sf_iretW (pc := 25) C dX10_weigh_25 h
  · replace h := (if_pos c5).symm.trans h
    refine sf_ldc (v := -1000000001) (pc := 8) C dX10_weigh_8 tm_1069 ?_
    exact sf_iretW (pc := 10) C dX10_weigh_10 h
set_option maxHeartbeats 4000000 in
set_option maxRecDepth 100000 in
theorem k10_weigh {l : Launch} {V : sf_V} {s : sf_Sg} {x1 : Int32} {x2 : Int32} {r : Int32} {s' : sf_Sg} (h : f10_weigh s x1 x2 = some (r, s')) : sf_M l V yX10_weigh (.code yX10_weigh cX10_weigh 4 (some .int)) 2 [.ref (V.2.1 149), .int x1, .int x2] s (sf_Qi V r s') := by
  refine sf_enter (by decide) (Nat.le_of_ble_eq_true rfl) (fun X hX C => ?_)
  refine sf_sub [0, 1, 2] rfl ?_
  exact w10_weigh_b0 (show sf_C X V cX10_weigh 4 RX10 (some .int) 2 from C)  h
set_option maxHeartbeats 4000000 in
set_option maxRecDepth 100000 in
theorem w10_draw_b0 {X : sf_X} {V : sf_V} {r : Int32} {s' : sf_Sg} (C : sf_C X V cX10_draw 2 RX10 (some .int) 0) {s : sf_Sg} {x1 : Int32} (h : f10_draw_b0 s x1 = some (r, s')) : sf_G X V 2 (sf_Q X V (sf_Qi V r s')) s 0 [(0, .ref (V.2.1 149)), (1, .int x1)] [] := by
  unfold f10_draw_b0 at h
  refine sf_aload_n (pc := 0) C 0 dX10_draw_0 rfl ?_
  refine sf_aload_n (pc := 1) C 0 dX10_draw_1 rfl ?_
  refine sf_get (pc := 2) C nk_149 sh_149 rfl fl_10_272 dX10_draw_2 ?_
  refine sf_i2l (pc := 5) C dX10_draw_5 ?_
  refine sf_ldc2 (v := 1103515245) (pc := 6) C dX10_draw_6 tm_1154 ?_
  refine sf_lmul (pc := 9) C dX10_draw_9 ?_
  refine sf_ldc2 (v := 12345) (pc := 10) C dX10_draw_10 tm_1155 ?_
  refine sf_ladd (pc := 13) C dX10_draw_13 ?_
  refine sf_ldc2 (v := 2147483648) (pc := 14) C dX10_draw_14 tm_1156 ?_
  refine sf_lrem (pc := 17) C dX10_draw_17 (by decide) ?_
  refine sf_l2i (pc := 18) C dX10_draw_18 ?_
  refine sf_put (pc := 19) C nk_149 sh_149 rfl fw_10_272 rfl rfl dX10_draw_19 ?_
  refine sf_aload_n (pc := 22) C 0 dX10_draw_22 rfl ?_
  refine sf_get (pc := 23) C nk_149 sh_149 rfl fl_10_272 dX10_draw_23 ?_
  refine sf_ldcw (v := 65536) (pc := 26) C dX10_draw_26 tm_1157 ?_
  refine sf_idiv (pc := 29) C dX10_draw_29 (by decide) ?_
  refine sf_iload_n (pc := 30) C 1 dX10_draw_30 rfl ?_
  obtain ⟨v31, e31, h⟩ := sf_ob h
  refine sf_iremO (pc := 31) C e31 dX10_draw_31 ?_
  exact sf_iretW (pc := 32) C dX10_draw_32 h
set_option maxHeartbeats 4000000 in
set_option maxRecDepth 100000 in
theorem k10_draw {l : Launch} {V : sf_V} {s : sf_Sg} {x1 : Int32} {r : Int32} {s' : sf_Sg} (h : f10_draw s x1 = some (r, s')) : sf_M l V yX10_draw (.code yX10_draw cX10_draw 2 (some .int)) 0 [.ref (V.2.1 149), .int x1] s (sf_Qi V r s') := by
  refine sf_enter (by decide) (Nat.le_of_ble_eq_true rfl) (fun X hX C => ?_)
  refine sf_sub [0, 1] rfl ?_
  exact w10_draw_b0 (show sf_C X V cX10_draw 2 RX10 (some .int) 0 from C)  h
set_option maxHeartbeats 4000000 in
set_option maxRecDepth 100000 in
theorem w10_chance_b81 {X : sf_X} {V : sf_V} {s' : sf_Sg} (C : sf_C X V cX10_chance 4 RX10 none 2) {s : sf_Sg} {x1 : Int32} {x2 : Int32} {x3 : Int32} (h : f10_chance_b81 s x1 x2 x3 = some s') : sf_G X V 4 (sf_Q X V (sf_Qv V s')) s 81 [(0, .ref (V.2.1 149)), (1, .int x1), (2, .int x2), (3, .int x3)] [] := by
  unfold f10_chance_b81 at h
  refine sf_iload_n (pc := 81) C 1 dX10_chance_81 rfl ?_
  refine sf_iconst (v := 2) (pc := 82) C dX10_chance_82 (by decide) ?_
  refine sf_icmp_ne (tgt := 101) (pc := 83) C dX10_chance_83 rfl (fun c83 => ?_) (fun c83 => ?_)
  · replace h := (if_neg c83).symm.trans h
    exact sf_vretW (pc := 101) C dX10_chance_101 h
  · replace h := (if_pos c83).symm.trans h
    refine sf_aload_n (pc := 86) C 0 dX10_chance_86 rfl ?_
    refine sf_iload_n (pc := 87) C 2 dX10_chance_87 rfl ?_
    refine sf_iload_n (pc := 88) C 3 dX10_chance_88 rfl ?_
    obtain ⟨v89, e89, h⟩ := sf_ob h
    refine sf_callVi (pc := 89) C (As := [.int x2, .int x3]) nk_149 sh_149 rfl yk_X10_bears cl_10_180 (k10_bears e89) (by decide) rfl (Nat.le_of_ble_eq_true rfl) rfl dX10_chance_89 ?_
    refine sf_if_eq (tgt := 101) (pc := 92) C dX10_chance_92 rfl (fun c92 => ?_) (fun c92 => ?_)
    · replace h := (if_pos c92).symm.trans h
      exact sf_vretW (pc := 101) C dX10_chance_101 h
    · replace h := (if_neg c92).symm.trans h
      refine sf_aload_n (pc := 95) C 0 dX10_chance_95 rfl ?_
      refine sf_iload_n (pc := 96) C 2 dX10_chance_96 rfl ?_
      refine sf_iload_n (pc := 97) C 3 dX10_chance_97 rfl ?_
      obtain ⟨s98, e98, h⟩ := sf_ob h
      refine sf_callVv (pc := 98) C (As := [.int x2, .int x3]) nk_149 sh_149 rfl yk_X10_downNow cl_10_264 (k10_downNow e98) (by decide) rfl (Nat.le_of_ble_eq_true rfl) rfl dX10_chance_98 ?_
      exact sf_vretW (pc := 101) C dX10_chance_101 h
set_option maxHeartbeats 4000000 in
set_option maxRecDepth 100000 in
theorem w10_chance_b54 {X : sf_X} {V : sf_V} {s' : sf_Sg} (C : sf_C X V cX10_chance 4 RX10 none 2) {s : sf_Sg} {x1 : Int32} {x2 : Int32} {x3 : Int32} (h : f10_chance_b54 s x1 x2 x3 = some s') : sf_G X V 4 (sf_Q X V (sf_Qv V s')) s 54 [(0, .ref (V.2.1 149)), (1, .int x1), (2, .int x2), (3, .int x3)] [] := by
  unfold f10_chance_b54 at h
  refine sf_iload_n (pc := 54) C 1 dX10_chance_54 rfl ?_
  refine sf_iconst (v := 1) (pc := 55) C dX10_chance_55 (by decide) ?_
  refine sf_icmp_ne (tgt := 81) (pc := 56) C dX10_chance_56 rfl (fun c56 => ?_) (fun c56 => ?_)
  · replace h := (if_neg c56).symm.trans h
    exact w10_chance_b81 C h
  · replace h := (if_pos c56).symm.trans h
    refine sf_aload_n (pc := 59) C 0 dX10_chance_59 rfl ?_
    refine sf_iload_n (pc := 60) C 2 dX10_chance_60 rfl ?_
    refine sf_iload_n (pc := 61) C 3 dX10_chance_61 rfl ?_
    obtain ⟨v62, e62, h⟩ := sf_ob h
    refine sf_callVi (pc := 62) C (As := [.int x2, .int x3]) nk_149 sh_149 rfl yk_X10_canShare cl_10_261 (k10_canShare e62) (by decide) rfl (Nat.le_of_ble_eq_true rfl) rfl dX10_chance_62 ?_
    refine sf_if_eq (tgt := 81) (pc := 65) C dX10_chance_65 rfl (fun c65 => ?_) (fun c65 => ?_)
    · replace h := (if_pos c65).symm.trans h
      exact w10_chance_b81 C h
    · replace h := (if_neg c65).symm.trans h
      refine sf_aload_n (pc := 68) C 0 dX10_chance_68 rfl ?_
      refine sf_getr (pc := 69) C nk_149 sh_149 rfl fl_10_25 dX10_chance_69 ?_
      refine sf_bipush (v := 18) (pc := 72) C dX10_chance_72 (by decide) ?_
      refine sf_iload_n (pc := 74) C 2 dX10_chance_74 rfl ?_
      refine sf_iadd (pc := 75) C dX10_chance_75 ?_
      refine sf_iload_n (pc := 76) C 3 dX10_chance_76 rfl ?_
      obtain ⟨s77, e77, h⟩ := sf_ob h
      refine sf_iast (pc := 77) C nk_155 sh_155 e77 dX10_chance_77 ?_
      refine sf_goto (tgt := 101) (pc := 78) C dX10_chance_78 rfl ?_
      exact sf_vretW (pc := 101) C dX10_chance_101 h
set_option maxHeartbeats 4000000 in
set_option maxRecDepth 100000 in
theorem w10_chance_b0 {X : sf_X} {V : sf_V} {s' : sf_Sg} (C : sf_C X V cX10_chance 4 RX10 none 2) {s : sf_Sg} (h : f10_chance_b0 s = some s') : sf_G X V 4 (sf_Q X V (sf_Qv V s')) s 0 [(0, .ref (V.2.1 149))] [] := by
  unfold f10_chance_b0 at h
  refine sf_aload_n (pc := 0) C 0 dX10_chance_0 rfl ?_
  refine sf_iconst (v := 4) (pc := 1) C dX10_chance_1 (by decide) ?_
  obtain ⟨q2, e2, h⟩ := sf_ob h
  refine sf_callVi (pc := 2) C (As := [.int (4 : Int32)]) nk_149 sh_149 rfl yk_X10_draw cl_10_282 (k10_draw e2) (by decide) rfl (Nat.le_of_ble_eq_true rfl) rfl dX10_chance_2 ?_
  refine sf_istore_n (lv' := [(1, .int q2.1), (0, .ref (V.2.1 149))]) (pc := 5) C dX10_chance_5 (by decide) rfl ?_
  refine sf_aload_n (pc := 6) C 1 dX10_chance_6 rfl ?_
  refine sf_aload_n (pc := 7) C 1 dX10_chance_7 rfl ?_
  refine sf_get (pc := 8) C nk_149 sh_149 rfl fl_10_88 dX10_chance_8 ?_
  obtain ⟨q11, e11, h⟩ := sf_ob h
  refine sf_callVi (pc := 11) C (As := [.int (q2.2 149 2)]) nk_149 sh_149 rfl yk_X10_draw cl_10_282 (k10_draw e11) (by decide) rfl (Nat.le_of_ble_eq_true rfl) rfl dX10_chance_11 ?_
  refine sf_istore_n (lv' := [(2, .int q11.1), (1, .int q2.1), (0, .ref (V.2.1 149))]) (pc := 14) C dX10_chance_14 (by decide) rfl ?_
  refine sf_aload_n (pc := 15) C 2 dX10_chance_15 rfl ?_
  refine sf_aload_n (pc := 16) C 2 dX10_chance_16 rfl ?_
  refine sf_get (pc := 17) C nk_149 sh_149 rfl fl_10_95 dX10_chance_17 ?_
  obtain ⟨q20, e20, h⟩ := sf_ob h
  refine sf_callVi (pc := 20) C (As := [.int (q11.2 149 6)]) nk_149 sh_149 rfl yk_X10_draw cl_10_282 (k10_draw e20) (by decide) rfl (Nat.le_of_ble_eq_true rfl) rfl dX10_chance_20 ?_
  refine sf_istore_n (lv' := [(3, .int q20.1), (2, .int q11.1), (1, .int q2.1), (0, .ref (V.2.1 149))]) (pc := 23) C dX10_chance_23 (by decide) rfl ?_
  refine sf_iload_n (pc := 24) C 2 dX10_chance_24 rfl ?_
  refine sf_if_ne (tgt := 54) (pc := 25) C dX10_chance_25 rfl (fun c25 => ?_) (fun c25 => ?_)
  · replace h := (if_neg c25).symm.trans h
    refine sf_sub [3, 2, 1, 0] rfl ?_
    exact w10_chance_b54 C h
  · replace h := (if_pos c25).symm.trans h
    refine sf_aload_n (pc := 28) C 3 dX10_chance_28 rfl ?_
    refine sf_getr (pc := 29) C nk_149 sh_149 rfl fl_10_25 dX10_chance_29 ?_
    refine sf_bipush (v := 12) (pc := 32) C dX10_chance_32 (by decide) ?_
    refine sf_iload_n (pc := 34) C 1 dX10_chance_34 rfl ?_
    refine sf_iadd (pc := 35) C dX10_chance_35 ?_
    obtain ⟨v36, e36, h⟩ := sf_ob h
    refine sf_iald (pc := 36) C nk_155 sh_155 e36 dX10_chance_36 ?_
    refine sf_iconst (v := -1) (pc := 37) C dX10_chance_37 (by decide) ?_
    refine sf_icmp_ne (tgt := 54) (pc := 38) C dX10_chance_38 rfl (fun c38 => ?_) (fun c38 => ?_)
    · replace h := (if_neg c38).symm.trans h
      refine sf_sub [3, 2, 1, 0] rfl ?_
      exact w10_chance_b54 C h
    · replace h := (if_pos c38).symm.trans h
      refine sf_aload_n (pc := 41) C 3 dX10_chance_41 rfl ?_
      refine sf_getr (pc := 42) C nk_149 sh_149 rfl fl_10_25 dX10_chance_42 ?_
      refine sf_bipush (v := 12) (pc := 45) C dX10_chance_45 (by decide) ?_
      refine sf_iload_n (pc := 47) C 1 dX10_chance_47 rfl ?_
      refine sf_iadd (pc := 48) C dX10_chance_48 ?_
      refine sf_iload_n (pc := 49) C 0 dX10_chance_49 rfl ?_
      obtain ⟨s50, e50, h⟩ := sf_ob h
      refine sf_iast (pc := 50) C nk_155 sh_155 e50 dX10_chance_50 ?_
      refine sf_goto (tgt := 101) (pc := 51) C dX10_chance_51 rfl ?_
      exact sf_vretW (pc := 101) C dX10_chance_101 h
set_option maxHeartbeats 4000000 in
set_option maxRecDepth 100000 in
theorem k10_chance {l : Launch} {V : sf_V} {s : sf_Sg} {s' : sf_Sg} (h : f10_chance s = some s') : sf_M l V yX10_chance (.code yX10_chance cX10_chance 4 none) 2 [.ref (V.2.1 149)] s (sf_Qv V s') := by
  refine sf_enter (by decide) (Nat.le_of_ble_eq_true rfl) (fun X hX C => ?_)
  refine sf_sub [0] rfl ?_
  exact w10_chance_b0 (show sf_C X V cX10_chance 4 RX10 none 2 from C)  h
set_option maxHeartbeats 4000000 in
set_option maxRecDepth 100000 in
theorem w10_drift_b41 {X : sf_X} {V : sf_V} {r : Int32} {s' : sf_Sg} {k18 : sf_Sg → Int32 → Int32 → Option (Int32 × sf_Sg)} (C : sf_C X V cX10_drift 4 RX10 (some .int) 5) (hk18 : ∀  (s : sf_Sg) (x1 : Int32) (x3 : Int32), k18 s x1 x3 = some (r, s') → sf_G X V 4 (sf_Q X V (sf_Qi V r s')) s 18 [(0, .ref (V.2.1 149)), (1, .int x1), (3, .int x3)] []) {s : sf_Sg} {x1 : Int32} {x3 : Int32} (h : f10_drift_b41 k18 s x1 x3 = some (r, s')) : sf_G X V 4 (sf_Q X V (sf_Qi V r s')) s 41 [(0, .ref (V.2.1 149)), (1, .int x1), (3, .int x3)] [] := by
  unfold f10_drift_b41 at h
  refine sf_aload_n (pc := 41) C 0 dX10_drift_41 rfl ?_
  obtain ⟨s42, e42, h⟩ := sf_ob h
  refine sf_callVv (pc := 42) C (As := []) nk_149 sh_149 rfl yk_X10_pass cl_10_258 (k10_pass e42) (by decide) rfl (Nat.le_of_ble_eq_true rfl) rfl dX10_drift_42 ?_
  refine sf_iinc (v := (x3 + 1)) (lv' := [(3, .int (x3 + 1)), (0, .ref (V.2.1 149)), (1, .int x1)]) (pc := 45) C 2 dX10_drift_45 rfl rfl (by decide) rfl ?_
  refine sf_goto (tgt := 18) (pc := 48) C dX10_drift_48 rfl ?_
  refine sf_sub [1, 2, 0] rfl ?_
  exact hk18 _ _ _ h
set_option maxHeartbeats 4000000 in
set_option maxRecDepth 100000 in
theorem w10_drift_b51 {X : sf_X} {V : sf_V} {r : Int32} {s' : sf_Sg} (C : sf_C X V cX10_drift 4 RX10 (some .int) 5) {s : sf_Sg} (h : f10_drift_b51 s = some (r, s')) : sf_G X V 4 (sf_Q X V (sf_Qi V r s')) s 51 [(0, .ref (V.2.1 149))] [] := by
  unfold f10_drift_b51 at h
  refine sf_aload_n (pc := 51) C 0 dX10_drift_51 rfl ?_
  obtain ⟨v52, e52, h⟩ := sf_ob h
  refine sf_callVi (pc := 52) C (As := []) nk_149 sh_149 rfl yk_X10_galledOnes cl_10_215 (k10_galledOnes e52) (by decide) rfl (Nat.le_of_ble_eq_true rfl) rfl dX10_drift_52 ?_
  exact sf_iretW (pc := 55) C dX10_drift_55 h
set_option maxHeartbeats 4000000 in
set_option maxRecDepth 100000 in
theorem w10_drift_b18 {X : sf_X} {V : sf_V} {r : Int32} {s' : sf_Sg} {k18 : sf_Sg → Int32 → Int32 → Option (Int32 × sf_Sg)} (C : sf_C X V cX10_drift 4 RX10 (some .int) 5) (hk18 : ∀  (s : sf_Sg) (x1 : Int32) (x3 : Int32), k18 s x1 x3 = some (r, s') → sf_G X V 4 (sf_Q X V (sf_Qi V r s')) s 18 [(0, .ref (V.2.1 149)), (1, .int x1), (3, .int x3)] []) {s : sf_Sg} {x1 : Int32} {x3 : Int32} (h : f10_drift_b18 k18 s x1 x3 = some (r, s')) : sf_G X V 4 (sf_Q X V (sf_Qi V r s')) s 18 [(0, .ref (V.2.1 149)), (1, .int x1), (3, .int x3)] [] := by
  unfold f10_drift_b18 at h
  refine sf_iload_n (pc := 18) C 2 dX10_drift_18 rfl ?_
  refine sf_iload_n (pc := 19) C 1 dX10_drift_19 rfl ?_
  refine sf_icmp_ge (tgt := 51) (pc := 20) C dX10_drift_20 rfl (fun c20 => ?_) (fun c20 => ?_)
  · replace h := (if_pos c20).symm.trans h
    refine sf_sub [0] rfl ?_
    exact w10_drift_b51 C h
  · replace h := (if_neg c20).symm.trans h
    refine sf_aload_n (pc := 23) C 0 dX10_drift_23 rfl ?_
    refine sf_get (pc := 24) C nk_149 sh_149 rfl fl_10_88 dX10_drift_24 ?_
    refine sf_if_le (tgt := 41) (pc := 27) C dX10_drift_27 rfl (fun c27 => ?_) (fun c27 => ?_)
    · replace h := (if_pos c27).symm.trans h
      exact w10_drift_b41 C hk18 h
    · replace h := (if_neg c27).symm.trans h
      refine sf_aload_n (pc := 30) C 0 dX10_drift_30 rfl ?_
      refine sf_get (pc := 31) C nk_149 sh_149 rfl fl_10_95 dX10_drift_31 ?_
      refine sf_if_le (tgt := 41) (pc := 34) C dX10_drift_34 rfl (fun c34 => ?_) (fun c34 => ?_)
      · replace h := (if_pos c34).symm.trans h
        exact w10_drift_b41 C hk18 h
      · replace h := (if_neg c34).symm.trans h
        refine sf_aload_n (pc := 37) C 0 dX10_drift_37 rfl ?_
        obtain ⟨s38, e38, h⟩ := sf_ob h
        refine sf_callVv (pc := 38) C (As := []) nk_149 sh_149 rfl yk_X10_chance cl_10_285 (k10_chance e38) (by decide) rfl (Nat.le_of_ble_eq_true rfl) rfl dX10_drift_38 ?_
        exact w10_drift_b41 C hk18 h
set_option maxHeartbeats 4000000 in
set_option maxRecDepth 100000 in
theorem w10_drift_L18 {X : sf_X} {V : sf_V} {r : Int32} {s' : sf_Sg} (C : sf_C X V cX10_drift 4 RX10 (some .int) 5) : ∀  (s : sf_Sg) (x1 : Int32) (x3 : Int32), f10_drift_L18 s x1 x3 = some (r, s') → sf_G X V 4 (sf_Q X V (sf_Qi V r s')) s 18 [(0, .ref (V.2.1 149)), (1, .int x1), (3, .int x3)] [] :=
  sf_it_ind (fun (k : sf_Sg → Int32 → Int32 → Option (Int32 × sf_Sg)) => ∀  (s : sf_Sg) (x1 : Int32) (x3 : Int32), k s x1 x3 = some (r, s') → sf_G X V 4 (sf_Q X V (sf_Qi V r s')) s 18 [(0, .ref (V.2.1 149)), (1, .int x1), (3, .int x3)] []) _ _ (fun s x1 x3 h => by cases h) (fun k hk s x1 x3 h => w10_drift_b18 C hk h) _
set_option maxHeartbeats 4000000 in
set_option maxRecDepth 100000 in
theorem w10_drift_b0 {X : sf_X} {V : sf_V} {r : Int32} {s' : sf_Sg} (C : sf_C X V cX10_drift 4 RX10 (some .int) 5) {s : sf_Sg} {x1 : Int32} (h : f10_drift_b0 s x1 = some (r, s')) : sf_G X V 4 (sf_Q X V (sf_Qi V r s')) s 0 [(0, .ref (V.2.1 149)), (1, .int x1)] [] := by
  unfold f10_drift_b0 at h
  refine sf_aload_n (pc := 0) C 0 dX10_drift_0 rfl ?_
  refine sf_iload_n (pc := 1) C 1 dX10_drift_1 rfl ?_
  obtain ⟨v2, e2, h⟩ := sf_ob h
  refine sf_callVi (pc := 2) C (As := [.int x1]) nk_149 sh_149 rfl yk_X10_daysRefused cl_10_252 (k10_daysRefused e2) (by decide) rfl (Nat.le_of_ble_eq_true rfl) rfl dX10_drift_2 ?_
  refine sf_istore_n (lv' := [(2, .int v2), (0, .ref (V.2.1 149)), (1, .int x1)]) (pc := 5) C dX10_drift_5 (by decide) rfl ?_
  refine sf_iload_n (pc := 6) C 0 dX10_drift_6 rfl ?_
  refine sf_if_eq (tgt := 12) (pc := 7) C dX10_drift_7 rfl (fun c7 => ?_) (fun c7 => ?_)
  · replace h := (if_pos c7).symm.trans h
    refine sf_aload_n (pc := 12) C 1 dX10_drift_12 rfl ?_
    obtain ⟨s13, e13, h⟩ := sf_ob h
    refine sf_callVv (pc := 13) C (As := []) nk_149 sh_149 rfl yk_X10_remember cl_10_255 (k10_remember e13) (by decide) rfl (Nat.le_of_ble_eq_true rfl) rfl dX10_drift_13 ?_
    refine sf_iconst (v := 0) (pc := 16) C dX10_drift_16 (by decide) ?_
    refine sf_istore_n (lv' := [(3, .int (0 : Int32)), (2, .int v2), (0, .ref (V.2.1 149)), (1, .int x1)]) (pc := 17) C dX10_drift_17 (by decide) rfl ?_
    refine sf_sub [2, 3, 0] rfl ?_
    exact w10_drift_L18 C _ _ _ h
  · replace h := (if_neg c7).symm.trans h
    refine sf_iload_n (pc := 10) C 0 dX10_drift_10 rfl ?_
    exact sf_iretW (pc := 11) C dX10_drift_11 h
set_option maxHeartbeats 4000000 in
set_option maxRecDepth 100000 in
theorem k10_drift {l : Launch} {V : sf_V} {s : sf_Sg} {x1 : Int32} {r : Int32} {s' : sf_Sg} (h : f10_drift s x1 = some (r, s')) : sf_M l V yX10_drift (.code yX10_drift cX10_drift 4 (some .int)) 5 [.ref (V.2.1 149), .int x1] s (sf_Qi V r s') := by
  refine sf_enter (by decide) (Nat.le_of_ble_eq_true rfl) (fun X hX C => ?_)
  refine sf_sub [0, 1] rfl ?_
  exact w10_drift_b0 (show sf_C X V cX10_drift 4 RX10 (some .int) 5 from C)  h
set_option maxHeartbeats 4000000 in
set_option maxRecDepth 100000 in
theorem w10_undo_b22 {X : sf_X} {V : sf_V} {r : Int32} {s' : sf_Sg} {k22 : sf_Sg → Int32 → Option (Int32 × sf_Sg)} (C : sf_C X V cX10_undo 2 RX10 (some .int) 0) (hk22 : ∀  (s : sf_Sg) (x1 : Int32), k22 s x1 = some (r, s') → sf_G X V 2 (sf_Q X V (sf_Qi V r s')) s 22 [(0, .ref (V.2.1 149)), (1, .int x1)] []) {s : sf_Sg} {x1 : Int32} (h : f10_undo_b22 k22 s x1 = some (r, s')) : sf_G X V 2 (sf_Q X V (sf_Qi V r s')) s 22 [(0, .ref (V.2.1 149)), (1, .int x1)] [] := by
  unfold f10_undo_b22 at h
  refine sf_iload_n (pc := 22) C 1 dX10_undo_22 rfl ?_
  refine sf_bipush (v := 31) (pc := 23) C dX10_undo_23 (by decide) ?_
  refine sf_icmp_ge (tgt := 54) (pc := 25) C dX10_undo_25 rfl (fun c25 => ?_) (fun c25 => ?_)
  · replace h := (if_pos c25).symm.trans h
    refine sf_aload_n (pc := 54) C 0 dX10_undo_54 rfl ?_
    refine sf_get (pc := 55) C nk_149 sh_149 rfl fl_10_177 dX10_undo_55 ?_
    exact sf_iretW (pc := 58) C dX10_undo_58 h
  · replace h := (if_neg c25).symm.trans h
    refine sf_aload_n (pc := 28) C 0 dX10_undo_28 rfl ?_
    refine sf_getr (pc := 29) C nk_149 sh_149 rfl fl_10_25 dX10_undo_29 ?_
    refine sf_iload_n (pc := 32) C 1 dX10_undo_32 rfl ?_
    refine sf_aload_n (pc := 33) C 0 dX10_undo_33 rfl ?_
    refine sf_getr (pc := 34) C nk_149 sh_149 rfl fl_10_50 dX10_undo_34 ?_
    refine sf_bipush (v := 31) (pc := 37) C dX10_undo_37 (by decide) ?_
    refine sf_aload_n (pc := 39) C 0 dX10_undo_39 rfl ?_
    refine sf_get (pc := 40) C nk_149 sh_149 rfl fl_10_177 dX10_undo_40 ?_
    refine sf_imul (pc := 43) C dX10_undo_43 ?_
    refine sf_iload_n (pc := 44) C 1 dX10_undo_44 rfl ?_
    refine sf_iadd (pc := 45) C dX10_undo_45 ?_
    obtain ⟨v46, e46, h⟩ := sf_ob h
    refine sf_iald (pc := 46) C nk_162 sh_162 e46 dX10_undo_46 ?_
    obtain ⟨s47, e47, h⟩ := sf_ob h
    refine sf_iast (pc := 47) C nk_155 sh_155 e47 dX10_undo_47 ?_
    refine sf_iinc (v := (x1 + 1)) (lv' := [(1, .int (x1 + 1)), (0, .ref (V.2.1 149))]) (pc := 48) C 1 dX10_undo_48 rfl rfl (by decide) rfl ?_
    refine sf_goto (tgt := 22) (pc := 51) C dX10_undo_51 rfl ?_
    refine sf_sub [1, 0] rfl ?_
    exact hk22 _ _ h
set_option maxHeartbeats 4000000 in
set_option maxRecDepth 100000 in
theorem w10_undo_L22 {X : sf_X} {V : sf_V} {r : Int32} {s' : sf_Sg} (C : sf_C X V cX10_undo 2 RX10 (some .int) 0) : ∀  (s : sf_Sg) (x1 : Int32), f10_undo_L22 s x1 = some (r, s') → sf_G X V 2 (sf_Q X V (sf_Qi V r s')) s 22 [(0, .ref (V.2.1 149)), (1, .int x1)] [] :=
  sf_it_ind (fun (k : sf_Sg → Int32 → Option (Int32 × sf_Sg)) => ∀  (s : sf_Sg) (x1 : Int32), k s x1 = some (r, s') → sf_G X V 2 (sf_Q X V (sf_Qi V r s')) s 22 [(0, .ref (V.2.1 149)), (1, .int x1)] []) _ _ (fun s x1 h => by cases h) (fun k hk s x1 h => w10_undo_b22 C hk h) _
set_option maxHeartbeats 4000000 in
set_option maxRecDepth 100000 in
theorem w10_undo_b0 {X : sf_X} {V : sf_V} {r : Int32} {s' : sf_Sg} (C : sf_C X V cX10_undo 2 RX10 (some .int) 0) {s : sf_Sg} (h : f10_undo_b0 s = some (r, s')) : sf_G X V 2 (sf_Q X V (sf_Qi V r s')) s 0 [(0, .ref (V.2.1 149))] [] := by
  unfold f10_undo_b0 at h
  refine sf_aload_n (pc := 0) C 0 dX10_undo_0 rfl ?_
  refine sf_get (pc := 1) C nk_149 sh_149 rfl fl_10_177 dX10_undo_1 ?_
  refine sf_if_ne (tgt := 10) (pc := 4) C dX10_undo_4 rfl (fun c4 => ?_) (fun c4 => ?_)
  · replace h := (if_neg c4).symm.trans h
    refine sf_aload_n (pc := 10) C 0 dX10_undo_10 rfl ?_
    refine sf_dup (pc := 11) C dX10_undo_11 rfl ?_
    refine sf_get (pc := 12) C nk_149 sh_149 rfl fl_10_177 dX10_undo_12 ?_
    refine sf_iconst (v := 1) (pc := 15) C dX10_undo_15 (by decide) ?_
    refine sf_isub (pc := 16) C dX10_undo_16 ?_
    refine sf_put (pc := 17) C nk_149 sh_149 rfl fw_10_177 rfl rfl dX10_undo_17 ?_
    refine sf_iconst (v := 0) (pc := 20) C dX10_undo_20 (by decide) ?_
    refine sf_istore_n (lv' := [(1, .int (0 : Int32)), (0, .ref (V.2.1 149))]) (pc := 21) C dX10_undo_21 (by decide) rfl ?_
    refine sf_sub [1, 0] rfl ?_
    exact w10_undo_L22 C _ _ h
  · replace h := (if_pos c4).symm.trans h
    refine sf_ldc (v := -1000000003) (pc := 7) C dX10_undo_7 tm_1099 ?_
    exact sf_iretW (pc := 9) C dX10_undo_9 h
set_option maxHeartbeats 4000000 in
set_option maxRecDepth 100000 in
theorem k10_undo {l : Launch} {V : sf_V} {s : sf_Sg} {r : Int32} {s' : sf_Sg} (h : f10_undo s = some (r, s')) : sf_M l V yX10_undo (.code yX10_undo cX10_undo 2 (some .int)) 0 [.ref (V.2.1 149)] s (sf_Qi V r s') := by
  refine sf_enter (by decide) (Nat.le_of_ble_eq_true rfl) (fun X hX C => ?_)
  refine sf_sub [0] rfl ?_
  exact w10_undo_b0 (show sf_C X V cX10_undo 2 RX10 (some .int) 0 from C)  h
set_option maxHeartbeats 4000000 in
set_option maxRecDepth 100000 in
theorem w10_sore_b56 {X : sf_X} {V : sf_V} {r : Int32} {s' : sf_Sg} (C : sf_C X V cX10_sore 4 RX10 (some .int) 5) {s : sf_Sg} {x1 : Int32} (h : f10_sore_b56 s x1 = some (r, s')) : sf_G X V 4 (sf_Q X V (sf_Qi V r s')) s 56 [(0, .ref (V.2.1 149)), (1, .int x1)] [] := by
  unfold f10_sore_b56 at h
  refine sf_aload_n (pc := 56) C 0 dX10_sore_56 rfl ?_
  refine sf_getr (pc := 57) C nk_149 sh_149 rfl fl_10_25 dX10_sore_57 ?_
  refine sf_bipush (v := 24) (pc := 60) C dX10_sore_60 (by decide) ?_
  refine sf_iload_n (pc := 62) C 1 dX10_sore_62 rfl ?_
  refine sf_iadd (pc := 63) C dX10_sore_63 ?_
  obtain ⟨v64, e64, h⟩ := sf_ob h
  refine sf_iald (pc := 64) C nk_155 sh_155 e64 dX10_sore_64 ?_
  refine sf_istore_n (lv' := [(3, .int v64), (0, .ref (V.2.1 149)), (1, .int x1)]) (pc := 65) C dX10_sore_65 (by decide) rfl ?_
  refine sf_aload_n (pc := 66) C 1 dX10_sore_66 rfl ?_
  refine sf_getr (pc := 67) C nk_149 sh_149 rfl fl_10_53 dX10_sore_67 ?_
  refine sf_aload_n (pc := 70) C 1 dX10_sore_70 rfl ?_
  refine sf_getr (pc := 71) C nk_149 sh_149 rfl fl_10_25 dX10_sore_71 ?_
  refine sf_bipush (v := 31) (pc := 74) C dX10_sore_74 (by decide) ?_
  obtain ⟨s76, e76, h⟩ := sf_ob h
  refine sf_callSv (pc := 76) C (As := [.ref (V.2.1 163), .ref (V.2.1 155), .int (31 : Int32)]) yk_X10_copyRow cl_10_157 (k10_copyRow ⟨nk_163, sh_163⟩ ⟨nk_155, sh_155⟩ e76) (by decide) rfl (Nat.le_of_ble_eq_true rfl) rfl dX10_sore_76 ?_
  refine sf_iload_n (pc := 79) C 0 dX10_sore_79 rfl ?_
  exact sf_iretW (pc := 80) C dX10_sore_80 h
set_option maxHeartbeats 4000000 in
set_option maxRecDepth 100000 in
theorem w10_sore_b41 {X : sf_X} {V : sf_V} {r : Int32} {s' : sf_Sg} {k41 : sf_Sg → Int32 → Int32 → Int32 → Option (Int32 × sf_Sg)} (C : sf_C X V cX10_sore 4 RX10 (some .int) 5) (hk41 : ∀  (s : sf_Sg) (x1 : Int32) (x2 : Int32) (x3 : Int32), k41 s x1 x2 x3 = some (r, s') → sf_G X V 4 (sf_Q X V (sf_Qi V r s')) s 41 [(0, .ref (V.2.1 149)), (1, .int x1), (2, .int x2), (3, .int x3)] []) {s : sf_Sg} {x1 : Int32} {x2 : Int32} {x3 : Int32} (h : f10_sore_b41 k41 s x1 x2 x3 = some (r, s')) : sf_G X V 4 (sf_Q X V (sf_Qi V r s')) s 41 [(0, .ref (V.2.1 149)), (1, .int x1), (2, .int x2), (3, .int x3)] [] := by
  unfold f10_sore_b41 at h
  refine sf_iload_n (pc := 41) C 3 dX10_sore_41 rfl ?_
  refine sf_iload_n (pc := 42) C 2 dX10_sore_42 rfl ?_
  refine sf_icmp_ge (tgt := 56) (pc := 43) C dX10_sore_43 rfl (fun c43 => ?_) (fun c43 => ?_)
  · replace h := (if_pos c43).symm.trans h
    refine sf_sub [0, 1] rfl ?_
    exact w10_sore_b56 C h
  · replace h := (if_neg c43).symm.trans h
    refine sf_aload_n (pc := 46) C 0 dX10_sore_46 rfl ?_
    obtain ⟨s47, e47, h⟩ := sf_ob h
    refine sf_callVv (pc := 47) C (As := []) nk_149 sh_149 rfl yk_X10_pass cl_10_258 (k10_pass e47) (by decide) rfl (Nat.le_of_ble_eq_true rfl) rfl dX10_sore_47 ?_
    refine sf_iinc (v := (x3 + 1)) (lv' := [(3, .int (x3 + 1)), (0, .ref (V.2.1 149)), (1, .int x1), (2, .int x2)]) (pc := 50) C 3 dX10_sore_50 rfl rfl (by decide) rfl ?_
    refine sf_goto (tgt := 41) (pc := 53) C dX10_sore_53 rfl ?_
    refine sf_sub [1, 2, 3, 0] rfl ?_
    exact hk41 _ _ _ _ h
set_option maxHeartbeats 4000000 in
set_option maxRecDepth 100000 in
theorem w10_sore_L41 {X : sf_X} {V : sf_V} {r : Int32} {s' : sf_Sg} (C : sf_C X V cX10_sore 4 RX10 (some .int) 5) : ∀  (s : sf_Sg) (x1 : Int32) (x2 : Int32) (x3 : Int32), f10_sore_L41 s x1 x2 x3 = some (r, s') → sf_G X V 4 (sf_Q X V (sf_Qi V r s')) s 41 [(0, .ref (V.2.1 149)), (1, .int x1), (2, .int x2), (3, .int x3)] [] :=
  sf_it_ind (fun (k : sf_Sg → Int32 → Int32 → Int32 → Option (Int32 × sf_Sg)) => ∀  (s : sf_Sg) (x1 : Int32) (x2 : Int32) (x3 : Int32), k s x1 x2 x3 = some (r, s') → sf_G X V 4 (sf_Q X V (sf_Qi V r s')) s 41 [(0, .ref (V.2.1 149)), (1, .int x1), (2, .int x2), (3, .int x3)] []) _ _ (fun s x1 x2 x3 h => by cases h) (fun k hk s x1 x2 x3 h => w10_sore_b41 C hk h) _
set_option maxHeartbeats 4000000 in
set_option maxRecDepth 100000 in
theorem w10_sore_b0 {X : sf_X} {V : sf_V} {r : Int32} {s' : sf_Sg} (C : sf_C X V cX10_sore 4 RX10 (some .int) 5) {s : sf_Sg} {x1 : Int32} {x2 : Int32} (h : f10_sore_b0 s x1 x2 = some (r, s')) : sf_G X V 4 (sf_Q X V (sf_Qi V r s')) s 0 [(0, .ref (V.2.1 149)), (1, .int x1), (2, .int x2)] [] := by
  unfold f10_sore_b0 at h
  refine sf_aload_n (pc := 0) C 0 dX10_sore_0 rfl ?_
  refine sf_iload_n (pc := 1) C 1 dX10_sore_1 rfl ?_
  refine sf_callVi (pc := 2) C (As := [.int x1]) nk_149 sh_149 rfl yk_X10_isBack cl_10_237 (k10_isBack rfl) (by decide) rfl (Nat.le_of_ble_eq_true rfl) rfl dX10_sore_2 ?_
  refine sf_if_ne (tgt := 11) (pc := 5) C dX10_sore_5 rfl (fun c5 => ?_) (fun c5 => ?_)
  · replace h := (if_neg c5).symm.trans h
    refine sf_iload_n (pc := 11) C 2 dX10_sore_11 rfl ?_
    refine sf_i2l (pc := 12) C dX10_sore_12 ?_
    refine sf_lconst (v := 0) (pc := 13) C dX10_sore_13 (by decide) ?_
    refine sf_ldc2 (v := 200) (pc := 14) C dX10_sore_14 tm_1166 ?_
    refine sf_callSi (pc := 17) C (As := [.long x2.toInt64, .long (0 : Int64), .long (200 : Int64)]) yk_X10_in cl_10_91 (k10_in rfl) (by decide) rfl (Nat.le_of_ble_eq_true rfl) rfl dX10_sore_17 ?_
    refine sf_if_ne (tgt := 26) (pc := 20) C dX10_sore_20 rfl (fun c20 => ?_) (fun c20 => ?_)
    · replace h := (if_neg c20).symm.trans h
      refine sf_aload_n (pc := 26) C 0 dX10_sore_26 rfl ?_
      refine sf_getr (pc := 27) C nk_149 sh_149 rfl fl_10_25 dX10_sore_27 ?_
      refine sf_aload_n (pc := 30) C 0 dX10_sore_30 rfl ?_
      refine sf_getr (pc := 31) C nk_149 sh_149 rfl fl_10_53 dX10_sore_31 ?_
      refine sf_bipush (v := 31) (pc := 34) C dX10_sore_34 (by decide) ?_
      obtain ⟨s36, e36, h⟩ := sf_ob h
      refine sf_callSv (pc := 36) C (As := [.ref (V.2.1 155), .ref (V.2.1 163), .int (31 : Int32)]) yk_X10_copyRow cl_10_157 (k10_copyRow ⟨nk_155, sh_155⟩ ⟨nk_163, sh_163⟩ e36) (by decide) rfl (Nat.le_of_ble_eq_true rfl) rfl dX10_sore_36 ?_
      refine sf_iconst (v := 0) (pc := 39) C dX10_sore_39 (by decide) ?_
      refine sf_istore_n (lv' := [(3, .int (0 : Int32)), (0, .ref (V.2.1 149)), (1, .int x1), (2, .int x2)]) (pc := 40) C dX10_sore_40 (by decide) rfl ?_
      refine sf_sub [1, 2, 3, 0] rfl ?_
      exact w10_sore_L41 C _ _ _ _ h
    · replace h := (if_pos c20).symm.trans h
      refine sf_ldc (v := -1000000002) (pc := 23) C dX10_sore_23 tm_940 ?_
      exact sf_iretW (pc := 25) C dX10_sore_25 h
  · replace h := (if_pos c5).symm.trans h
    refine sf_ldc (v := -1000000001) (pc := 8) C dX10_sore_8 tm_1069 ?_
    exact sf_iretW (pc := 10) C dX10_sore_10 h
set_option maxHeartbeats 4000000 in
set_option maxRecDepth 100000 in
theorem k10_sore {l : Launch} {V : sf_V} {s : sf_Sg} {x1 : Int32} {x2 : Int32} {r : Int32} {s' : sf_Sg} (h : f10_sore s x1 x2 = some (r, s')) : sf_M l V yX10_sore (.code yX10_sore cX10_sore 4 (some .int)) 5 [.ref (V.2.1 149), .int x1, .int x2] s (sf_Qi V r s') := by
  refine sf_enter (by decide) (Nat.le_of_ble_eq_true rfl) (fun X hX C => ?_)
  refine sf_sub [0, 1, 2] rfl ?_
  exact w10_sore_b0 (show sf_C X V cX10_sore 4 RX10 (some .int) 5 from C)  h
set_option maxHeartbeats 4000000 in
set_option maxRecDepth 100000 in
theorem w10_when_b76 {X : sf_X} {V : sf_V} {r : Int32} {s' : sf_Sg} (C : sf_C X V cX10_when 4 RX10 (some .int) 5) {s : sf_Sg} {t0 : Int32} (h : f10_when_b76 s t0 = some (r, s')) : sf_G X V 4 (sf_Q X V (sf_Qi V r s')) s 76 [(0, .ref (V.2.1 149))] [.int t0] := by
  unfold f10_when_b76 at h
  refine sf_istore_n (lv' := [(3, .int t0), (0, .ref (V.2.1 149))]) (pc := 76) C dX10_when_76 (by decide) rfl ?_
  refine sf_aload_n (pc := 77) C 1 dX10_when_77 rfl ?_
  refine sf_getr (pc := 78) C nk_149 sh_149 rfl fl_10_53 dX10_when_78 ?_
  refine sf_aload_n (pc := 81) C 1 dX10_when_81 rfl ?_
  refine sf_getr (pc := 82) C nk_149 sh_149 rfl fl_10_25 dX10_when_82 ?_
  refine sf_bipush (v := 31) (pc := 85) C dX10_when_85 (by decide) ?_
  obtain ⟨s87, e87, h⟩ := sf_ob h
  refine sf_callSv (pc := 87) C (As := [.ref (V.2.1 163), .ref (V.2.1 155), .int (31 : Int32)]) yk_X10_copyRow cl_10_157 (k10_copyRow ⟨nk_163, sh_163⟩ ⟨nk_155, sh_155⟩ e87) (by decide) rfl (Nat.le_of_ble_eq_true rfl) rfl dX10_when_87 ?_
  refine sf_iload_n (pc := 90) C 0 dX10_when_90 rfl ?_
  exact sf_iretW (pc := 91) C dX10_when_91 h
set_option maxHeartbeats 4000000 in
set_option maxRecDepth 100000 in
theorem w10_when_b57 {X : sf_X} {V : sf_V} {r : Int32} {s' : sf_Sg} (C : sf_C X V cX10_when 4 RX10 (some .int) 5) {s : sf_Sg} {x1 : Int32} {x2 : Int32} (h : f10_when_b57 s x1 x2 = some (r, s')) : sf_G X V 4 (sf_Q X V (sf_Qi V r s')) s 57 [(0, .ref (V.2.1 149)), (1, .int x1), (2, .int x2)] [] := by
  unfold f10_when_b57 at h
  refine sf_aload_n (pc := 57) C 0 dX10_when_57 rfl ?_
  refine sf_getr (pc := 58) C nk_149 sh_149 rfl fl_10_25 dX10_when_58 ?_
  refine sf_bipush (v := 24) (pc := 61) C dX10_when_61 (by decide) ?_
  refine sf_iload_n (pc := 63) C 1 dX10_when_63 rfl ?_
  refine sf_iadd (pc := 64) C dX10_when_64 ?_
  obtain ⟨v65, e65, h⟩ := sf_ob h
  refine sf_iald (pc := 65) C nk_155 sh_155 e65 dX10_when_65 ?_
  refine sf_bipush (v := 20) (pc := 66) C dX10_when_66 (by decide) ?_
  refine sf_icmp_ge (tgt := 75) (pc := 68) C dX10_when_68 rfl (fun c68 => ?_) (fun c68 => ?_)
  · replace h := (if_pos c68).symm.trans h
    refine sf_iload_n (pc := 75) C 2 dX10_when_75 rfl ?_
    refine sf_sub [0] rfl ?_
    exact w10_when_b76 C h
  · replace h := (if_neg c68).symm.trans h
    refine sf_iconst (v := -1) (pc := 71) C dX10_when_71 (by decide) ?_
    refine sf_goto (tgt := 76) (pc := 72) C dX10_when_72 rfl ?_
    refine sf_sub [0] rfl ?_
    exact w10_when_b76 C h
set_option maxHeartbeats 4000000 in
set_option maxRecDepth 100000 in
theorem w10_when_b26 {X : sf_X} {V : sf_V} {r : Int32} {s' : sf_Sg} {k26 : sf_Sg → Int32 → Int32 → Option (Int32 × sf_Sg)} (C : sf_C X V cX10_when 4 RX10 (some .int) 5) (hk26 : ∀  (s : sf_Sg) (x1 : Int32) (x2 : Int32), k26 s x1 x2 = some (r, s') → sf_G X V 4 (sf_Q X V (sf_Qi V r s')) s 26 [(0, .ref (V.2.1 149)), (1, .int x1), (2, .int x2)] []) {s : sf_Sg} {x1 : Int32} {x2 : Int32} (h : f10_when_b26 k26 s x1 x2 = some (r, s')) : sf_G X V 4 (sf_Q X V (sf_Qi V r s')) s 26 [(0, .ref (V.2.1 149)), (1, .int x1), (2, .int x2)] [] := by
  unfold f10_when_b26 at h
  refine sf_iload_n (pc := 26) C 2 dX10_when_26 rfl ?_
  refine sf_sipush (v := 200) (pc := 27) C dX10_when_27 (by decide) ?_
  refine sf_icmp_ge (tgt := 57) (pc := 30) C dX10_when_30 rfl (fun c30 => ?_) (fun c30 => ?_)
  · replace h := (if_pos c30).symm.trans h
    exact w10_when_b57 C h
  · replace h := (if_neg c30).symm.trans h
    refine sf_aload_n (pc := 33) C 0 dX10_when_33 rfl ?_
    refine sf_getr (pc := 34) C nk_149 sh_149 rfl fl_10_25 dX10_when_34 ?_
    refine sf_bipush (v := 24) (pc := 37) C dX10_when_37 (by decide) ?_
    refine sf_iload_n (pc := 39) C 1 dX10_when_39 rfl ?_
    refine sf_iadd (pc := 40) C dX10_when_40 ?_
    obtain ⟨v41, e41, h⟩ := sf_ob h
    refine sf_iald (pc := 41) C nk_155 sh_155 e41 dX10_when_41 ?_
    refine sf_bipush (v := 20) (pc := 42) C dX10_when_42 (by decide) ?_
    refine sf_icmp_ge (tgt := 57) (pc := 44) C dX10_when_44 rfl (fun c44 => ?_) (fun c44 => ?_)
    · replace h := (if_pos c44).symm.trans h
      exact w10_when_b57 C h
    · replace h := (if_neg c44).symm.trans h
      refine sf_aload_n (pc := 47) C 0 dX10_when_47 rfl ?_
      obtain ⟨s48, e48, h⟩ := sf_ob h
      refine sf_callVv (pc := 48) C (As := []) nk_149 sh_149 rfl yk_X10_pass cl_10_258 (k10_pass e48) (by decide) rfl (Nat.le_of_ble_eq_true rfl) rfl dX10_when_48 ?_
      refine sf_iinc (v := (x2 + 1)) (lv' := [(2, .int (x2 + 1)), (0, .ref (V.2.1 149)), (1, .int x1)]) (pc := 51) C 2 dX10_when_51 rfl rfl (by decide) rfl ?_
      refine sf_goto (tgt := 26) (pc := 54) C dX10_when_54 rfl ?_
      refine sf_sub [1, 2, 0] rfl ?_
      exact hk26 _ _ _ h
set_option maxHeartbeats 4000000 in
set_option maxRecDepth 100000 in
theorem w10_when_L26 {X : sf_X} {V : sf_V} {r : Int32} {s' : sf_Sg} (C : sf_C X V cX10_when 4 RX10 (some .int) 5) : ∀  (s : sf_Sg) (x1 : Int32) (x2 : Int32), f10_when_L26 s x1 x2 = some (r, s') → sf_G X V 4 (sf_Q X V (sf_Qi V r s')) s 26 [(0, .ref (V.2.1 149)), (1, .int x1), (2, .int x2)] [] :=
  sf_it_ind (fun (k : sf_Sg → Int32 → Int32 → Option (Int32 × sf_Sg)) => ∀  (s : sf_Sg) (x1 : Int32) (x2 : Int32), k s x1 x2 = some (r, s') → sf_G X V 4 (sf_Q X V (sf_Qi V r s')) s 26 [(0, .ref (V.2.1 149)), (1, .int x1), (2, .int x2)] []) _ _ (fun s x1 x2 h => by cases h) (fun k hk s x1 x2 h => w10_when_b26 C hk h) _
set_option maxHeartbeats 4000000 in
set_option maxRecDepth 100000 in
theorem w10_when_b0 {X : sf_X} {V : sf_V} {r : Int32} {s' : sf_Sg} (C : sf_C X V cX10_when 4 RX10 (some .int) 5) {s : sf_Sg} {x1 : Int32} (h : f10_when_b0 s x1 = some (r, s')) : sf_G X V 4 (sf_Q X V (sf_Qi V r s')) s 0 [(0, .ref (V.2.1 149)), (1, .int x1)] [] := by
  unfold f10_when_b0 at h
  refine sf_aload_n (pc := 0) C 0 dX10_when_0 rfl ?_
  refine sf_iload_n (pc := 1) C 1 dX10_when_1 rfl ?_
  refine sf_callVi (pc := 2) C (As := [.int x1]) nk_149 sh_149 rfl yk_X10_isBack cl_10_237 (k10_isBack rfl) (by decide) rfl (Nat.le_of_ble_eq_true rfl) rfl dX10_when_2 ?_
  refine sf_if_ne (tgt := 11) (pc := 5) C dX10_when_5 rfl (fun c5 => ?_) (fun c5 => ?_)
  · replace h := (if_neg c5).symm.trans h
    refine sf_aload_n (pc := 11) C 0 dX10_when_11 rfl ?_
    refine sf_getr (pc := 12) C nk_149 sh_149 rfl fl_10_25 dX10_when_12 ?_
    refine sf_aload_n (pc := 15) C 0 dX10_when_15 rfl ?_
    refine sf_getr (pc := 16) C nk_149 sh_149 rfl fl_10_53 dX10_when_16 ?_
    refine sf_bipush (v := 31) (pc := 19) C dX10_when_19 (by decide) ?_
    obtain ⟨s21, e21, h⟩ := sf_ob h
    refine sf_callSv (pc := 21) C (As := [.ref (V.2.1 155), .ref (V.2.1 163), .int (31 : Int32)]) yk_X10_copyRow cl_10_157 (k10_copyRow ⟨nk_155, sh_155⟩ ⟨nk_163, sh_163⟩ e21) (by decide) rfl (Nat.le_of_ble_eq_true rfl) rfl dX10_when_21 ?_
    refine sf_iconst (v := 0) (pc := 24) C dX10_when_24 (by decide) ?_
    refine sf_istore_n (lv' := [(2, .int (0 : Int32)), (0, .ref (V.2.1 149)), (1, .int x1)]) (pc := 25) C dX10_when_25 (by decide) rfl ?_
    refine sf_sub [1, 2, 0] rfl ?_
    exact w10_when_L26 C _ _ _ h
  · replace h := (if_pos c5).symm.trans h
    refine sf_ldc (v := -1000000001) (pc := 8) C dX10_when_8 tm_1069 ?_
    exact sf_iretW (pc := 10) C dX10_when_10 h
set_option maxHeartbeats 4000000 in
set_option maxRecDepth 100000 in
theorem k10_when {l : Launch} {V : sf_V} {s : sf_Sg} {x1 : Int32} {r : Int32} {s' : sf_Sg} (h : f10_when s x1 = some (r, s')) : sf_M l V yX10_when (.code yX10_when cX10_when 4 (some .int)) 5 [.ref (V.2.1 149), .int x1] s (sf_Qi V r s') := by
  refine sf_enter (by decide) (Nat.le_of_ble_eq_true rfl) (fun X hX C => ?_)
  refine sf_sub [0, 1] rfl ?_
  exact w10_when_b0 (show sf_C X V cX10_when 4 RX10 (some .int) 5 from C)  h
set_option maxHeartbeats 4000000 in
set_option maxRecDepth 100000 in
theorem w10_worst_b96 {X : sf_X} {V : sf_V} {r : Int32} {s' : sf_Sg} {k56 : sf_Sg → Int32 → Int32 → Int32 → Int32 → Int32 → Option (Int32 × sf_Sg)} (C : sf_C X V cX10_worst 7 RX10 (some .int) 5) (hk56 : ∀  (s : sf_Sg) (x1 : Int32) (x2 : Int32) (x3 : Int32) (x4 : Int32) (x5 : Int32), k56 s x1 x2 x3 x4 x5 = some (r, s') → sf_G X V 7 (sf_Q X V (sf_Qi V r s')) s 56 [(0, .ref (V.2.1 149)), (1, .int x1), (2, .int x2), (3, .int x3), (4, .int x4), (5, .int x5)] []) {s : sf_Sg} {x1 : Int32} {x2 : Int32} {x3 : Int32} {x5 : Int32} {t0 : Int32} (h : f10_worst_b96 k56 s x1 x2 x3 x5 t0 = some (r, s')) : sf_G X V 7 (sf_Q X V (sf_Qi V r s')) s 96 [(0, .ref (V.2.1 149)), (1, .int x1), (2, .int x2), (3, .int x3), (5, .int x5)] [.int t0] := by
  unfold f10_worst_b96 at h
  refine sf_istore (lv' := [(4, .int t0), (0, .ref (V.2.1 149)), (1, .int x1), (2, .int x2), (3, .int x3), (5, .int x5)]) (pc := 96) C dX10_worst_96 (by decide) rfl ?_
  refine sf_aload_n (pc := 98) C 1 dX10_worst_98 rfl ?_
  obtain ⟨s99, e99, h⟩ := sf_ob h
  refine sf_callVv (pc := 99) C (As := []) nk_149 sh_149 rfl yk_X10_pass cl_10_258 (k10_pass e99) (by decide) rfl (Nat.le_of_ble_eq_true rfl) rfl dX10_worst_99 ?_
  refine sf_iinc (v := (x5 + 1)) (lv' := [(5, .int (x5 + 1)), (4, .int t0), (0, .ref (V.2.1 149)), (1, .int x1), (2, .int x2), (3, .int x3)]) (pc := 102) C 5 dX10_worst_102 rfl rfl (by decide) rfl ?_
  refine sf_goto (tgt := 56) (pc := 105) C dX10_worst_105 rfl ?_
  refine sf_sub [2, 3, 4, 5, 1, 0] rfl ?_
  exact hk56 _ _ _ _ _ _ h
set_option maxHeartbeats 4000000 in
set_option maxRecDepth 100000 in
theorem w10_worst_b81 {X : sf_X} {V : sf_V} {r : Int32} {s' : sf_Sg} {k56 : sf_Sg → Int32 → Int32 → Int32 → Int32 → Int32 → Option (Int32 × sf_Sg)} (C : sf_C X V cX10_worst 7 RX10 (some .int) 5) (hk56 : ∀  (s : sf_Sg) (x1 : Int32) (x2 : Int32) (x3 : Int32) (x4 : Int32) (x5 : Int32), k56 s x1 x2 x3 x4 x5 = some (r, s') → sf_G X V 7 (sf_Q X V (sf_Qi V r s')) s 56 [(0, .ref (V.2.1 149)), (1, .int x1), (2, .int x2), (3, .int x3), (4, .int x4), (5, .int x5)] []) {s : sf_Sg} {x1 : Int32} {x2 : Int32} {x4 : Int32} {x5 : Int32} {x6 : Int32} {t0 : Int32} (h : f10_worst_b81 k56 s x1 x2 x4 x5 x6 t0 = some (r, s')) : sf_G X V 7 (sf_Q X V (sf_Qi V r s')) s 81 [(0, .ref (V.2.1 149)), (1, .int x1), (2, .int x2), (4, .int x4), (5, .int x5), (6, .int x6)] [.int t0] := by
  unfold f10_worst_b81 at h
  refine sf_istore_n (lv' := [(3, .int t0), (0, .ref (V.2.1 149)), (1, .int x1), (2, .int x2), (4, .int x4), (5, .int x5), (6, .int x6)]) (pc := 81) C dX10_worst_81 (by decide) rfl ?_
  refine sf_iload (pc := 82) C 6 dX10_worst_82 rfl ?_
  refine sf_iload (pc := 84) C 4 dX10_worst_84 rfl ?_
  refine sf_icmp_le (tgt := 94) (pc := 86) C dX10_worst_86 rfl (fun c86 => ?_) (fun c86 => ?_)
  · replace h := (if_pos c86).symm.trans h
    refine sf_iload (pc := 94) C 4 dX10_worst_94 rfl ?_
    refine sf_sub [1, 2, 3, 0, 5] rfl ?_
    exact w10_worst_b96 C hk56 h
  · replace h := (if_neg c86).symm.trans h
    refine sf_iload (pc := 89) C 6 dX10_worst_89 rfl ?_
    refine sf_goto (tgt := 96) (pc := 91) C dX10_worst_91 rfl ?_
    refine sf_sub [1, 2, 3, 0, 5] rfl ?_
    exact w10_worst_b96 C hk56 h
set_option maxHeartbeats 4000000 in
set_option maxRecDepth 100000 in
theorem w10_worst_b108 {X : sf_X} {V : sf_V} {r : Int32} {s' : sf_Sg} (C : sf_C X V cX10_worst 7 RX10 (some .int) 5) {s : sf_Sg} {x2 : Int32} {x3 : Int32} {x4 : Int32} (h : f10_worst_b108 s x2 x3 x4 = some (r, s')) : sf_G X V 7 (sf_Q X V (sf_Qi V r s')) s 108 [(0, .ref (V.2.1 149)), (2, .int x2), (3, .int x3), (4, .int x4)] [] := by
  unfold f10_worst_b108 at h
  refine sf_aload_n (pc := 108) C 0 dX10_worst_108 rfl ?_
  refine sf_getr (pc := 109) C nk_149 sh_149 rfl fl_10_53 dX10_worst_109 ?_
  refine sf_aload_n (pc := 112) C 0 dX10_worst_112 rfl ?_
  refine sf_getr (pc := 113) C nk_149 sh_149 rfl fl_10_25 dX10_worst_113 ?_
  refine sf_bipush (v := 31) (pc := 116) C dX10_worst_116 (by decide) ?_
  obtain ⟨s118, e118, h⟩ := sf_ob h
  refine sf_callSv (pc := 118) C (As := [.ref (V.2.1 163), .ref (V.2.1 155), .int (31 : Int32)]) yk_X10_copyRow cl_10_157 (k10_copyRow ⟨nk_163, sh_163⟩ ⟨nk_155, sh_155⟩ e118) (by decide) rfl (Nat.le_of_ble_eq_true rfl) rfl dX10_worst_118 ?_
  refine sf_iload_n (pc := 121) C 1 dX10_worst_121 rfl ?_
  refine sf_if_ne (tgt := 129) (pc := 122) C dX10_worst_122 rfl (fun c122 => ?_) (fun c122 => ?_)
  · replace h := (if_neg c122).symm.trans h
    refine sf_iload (pc := 129) C 3 dX10_worst_129 rfl ?_
    exact sf_iretW (pc := 131) C dX10_worst_131 h
  · replace h := (if_pos c122).symm.trans h
    refine sf_iload_n (pc := 125) C 2 dX10_worst_125 rfl ?_
    refine sf_goto (tgt := 131) (pc := 126) C dX10_worst_126 rfl ?_
    exact sf_iretW (pc := 131) C dX10_worst_131 h
set_option maxHeartbeats 4000000 in
set_option maxRecDepth 100000 in
theorem w10_worst_b56 {X : sf_X} {V : sf_V} {r : Int32} {s' : sf_Sg} {k56 : sf_Sg → Int32 → Int32 → Int32 → Int32 → Int32 → Option (Int32 × sf_Sg)} (C : sf_C X V cX10_worst 7 RX10 (some .int) 5) (hk56 : ∀  (s : sf_Sg) (x1 : Int32) (x2 : Int32) (x3 : Int32) (x4 : Int32) (x5 : Int32), k56 s x1 x2 x3 x4 x5 = some (r, s') → sf_G X V 7 (sf_Q X V (sf_Qi V r s')) s 56 [(0, .ref (V.2.1 149)), (1, .int x1), (2, .int x2), (3, .int x3), (4, .int x4), (5, .int x5)] []) {s : sf_Sg} {x1 : Int32} {x2 : Int32} {x3 : Int32} {x4 : Int32} {x5 : Int32} (h : f10_worst_b56 k56 s x1 x2 x3 x4 x5 = some (r, s')) : sf_G X V 7 (sf_Q X V (sf_Qi V r s')) s 56 [(0, .ref (V.2.1 149)), (1, .int x1), (2, .int x2), (3, .int x3), (4, .int x4), (5, .int x5)] [] := by
  unfold f10_worst_b56 at h
  refine sf_iload (pc := 56) C 5 dX10_worst_56 rfl ?_
  refine sf_iload_n (pc := 58) C 1 dX10_worst_58 rfl ?_
  refine sf_icmp_ge (tgt := 108) (pc := 59) C dX10_worst_59 rfl (fun c59 => ?_) (fun c59 => ?_)
  · replace h := (if_pos c59).symm.trans h
    refine sf_sub [0, 2, 3, 4] rfl ?_
    exact w10_worst_b108 C h
  · replace h := (if_neg c59).symm.trans h
    refine sf_aload_n (pc := 62) C 0 dX10_worst_62 rfl ?_
    obtain ⟨v63, e63, h⟩ := sf_ob h
    refine sf_callVi (pc := 63) C (As := []) nk_149 sh_149 rfl yk_X10_allGalling cl_10_218 (k10_allGalling e63) (by decide) rfl (Nat.le_of_ble_eq_true rfl) rfl dX10_worst_63 ?_
    refine sf_istore (lv' := [(6, .int v63), (0, .ref (V.2.1 149)), (1, .int x1), (2, .int x2), (3, .int x3), (4, .int x4), (5, .int x5)]) (pc := 66) C dX10_worst_66 (by decide) rfl ?_
    refine sf_iload (pc := 68) C 0 dX10_worst_68 rfl ?_
    refine sf_iload (pc := 70) C 5 dX10_worst_70 rfl ?_
    refine sf_icmp_le (tgt := 80) (pc := 72) C dX10_worst_72 rfl (fun c72 => ?_) (fun c72 => ?_)
    · replace h := (if_pos c72).symm.trans h
      refine sf_iload_n (pc := 80) C 4 dX10_worst_80 rfl ?_
      refine sf_sub [1, 2, 3, 5, 6, 0] rfl ?_
      exact w10_worst_b81 C hk56 h
    · replace h := (if_neg c72).symm.trans h
      refine sf_iload (pc := 75) C 6 dX10_worst_75 rfl ?_
      refine sf_goto (tgt := 81) (pc := 77) C dX10_worst_77 rfl ?_
      refine sf_sub [1, 2, 3, 5, 6, 0] rfl ?_
      exact w10_worst_b81 C hk56 h
set_option maxHeartbeats 4000000 in
set_option maxRecDepth 100000 in
theorem w10_worst_L56 {X : sf_X} {V : sf_V} {r : Int32} {s' : sf_Sg} (C : sf_C X V cX10_worst 7 RX10 (some .int) 5) : ∀  (s : sf_Sg) (x1 : Int32) (x2 : Int32) (x3 : Int32) (x4 : Int32) (x5 : Int32), f10_worst_L56 s x1 x2 x3 x4 x5 = some (r, s') → sf_G X V 7 (sf_Q X V (sf_Qi V r s')) s 56 [(0, .ref (V.2.1 149)), (1, .int x1), (2, .int x2), (3, .int x3), (4, .int x4), (5, .int x5)] [] :=
  sf_it_ind (fun (k : sf_Sg → Int32 → Int32 → Int32 → Int32 → Int32 → Option (Int32 × sf_Sg)) => ∀  (s : sf_Sg) (x1 : Int32) (x2 : Int32) (x3 : Int32) (x4 : Int32) (x5 : Int32), k s x1 x2 x3 x4 x5 = some (r, s') → sf_G X V 7 (sf_Q X V (sf_Qi V r s')) s 56 [(0, .ref (V.2.1 149)), (1, .int x1), (2, .int x2), (3, .int x3), (4, .int x4), (5, .int x5)] []) _ _ (fun s x1 x2 x3 x4 x5 h => by cases h) (fun k hk s x1 x2 x3 x4 x5 h => w10_worst_b56 C hk h) _
set_option maxHeartbeats 4000000 in
set_option maxRecDepth 100000 in
theorem w10_worst_b0 {X : sf_X} {V : sf_V} {r : Int32} {s' : sf_Sg} (C : sf_C X V cX10_worst 7 RX10 (some .int) 5) {s : sf_Sg} {x1 : Int32} {x2 : Int32} (h : f10_worst_b0 s x1 x2 = some (r, s')) : sf_G X V 7 (sf_Q X V (sf_Qi V r s')) s 0 [(0, .ref (V.2.1 149)), (1, .int x1), (2, .int x2)] [] := by
  unfold f10_worst_b0 at h
  refine sf_iload_n (pc := 0) C 1 dX10_worst_0 rfl ?_
  refine sf_i2l (pc := 1) C dX10_worst_1 ?_
  refine sf_lconst (v := 1) (pc := 2) C dX10_worst_2 (by decide) ?_
  refine sf_ldc2 (v := 60) (pc := 3) C dX10_worst_3 tm_1098 ?_
  refine sf_callSi (pc := 6) C (As := [.long x1.toInt64, .long (1 : Int64), .long (60 : Int64)]) yk_X10_in cl_10_91 (k10_in rfl) (by decide) rfl (Nat.le_of_ble_eq_true rfl) rfl dX10_worst_6 ?_
  refine sf_if_eq (tgt := 22) (pc := 9) C dX10_worst_9 rfl (fun c9 => ?_) (fun c9 => ?_)
  · replace h := (if_pos c9).symm.trans h
    refine sf_ldc (v := -1000000002) (pc := 22) C dX10_worst_22 tm_940 ?_
    exact sf_iretW (pc := 24) C dX10_worst_24 h
  · replace h := (if_neg c9).symm.trans h
    refine sf_iload_n (pc := 12) C 2 dX10_worst_12 rfl ?_
    refine sf_i2l (pc := 13) C dX10_worst_13 ?_
    refine sf_lconst (v := 0) (pc := 14) C dX10_worst_14 (by decide) ?_
    refine sf_lconst (v := 1) (pc := 15) C dX10_worst_15 (by decide) ?_
    refine sf_callSi (pc := 16) C (As := [.long x2.toInt64, .long (0 : Int64), .long (1 : Int64)]) yk_X10_in cl_10_91 (k10_in rfl) (by decide) rfl (Nat.le_of_ble_eq_true rfl) rfl dX10_worst_16 ?_
    refine sf_if_ne (tgt := 25) (pc := 19) C dX10_worst_19 rfl (fun c19 => ?_) (fun c19 => ?_)
    · replace h := (if_neg c19).symm.trans h
      refine sf_aload_n (pc := 25) C 0 dX10_worst_25 rfl ?_
      refine sf_get (pc := 26) C nk_149 sh_149 rfl fl_10_84 dX10_worst_26 ?_
      refine sf_if_ne (tgt := 35) (pc := 29) C dX10_worst_29 rfl (fun c29 => ?_) (fun c29 => ?_)
      · replace h := (if_neg c29).symm.trans h
        refine sf_aload_n (pc := 35) C 0 dX10_worst_35 rfl ?_
        refine sf_getr (pc := 36) C nk_149 sh_149 rfl fl_10_25 dX10_worst_36 ?_
        refine sf_aload_n (pc := 39) C 0 dX10_worst_39 rfl ?_
        refine sf_getr (pc := 40) C nk_149 sh_149 rfl fl_10_53 dX10_worst_40 ?_
        refine sf_bipush (v := 31) (pc := 43) C dX10_worst_43 (by decide) ?_
        obtain ⟨s45, e45, h⟩ := sf_ob h
        refine sf_callSv (pc := 45) C (As := [.ref (V.2.1 155), .ref (V.2.1 163), .int (31 : Int32)]) yk_X10_copyRow cl_10_157 (k10_copyRow ⟨nk_155, sh_155⟩ ⟨nk_163, sh_163⟩ e45) (by decide) rfl (Nat.le_of_ble_eq_true rfl) rfl dX10_worst_45 ?_
        refine sf_iconst (v := -1) (pc := 48) C dX10_worst_48 (by decide) ?_
        refine sf_istore_n (lv' := [(3, .int (-1 : Int32)), (0, .ref (V.2.1 149)), (1, .int x1), (2, .int x2)]) (pc := 49) C dX10_worst_49 (by decide) rfl ?_
        refine sf_iconst (v := -1) (pc := 50) C dX10_worst_50 (by decide) ?_
        refine sf_istore (lv' := [(4, .int (-1 : Int32)), (3, .int (-1 : Int32)), (0, .ref (V.2.1 149)), (1, .int x1), (2, .int x2)]) (pc := 51) C dX10_worst_51 (by decide) rfl ?_
        refine sf_iconst (v := 0) (pc := 53) C dX10_worst_53 (by decide) ?_
        refine sf_istore (lv' := [(5, .int (0 : Int32)), (4, .int (-1 : Int32)), (3, .int (-1 : Int32)), (0, .ref (V.2.1 149)), (1, .int x1), (2, .int x2)]) (pc := 54) C dX10_worst_54 (by decide) rfl ?_
        refine sf_sub [3, 4, 5, 2, 1, 0] rfl ?_
        exact w10_worst_L56 C _ _ _ _ _ _ h
      · replace h := (if_pos c29).symm.trans h
        refine sf_ldc (v := -1000000003) (pc := 32) C dX10_worst_32 tm_1099 ?_
        exact sf_iretW (pc := 34) C dX10_worst_34 h
    · replace h := (if_pos c19).symm.trans h
      refine sf_ldc (v := -1000000002) (pc := 22) C dX10_worst_22 tm_940 ?_
      exact sf_iretW (pc := 24) C dX10_worst_24 h
set_option maxHeartbeats 4000000 in
set_option maxRecDepth 100000 in
theorem k10_worst {l : Launch} {V : sf_V} {s : sf_Sg} {x1 : Int32} {x2 : Int32} {r : Int32} {s' : sf_Sg} (h : f10_worst s x1 x2 = some (r, s')) : sf_M l V yX10_worst (.code yX10_worst cX10_worst 7 (some .int)) 5 [.ref (V.2.1 149), .int x1, .int x2] s (sf_Qi V r s') := by
  refine sf_enter (by decide) (Nat.le_of_ble_eq_true rfl) (fun X hX C => ?_)
  refine sf_sub [0, 1, 2] rfl ?_
  exact w10_worst_b0 (show sf_C X V cX10_worst 7 RX10 (some .int) 5 from C)  h
set_option maxHeartbeats 4000000 in
set_option maxRecDepth 100000 in
theorem w10_ways_b4 {X : sf_X} {V : sf_V} {s : sf_Sg} {r : Int32} {k4 : Int32 → Int32 → Option Int32} (C : sf_C X V cX10_ways 3 RX10 (some .int) 0) (hk4 : ∀  (x1 : Int32) (x2 : Int32), k4 x1 x2 = some r → sf_G X V 3 (sf_Q X V (sf_Qi V r s)) s 4 [(0, .ref (V.2.1 149)), (1, .int x1), (2, .int x2)] []) {x1 : Int32} {x2 : Int32} (h : f10_ways_b4 s k4 x1 x2 = some r) : sf_G X V 3 (sf_Q X V (sf_Qi V r s)) s 4 [(0, .ref (V.2.1 149)), (1, .int x1), (2, .int x2)] [] := by
  unfold f10_ways_b4 at h
  refine sf_iload_n (pc := 4) C 2 dX10_ways_4 rfl ?_
  refine sf_aload_n (pc := 5) C 0 dX10_ways_5 rfl ?_
  refine sf_get (pc := 6) C nk_149 sh_149 rfl fl_10_88 dX10_ways_6 ?_
  refine sf_icmp_ge (tgt := 25) (pc := 9) C dX10_ways_9 rfl (fun c9 => ?_) (fun c9 => ?_)
  · replace h := (if_pos c9).symm.trans h
    refine sf_iload_n (pc := 25) C 1 dX10_ways_25 rfl ?_
    exact sf_iretR (pc := 26) C dX10_ways_26 h
  · replace h := (if_neg c9).symm.trans h
    refine sf_iload_n (pc := 12) C 1 dX10_ways_12 rfl ?_
    refine sf_aload_n (pc := 13) C 0 dX10_ways_13 rfl ?_
    refine sf_get (pc := 14) C nk_149 sh_149 rfl fl_10_95 dX10_ways_14 ?_
    refine sf_imul (pc := 17) C dX10_ways_17 ?_
    refine sf_istore_n (lv' := [(1, .int (x1 * (s 149 6))), (0, .ref (V.2.1 149)), (2, .int x2)]) (pc := 18) C dX10_ways_18 (by decide) rfl ?_
    refine sf_iinc (v := (x2 + 1)) (lv' := [(2, .int (x2 + 1)), (1, .int (x1 * (s 149 6))), (0, .ref (V.2.1 149))]) (pc := 19) C 2 dX10_ways_19 rfl rfl (by decide) rfl ?_
    refine sf_goto (tgt := 4) (pc := 22) C dX10_ways_22 rfl ?_
    refine sf_sub [2, 1, 0] rfl ?_
    exact hk4 _ _ h
set_option maxHeartbeats 4000000 in
set_option maxRecDepth 100000 in
theorem w10_ways_L4 {X : sf_X} {V : sf_V} {s : sf_Sg} {r : Int32} (C : sf_C X V cX10_ways 3 RX10 (some .int) 0) : ∀  (x1 : Int32) (x2 : Int32), f10_ways_L4 s x1 x2 = some r → sf_G X V 3 (sf_Q X V (sf_Qi V r s)) s 4 [(0, .ref (V.2.1 149)), (1, .int x1), (2, .int x2)] [] :=
  sf_it_ind (fun (k : Int32 → Int32 → Option Int32) => ∀  (x1 : Int32) (x2 : Int32), k x1 x2 = some r → sf_G X V 3 (sf_Q X V (sf_Qi V r s)) s 4 [(0, .ref (V.2.1 149)), (1, .int x1), (2, .int x2)] []) _ _ (fun x1 x2 h => by cases h) (fun k hk x1 x2 h => w10_ways_b4 C hk h) _
set_option maxHeartbeats 4000000 in
set_option maxRecDepth 100000 in
theorem w10_ways_b0 {X : sf_X} {V : sf_V} {s : sf_Sg} {r : Int32} (C : sf_C X V cX10_ways 3 RX10 (some .int) 0) (h : f10_ways_b0 s = some r) : sf_G X V 3 (sf_Q X V (sf_Qi V r s)) s 0 [(0, .ref (V.2.1 149))] [] := by
  unfold f10_ways_b0 at h
  refine sf_iconst (v := 1) (pc := 0) C dX10_ways_0 (by decide) ?_
  refine sf_istore_n (lv' := [(1, .int (1 : Int32)), (0, .ref (V.2.1 149))]) (pc := 1) C dX10_ways_1 (by decide) rfl ?_
  refine sf_iconst (v := 0) (pc := 2) C dX10_ways_2 (by decide) ?_
  refine sf_istore_n (lv' := [(2, .int (0 : Int32)), (1, .int (1 : Int32)), (0, .ref (V.2.1 149))]) (pc := 3) C dX10_ways_3 (by decide) rfl ?_
  refine sf_sub [2, 1, 0] rfl ?_
  exact w10_ways_L4 C _ _ h
set_option maxHeartbeats 4000000 in
set_option maxRecDepth 100000 in
theorem k10_ways {l : Launch} {V : sf_V} {s : sf_Sg} {r : Int32} (h : f10_ways s = some r) : sf_M l V yX10_ways (.code yX10_ways cX10_ways 3 (some .int)) 0 [.ref (V.2.1 149)] s (sf_Qi V r s) := by
  refine sf_enter (by decide) (Nat.le_of_ble_eq_true rfl) (fun X hX C => ?_)
  refine sf_sub [0] rfl ?_
  exact w10_ways_b0 (show sf_C X V cX10_ways 3 RX10 (some .int) 0 from C)  h
set_option maxHeartbeats 4000000 in
set_option maxRecDepth 100000 in
theorem w10_carryBy_b9 {X : sf_X} {V : sf_V} {s' : sf_Sg} {k9 : sf_Sg → Int32 → Int32 → Option sf_Sg} (C : sf_C X V cX10_carryBy 4 RX10 none 0) (hk9 : ∀  (s : sf_Sg) (x2 : Int32) (x3 : Int32), k9 s x2 x3 = some s' → sf_G X V 4 (sf_Q X V (sf_Qv V s')) s 9 [(0, .ref (V.2.1 149)), (2, .int x2), (3, .int x3)] []) {s : sf_Sg} {x2 : Int32} {x3 : Int32} (h : f10_carryBy_b9 k9 s x2 x3 = some s') : sf_G X V 4 (sf_Q X V (sf_Qv V s')) s 9 [(0, .ref (V.2.1 149)), (2, .int x2), (3, .int x3)] [] := by
  unfold f10_carryBy_b9 at h
  refine sf_iload_n (pc := 9) C 2 dX10_carryBy_9 rfl ?_
  refine sf_if_lt (tgt := 51) (pc := 10) C dX10_carryBy_10 rfl (fun c10 => ?_) (fun c10 => ?_)
  · replace h := (if_pos c10).symm.trans h
    exact sf_vretW (pc := 51) C dX10_carryBy_51 h
  · replace h := (if_neg c10).symm.trans h
    refine sf_aload_n (pc := 13) C 0 dX10_carryBy_13 rfl ?_
    refine sf_getr (pc := 14) C nk_149 sh_149 rfl fl_10_25 dX10_carryBy_14 ?_
    refine sf_bipush (v := 12) (pc := 17) C dX10_carryBy_17 (by decide) ?_
    refine sf_iload_n (pc := 19) C 2 dX10_carryBy_19 rfl ?_
    refine sf_iadd (pc := 20) C dX10_carryBy_20 ?_
    refine sf_iload_n (pc := 21) C 1 dX10_carryBy_21 rfl ?_
    refine sf_aload_n (pc := 22) C 0 dX10_carryBy_22 rfl ?_
    refine sf_get (pc := 23) C nk_149 sh_149 rfl fl_10_95 dX10_carryBy_23 ?_
    obtain ⟨v26, e26, h⟩ := sf_ob h
    refine sf_iremO (pc := 26) C e26 dX10_carryBy_26 ?_
    obtain ⟨s27, e27, h⟩ := sf_ob h
    refine sf_iast (pc := 27) C nk_155 sh_155 e27 dX10_carryBy_27 ?_
    refine sf_aload_n (pc := 28) C 0 dX10_carryBy_28 rfl ?_
    refine sf_getr (pc := 29) C nk_149 sh_149 rfl fl_10_25 dX10_carryBy_29 ?_
    refine sf_bipush (v := 18) (pc := 32) C dX10_carryBy_32 (by decide) ?_
    refine sf_iload_n (pc := 34) C 2 dX10_carryBy_34 rfl ?_
    refine sf_iadd (pc := 35) C dX10_carryBy_35 ?_
    refine sf_iconst (v := -1) (pc := 36) C dX10_carryBy_36 (by decide) ?_
    obtain ⟨s37, e37, h⟩ := sf_ob h
    refine sf_iast (pc := 37) C nk_155 sh_155 e37 dX10_carryBy_37 ?_
    refine sf_iload_n (pc := 38) C 1 dX10_carryBy_38 rfl ?_
    refine sf_aload_n (pc := 39) C 0 dX10_carryBy_39 rfl ?_
    refine sf_get (pc := 40) C nk_149 sh_149 rfl fl_10_95 dX10_carryBy_40 ?_
    obtain ⟨v43, e43, h⟩ := sf_ob h
    refine sf_idivO (pc := 43) C e43 dX10_carryBy_43 ?_
    refine sf_istore_n (lv' := [(2, .int v43), (0, .ref (V.2.1 149)), (3, .int x3)]) (pc := 44) C dX10_carryBy_44 (by decide) rfl ?_
    refine sf_iinc (v := (x3 + (-1))) (lv' := [(3, .int (x3 + (-1))), (2, .int v43), (0, .ref (V.2.1 149))]) (pc := 45) C 2 dX10_carryBy_45 rfl rfl (by decide) rfl ?_
    refine sf_goto (tgt := 9) (pc := 48) C dX10_carryBy_48 rfl ?_
    refine sf_sub [2, 1, 0] rfl ?_
    exact hk9 _ _ _ h
set_option maxHeartbeats 4000000 in
set_option maxRecDepth 100000 in
theorem w10_carryBy_L9 {X : sf_X} {V : sf_V} {s' : sf_Sg} (C : sf_C X V cX10_carryBy 4 RX10 none 0) : ∀  (s : sf_Sg) (x2 : Int32) (x3 : Int32), f10_carryBy_L9 s x2 x3 = some s' → sf_G X V 4 (sf_Q X V (sf_Qv V s')) s 9 [(0, .ref (V.2.1 149)), (2, .int x2), (3, .int x3)] [] :=
  sf_it_ind (fun (k : sf_Sg → Int32 → Int32 → Option sf_Sg) => ∀  (s : sf_Sg) (x2 : Int32) (x3 : Int32), k s x2 x3 = some s' → sf_G X V 4 (sf_Q X V (sf_Qv V s')) s 9 [(0, .ref (V.2.1 149)), (2, .int x2), (3, .int x3)] []) _ _ (fun s x2 x3 h => by cases h) (fun k hk s x2 x3 h => w10_carryBy_b9 C hk h) _
set_option maxHeartbeats 4000000 in
set_option maxRecDepth 100000 in
theorem w10_carryBy_b0 {X : sf_X} {V : sf_V} {s' : sf_Sg} (C : sf_C X V cX10_carryBy 4 RX10 none 0) {s : sf_Sg} {x1 : Int32} (h : f10_carryBy_b0 s x1 = some s') : sf_G X V 4 (sf_Q X V (sf_Qv V s')) s 0 [(0, .ref (V.2.1 149)), (1, .int x1)] [] := by
  unfold f10_carryBy_b0 at h
  refine sf_iload_n (pc := 0) C 1 dX10_carryBy_0 rfl ?_
  refine sf_istore_n (lv' := [(2, .int x1), (0, .ref (V.2.1 149)), (1, .int x1)]) (pc := 1) C dX10_carryBy_1 (by decide) rfl ?_
  refine sf_aload_n (pc := 2) C 1 dX10_carryBy_2 rfl ?_
  refine sf_get (pc := 3) C nk_149 sh_149 rfl fl_10_88 dX10_carryBy_3 ?_
  refine sf_iconst (v := 1) (pc := 6) C dX10_carryBy_6 (by decide) ?_
  refine sf_isub (pc := 7) C dX10_carryBy_7 ?_
  refine sf_istore_n (lv' := [(3, .int ((s 149 2) - (1 : Int32))), (2, .int x1), (0, .ref (V.2.1 149)), (1, .int x1)]) (pc := 8) C dX10_carryBy_8 (by decide) rfl ?_
  refine sf_sub [2, 1, 0] rfl ?_
  exact w10_carryBy_L9 C _ _ _ h
set_option maxHeartbeats 4000000 in
set_option maxRecDepth 100000 in
theorem k10_carryBy {l : Launch} {V : sf_V} {s : sf_Sg} {x1 : Int32} {s' : sf_Sg} (h : f10_carryBy s x1 = some s') : sf_M l V yX10_carryBy (.code yX10_carryBy cX10_carryBy 4 none) 0 [.ref (V.2.1 149), .int x1] s (sf_Qv V s') := by
  refine sf_enter (by decide) (Nat.le_of_ble_eq_true rfl) (fun X hX C => ?_)
  refine sf_sub [0, 1] rfl ?_
  exact w10_carryBy_b0 (show sf_C X V cX10_carryBy 4 RX10 none 0 from C)  h
set_option maxHeartbeats 4000000 in
set_option maxRecDepth 100000 in
theorem w10_findFit_b76 {X : sf_X} {V : sf_V} {s' : sf_Sg} {k21 : sf_Sg → Int32 → Option sf_Sg} (C : sf_C X V cX10_findFit 3 RX10 none 5) (hk21 : ∀  (s : sf_Sg) (x1 : Int32), k21 s x1 = some s' → sf_G X V 3 (sf_Q X V (sf_Qv V s')) s 21 [(0, .ref (V.2.1 149)), (1, .int x1)] []) {s : sf_Sg} {x1 : Int32} {t1 : Int32} (h : f10_findFit_b76 k21 s x1 t1 = some s') : sf_G X V 3 (sf_Q X V (sf_Qv V s')) s 76 [(0, .ref (V.2.1 149)), (1, .int x1)] [.int t1, .ref (V.2.1 149)] := by
  unfold f10_findFit_b76 at h
  refine sf_put (pc := 76) C nk_149 sh_149 rfl fw_10_290 rfl rfl dX10_findFit_76 ?_
  refine sf_iinc (v := (x1 + 1)) (lv' := [(1, .int (x1 + 1)), (0, .ref (V.2.1 149))]) (pc := 79) C 1 dX10_findFit_79 rfl rfl (by decide) rfl ?_
  refine sf_goto (tgt := 21) (pc := 82) C dX10_findFit_82 rfl ?_
  refine sf_sub [1, 0] rfl ?_
  exact hk21 _ _ h
set_option maxHeartbeats 4000000 in
set_option maxRecDepth 100000 in
theorem w10_findFit_b56 {X : sf_X} {V : sf_V} {s' : sf_Sg} {k21 : sf_Sg → Int32 → Option sf_Sg} (C : sf_C X V cX10_findFit 3 RX10 none 5) (hk21 : ∀  (s : sf_Sg) (x1 : Int32), k21 s x1 = some s' → sf_G X V 3 (sf_Q X V (sf_Qv V s')) s 21 [(0, .ref (V.2.1 149)), (1, .int x1)] []) {s : sf_Sg} {x1 : Int32} {x2 : Int32} {t1 : Int32} (h : f10_findFit_b56 k21 s x1 x2 t1 = some s') : sf_G X V 3 (sf_Q X V (sf_Qv V s')) s 56 [(0, .ref (V.2.1 149)), (1, .int x1), (2, .int x2)] [.int t1, .ref (V.2.1 149)] := by
  unfold f10_findFit_b56 at h
  refine sf_put (pc := 56) C nk_149 sh_149 rfl fw_10_300 rfl rfl dX10_findFit_56 ?_
  refine sf_aload_n (pc := 59) C 0 dX10_findFit_59 rfl ?_
  refine sf_iload_n (pc := 60) C 2 dX10_findFit_60 rfl ?_
  refine sf_aload_n (pc := 61) C 0 dX10_findFit_61 rfl ?_
  refine sf_get (pc := 62) C nk_149 sh_149 rfl fl_10_290 dX10_findFit_62 ?_
  refine sf_icmp_ge (tgt := 72) (pc := 65) C dX10_findFit_65 rfl (fun c65 => ?_) (fun c65 => ?_)
  · replace h := (if_pos c65).symm.trans h
    refine sf_aload_n (pc := 72) C 0 dX10_findFit_72 rfl ?_
    refine sf_get (pc := 73) C nk_149 sh_149 rfl fl_10_290 dX10_findFit_73 ?_
    refine sf_sub [0, 1] rfl ?_
    exact w10_findFit_b76 C hk21 h
  · replace h := (if_neg c65).symm.trans h
    refine sf_iload_n (pc := 68) C 2 dX10_findFit_68 rfl ?_
    refine sf_goto (tgt := 76) (pc := 69) C dX10_findFit_69 rfl ?_
    refine sf_sub [0, 1] rfl ?_
    exact w10_findFit_b76 C hk21 h
set_option maxHeartbeats 4000000 in
set_option maxRecDepth 100000 in
theorem w10_findFit_b124 {X : sf_X} {V : sf_V} {s' : sf_Sg} (C : sf_C X V cX10_findFit 3 RX10 none 5) {s : sf_Sg} (h : f10_findFit_b124 s = some s') : sf_G X V 3 (sf_Q X V (sf_Qv V s')) s 124 [(0, .ref (V.2.1 149))] [] := by
  unfold f10_findFit_b124 at h
  refine sf_aload_n (pc := 124) C 0 dX10_findFit_124 rfl ?_
  refine sf_getr (pc := 125) C nk_149 sh_149 rfl fl_10_53 dX10_findFit_125 ?_
  refine sf_aload_n (pc := 128) C 0 dX10_findFit_128 rfl ?_
  refine sf_getr (pc := 129) C nk_149 sh_149 rfl fl_10_25 dX10_findFit_129 ?_
  refine sf_bipush (v := 31) (pc := 132) C dX10_findFit_132 (by decide) ?_
  obtain ⟨s134, e134, h⟩ := sf_ob h
  refine sf_callSv (pc := 134) C (As := [.ref (V.2.1 163), .ref (V.2.1 155), .int (31 : Int32)]) yk_X10_copyRow cl_10_157 (k10_copyRow ⟨nk_163, sh_163⟩ ⟨nk_155, sh_155⟩ e134) (by decide) rfl (Nat.le_of_ble_eq_true rfl) rfl dX10_findFit_134 ?_
  exact sf_vretW (pc := 137) C dX10_findFit_137 h
set_option maxHeartbeats 4000000 in
set_option maxRecDepth 100000 in
theorem w10_findFit_b95 {X : sf_X} {V : sf_V} {s' : sf_Sg} {k95 : sf_Sg → Int32 → Option sf_Sg} (C : sf_C X V cX10_findFit 3 RX10 none 5) (hk95 : ∀  (s : sf_Sg) (x1 : Int32), k95 s x1 = some s' → sf_G X V 3 (sf_Q X V (sf_Qv V s')) s 95 [(0, .ref (V.2.1 149)), (1, .int x1)] []) {s : sf_Sg} {x1 : Int32} (h : f10_findFit_b95 k95 s x1 = some s') : sf_G X V 3 (sf_Q X V (sf_Qv V s')) s 95 [(0, .ref (V.2.1 149)), (1, .int x1)] [] := by
  unfold f10_findFit_b95 at h
  refine sf_iload_n (pc := 95) C 1 dX10_findFit_95 rfl ?_
  refine sf_aload_n (pc := 96) C 0 dX10_findFit_96 rfl ?_
  refine sf_get (pc := 97) C nk_149 sh_149 rfl fl_10_88 dX10_findFit_97 ?_
  refine sf_icmp_ge (tgt := 124) (pc := 100) C dX10_findFit_100 rfl (fun c100 => ?_) (fun c100 => ?_)
  · replace h := (if_pos c100).symm.trans h
    refine sf_sub [0] rfl ?_
    exact w10_findFit_b124 C h
  · replace h := (if_neg c100).symm.trans h
    refine sf_aload_n (pc := 103) C 0 dX10_findFit_103 rfl ?_
    refine sf_getr (pc := 104) C nk_149 sh_149 rfl fl_10_56 dX10_findFit_104 ?_
    refine sf_iload_n (pc := 107) C 1 dX10_findFit_107 rfl ?_
    refine sf_aload_n (pc := 108) C 0 dX10_findFit_108 rfl ?_
    refine sf_getr (pc := 109) C nk_149 sh_149 rfl fl_10_25 dX10_findFit_109 ?_
    refine sf_bipush (v := 12) (pc := 112) C dX10_findFit_112 (by decide) ?_
    refine sf_iload_n (pc := 114) C 1 dX10_findFit_114 rfl ?_
    refine sf_iadd (pc := 115) C dX10_findFit_115 ?_
    obtain ⟨v116, e116, h⟩ := sf_ob h
    refine sf_iald (pc := 116) C nk_155 sh_155 e116 dX10_findFit_116 ?_
    obtain ⟨s117, e117, h⟩ := sf_ob h
    refine sf_iast (pc := 117) C nk_164 sh_164 e117 dX10_findFit_117 ?_
    refine sf_iinc (v := (x1 + 1)) (lv' := [(1, .int (x1 + 1)), (0, .ref (V.2.1 149))]) (pc := 118) C 1 dX10_findFit_118 rfl rfl (by decide) rfl ?_
    refine sf_goto (tgt := 95) (pc := 121) C dX10_findFit_121 rfl ?_
    refine sf_sub [1, 0] rfl ?_
    exact hk95 _ _ h
set_option maxHeartbeats 4000000 in
set_option maxRecDepth 100000 in
theorem w10_findFit_L95 {X : sf_X} {V : sf_V} {s' : sf_Sg} (C : sf_C X V cX10_findFit 3 RX10 none 5) : ∀  (s : sf_Sg) (x1 : Int32), f10_findFit_L95 s x1 = some s' → sf_G X V 3 (sf_Q X V (sf_Qv V s')) s 95 [(0, .ref (V.2.1 149)), (1, .int x1)] [] :=
  sf_it_ind (fun (k : sf_Sg → Int32 → Option sf_Sg) => ∀  (s : sf_Sg) (x1 : Int32), k s x1 = some s' → sf_G X V 3 (sf_Q X V (sf_Qv V s')) s 95 [(0, .ref (V.2.1 149)), (1, .int x1)] []) _ _ (fun s x1 h => by cases h) (fun k hk s x1 h => w10_findFit_b95 C hk h) _
set_option maxHeartbeats 4000000 in
set_option maxRecDepth 100000 in
theorem w10_findFit_b85 {X : sf_X} {V : sf_V} {s' : sf_Sg} (C : sf_C X V cX10_findFit 3 RX10 none 5) {s : sf_Sg} (h : f10_findFit_b85 s = some s') : sf_G X V 3 (sf_Q X V (sf_Qv V s')) s 85 [(0, .ref (V.2.1 149))] [] := by
  unfold f10_findFit_b85 at h
  refine sf_aload_n (pc := 85) C 0 dX10_findFit_85 rfl ?_
  refine sf_aload_n (pc := 86) C 0 dX10_findFit_86 rfl ?_
  refine sf_get (pc := 87) C nk_149 sh_149 rfl fl_10_300 dX10_findFit_87 ?_
  obtain ⟨s90, e90, h⟩ := sf_ob h
  refine sf_callVv (pc := 90) C (As := [.int (s 149 30)]) nk_149 sh_149 rfl yk_X10_carryBy cl_10_296 (k10_carryBy e90) (by decide) rfl (Nat.le_of_ble_eq_true rfl) rfl dX10_findFit_90 ?_
  refine sf_iconst (v := 0) (pc := 93) C dX10_findFit_93 (by decide) ?_
  refine sf_istore_n (lv' := [(1, .int (0 : Int32)), (0, .ref (V.2.1 149))]) (pc := 94) C dX10_findFit_94 (by decide) rfl ?_
  refine sf_sub [1, 0] rfl ?_
  exact w10_findFit_L95 C _ _ h
set_option maxHeartbeats 4000000 in
set_option maxRecDepth 100000 in
theorem w10_findFit_b21 {X : sf_X} {V : sf_V} {s' : sf_Sg} {k21 : sf_Sg → Int32 → Option sf_Sg} (C : sf_C X V cX10_findFit 3 RX10 none 5) (hk21 : ∀  (s : sf_Sg) (x1 : Int32), k21 s x1 = some s' → sf_G X V 3 (sf_Q X V (sf_Qv V s')) s 21 [(0, .ref (V.2.1 149)), (1, .int x1)] []) {s : sf_Sg} {x1 : Int32} (h : f10_findFit_b21 k21 s x1 = some s') : sf_G X V 3 (sf_Q X V (sf_Qv V s')) s 21 [(0, .ref (V.2.1 149)), (1, .int x1)] [] := by
  unfold f10_findFit_b21 at h
  refine sf_iload_n (pc := 21) C 1 dX10_findFit_21 rfl ?_
  refine sf_aload_n (pc := 22) C 0 dX10_findFit_22 rfl ?_
  obtain ⟨v23, e23, h⟩ := sf_ob h
  refine sf_callVi (pc := 23) C (As := []) nk_149 sh_149 rfl yk_X10_ways cl_10_293 (k10_ways e23) (by decide) rfl (Nat.le_of_ble_eq_true rfl) rfl dX10_findFit_23 ?_
  refine sf_icmp_ge (tgt := 85) (pc := 26) C dX10_findFit_26 rfl (fun c26 => ?_) (fun c26 => ?_)
  · replace h := (if_pos c26).symm.trans h
    refine sf_sub [0] rfl ?_
    exact w10_findFit_b85 C h
  · replace h := (if_neg c26).symm.trans h
    refine sf_aload_n (pc := 29) C 0 dX10_findFit_29 rfl ?_
    refine sf_iload_n (pc := 30) C 1 dX10_findFit_30 rfl ?_
    obtain ⟨s31, e31, h⟩ := sf_ob h
    refine sf_callVv (pc := 31) C (As := [.int x1]) nk_149 sh_149 rfl yk_X10_carryBy cl_10_296 (k10_carryBy e31) (by decide) rfl (Nat.le_of_ble_eq_true rfl) rfl dX10_findFit_31 ?_
    refine sf_aload_n (pc := 34) C 0 dX10_findFit_34 rfl ?_
    obtain ⟨v35, e35, h⟩ := sf_ob h
    refine sf_callVi (pc := 35) C (As := []) nk_149 sh_149 rfl yk_X10_allGalling cl_10_218 (k10_allGalling e35) (by decide) rfl (Nat.le_of_ble_eq_true rfl) rfl dX10_findFit_35 ?_
    refine sf_istore_n (lv' := [(2, .int v35), (0, .ref (V.2.1 149)), (1, .int x1)]) (pc := 38) C dX10_findFit_38 (by decide) rfl ?_
    refine sf_aload_n (pc := 39) C 1 dX10_findFit_39 rfl ?_
    refine sf_iload_n (pc := 40) C 0 dX10_findFit_40 rfl ?_
    refine sf_aload_n (pc := 41) C 1 dX10_findFit_41 rfl ?_
    refine sf_get (pc := 42) C nk_149 sh_149 rfl fl_10_290 dX10_findFit_42 ?_
    refine sf_icmp_ge (tgt := 52) (pc := 45) C dX10_findFit_45 rfl (fun c45 => ?_) (fun c45 => ?_)
    · replace h := (if_pos c45).symm.trans h
      refine sf_aload_n (pc := 52) C 1 dX10_findFit_52 rfl ?_
      refine sf_get (pc := 53) C nk_149 sh_149 rfl fl_10_300 dX10_findFit_53 ?_
      refine sf_sub [1, 2, 0] rfl ?_
      exact w10_findFit_b56 C hk21 h
    · replace h := (if_neg c45).symm.trans h
      refine sf_iload_n (pc := 48) C 2 dX10_findFit_48 rfl ?_
      refine sf_goto (tgt := 56) (pc := 49) C dX10_findFit_49 rfl ?_
      refine sf_sub [1, 2, 0] rfl ?_
      exact w10_findFit_b56 C hk21 h
set_option maxHeartbeats 4000000 in
set_option maxRecDepth 100000 in
theorem w10_findFit_L21 {X : sf_X} {V : sf_V} {s' : sf_Sg} (C : sf_C X V cX10_findFit 3 RX10 none 5) : ∀  (s : sf_Sg) (x1 : Int32), f10_findFit_L21 s x1 = some s' → sf_G X V 3 (sf_Q X V (sf_Qv V s')) s 21 [(0, .ref (V.2.1 149)), (1, .int x1)] [] :=
  sf_it_ind (fun (k : sf_Sg → Int32 → Option sf_Sg) => ∀  (s : sf_Sg) (x1 : Int32), k s x1 = some s' → sf_G X V 3 (sf_Q X V (sf_Qv V s')) s 21 [(0, .ref (V.2.1 149)), (1, .int x1)] []) _ _ (fun s x1 h => by cases h) (fun k hk s x1 h => w10_findFit_b21 C hk h) _
set_option maxHeartbeats 4000000 in
set_option maxRecDepth 100000 in
theorem w10_findFit_b0 {X : sf_X} {V : sf_V} {s' : sf_Sg} (C : sf_C X V cX10_findFit 3 RX10 none 5) {s : sf_Sg} (h : f10_findFit_b0 s = some s') : sf_G X V 3 (sf_Q X V (sf_Qv V s')) s 0 [(0, .ref (V.2.1 149))] [] := by
  unfold f10_findFit_b0 at h
  refine sf_aload_n (pc := 0) C 0 dX10_findFit_0 rfl ?_
  refine sf_getr (pc := 1) C nk_149 sh_149 rfl fl_10_25 dX10_findFit_1 ?_
  refine sf_aload_n (pc := 4) C 0 dX10_findFit_4 rfl ?_
  refine sf_getr (pc := 5) C nk_149 sh_149 rfl fl_10_53 dX10_findFit_5 ?_
  refine sf_bipush (v := 31) (pc := 8) C dX10_findFit_8 (by decide) ?_
  obtain ⟨s10, e10, h⟩ := sf_ob h
  refine sf_callSv (pc := 10) C (As := [.ref (V.2.1 155), .ref (V.2.1 163), .int (31 : Int32)]) yk_X10_copyRow cl_10_157 (k10_copyRow ⟨nk_155, sh_155⟩ ⟨nk_163, sh_163⟩ e10) (by decide) rfl (Nat.le_of_ble_eq_true rfl) rfl dX10_findFit_10 ?_
  refine sf_aload_n (pc := 13) C 0 dX10_findFit_13 rfl ?_
  refine sf_ldc (v := 1000000) (pc := 14) C dX10_findFit_14 tm_1056 ?_
  refine sf_put (pc := 16) C nk_149 sh_149 rfl fw_10_290 rfl rfl dX10_findFit_16 ?_
  refine sf_iconst (v := 0) (pc := 19) C dX10_findFit_19 (by decide) ?_
  refine sf_istore_n (lv' := [(1, .int (0 : Int32)), (0, .ref (V.2.1 149))]) (pc := 20) C dX10_findFit_20 (by decide) rfl ?_
  refine sf_sub [1, 0] rfl ?_
  exact w10_findFit_L21 C _ _ h
set_option maxHeartbeats 4000000 in
set_option maxRecDepth 100000 in
theorem k10_findFit {l : Launch} {V : sf_V} {s : sf_Sg} {s' : sf_Sg} (h : f10_findFit s = some s') : sf_M l V yX10_findFit (.code yX10_findFit cX10_findFit 3 none) 5 [.ref (V.2.1 149)] s (sf_Qv V s') := by
  refine sf_enter (by decide) (Nat.le_of_ble_eq_true rfl) (fun X hX C => ?_)
  refine sf_sub [0] rfl ?_
  exact w10_findFit_b0 (show sf_C X V cX10_findFit 3 RX10 none 5 from C)  h
set_option maxHeartbeats 4000000 in
set_option maxRecDepth 100000 in
theorem w10_fit_b16 {X : sf_X} {V : sf_V} {r : Int32} {s' : sf_Sg} (C : sf_C X V cX10_fit 2 RX10 (some .int) 6) {s : sf_Sg} {x1 : Int32} (h : f10_fit_b16 s x1 = some (r, s')) : sf_G X V 2 (sf_Q X V (sf_Qi V r s')) s 16 [(0, .ref (V.2.1 149)), (1, .int x1)] [] := by
  unfold f10_fit_b16 at h
  refine sf_aload_n (pc := 16) C 0 dX10_fit_16 rfl ?_
  refine sf_get (pc := 17) C nk_149 sh_149 rfl fl_10_95 dX10_fit_17 ?_
  refine sf_if_ne (tgt := 25) (pc := 20) C dX10_fit_20 rfl (fun c20 => ?_) (fun c20 => ?_)
  · replace h := (if_neg c20).symm.trans h
    refine sf_aload_n (pc := 25) C 0 dX10_fit_25 rfl ?_
    obtain ⟨s26, e26, h⟩ := sf_ob h
    refine sf_callVv (pc := 26) C (As := []) nk_149 sh_149 rfl yk_X10_findFit cl_10_303 (k10_findFit e26) (by decide) rfl (Nat.le_of_ble_eq_true rfl) rfl dX10_fit_26 ?_
    refine sf_iload_n (pc := 29) C 1 dX10_fit_29 rfl ?_
    refine sf_iconst (v := -1) (pc := 30) C dX10_fit_30 (by decide) ?_
    refine sf_icmp_ne (tgt := 41) (pc := 31) C dX10_fit_31 rfl (fun c31 => ?_) (fun c31 => ?_)
    · replace h := (if_neg c31).symm.trans h
      refine sf_aload_n (pc := 41) C 0 dX10_fit_41 rfl ?_
      refine sf_getr (pc := 42) C nk_149 sh_149 rfl fl_10_56 dX10_fit_42 ?_
      refine sf_iload_n (pc := 45) C 1 dX10_fit_45 rfl ?_
      obtain ⟨v46, e46, h⟩ := sf_ob h
      refine sf_iald (pc := 46) C nk_164 sh_164 e46 dX10_fit_46 ?_
      exact sf_iretW (pc := 47) C dX10_fit_47 h
    · replace h := (if_pos c31).symm.trans h
      refine sf_aload_n (pc := 34) C 0 dX10_fit_34 rfl ?_
      refine sf_get (pc := 35) C nk_149 sh_149 rfl fl_10_290 dX10_fit_35 ?_
      refine sf_goto (tgt := 47) (pc := 38) C dX10_fit_38 rfl ?_
      exact sf_iretW (pc := 47) C dX10_fit_47 h
  · replace h := (if_pos c20).symm.trans h
    refine sf_iconst (v := -1) (pc := 23) C dX10_fit_23 (by decide) ?_
    exact sf_iretW (pc := 24) C dX10_fit_24 h
set_option maxHeartbeats 4000000 in
set_option maxRecDepth 100000 in
theorem w10_fit_b0 {X : sf_X} {V : sf_V} {r : Int32} {s' : sf_Sg} (C : sf_C X V cX10_fit 2 RX10 (some .int) 6) {s : sf_Sg} {x1 : Int32} (h : f10_fit_b0 s x1 = some (r, s')) : sf_G X V 2 (sf_Q X V (sf_Qi V r s')) s 0 [(0, .ref (V.2.1 149)), (1, .int x1)] [] := by
  unfold f10_fit_b0 at h
  refine sf_iload_n (pc := 0) C 1 dX10_fit_0 rfl ?_
  refine sf_iconst (v := -1) (pc := 1) C dX10_fit_1 (by decide) ?_
  refine sf_icmp_eq (tgt := 16) (pc := 2) C dX10_fit_2 rfl (fun c2 => ?_) (fun c2 => ?_)
  · replace h := (if_pos c2).symm.trans h
    exact w10_fit_b16 C h
  · replace h := (if_neg c2).symm.trans h
    refine sf_aload_n (pc := 5) C 0 dX10_fit_5 rfl ?_
    refine sf_iload_n (pc := 6) C 1 dX10_fit_6 rfl ?_
    refine sf_callVi (pc := 7) C (As := [.int x1]) nk_149 sh_149 rfl yk_X10_isBurden cl_10_233 (k10_isBurden rfl) (by decide) rfl (Nat.le_of_ble_eq_true rfl) rfl dX10_fit_7 ?_
    refine sf_if_ne (tgt := 16) (pc := 10) C dX10_fit_10 rfl (fun c10 => ?_) (fun c10 => ?_)
    · replace h := (if_neg c10).symm.trans h
      exact w10_fit_b16 C h
    · replace h := (if_pos c10).symm.trans h
      refine sf_ldc (v := -1000000001) (pc := 13) C dX10_fit_13 tm_1069 ?_
      exact sf_iretW (pc := 15) C dX10_fit_15 h
set_option maxHeartbeats 4000000 in
set_option maxRecDepth 100000 in
theorem k10_fit {l : Launch} {V : sf_V} {s : sf_Sg} {x1 : Int32} {r : Int32} {s' : sf_Sg} (h : f10_fit s x1 = some (r, s')) : sf_M l V yX10_fit (.code yX10_fit cX10_fit 2 (some .int)) 6 [.ref (V.2.1 149), .int x1] s (sf_Qi V r s') := by
  refine sf_enter (by decide) (Nat.le_of_ble_eq_true rfl) (fun X hX C => ?_)
  refine sf_sub [0, 1] rfl ?_
  exact w10_fit_b0 (show sf_C X V cX10_fit 2 RX10 (some .int) 6 from C)  h
set_option maxHeartbeats 4000000 in
set_option maxRecDepth 100000 in
theorem w10_byTwo_b175 {X : sf_X} {V : sf_V} {r : Int32} {s' : sf_Sg} {k46 : sf_Sg → Int32 → Int32 → Int32 → Int32 → Int32 → Option (Int32 × sf_Sg)} {k86 : sf_Sg → Int32 → Int32 → Int32 → Int32 → Int32 → Int32 → Int32 → Option (Int32 × sf_Sg)} (C : sf_C X V cX10_byTwo 10 RX10 (some .int) 5) (hk46 : ∀  (s : sf_Sg) (x1 : Int32) (x2 : Int32) (x3 : Int32) (x4 : Int32) (x5 : Int32), k46 s x1 x2 x3 x4 x5 = some (r, s') → sf_G X V 10 (sf_Q X V (sf_Qi V r s')) s 46 [(0, .ref (V.2.1 149)), (1, .int x1), (2, .int x2), (3, .int x3), (4, .int x4), (5, .int x5)] []) (hk86 : ∀  (s : sf_Sg) (x1 : Int32) (x2 : Int32) (x3 : Int32) (x4 : Int32) (x5 : Int32) (x6 : Int32) (x7 : Int32), k86 s x1 x2 x3 x4 x5 x6 x7 = some (r, s') → sf_G X V 10 (sf_Q X V (sf_Qi V r s')) s 86 [(0, .ref (V.2.1 149)), (1, .int x1), (2, .int x2), (3, .int x3), (4, .int x4), (5, .int x5), (6, .int x6), (7, .int x7)] []) {s : sf_Sg} {x1 : Int32} {x2 : Int32} {x3 : Int32} {x5 : Int32} {x6 : Int32} {x7 : Int32} {t0 : Int32} (h : f10_byTwo_b175 k46 k86 s x1 x2 x3 x5 x6 x7 t0 = some (r, s')) : sf_G X V 10 (sf_Q X V (sf_Qi V r s')) s 175 [(0, .ref (V.2.1 149)), (1, .int x1), (2, .int x2), (3, .int x3), (5, .int x5), (6, .int x6), (7, .int x7)] [.int t0] := by
  unfold f10_byTwo_b175 at h
  refine sf_istore (lv' := [(4, .int t0), (0, .ref (V.2.1 149)), (1, .int x1), (2, .int x2), (3, .int x3), (5, .int x5), (6, .int x6), (7, .int x7)]) (pc := 175) C dX10_byTwo_175 (by decide) rfl ?_
  refine sf_iinc (v := (x7 + 1)) (lv' := [(7, .int (x7 + 1)), (4, .int t0), (0, .ref (V.2.1 149)), (1, .int x1), (2, .int x2), (3, .int x3), (5, .int x5), (6, .int x6)]) (pc := 177) C 7 dX10_byTwo_177 rfl rfl (by decide) rfl ?_
  refine sf_goto (tgt := 86) (pc := 180) C dX10_byTwo_180 rfl ?_
  refine sf_sub [2, 3, 4, 5, 1, 6, 7, 0] rfl ?_
  exact hk86 _ _ _ _ _ _ _ _ h
set_option maxHeartbeats 4000000 in
set_option maxRecDepth 100000 in
theorem w10_byTwo_b162 {X : sf_X} {V : sf_V} {r : Int32} {s' : sf_Sg} {k46 : sf_Sg → Int32 → Int32 → Int32 → Int32 → Int32 → Option (Int32 × sf_Sg)} {k86 : sf_Sg → Int32 → Int32 → Int32 → Int32 → Int32 → Int32 → Int32 → Option (Int32 × sf_Sg)} (C : sf_C X V cX10_byTwo 10 RX10 (some .int) 5) (hk46 : ∀  (s : sf_Sg) (x1 : Int32) (x2 : Int32) (x3 : Int32) (x4 : Int32) (x5 : Int32), k46 s x1 x2 x3 x4 x5 = some (r, s') → sf_G X V 10 (sf_Q X V (sf_Qi V r s')) s 46 [(0, .ref (V.2.1 149)), (1, .int x1), (2, .int x2), (3, .int x3), (4, .int x4), (5, .int x5)] []) (hk86 : ∀  (s : sf_Sg) (x1 : Int32) (x2 : Int32) (x3 : Int32) (x4 : Int32) (x5 : Int32) (x6 : Int32) (x7 : Int32), k86 s x1 x2 x3 x4 x5 x6 x7 = some (r, s') → sf_G X V 10 (sf_Q X V (sf_Qi V r s')) s 86 [(0, .ref (V.2.1 149)), (1, .int x1), (2, .int x2), (3, .int x3), (4, .int x4), (5, .int x5), (6, .int x6), (7, .int x7)] []) {s : sf_Sg} {x1 : Int32} {x2 : Int32} {x4 : Int32} {x5 : Int32} {x6 : Int32} {x7 : Int32} {x8 : Int32} {x9 : Int32} {t0 : Int32} (h : f10_byTwo_b162 k46 k86 s x1 x2 x4 x5 x6 x7 x8 x9 t0 = some (r, s')) : sf_G X V 10 (sf_Q X V (sf_Qi V r s')) s 162 [(0, .ref (V.2.1 149)), (1, .int x1), (2, .int x2), (4, .int x4), (5, .int x5), (6, .int x6), (7, .int x7), (8, .int x8), (9, .int x9)] [.int t0] := by
  unfold f10_byTwo_b162 at h
  refine sf_istore_n (lv' := [(3, .int t0), (0, .ref (V.2.1 149)), (1, .int x1), (2, .int x2), (4, .int x4), (5, .int x5), (6, .int x6), (7, .int x7), (8, .int x8), (9, .int x9)]) (pc := 162) C dX10_byTwo_162 (by decide) rfl ?_
  refine sf_iload (pc := 163) C 9 dX10_byTwo_163 rfl ?_
  refine sf_if_eq (tgt := 173) (pc := 165) C dX10_byTwo_165 rfl (fun c165 => ?_) (fun c165 => ?_)
  · replace h := (if_pos c165).symm.trans h
    refine sf_iload (pc := 173) C 4 dX10_byTwo_173 rfl ?_
    refine sf_sub [1, 2, 3, 0, 5, 6, 7] rfl ?_
    exact w10_byTwo_b175 C hk46 hk86 h
  · replace h := (if_neg c165).symm.trans h
    refine sf_iload (pc := 168) C 8 dX10_byTwo_168 rfl ?_
    refine sf_goto (tgt := 175) (pc := 170) C dX10_byTwo_170 rfl ?_
    refine sf_sub [1, 2, 3, 0, 5, 6, 7] rfl ?_
    exact w10_byTwo_b175 C hk46 hk86 h
set_option maxHeartbeats 4000000 in
set_option maxRecDepth 100000 in
theorem w10_byTwo_b143 {X : sf_X} {V : sf_V} {r : Int32} {s' : sf_Sg} {k46 : sf_Sg → Int32 → Int32 → Int32 → Int32 → Int32 → Option (Int32 × sf_Sg)} {k86 : sf_Sg → Int32 → Int32 → Int32 → Int32 → Int32 → Int32 → Int32 → Option (Int32 × sf_Sg)} (C : sf_C X V cX10_byTwo 10 RX10 (some .int) 5) (hk46 : ∀  (s : sf_Sg) (x1 : Int32) (x2 : Int32) (x3 : Int32) (x4 : Int32) (x5 : Int32), k46 s x1 x2 x3 x4 x5 = some (r, s') → sf_G X V 10 (sf_Q X V (sf_Qi V r s')) s 46 [(0, .ref (V.2.1 149)), (1, .int x1), (2, .int x2), (3, .int x3), (4, .int x4), (5, .int x5)] []) (hk86 : ∀  (s : sf_Sg) (x1 : Int32) (x2 : Int32) (x3 : Int32) (x4 : Int32) (x5 : Int32) (x6 : Int32) (x7 : Int32), k86 s x1 x2 x3 x4 x5 x6 x7 = some (r, s') → sf_G X V 10 (sf_Q X V (sf_Qi V r s')) s 86 [(0, .ref (V.2.1 149)), (1, .int x1), (2, .int x2), (3, .int x3), (4, .int x4), (5, .int x5), (6, .int x6), (7, .int x7)] []) {s : sf_Sg} {x1 : Int32} {x2 : Int32} {x3 : Int32} {x4 : Int32} {x5 : Int32} {x6 : Int32} {x7 : Int32} {x8 : Int32} {t0 : Int32} (h : f10_byTwo_b143 k46 k86 s x1 x2 x3 x4 x5 x6 x7 x8 t0 = some (r, s')) : sf_G X V 10 (sf_Q X V (sf_Qi V r s')) s 143 [(0, .ref (V.2.1 149)), (1, .int x1), (2, .int x2), (3, .int x3), (4, .int x4), (5, .int x5), (6, .int x6), (7, .int x7), (8, .int x8)] [.int t0] := by
  unfold f10_byTwo_b143 at h
  refine sf_istore (lv' := [(9, .int t0), (0, .ref (V.2.1 149)), (1, .int x1), (2, .int x2), (3, .int x3), (4, .int x4), (5, .int x5), (6, .int x6), (7, .int x7), (8, .int x8)]) (pc := 143) C dX10_byTwo_143 (by decide) rfl ?_
  refine sf_iload (pc := 145) C 0 dX10_byTwo_145 rfl ?_
  refine sf_if_eq (tgt := 161) (pc := 147) C dX10_byTwo_147 rfl (fun c147 => ?_) (fun c147 => ?_)
  · replace h := (if_pos c147).symm.trans h
    refine sf_iload_n (pc := 161) C 4 dX10_byTwo_161 rfl ?_
    refine sf_sub [1, 2, 3, 5, 6, 7, 8, 9, 0] rfl ?_
    exact w10_byTwo_b162 C hk46 hk86 h
  · replace h := (if_neg c147).symm.trans h
    refine sf_bipush (v := 10) (pc := 150) C dX10_byTwo_150 (by decide) ?_
    refine sf_iload (pc := 152) C 7 dX10_byTwo_152 rfl ?_
    refine sf_imul (pc := 154) C dX10_byTwo_154 ?_
    refine sf_iload (pc := 155) C 8 dX10_byTwo_155 rfl ?_
    refine sf_iadd (pc := 157) C dX10_byTwo_157 ?_
    refine sf_goto (tgt := 162) (pc := 158) C dX10_byTwo_158 rfl ?_
    refine sf_sub [1, 2, 3, 5, 6, 7, 8, 9, 0] rfl ?_
    exact w10_byTwo_b162 C hk46 hk86 h
set_option maxHeartbeats 4000000 in
set_option maxRecDepth 100000 in
theorem w10_byTwo_b138 {X : sf_X} {V : sf_V} {r : Int32} {s' : sf_Sg} {k46 : sf_Sg → Int32 → Int32 → Int32 → Int32 → Int32 → Option (Int32 × sf_Sg)} {k86 : sf_Sg → Int32 → Int32 → Int32 → Int32 → Int32 → Int32 → Int32 → Option (Int32 × sf_Sg)} (C : sf_C X V cX10_byTwo 10 RX10 (some .int) 5) (hk46 : ∀  (s : sf_Sg) (x1 : Int32) (x2 : Int32) (x3 : Int32) (x4 : Int32) (x5 : Int32), k46 s x1 x2 x3 x4 x5 = some (r, s') → sf_G X V 10 (sf_Q X V (sf_Qi V r s')) s 46 [(0, .ref (V.2.1 149)), (1, .int x1), (2, .int x2), (3, .int x3), (4, .int x4), (5, .int x5)] []) (hk86 : ∀  (s : sf_Sg) (x1 : Int32) (x2 : Int32) (x3 : Int32) (x4 : Int32) (x5 : Int32) (x6 : Int32) (x7 : Int32), k86 s x1 x2 x3 x4 x5 x6 x7 = some (r, s') → sf_G X V 10 (sf_Q X V (sf_Qi V r s')) s 86 [(0, .ref (V.2.1 149)), (1, .int x1), (2, .int x2), (3, .int x3), (4, .int x4), (5, .int x5), (6, .int x6), (7, .int x7)] []) {s : sf_Sg} {x1 : Int32} {x2 : Int32} {x3 : Int32} {x4 : Int32} {x5 : Int32} {x6 : Int32} {x7 : Int32} {x8 : Int32} (h : f10_byTwo_b138 k46 k86 s x1 x2 x3 x4 x5 x6 x7 x8 = some (r, s')) : sf_G X V 10 (sf_Q X V (sf_Qi V r s')) s 138 [(0, .ref (V.2.1 149)), (1, .int x1), (2, .int x2), (3, .int x3), (4, .int x4), (5, .int x5), (6, .int x6), (7, .int x7), (8, .int x8)] [] := by
  unfold f10_byTwo_b138 at h
  refine sf_iconst (v := 1) (pc := 138) C dX10_byTwo_138 (by decide) ?_
  refine sf_goto (tgt := 143) (pc := 139) C dX10_byTwo_139 rfl ?_
  exact w10_byTwo_b143 C hk46 hk86 h
set_option maxHeartbeats 4000000 in
set_option maxRecDepth 100000 in
theorem w10_byTwo_b142 {X : sf_X} {V : sf_V} {r : Int32} {s' : sf_Sg} {k46 : sf_Sg → Int32 → Int32 → Int32 → Int32 → Int32 → Option (Int32 × sf_Sg)} {k86 : sf_Sg → Int32 → Int32 → Int32 → Int32 → Int32 → Int32 → Int32 → Option (Int32 × sf_Sg)} (C : sf_C X V cX10_byTwo 10 RX10 (some .int) 5) (hk46 : ∀  (s : sf_Sg) (x1 : Int32) (x2 : Int32) (x3 : Int32) (x4 : Int32) (x5 : Int32), k46 s x1 x2 x3 x4 x5 = some (r, s') → sf_G X V 10 (sf_Q X V (sf_Qi V r s')) s 46 [(0, .ref (V.2.1 149)), (1, .int x1), (2, .int x2), (3, .int x3), (4, .int x4), (5, .int x5)] []) (hk86 : ∀  (s : sf_Sg) (x1 : Int32) (x2 : Int32) (x3 : Int32) (x4 : Int32) (x5 : Int32) (x6 : Int32) (x7 : Int32), k86 s x1 x2 x3 x4 x5 x6 x7 = some (r, s') → sf_G X V 10 (sf_Q X V (sf_Qi V r s')) s 86 [(0, .ref (V.2.1 149)), (1, .int x1), (2, .int x2), (3, .int x3), (4, .int x4), (5, .int x5), (6, .int x6), (7, .int x7)] []) {s : sf_Sg} {x1 : Int32} {x2 : Int32} {x3 : Int32} {x4 : Int32} {x5 : Int32} {x6 : Int32} {x7 : Int32} {x8 : Int32} (h : f10_byTwo_b142 k46 k86 s x1 x2 x3 x4 x5 x6 x7 x8 = some (r, s')) : sf_G X V 10 (sf_Q X V (sf_Qi V r s')) s 142 [(0, .ref (V.2.1 149)), (1, .int x1), (2, .int x2), (3, .int x3), (4, .int x4), (5, .int x5), (6, .int x6), (7, .int x7), (8, .int x8)] [] := by
  unfold f10_byTwo_b142 at h
  refine sf_iconst (v := 0) (pc := 142) C dX10_byTwo_142 (by decide) ?_
  exact w10_byTwo_b143 C hk46 hk86 h
set_option maxHeartbeats 4000000 in
set_option maxRecDepth 100000 in
theorem w10_byTwo_b183 {X : sf_X} {V : sf_V} {r : Int32} {s' : sf_Sg} {k46 : sf_Sg → Int32 → Int32 → Int32 → Int32 → Int32 → Option (Int32 × sf_Sg)} (C : sf_C X V cX10_byTwo 10 RX10 (some .int) 5) (hk46 : ∀  (s : sf_Sg) (x1 : Int32) (x2 : Int32) (x3 : Int32) (x4 : Int32) (x5 : Int32), k46 s x1 x2 x3 x4 x5 = some (r, s') → sf_G X V 10 (sf_Q X V (sf_Qi V r s')) s 46 [(0, .ref (V.2.1 149)), (1, .int x1), (2, .int x2), (3, .int x3), (4, .int x4), (5, .int x5)] []) {s : sf_Sg} {x1 : Int32} {x2 : Int32} {x3 : Int32} {x4 : Int32} {x5 : Int32} (h : f10_byTwo_b183 k46 s x1 x2 x3 x4 x5 = some (r, s')) : sf_G X V 10 (sf_Q X V (sf_Qi V r s')) s 183 [(0, .ref (V.2.1 149)), (1, .int x1), (2, .int x2), (3, .int x3), (4, .int x4), (5, .int x5)] [] := by
  unfold f10_byTwo_b183 at h
  refine sf_iinc (v := (x5 + 1)) (lv' := [(5, .int (x5 + 1)), (0, .ref (V.2.1 149)), (1, .int x1), (2, .int x2), (3, .int x3), (4, .int x4)]) (pc := 183) C 5 dX10_byTwo_183 rfl rfl (by decide) rfl ?_
  refine sf_goto (tgt := 46) (pc := 186) C dX10_byTwo_186 rfl ?_
  refine sf_sub [1, 2, 3, 4, 5, 0] rfl ?_
  exact hk46 _ _ _ _ _ _ h
set_option maxHeartbeats 4000000 in
set_option maxRecDepth 100000 in
theorem w10_byTwo_b86 {X : sf_X} {V : sf_V} {r : Int32} {s' : sf_Sg} {k46 : sf_Sg → Int32 → Int32 → Int32 → Int32 → Int32 → Option (Int32 × sf_Sg)} {k86 : sf_Sg → Int32 → Int32 → Int32 → Int32 → Int32 → Int32 → Int32 → Option (Int32 × sf_Sg)} (C : sf_C X V cX10_byTwo 10 RX10 (some .int) 5) (hk46 : ∀  (s : sf_Sg) (x1 : Int32) (x2 : Int32) (x3 : Int32) (x4 : Int32) (x5 : Int32), k46 s x1 x2 x3 x4 x5 = some (r, s') → sf_G X V 10 (sf_Q X V (sf_Qi V r s')) s 46 [(0, .ref (V.2.1 149)), (1, .int x1), (2, .int x2), (3, .int x3), (4, .int x4), (5, .int x5)] []) (hk86 : ∀  (s : sf_Sg) (x1 : Int32) (x2 : Int32) (x3 : Int32) (x4 : Int32) (x5 : Int32) (x6 : Int32) (x7 : Int32), k86 s x1 x2 x3 x4 x5 x6 x7 = some (r, s') → sf_G X V 10 (sf_Q X V (sf_Qi V r s')) s 86 [(0, .ref (V.2.1 149)), (1, .int x1), (2, .int x2), (3, .int x3), (4, .int x4), (5, .int x5), (6, .int x6), (7, .int x7)] []) {s : sf_Sg} {x1 : Int32} {x2 : Int32} {x3 : Int32} {x4 : Int32} {x5 : Int32} {x6 : Int32} {x7 : Int32} (h : f10_byTwo_b86 k46 k86 s x1 x2 x3 x4 x5 x6 x7 = some (r, s')) : sf_G X V 10 (sf_Q X V (sf_Qi V r s')) s 86 [(0, .ref (V.2.1 149)), (1, .int x1), (2, .int x2), (3, .int x3), (4, .int x4), (5, .int x5), (6, .int x6), (7, .int x7)] [] := by
  unfold f10_byTwo_b86 at h
  refine sf_iload (pc := 86) C 7 dX10_byTwo_86 rfl ?_
  refine sf_aload_n (pc := 88) C 0 dX10_byTwo_88 rfl ?_
  refine sf_get (pc := 89) C nk_149 sh_149 rfl fl_10_95 dX10_byTwo_89 ?_
  refine sf_icmp_ge (tgt := 183) (pc := 92) C dX10_byTwo_92 rfl (fun c92 => ?_) (fun c92 => ?_)
  · replace h := (if_pos c92).symm.trans h
    refine sf_sub [0, 1, 2, 3, 4, 5] rfl ?_
    exact w10_byTwo_b183 C hk46 h
  · replace h := (if_neg c92).symm.trans h
    refine sf_aload_n (pc := 95) C 0 dX10_byTwo_95 rfl ?_
    refine sf_getr (pc := 96) C nk_149 sh_149 rfl fl_10_25 dX10_byTwo_96 ?_
    refine sf_bipush (v := 18) (pc := 99) C dX10_byTwo_99 (by decide) ?_
    refine sf_iload_n (pc := 101) C 1 dX10_byTwo_101 rfl ?_
    refine sf_iadd (pc := 102) C dX10_byTwo_102 ?_
    refine sf_iload (pc := 103) C 7 dX10_byTwo_103 rfl ?_
    obtain ⟨s105, e105, h⟩ := sf_ob h
    refine sf_iast (pc := 105) C nk_155 sh_155 e105 dX10_byTwo_105 ?_
    refine sf_aload_n (pc := 106) C 0 dX10_byTwo_106 rfl ?_
    obtain ⟨v107, e107, h⟩ := sf_ob h
    refine sf_callVi (pc := 107) C (As := []) nk_149 sh_149 rfl yk_X10_allGalling cl_10_218 (k10_allGalling e107) (by decide) rfl (Nat.le_of_ble_eq_true rfl) rfl dX10_byTwo_107 ?_
    refine sf_istore (lv' := [(8, .int v107), (0, .ref (V.2.1 149)), (1, .int x1), (2, .int x2), (3, .int x3), (4, .int x4), (5, .int x5), (6, .int x6), (7, .int x7)]) (pc := 110) C dX10_byTwo_110 (by decide) rfl ?_
    refine sf_iload (pc := 112) C 0 dX10_byTwo_112 rfl ?_
    refine sf_iload (pc := 114) C 5 dX10_byTwo_114 rfl ?_
    refine sf_icmp_lt (tgt := 138) (pc := 116) C dX10_byTwo_116 rfl (fun c116 => ?_) (fun c116 => ?_)
    · replace h := (if_pos c116).symm.trans h
      refine sf_sub [1, 2, 3, 4, 5, 6, 7, 8, 0] rfl ?_
      exact w10_byTwo_b138 C hk46 hk86 h
    · replace h := (if_neg c116).symm.trans h
      refine sf_iload (pc := 119) C 0 dX10_byTwo_119 rfl ?_
      refine sf_iload (pc := 121) C 5 dX10_byTwo_121 rfl ?_
      refine sf_icmp_ne (tgt := 142) (pc := 123) C dX10_byTwo_123 rfl (fun c123 => ?_) (fun c123 => ?_)
      · replace h := (if_neg c123).symm.trans h
        refine sf_sub [1, 2, 3, 4, 5, 6, 7, 8, 0] rfl ?_
        exact w10_byTwo_b142 C hk46 hk86 h
      · replace h := (if_pos c123).symm.trans h
        refine sf_bipush (v := 10) (pc := 126) C dX10_byTwo_126 (by decide) ?_
        refine sf_iload (pc := 128) C 7 dX10_byTwo_128 rfl ?_
        refine sf_imul (pc := 130) C dX10_byTwo_130 ?_
        refine sf_iload (pc := 131) C 8 dX10_byTwo_131 rfl ?_
        refine sf_iadd (pc := 133) C dX10_byTwo_133 ?_
        refine sf_iload_n (pc := 134) C 4 dX10_byTwo_134 rfl ?_
        refine sf_icmp_ge (tgt := 142) (pc := 135) C dX10_byTwo_135 rfl (fun c135 => ?_) (fun c135 => ?_)
        · replace h := (if_pos c135).symm.trans h
          refine sf_sub [1, 2, 3, 4, 5, 6, 7, 8, 0] rfl ?_
          exact w10_byTwo_b142 C hk46 hk86 h
        · replace h := (if_neg c135).symm.trans h
          refine sf_sub [1, 2, 3, 4, 5, 6, 7, 8, 0] rfl ?_
          exact w10_byTwo_b138 C hk46 hk86 h
set_option maxHeartbeats 4000000 in
set_option maxRecDepth 100000 in
theorem w10_byTwo_L86 {X : sf_X} {V : sf_V} {r : Int32} {s' : sf_Sg} {k46 : sf_Sg → Int32 → Int32 → Int32 → Int32 → Int32 → Option (Int32 × sf_Sg)} (C : sf_C X V cX10_byTwo 10 RX10 (some .int) 5) (hk46 : ∀  (s : sf_Sg) (x1 : Int32) (x2 : Int32) (x3 : Int32) (x4 : Int32) (x5 : Int32), k46 s x1 x2 x3 x4 x5 = some (r, s') → sf_G X V 10 (sf_Q X V (sf_Qi V r s')) s 46 [(0, .ref (V.2.1 149)), (1, .int x1), (2, .int x2), (3, .int x3), (4, .int x4), (5, .int x5)] []) : ∀  (s : sf_Sg) (x1 : Int32) (x2 : Int32) (x3 : Int32) (x4 : Int32) (x5 : Int32) (x6 : Int32) (x7 : Int32), f10_byTwo_L86 k46 s x1 x2 x3 x4 x5 x6 x7 = some (r, s') → sf_G X V 10 (sf_Q X V (sf_Qi V r s')) s 86 [(0, .ref (V.2.1 149)), (1, .int x1), (2, .int x2), (3, .int x3), (4, .int x4), (5, .int x5), (6, .int x6), (7, .int x7)] [] :=
  sf_it_ind (fun (k : sf_Sg → Int32 → Int32 → Int32 → Int32 → Int32 → Int32 → Int32 → Option (Int32 × sf_Sg)) => ∀  (s : sf_Sg) (x1 : Int32) (x2 : Int32) (x3 : Int32) (x4 : Int32) (x5 : Int32) (x6 : Int32) (x7 : Int32), k s x1 x2 x3 x4 x5 x6 x7 = some (r, s') → sf_G X V 10 (sf_Q X V (sf_Qi V r s')) s 86 [(0, .ref (V.2.1 149)), (1, .int x1), (2, .int x2), (3, .int x3), (4, .int x4), (5, .int x5), (6, .int x6), (7, .int x7)] []) _ _ (fun s x1 x2 x3 x4 x5 x6 x7 h => by cases h) (fun k hk s x1 x2 x3 x4 x5 x6 x7 h => w10_byTwo_b86 C hk46 hk h) _
set_option maxHeartbeats 4000000 in
set_option maxRecDepth 100000 in
theorem w10_byTwo_b211 {X : sf_X} {V : sf_V} {r : Int32} {s' : sf_Sg} (C : sf_C X V cX10_byTwo 10 RX10 (some .int) 5) {s : sf_Sg} {x3 : Int32} (h : f10_byTwo_b211 s x3 = some (r, s')) : sf_G X V 10 (sf_Q X V (sf_Qi V r s')) s 211 [(3, .int x3)] [] := by
  unfold f10_byTwo_b211 at h
  refine sf_iload_n (pc := 211) C 0 dX10_byTwo_211 rfl ?_
  refine sf_goto (tgt := 217) (pc := 212) C dX10_byTwo_212 rfl ?_
  exact sf_iretW (pc := 217) C dX10_byTwo_217 h
set_option maxHeartbeats 4000000 in
set_option maxRecDepth 100000 in
theorem w10_byTwo_b189 {X : sf_X} {V : sf_V} {r : Int32} {s' : sf_Sg} (C : sf_C X V cX10_byTwo 10 RX10 (some .int) 5) {s : sf_Sg} {x2 : Int32} {x3 : Int32} {x4 : Int32} (h : f10_byTwo_b189 s x2 x3 x4 = some (r, s')) : sf_G X V 10 (sf_Q X V (sf_Qi V r s')) s 189 [(0, .ref (V.2.1 149)), (2, .int x2), (3, .int x3), (4, .int x4)] [] := by
  unfold f10_byTwo_b189 at h
  refine sf_aload_n (pc := 189) C 0 dX10_byTwo_189 rfl ?_
  refine sf_getr (pc := 190) C nk_149 sh_149 rfl fl_10_53 dX10_byTwo_190 ?_
  refine sf_aload_n (pc := 193) C 0 dX10_byTwo_193 rfl ?_
  refine sf_getr (pc := 194) C nk_149 sh_149 rfl fl_10_25 dX10_byTwo_194 ?_
  refine sf_bipush (v := 31) (pc := 197) C dX10_byTwo_197 (by decide) ?_
  obtain ⟨s199, e199, h⟩ := sf_ob h
  refine sf_callSv (pc := 199) C (As := [.ref (V.2.1 163), .ref (V.2.1 155), .int (31 : Int32)]) yk_X10_copyRow cl_10_157 (k10_copyRow ⟨nk_163, sh_163⟩ ⟨nk_155, sh_155⟩ e199) (by decide) rfl (Nat.le_of_ble_eq_true rfl) rfl dX10_byTwo_199 ?_
  refine sf_iload_n (pc := 202) C 2 dX10_byTwo_202 rfl ?_
  refine sf_if_lt (tgt := 211) (pc := 203) C dX10_byTwo_203 rfl (fun c203 => ?_) (fun c203 => ?_)
  · replace h := (if_pos c203).symm.trans h
    refine sf_sub [2] rfl ?_
    exact w10_byTwo_b211 C h
  · replace h := (if_neg c203).symm.trans h
    refine sf_iload_n (pc := 206) C 1 dX10_byTwo_206 rfl ?_
    refine sf_iconst (v := 1) (pc := 207) C dX10_byTwo_207 (by decide) ?_
    refine sf_icmp_ne (tgt := 215) (pc := 208) C dX10_byTwo_208 rfl (fun c208 => ?_) (fun c208 => ?_)
    · replace h := (if_neg c208).symm.trans h
      refine sf_iload (pc := 215) C 3 dX10_byTwo_215 rfl ?_
      exact sf_iretW (pc := 217) C dX10_byTwo_217 h
    · replace h := (if_pos c208).symm.trans h
      refine sf_sub [2] rfl ?_
      exact w10_byTwo_b211 C h
set_option maxHeartbeats 4000000 in
set_option maxRecDepth 100000 in
theorem w10_byTwo_b46 {X : sf_X} {V : sf_V} {r : Int32} {s' : sf_Sg} {k46 : sf_Sg → Int32 → Int32 → Int32 → Int32 → Int32 → Option (Int32 × sf_Sg)} (C : sf_C X V cX10_byTwo 10 RX10 (some .int) 5) (hk46 : ∀  (s : sf_Sg) (x1 : Int32) (x2 : Int32) (x3 : Int32) (x4 : Int32) (x5 : Int32), k46 s x1 x2 x3 x4 x5 = some (r, s') → sf_G X V 10 (sf_Q X V (sf_Qi V r s')) s 46 [(0, .ref (V.2.1 149)), (1, .int x1), (2, .int x2), (3, .int x3), (4, .int x4), (5, .int x5)] []) {s : sf_Sg} {x1 : Int32} {x2 : Int32} {x3 : Int32} {x4 : Int32} {x5 : Int32} (h : f10_byTwo_b46 k46 s x1 x2 x3 x4 x5 = some (r, s')) : sf_G X V 10 (sf_Q X V (sf_Qi V r s')) s 46 [(0, .ref (V.2.1 149)), (1, .int x1), (2, .int x2), (3, .int x3), (4, .int x4), (5, .int x5)] [] := by
  unfold f10_byTwo_b46 at h
  refine sf_iload (pc := 46) C 5 dX10_byTwo_46 rfl ?_
  refine sf_aload_n (pc := 48) C 0 dX10_byTwo_48 rfl ?_
  obtain ⟨v49, e49, h⟩ := sf_ob h
  refine sf_callVi (pc := 49) C (As := []) nk_149 sh_149 rfl yk_X10_ways cl_10_293 (k10_ways e49) (by decide) rfl (Nat.le_of_ble_eq_true rfl) rfl dX10_byTwo_49 ?_
  refine sf_icmp_ge (tgt := 189) (pc := 52) C dX10_byTwo_52 rfl (fun c52 => ?_) (fun c52 => ?_)
  · replace h := (if_pos c52).symm.trans h
    refine sf_sub [0, 2, 3, 4] rfl ?_
    exact w10_byTwo_b189 C h
  · replace h := (if_neg c52).symm.trans h
    refine sf_aload_n (pc := 55) C 0 dX10_byTwo_55 rfl ?_
    refine sf_get (pc := 56) C nk_149 sh_149 rfl fl_10_95 dX10_byTwo_56 ?_
    refine sf_iconst (v := 1) (pc := 59) C dX10_byTwo_59 (by decide) ?_
    refine sf_icmp_le (tgt := 189) (pc := 60) C dX10_byTwo_60 rfl (fun c60 => ?_) (fun c60 => ?_)
    · replace h := (if_pos c60).symm.trans h
      refine sf_sub [0, 2, 3, 4] rfl ?_
      exact w10_byTwo_b189 C h
    · replace h := (if_neg c60).symm.trans h
      refine sf_aload_n (pc := 63) C 0 dX10_byTwo_63 rfl ?_
      refine sf_iload (pc := 64) C 5 dX10_byTwo_64 rfl ?_
      obtain ⟨s66, e66, h⟩ := sf_ob h
      refine sf_callVv (pc := 66) C (As := [.int x5]) nk_149 sh_149 rfl yk_X10_carryBy cl_10_296 (k10_carryBy e66) (by decide) rfl (Nat.le_of_ble_eq_true rfl) rfl dX10_byTwo_66 ?_
      refine sf_aload_n (pc := 69) C 0 dX10_byTwo_69 rfl ?_
      refine sf_getr (pc := 70) C nk_149 sh_149 rfl fl_10_25 dX10_byTwo_70 ?_
      refine sf_bipush (v := 12) (pc := 73) C dX10_byTwo_73 (by decide) ?_
      refine sf_iload_n (pc := 75) C 1 dX10_byTwo_75 rfl ?_
      refine sf_iadd (pc := 76) C dX10_byTwo_76 ?_
      obtain ⟨v77, e77, h⟩ := sf_ob h
      refine sf_iald (pc := 77) C nk_155 sh_155 e77 dX10_byTwo_77 ?_
      refine sf_istore (lv' := [(6, .int v77), (0, .ref (V.2.1 149)), (1, .int x1), (2, .int x2), (3, .int x3), (4, .int x4), (5, .int x5)]) (pc := 78) C dX10_byTwo_78 (by decide) rfl ?_
      refine sf_iload (pc := 80) C 0 dX10_byTwo_80 rfl ?_
      refine sf_iconst (v := 1) (pc := 82) C dX10_byTwo_82 (by decide) ?_
      refine sf_iadd (pc := 83) C dX10_byTwo_83 ?_
      refine sf_istore (lv' := [(7, .int (v77 + (1 : Int32))), (6, .int v77), (0, .ref (V.2.1 149)), (1, .int x1), (2, .int x2), (3, .int x3), (4, .int x4), (5, .int x5)]) (pc := 84) C dX10_byTwo_84 (by decide) rfl ?_
      refine sf_sub [2, 3, 4, 5, 6, 7, 1, 0] rfl ?_
      exact w10_byTwo_L86 C hk46 _ _ _ _ _ _ _ _ h
set_option maxHeartbeats 4000000 in
set_option maxRecDepth 100000 in
theorem w10_byTwo_L46 {X : sf_X} {V : sf_V} {r : Int32} {s' : sf_Sg} (C : sf_C X V cX10_byTwo 10 RX10 (some .int) 5) : ∀  (s : sf_Sg) (x1 : Int32) (x2 : Int32) (x3 : Int32) (x4 : Int32) (x5 : Int32), f10_byTwo_L46 s x1 x2 x3 x4 x5 = some (r, s') → sf_G X V 10 (sf_Q X V (sf_Qi V r s')) s 46 [(0, .ref (V.2.1 149)), (1, .int x1), (2, .int x2), (3, .int x3), (4, .int x4), (5, .int x5)] [] :=
  sf_it_ind (fun (k : sf_Sg → Int32 → Int32 → Int32 → Int32 → Int32 → Option (Int32 × sf_Sg)) => ∀  (s : sf_Sg) (x1 : Int32) (x2 : Int32) (x3 : Int32) (x4 : Int32) (x5 : Int32), k s x1 x2 x3 x4 x5 = some (r, s') → sf_G X V 10 (sf_Q X V (sf_Qi V r s')) s 46 [(0, .ref (V.2.1 149)), (1, .int x1), (2, .int x2), (3, .int x3), (4, .int x4), (5, .int x5)] []) _ _ (fun s x1 x2 x3 x4 x5 h => by cases h) (fun k hk s x1 x2 x3 x4 x5 h => w10_byTwo_b46 C hk h) _
set_option maxHeartbeats 4000000 in
set_option maxRecDepth 100000 in
theorem w10_byTwo_b0 {X : sf_X} {V : sf_V} {r : Int32} {s' : sf_Sg} (C : sf_C X V cX10_byTwo 10 RX10 (some .int) 5) {s : sf_Sg} {x1 : Int32} {x2 : Int32} (h : f10_byTwo_b0 s x1 x2 = some (r, s')) : sf_G X V 10 (sf_Q X V (sf_Qi V r s')) s 0 [(0, .ref (V.2.1 149)), (1, .int x1), (2, .int x2)] [] := by
  unfold f10_byTwo_b0 at h
  refine sf_aload_n (pc := 0) C 0 dX10_byTwo_0 rfl ?_
  refine sf_iload_n (pc := 1) C 1 dX10_byTwo_1 rfl ?_
  refine sf_callVi (pc := 2) C (As := [.int x1]) nk_149 sh_149 rfl yk_X10_isBurden cl_10_233 (k10_isBurden rfl) (by decide) rfl (Nat.le_of_ble_eq_true rfl) rfl dX10_byTwo_2 ?_
  refine sf_if_ne (tgt := 11) (pc := 5) C dX10_byTwo_5 rfl (fun c5 => ?_) (fun c5 => ?_)
  · replace h := (if_neg c5).symm.trans h
    refine sf_iload_n (pc := 11) C 2 dX10_byTwo_11 rfl ?_
    refine sf_i2l (pc := 12) C dX10_byTwo_12 ?_
    refine sf_lconst (v := 0) (pc := 13) C dX10_byTwo_13 (by decide) ?_
    refine sf_lconst (v := 1) (pc := 14) C dX10_byTwo_14 (by decide) ?_
    refine sf_callSi (pc := 15) C (As := [.long x2.toInt64, .long (0 : Int64), .long (1 : Int64)]) yk_X10_in cl_10_91 (k10_in rfl) (by decide) rfl (Nat.le_of_ble_eq_true rfl) rfl dX10_byTwo_15 ?_
    refine sf_if_ne (tgt := 24) (pc := 18) C dX10_byTwo_18 rfl (fun c18 => ?_) (fun c18 => ?_)
    · replace h := (if_neg c18).symm.trans h
      refine sf_aload_n (pc := 24) C 0 dX10_byTwo_24 rfl ?_
      refine sf_getr (pc := 25) C nk_149 sh_149 rfl fl_10_25 dX10_byTwo_25 ?_
      refine sf_aload_n (pc := 28) C 0 dX10_byTwo_28 rfl ?_
      refine sf_getr (pc := 29) C nk_149 sh_149 rfl fl_10_53 dX10_byTwo_29 ?_
      refine sf_bipush (v := 31) (pc := 32) C dX10_byTwo_32 (by decide) ?_
      obtain ⟨s34, e34, h⟩ := sf_ob h
      refine sf_callSv (pc := 34) C (As := [.ref (V.2.1 155), .ref (V.2.1 163), .int (31 : Int32)]) yk_X10_copyRow cl_10_157 (k10_copyRow ⟨nk_155, sh_155⟩ ⟨nk_163, sh_163⟩ e34) (by decide) rfl (Nat.le_of_ble_eq_true rfl) rfl dX10_byTwo_34 ?_
      refine sf_iconst (v := -1) (pc := 37) C dX10_byTwo_37 (by decide) ?_
      refine sf_istore_n (lv' := [(3, .int (-1 : Int32)), (0, .ref (V.2.1 149)), (1, .int x1), (2, .int x2)]) (pc := 38) C dX10_byTwo_38 (by decide) rfl ?_
      refine sf_ldc (v := 1000000) (pc := 39) C dX10_byTwo_39 tm_1056 ?_
      refine sf_istore (lv' := [(4, .int (1000000 : Int32)), (3, .int (-1 : Int32)), (0, .ref (V.2.1 149)), (1, .int x1), (2, .int x2)]) (pc := 41) C dX10_byTwo_41 (by decide) rfl ?_
      refine sf_iconst (v := 0) (pc := 43) C dX10_byTwo_43 (by decide) ?_
      refine sf_istore (lv' := [(5, .int (0 : Int32)), (4, .int (1000000 : Int32)), (3, .int (-1 : Int32)), (0, .ref (V.2.1 149)), (1, .int x1), (2, .int x2)]) (pc := 44) C dX10_byTwo_44 (by decide) rfl ?_
      refine sf_sub [3, 4, 5, 2, 1, 0] rfl ?_
      exact w10_byTwo_L46 C _ _ _ _ _ _ h
    · replace h := (if_pos c18).symm.trans h
      refine sf_ldc (v := -1000000002) (pc := 21) C dX10_byTwo_21 tm_940 ?_
      exact sf_iretW (pc := 23) C dX10_byTwo_23 h
  · replace h := (if_pos c5).symm.trans h
    refine sf_ldc (v := -1000000001) (pc := 8) C dX10_byTwo_8 tm_1069 ?_
    exact sf_iretW (pc := 10) C dX10_byTwo_10 h
set_option maxHeartbeats 4000000 in
set_option maxRecDepth 100000 in
theorem k10_byTwo {l : Launch} {V : sf_V} {s : sf_Sg} {x1 : Int32} {x2 : Int32} {r : Int32} {s' : sf_Sg} (h : f10_byTwo s x1 x2 = some (r, s')) : sf_M l V yX10_byTwo (.code yX10_byTwo cX10_byTwo 10 (some .int)) 5 [.ref (V.2.1 149), .int x1, .int x2] s (sf_Qi V r s') := by
  refine sf_enter (by decide) (Nat.le_of_ble_eq_true rfl) (fun X hX C => ?_)
  refine sf_sub [0, 1, 2] rfl ?_
  exact w10_byTwo_b0 (show sf_C X V cX10_byTwo 10 RX10 (some .int) 5 from C)  h
set_option maxHeartbeats 4000000 in
set_option maxRecDepth 100000 in
theorem w10_soreBy_b102 {X : sf_X} {V : sf_V} {r : Int32} {s' : sf_Sg} {k31 : sf_Sg → Int32 → Int32 → Int32 → Int32 → Int32 → Int32 → Option (Int32 × sf_Sg)} (C : sf_C X V cX10_soreBy 8 RX10 (some .int) 5) (hk31 : ∀  (s : sf_Sg) (x1 : Int32) (x2 : Int32) (x3 : Int32) (x4 : Int32) (x5 : Int32) (x6 : Int32), k31 s x1 x2 x3 x4 x5 x6 = some (r, s') → sf_G X V 8 (sf_Q X V (sf_Qi V r s')) s 31 [(0, .ref (V.2.1 149)), (1, .int x1), (2, .int x2), (3, .int x3), (4, .int x4), (5, .int x5), (6, .int x6)] []) {s : sf_Sg} {x1 : Int32} {x2 : Int32} {x3 : Int32} {x4 : Int32} {x5 : Int32} {x6 : Int32} (h : f10_soreBy_b102 k31 s x1 x2 x3 x4 x5 x6 = some (r, s')) : sf_G X V 8 (sf_Q X V (sf_Qi V r s')) s 102 [(0, .ref (V.2.1 149)), (1, .int x1), (2, .int x2), (3, .int x3), (4, .int x4), (5, .int x5), (6, .int x6)] [] := by
  unfold f10_soreBy_b102 at h
  refine sf_iinc (v := (x6 + 1)) (lv' := [(6, .int (x6 + 1)), (0, .ref (V.2.1 149)), (1, .int x1), (2, .int x2), (3, .int x3), (4, .int x4), (5, .int x5)]) (pc := 102) C 6 dX10_soreBy_102 rfl rfl (by decide) rfl ?_
  refine sf_goto (tgt := 31) (pc := 105) C dX10_soreBy_105 rfl ?_
  refine sf_sub [1, 2, 3, 4, 5, 6, 0] rfl ?_
  exact hk31 _ _ _ _ _ _ _ h
set_option maxHeartbeats 4000000 in
set_option maxRecDepth 100000 in
theorem w10_soreBy_b84 {X : sf_X} {V : sf_V} {r : Int32} {s' : sf_Sg} {k31 : sf_Sg → Int32 → Int32 → Int32 → Int32 → Int32 → Int32 → Option (Int32 × sf_Sg)} (C : sf_C X V cX10_soreBy 8 RX10 (some .int) 5) (hk31 : ∀  (s : sf_Sg) (x1 : Int32) (x2 : Int32) (x3 : Int32) (x4 : Int32) (x5 : Int32) (x6 : Int32), k31 s x1 x2 x3 x4 x5 x6 = some (r, s') → sf_G X V 8 (sf_Q X V (sf_Qi V r s')) s 31 [(0, .ref (V.2.1 149)), (1, .int x1), (2, .int x2), (3, .int x3), (4, .int x4), (5, .int x5), (6, .int x6)] []) {s : sf_Sg} {x1 : Int32} {x2 : Int32} {x3 : Int32} {x4 : Int32} {x6 : Int32} {x7 : Int32} {t0 : Int32} (h : f10_soreBy_b84 k31 s x1 x2 x3 x4 x6 x7 t0 = some (r, s')) : sf_G X V 8 (sf_Q X V (sf_Qi V r s')) s 84 [(0, .ref (V.2.1 149)), (1, .int x1), (2, .int x2), (3, .int x3), (4, .int x4), (6, .int x6), (7, .int x7)] [.int t0] := by
  unfold f10_soreBy_b84 at h
  refine sf_istore (lv' := [(5, .int t0), (0, .ref (V.2.1 149)), (1, .int x1), (2, .int x2), (3, .int x3), (4, .int x4), (6, .int x6), (7, .int x7)]) (pc := 84) C dX10_soreBy_84 (by decide) rfl ?_
  refine sf_iload (pc := 86) C 0 dX10_soreBy_86 rfl ?_
  refine sf_if_eq (tgt := 102) (pc := 88) C dX10_soreBy_88 rfl (fun c88 => ?_) (fun c88 => ?_)
  · replace h := (if_pos c88).symm.trans h
    refine sf_sub [1, 2, 3, 4, 5, 0, 6] rfl ?_
    exact w10_soreBy_b102 C hk31 h
  · replace h := (if_neg c88).symm.trans h
    refine sf_aload_n (pc := 91) C 1 dX10_soreBy_91 rfl ?_
    refine sf_iload (pc := 92) C 7 dX10_soreBy_92 rfl ?_
    refine sf_iload_n (pc := 94) C 2 dX10_soreBy_94 rfl ?_
    obtain ⟨s95, e95, h⟩ := sf_ob h
    refine sf_callVv (pc := 95) C (As := [.int x7, .int x1]) nk_149 sh_149 rfl yk_X10_downNow cl_10_264 (k10_downNow e95) (by decide) rfl (Nat.le_of_ble_eq_true rfl) rfl dX10_soreBy_95 ?_
    refine sf_aload_n (pc := 98) C 1 dX10_soreBy_98 rfl ?_
    obtain ⟨s99, e99, h⟩ := sf_ob h
    refine sf_callVv (pc := 99) C (As := []) nk_149 sh_149 rfl yk_X10_pass cl_10_258 (k10_pass e99) (by decide) rfl (Nat.le_of_ble_eq_true rfl) rfl dX10_soreBy_99 ?_
    refine sf_sub [1, 2, 3, 4, 5, 0, 6] rfl ?_
    exact w10_soreBy_b102 C hk31 h
set_option maxHeartbeats 4000000 in
set_option maxRecDepth 100000 in
theorem w10_soreBy_b83 {X : sf_X} {V : sf_V} {r : Int32} {s' : sf_Sg} {k31 : sf_Sg → Int32 → Int32 → Int32 → Int32 → Int32 → Int32 → Option (Int32 × sf_Sg)} (C : sf_C X V cX10_soreBy 8 RX10 (some .int) 5) (hk31 : ∀  (s : sf_Sg) (x1 : Int32) (x2 : Int32) (x3 : Int32) (x4 : Int32) (x5 : Int32) (x6 : Int32), k31 s x1 x2 x3 x4 x5 x6 = some (r, s') → sf_G X V 8 (sf_Q X V (sf_Qi V r s')) s 31 [(0, .ref (V.2.1 149)), (1, .int x1), (2, .int x2), (3, .int x3), (4, .int x4), (5, .int x5), (6, .int x6)] []) {s : sf_Sg} {x1 : Int32} {x2 : Int32} {x3 : Int32} {x4 : Int32} {x6 : Int32} {x7 : Int32} (h : f10_soreBy_b83 k31 s x1 x2 x3 x4 x6 x7 = some (r, s')) : sf_G X V 8 (sf_Q X V (sf_Qi V r s')) s 83 [(0, .ref (V.2.1 149)), (1, .int x1), (2, .int x2), (3, .int x3), (4, .int x4), (6, .int x6), (7, .int x7)] [] := by
  unfold f10_soreBy_b83 at h
  refine sf_iconst (v := 0) (pc := 83) C dX10_soreBy_83 (by decide) ?_
  exact w10_soreBy_b84 C hk31 h
set_option maxHeartbeats 4000000 in
set_option maxRecDepth 100000 in
theorem w10_soreBy_b108 {X : sf_X} {V : sf_V} {r : Int32} {s' : sf_Sg} (C : sf_C X V cX10_soreBy 8 RX10 (some .int) 5) {s : sf_Sg} {x1 : Int32} {x5 : Int32} (h : f10_soreBy_b108 s x1 x5 = some (r, s')) : sf_G X V 8 (sf_Q X V (sf_Qi V r s')) s 108 [(0, .ref (V.2.1 149)), (1, .int x1), (5, .int x5)] [] := by
  unfold f10_soreBy_b108 at h
  refine sf_iload (pc := 108) C 2 dX10_soreBy_108 rfl ?_
  refine sf_if_eq (tgt := 125) (pc := 110) C dX10_soreBy_110 rfl (fun c110 => ?_) (fun c110 => ?_)
  · replace h := (if_pos c110).symm.trans h
    refine sf_ldc (v := 1000000) (pc := 125) C dX10_soreBy_125 tm_1056 ?_
    exact sf_iretW (pc := 127) C dX10_soreBy_127 h
  · replace h := (if_neg c110).symm.trans h
    refine sf_aload_n (pc := 113) C 0 dX10_soreBy_113 rfl ?_
    refine sf_getr (pc := 114) C nk_149 sh_149 rfl fl_10_25 dX10_soreBy_114 ?_
    refine sf_bipush (v := 24) (pc := 117) C dX10_soreBy_117 (by decide) ?_
    refine sf_iload_n (pc := 119) C 1 dX10_soreBy_119 rfl ?_
    refine sf_iadd (pc := 120) C dX10_soreBy_120 ?_
    obtain ⟨v121, e121, h⟩ := sf_ob h
    refine sf_iald (pc := 121) C nk_155 sh_155 e121 dX10_soreBy_121 ?_
    refine sf_goto (tgt := 127) (pc := 122) C dX10_soreBy_122 rfl ?_
    exact sf_iretW (pc := 127) C dX10_soreBy_127 h
set_option maxHeartbeats 4000000 in
set_option maxRecDepth 100000 in
theorem w10_soreBy_b31 {X : sf_X} {V : sf_V} {r : Int32} {s' : sf_Sg} {k31 : sf_Sg → Int32 → Int32 → Int32 → Int32 → Int32 → Int32 → Option (Int32 × sf_Sg)} (C : sf_C X V cX10_soreBy 8 RX10 (some .int) 5) (hk31 : ∀  (s : sf_Sg) (x1 : Int32) (x2 : Int32) (x3 : Int32) (x4 : Int32) (x5 : Int32) (x6 : Int32), k31 s x1 x2 x3 x4 x5 x6 = some (r, s') → sf_G X V 8 (sf_Q X V (sf_Qi V r s')) s 31 [(0, .ref (V.2.1 149)), (1, .int x1), (2, .int x2), (3, .int x3), (4, .int x4), (5, .int x5), (6, .int x6)] []) {s : sf_Sg} {x1 : Int32} {x2 : Int32} {x3 : Int32} {x4 : Int32} {x5 : Int32} {x6 : Int32} (h : f10_soreBy_b31 k31 s x1 x2 x3 x4 x5 x6 = some (r, s')) : sf_G X V 8 (sf_Q X V (sf_Qi V r s')) s 31 [(0, .ref (V.2.1 149)), (1, .int x1), (2, .int x2), (3, .int x3), (4, .int x4), (5, .int x5), (6, .int x6)] [] := by
  unfold f10_soreBy_b31 at h
  refine sf_iload (pc := 31) C 6 dX10_soreBy_31 rfl ?_
  refine sf_iload_n (pc := 33) C 3 dX10_soreBy_33 rfl ?_
  refine sf_icmp_ge (tgt := 108) (pc := 34) C dX10_soreBy_34 rfl (fun c34 => ?_) (fun c34 => ?_)
  · replace h := (if_pos c34).symm.trans h
    refine sf_sub [0, 1, 5] rfl ?_
    exact w10_soreBy_b108 C h
  · replace h := (if_neg c34).symm.trans h
    refine sf_iload (pc := 37) C 5 dX10_soreBy_37 rfl ?_
    refine sf_if_eq (tgt := 108) (pc := 39) C dX10_soreBy_39 rfl (fun c39 => ?_) (fun c39 => ?_)
    · replace h := (if_pos c39).symm.trans h
      refine sf_sub [0, 1, 5] rfl ?_
      exact w10_soreBy_b108 C h
    · replace h := (if_neg c39).symm.trans h
      refine sf_iload_n (pc := 42) C 2 dX10_soreBy_42 rfl ?_
      refine sf_iload (pc := 43) C 4 dX10_soreBy_43 rfl ?_
      obtain ⟨v45, e45, h⟩ := sf_ob h
      refine sf_idivO (pc := 45) C e45 dX10_soreBy_45 ?_
      refine sf_bipush (v := 10) (pc := 46) C dX10_soreBy_46 (by decide) ?_
      refine sf_irem (pc := 48) C dX10_soreBy_48 (by decide) ?_
      refine sf_iconst (v := 1) (pc := 49) C dX10_soreBy_49 (by decide) ?_
      refine sf_isub (pc := 50) C dX10_soreBy_50 ?_
      refine sf_istore (lv' := [(7, .int ((sf_rem v45 (10 : Int32)) - (1 : Int32))), (0, .ref (V.2.1 149)), (1, .int x1), (2, .int x2), (3, .int x3), (4, .int x4), (5, .int x5), (6, .int x6)]) (pc := 51) C dX10_soreBy_51 (by decide) rfl ?_
      refine sf_iload (pc := 53) C 5 dX10_soreBy_53 rfl ?_
      refine sf_bipush (v := 10) (pc := 55) C dX10_soreBy_55 (by decide) ?_
      refine sf_idiv (pc := 57) C dX10_soreBy_57 (by decide) ?_
      refine sf_istore (lv' := [(4, .int (x4 / (10 : Int32))), (7, .int ((sf_rem v45 (10 : Int32)) - (1 : Int32))), (0, .ref (V.2.1 149)), (1, .int x1), (2, .int x2), (3, .int x3), (5, .int x5), (6, .int x6)]) (pc := 58) C dX10_soreBy_58 (by decide) rfl ?_
      refine sf_aload_n (pc := 60) C 2 dX10_soreBy_60 rfl ?_
      refine sf_iload (pc := 61) C 1 dX10_soreBy_61 rfl ?_
      refine sf_callVi (pc := 63) C (As := [.int ((sf_rem v45 (10 : Int32)) - (1 : Int32))]) nk_149 sh_149 rfl yk_X10_isBurden cl_10_233 (k10_isBurden rfl) (by decide) rfl (Nat.le_of_ble_eq_true rfl) rfl dX10_soreBy_63 ?_
      refine sf_if_eq (tgt := 83) (pc := 66) C dX10_soreBy_66 rfl (fun c66 => ?_) (fun c66 => ?_)
      · replace h := (if_pos c66).symm.trans h
        refine sf_sub [2, 3, 4, 5, 0, 7, 1] rfl ?_
        exact w10_soreBy_b83 C hk31 h
      · replace h := (if_neg c66).symm.trans h
        refine sf_aload_n (pc := 69) C 2 dX10_soreBy_69 rfl ?_
        refine sf_iload (pc := 70) C 1 dX10_soreBy_70 rfl ?_
        refine sf_iload_n (pc := 72) C 3 dX10_soreBy_72 rfl ?_
        obtain ⟨v73, e73, h⟩ := sf_ob h
        refine sf_callVi (pc := 73) C (As := [.int ((sf_rem v45 (10 : Int32)) - (1 : Int32)), .int x1]) nk_149 sh_149 rfl yk_X10_bears cl_10_180 (k10_bears e73) (by decide) rfl (Nat.le_of_ble_eq_true rfl) rfl dX10_soreBy_73 ?_
        refine sf_if_eq (tgt := 83) (pc := 76) C dX10_soreBy_76 rfl (fun c76 => ?_) (fun c76 => ?_)
        · replace h := (if_pos c76).symm.trans h
          refine sf_sub [2, 3, 4, 5, 0, 7, 1] rfl ?_
          exact w10_soreBy_b83 C hk31 h
        · replace h := (if_neg c76).symm.trans h
          refine sf_iconst (v := 1) (pc := 79) C dX10_soreBy_79 (by decide) ?_
          refine sf_goto (tgt := 84) (pc := 80) C dX10_soreBy_80 rfl ?_
          refine sf_sub [2, 3, 4, 5, 0, 7, 1] rfl ?_
          exact w10_soreBy_b84 C hk31 h
set_option maxHeartbeats 4000000 in
set_option maxRecDepth 100000 in
theorem w10_soreBy_L31 {X : sf_X} {V : sf_V} {r : Int32} {s' : sf_Sg} (C : sf_C X V cX10_soreBy 8 RX10 (some .int) 5) : ∀  (s : sf_Sg) (x1 : Int32) (x2 : Int32) (x3 : Int32) (x4 : Int32) (x5 : Int32) (x6 : Int32), f10_soreBy_L31 s x1 x2 x3 x4 x5 x6 = some (r, s') → sf_G X V 8 (sf_Q X V (sf_Qi V r s')) s 31 [(0, .ref (V.2.1 149)), (1, .int x1), (2, .int x2), (3, .int x3), (4, .int x4), (5, .int x5), (6, .int x6)] [] :=
  sf_it_ind (fun (k : sf_Sg → Int32 → Int32 → Int32 → Int32 → Int32 → Int32 → Option (Int32 × sf_Sg)) => ∀  (s : sf_Sg) (x1 : Int32) (x2 : Int32) (x3 : Int32) (x4 : Int32) (x5 : Int32) (x6 : Int32), k s x1 x2 x3 x4 x5 x6 = some (r, s') → sf_G X V 8 (sf_Q X V (sf_Qi V r s')) s 31 [(0, .ref (V.2.1 149)), (1, .int x1), (2, .int x2), (3, .int x3), (4, .int x4), (5, .int x5), (6, .int x6)] []) _ _ (fun s x1 x2 x3 x4 x5 x6 h => by cases h) (fun k hk s x1 x2 x3 x4 x5 x6 h => w10_soreBy_b31 C hk h) _
set_option maxHeartbeats 4000000 in
set_option maxRecDepth 100000 in
theorem w10_soreBy_b25 {X : sf_X} {V : sf_V} {r : Int32} {s' : sf_Sg} (C : sf_C X V cX10_soreBy 8 RX10 (some .int) 5) {s : sf_Sg} {x1 : Int32} {x2 : Int32} {x3 : Int32} {x4 : Int32} (h : f10_soreBy_b25 s x1 x2 x3 x4 = some (r, s')) : sf_G X V 8 (sf_Q X V (sf_Qi V r s')) s 25 [(0, .ref (V.2.1 149)), (1, .int x1), (2, .int x2), (3, .int x3), (4, .int x4)] [] := by
  unfold f10_soreBy_b25 at h
  refine sf_iconst (v := 1) (pc := 25) C dX10_soreBy_25 (by decide) ?_
  refine sf_istore (lv' := [(5, .int (1 : Int32)), (0, .ref (V.2.1 149)), (1, .int x1), (2, .int x2), (3, .int x3), (4, .int x4)]) (pc := 26) C dX10_soreBy_26 (by decide) rfl ?_
  refine sf_iconst (v := 0) (pc := 28) C dX10_soreBy_28 (by decide) ?_
  refine sf_istore (lv' := [(6, .int (0 : Int32)), (5, .int (1 : Int32)), (0, .ref (V.2.1 149)), (1, .int x1), (2, .int x2), (3, .int x3), (4, .int x4)]) (pc := 29) C dX10_soreBy_29 (by decide) rfl ?_
  refine sf_sub [2, 3, 4, 5, 6, 1, 0] rfl ?_
  exact w10_soreBy_L31 C _ _ _ _ _ _ _ h
set_option maxHeartbeats 4000000 in
set_option maxRecDepth 100000 in
theorem w10_soreBy_b6 {X : sf_X} {V : sf_V} {r : Int32} {s' : sf_Sg} {k6 : sf_Sg → Int32 → Int32 → Int32 → Int32 → Int32 → Option (Int32 × sf_Sg)} (C : sf_C X V cX10_soreBy 8 RX10 (some .int) 5) (hk6 : ∀  (s : sf_Sg) (x1 : Int32) (x2 : Int32) (x3 : Int32) (x4 : Int32) (x5 : Int32), k6 s x1 x2 x3 x4 x5 = some (r, s') → sf_G X V 8 (sf_Q X V (sf_Qi V r s')) s 6 [(0, .ref (V.2.1 149)), (1, .int x1), (2, .int x2), (3, .int x3), (4, .int x4), (5, .int x5)] []) {s : sf_Sg} {x1 : Int32} {x2 : Int32} {x3 : Int32} {x4 : Int32} {x5 : Int32} (h : f10_soreBy_b6 k6 s x1 x2 x3 x4 x5 = some (r, s')) : sf_G X V 8 (sf_Q X V (sf_Qi V r s')) s 6 [(0, .ref (V.2.1 149)), (1, .int x1), (2, .int x2), (3, .int x3), (4, .int x4), (5, .int x5)] [] := by
  unfold f10_soreBy_b6 at h
  refine sf_iload (pc := 6) C 5 dX10_soreBy_6 rfl ?_
  refine sf_iload_n (pc := 8) C 3 dX10_soreBy_8 rfl ?_
  refine sf_icmp_ge (tgt := 25) (pc := 9) C dX10_soreBy_9 rfl (fun c9 => ?_) (fun c9 => ?_)
  · replace h := (if_pos c9).symm.trans h
    refine sf_sub [0, 1, 2, 3, 4] rfl ?_
    exact w10_soreBy_b25 C h
  · replace h := (if_neg c9).symm.trans h
    refine sf_iload (pc := 12) C 4 dX10_soreBy_12 rfl ?_
    refine sf_bipush (v := 10) (pc := 14) C dX10_soreBy_14 (by decide) ?_
    refine sf_imul (pc := 16) C dX10_soreBy_16 ?_
    refine sf_istore (lv' := [(4, .int (x4 * (10 : Int32))), (0, .ref (V.2.1 149)), (1, .int x1), (2, .int x2), (3, .int x3), (5, .int x5)]) (pc := 17) C dX10_soreBy_17 (by decide) rfl ?_
    refine sf_iinc (v := (x5 + 1)) (lv' := [(5, .int (x5 + 1)), (4, .int (x4 * (10 : Int32))), (0, .ref (V.2.1 149)), (1, .int x1), (2, .int x2), (3, .int x3)]) (pc := 19) C 5 dX10_soreBy_19 rfl rfl (by decide) rfl ?_
    refine sf_goto (tgt := 6) (pc := 22) C dX10_soreBy_22 rfl ?_
    refine sf_sub [2, 3, 4, 5, 1, 0] rfl ?_
    exact hk6 _ _ _ _ _ _ h
set_option maxHeartbeats 4000000 in
set_option maxRecDepth 100000 in
theorem w10_soreBy_L6 {X : sf_X} {V : sf_V} {r : Int32} {s' : sf_Sg} (C : sf_C X V cX10_soreBy 8 RX10 (some .int) 5) : ∀  (s : sf_Sg) (x1 : Int32) (x2 : Int32) (x3 : Int32) (x4 : Int32) (x5 : Int32), f10_soreBy_L6 s x1 x2 x3 x4 x5 = some (r, s') → sf_G X V 8 (sf_Q X V (sf_Qi V r s')) s 6 [(0, .ref (V.2.1 149)), (1, .int x1), (2, .int x2), (3, .int x3), (4, .int x4), (5, .int x5)] [] :=
  sf_it_ind (fun (k : sf_Sg → Int32 → Int32 → Int32 → Int32 → Int32 → Option (Int32 × sf_Sg)) => ∀  (s : sf_Sg) (x1 : Int32) (x2 : Int32) (x3 : Int32) (x4 : Int32) (x5 : Int32), k s x1 x2 x3 x4 x5 = some (r, s') → sf_G X V 8 (sf_Q X V (sf_Qi V r s')) s 6 [(0, .ref (V.2.1 149)), (1, .int x1), (2, .int x2), (3, .int x3), (4, .int x4), (5, .int x5)] []) _ _ (fun s x1 x2 x3 x4 x5 h => by cases h) (fun k hk s x1 x2 x3 x4 x5 h => w10_soreBy_b6 C hk h) _
set_option maxHeartbeats 4000000 in
set_option maxRecDepth 100000 in
theorem w10_soreBy_b0 {X : sf_X} {V : sf_V} {r : Int32} {s' : sf_Sg} (C : sf_C X V cX10_soreBy 8 RX10 (some .int) 5) {s : sf_Sg} {x1 : Int32} {x2 : Int32} {x3 : Int32} (h : f10_soreBy_b0 s x1 x2 x3 = some (r, s')) : sf_G X V 8 (sf_Q X V (sf_Qi V r s')) s 0 [(0, .ref (V.2.1 149)), (1, .int x1), (2, .int x2), (3, .int x3)] [] := by
  unfold f10_soreBy_b0 at h
  refine sf_iconst (v := 1) (pc := 0) C dX10_soreBy_0 (by decide) ?_
  refine sf_istore (lv' := [(4, .int (1 : Int32)), (0, .ref (V.2.1 149)), (1, .int x1), (2, .int x2), (3, .int x3)]) (pc := 1) C dX10_soreBy_1 (by decide) rfl ?_
  refine sf_iconst (v := 1) (pc := 3) C dX10_soreBy_3 (by decide) ?_
  refine sf_istore (lv' := [(5, .int (1 : Int32)), (4, .int (1 : Int32)), (0, .ref (V.2.1 149)), (1, .int x1), (2, .int x2), (3, .int x3)]) (pc := 4) C dX10_soreBy_4 (by decide) rfl ?_
  refine sf_sub [2, 3, 4, 5, 1, 0] rfl ?_
  exact w10_soreBy_L6 C _ _ _ _ _ _ h
set_option maxHeartbeats 4000000 in
set_option maxRecDepth 100000 in
theorem k10_soreBy {l : Launch} {V : sf_V} {s : sf_Sg} {x1 : Int32} {x2 : Int32} {x3 : Int32} {r : Int32} {s' : sf_Sg} (h : f10_soreBy s x1 x2 x3 = some (r, s')) : sf_M l V yX10_soreBy (.code yX10_soreBy cX10_soreBy 8 (some .int)) 5 [.ref (V.2.1 149), .int x1, .int x2, .int x3] s (sf_Qi V r s') := by
  refine sf_enter (by decide) (Nat.le_of_ble_eq_true rfl) (fun X hX C => ?_)
  refine sf_sub [0, 1, 2, 3] rfl ?_
  exact w10_soreBy_b0 (show sf_C X V cX10_soreBy 8 RX10 (some .int) 5 from C)  h
set_option maxHeartbeats 4000000 in
set_option maxRecDepth 100000 in
theorem w10_order_b77 {X : sf_X} {V : sf_V} {r : Int32} {s' : sf_Sg} {k39 : sf_Sg → Int32 → Int32 → Int32 → Int32 → Int32 → Int32 → Option (Int32 × sf_Sg)} (C : sf_C X V cX10_order 10 RX10 (some .int) 6) (hk39 : ∀  (s : sf_Sg) (x1 : Int32) (x2 : Int32) (x3 : Int32) (x4 : Int32) (x5 : Int32) (x6 : Int32), k39 s x1 x2 x3 x4 x5 x6 = some (r, s') → sf_G X V 10 (sf_Q X V (sf_Qi V r s')) s 39 [(0, .ref (V.2.1 149)), (1, .int x1), (2, .int x2), (3, .int x3), (4, .int x4), (5, .int x5), (6, .int x6)] []) {s : sf_Sg} {x1 : Int32} {x2 : Int32} {x3 : Int32} {x4 : Int32} {x6 : Int32} {t1 : Int32} {t0 : Int32} (h : f10_order_b77 k39 s x1 x2 x3 x4 x6 t1 t0 = some (r, s')) : sf_G X V 10 (sf_Q X V (sf_Qi V r s')) s 77 [(0, .ref (V.2.1 149)), (1, .int x1), (2, .int x2), (3, .int x3), (4, .int x4), (6, .int x6)] [.int t1, .int t0] := by
  unfold f10_order_b77 at h
  refine sf_imul (pc := 77) C dX10_order_77 ?_
  refine sf_istore (lv' := [(5, .int (t0 * t1)), (0, .ref (V.2.1 149)), (1, .int x1), (2, .int x2), (3, .int x3), (4, .int x4), (6, .int x6)]) (pc := 78) C dX10_order_78 (by decide) rfl ?_
  refine sf_iinc (v := (x6 + 1)) (lv' := [(6, .int (x6 + 1)), (5, .int (t0 * t1)), (0, .ref (V.2.1 149)), (1, .int x1), (2, .int x2), (3, .int x3), (4, .int x4)]) (pc := 80) C 6 dX10_order_80 rfl rfl (by decide) rfl ?_
  refine sf_goto (tgt := 39) (pc := 83) C dX10_order_83 rfl ?_
  refine sf_sub [2, 3, 4, 5, 6, 1, 0] rfl ?_
  exact hk39 _ _ _ _ _ _ _ h
set_option maxHeartbeats 4000000 in
set_option maxRecDepth 100000 in
theorem w10_order_b157 {X : sf_X} {V : sf_V} {r : Int32} {s' : sf_Sg} {k109 : sf_Sg → Int32 → Int32 → Int32 → Int32 → Int32 → Int32 → Int32 → Option (Int32 × sf_Sg)} (C : sf_C X V cX10_order 10 RX10 (some .int) 6) (hk109 : ∀  (s : sf_Sg) (x1 : Int32) (x2 : Int32) (x4 : Int32) (x5 : Int32) (x6 : Int32) (x7 : Int32) (x8 : Int32), k109 s x1 x2 x4 x5 x6 x7 x8 = some (r, s') → sf_G X V 10 (sf_Q X V (sf_Qi V r s')) s 109 [(0, .ref (V.2.1 149)), (1, .int x1), (2, .int x2), (4, .int x4), (5, .int x5), (6, .int x6), (7, .int x7), (8, .int x8)] []) {s : sf_Sg} {x1 : Int32} {x2 : Int32} {x4 : Int32} {x5 : Int32} {x6 : Int32} {x8 : Int32} {t0 : Int32} (h : f10_order_b157 k109 s x1 x2 x4 x5 x6 x8 t0 = some (r, s')) : sf_G X V 10 (sf_Q X V (sf_Qi V r s')) s 157 [(0, .ref (V.2.1 149)), (1, .int x1), (2, .int x2), (4, .int x4), (5, .int x5), (6, .int x6), (8, .int x8)] [.int t0] := by
  unfold f10_order_b157 at h
  refine sf_istore (lv' := [(7, .int t0), (0, .ref (V.2.1 149)), (1, .int x1), (2, .int x2), (4, .int x4), (5, .int x5), (6, .int x6), (8, .int x8)]) (pc := 157) C dX10_order_157 (by decide) rfl ?_
  refine sf_aload_n (pc := 159) C 1 dX10_order_159 rfl ?_
  refine sf_getr (pc := 160) C nk_149 sh_149 rfl fl_10_53 dX10_order_160 ?_
  refine sf_aload_n (pc := 163) C 1 dX10_order_163 rfl ?_
  refine sf_getr (pc := 164) C nk_149 sh_149 rfl fl_10_25 dX10_order_164 ?_
  refine sf_bipush (v := 31) (pc := 167) C dX10_order_167 (by decide) ?_
  obtain ⟨s169, e169, h⟩ := sf_ob h
  refine sf_callSv (pc := 169) C (As := [.ref (V.2.1 163), .ref (V.2.1 155), .int (31 : Int32)]) yk_X10_copyRow cl_10_157 (k10_copyRow ⟨nk_163, sh_163⟩ ⟨nk_155, sh_155⟩ e169) (by decide) rfl (Nat.le_of_ble_eq_true rfl) rfl dX10_order_169 ?_
  refine sf_iinc (v := (x8 + 1)) (lv' := [(8, .int (x8 + 1)), (7, .int t0), (0, .ref (V.2.1 149)), (1, .int x1), (2, .int x2), (4, .int x4), (5, .int x5), (6, .int x6)]) (pc := 172) C 7 dX10_order_172 rfl rfl (by decide) rfl ?_
  refine sf_goto (tgt := 109) (pc := 175) C dX10_order_175 rfl ?_
  refine sf_sub [2, 3, 4, 5, 6, 7, 1, 0] rfl ?_
  exact hk109 _ _ _ _ _ _ _ _ h
set_option maxHeartbeats 4000000 in
set_option maxRecDepth 100000 in
theorem w10_order_b141 {X : sf_X} {V : sf_V} {r : Int32} {s' : sf_Sg} {k109 : sf_Sg → Int32 → Int32 → Int32 → Int32 → Int32 → Int32 → Int32 → Option (Int32 × sf_Sg)} (C : sf_C X V cX10_order 10 RX10 (some .int) 6) (hk109 : ∀  (s : sf_Sg) (x1 : Int32) (x2 : Int32) (x4 : Int32) (x5 : Int32) (x6 : Int32) (x7 : Int32) (x8 : Int32), k109 s x1 x2 x4 x5 x6 x7 x8 = some (r, s') → sf_G X V 10 (sf_Q X V (sf_Qi V r s')) s 109 [(0, .ref (V.2.1 149)), (1, .int x1), (2, .int x2), (4, .int x4), (5, .int x5), (6, .int x6), (7, .int x7), (8, .int x8)] []) {s : sf_Sg} {x1 : Int32} {x2 : Int32} {x4 : Int32} {x5 : Int32} {x7 : Int32} {x8 : Int32} {x9 : Int32} {t0 : Int32} (h : f10_order_b141 k109 s x1 x2 x4 x5 x7 x8 x9 t0 = some (r, s')) : sf_G X V 10 (sf_Q X V (sf_Qi V r s')) s 141 [(0, .ref (V.2.1 149)), (1, .int x1), (2, .int x2), (4, .int x4), (5, .int x5), (7, .int x7), (8, .int x8), (9, .int x9)] [.int t0] := by
  unfold f10_order_b141 at h
  refine sf_istore (lv' := [(6, .int t0), (0, .ref (V.2.1 149)), (1, .int x1), (2, .int x2), (4, .int x4), (5, .int x5), (7, .int x7), (8, .int x8), (9, .int x9)]) (pc := 141) C dX10_order_141 (by decide) rfl ?_
  refine sf_iload (pc := 143) C 8 dX10_order_143 rfl ?_
  refine sf_iload (pc := 145) C 6 dX10_order_145 rfl ?_
  refine sf_icmp_ge (tgt := 155) (pc := 147) C dX10_order_147 rfl (fun c147 => ?_) (fun c147 => ?_)
  · replace h := (if_pos c147).symm.trans h
    refine sf_iload (pc := 155) C 6 dX10_order_155 rfl ?_
    refine sf_sub [1, 2, 3, 4, 5, 0, 7] rfl ?_
    exact w10_order_b157 C hk109 h
  · replace h := (if_neg c147).symm.trans h
    refine sf_iload (pc := 150) C 8 dX10_order_150 rfl ?_
    refine sf_goto (tgt := 157) (pc := 152) C dX10_order_152 rfl ?_
    refine sf_sub [1, 2, 3, 4, 5, 0, 7] rfl ?_
    exact w10_order_b157 C hk109 h
set_option maxHeartbeats 4000000 in
set_option maxRecDepth 100000 in
theorem w10_order_b178 {X : sf_X} {V : sf_V} {r : Int32} {s' : sf_Sg} (C : sf_C X V cX10_order 10 RX10 (some .int) 6) {s : sf_Sg} {x2 : Int32} {x6 : Int32} {x7 : Int32} (h : f10_order_b178 s x2 x6 x7 = some (r, s')) : sf_G X V 10 (sf_Q X V (sf_Qi V r s')) s 178 [(2, .int x2), (6, .int x6), (7, .int x7)] [] := by
  unfold f10_order_b178 at h
  refine sf_iload_n (pc := 178) C 0 dX10_order_178 rfl ?_
  refine sf_if_ne (tgt := 187) (pc := 179) C dX10_order_179 rfl (fun c179 => ?_) (fun c179 => ?_)
  · replace h := (if_neg c179).symm.trans h
    refine sf_iload (pc := 187) C 1 dX10_order_187 rfl ?_
    exact sf_iretW (pc := 189) C dX10_order_189 h
  · replace h := (if_pos c179).symm.trans h
    refine sf_iload (pc := 182) C 2 dX10_order_182 rfl ?_
    refine sf_goto (tgt := 189) (pc := 184) C dX10_order_184 rfl ?_
    exact sf_iretW (pc := 189) C dX10_order_189 h
set_option maxHeartbeats 4000000 in
set_option maxRecDepth 100000 in
theorem w10_order_b109 {X : sf_X} {V : sf_V} {r : Int32} {s' : sf_Sg} {k109 : sf_Sg → Int32 → Int32 → Int32 → Int32 → Int32 → Int32 → Int32 → Option (Int32 × sf_Sg)} (C : sf_C X V cX10_order 10 RX10 (some .int) 6) (hk109 : ∀  (s : sf_Sg) (x1 : Int32) (x2 : Int32) (x4 : Int32) (x5 : Int32) (x6 : Int32) (x7 : Int32) (x8 : Int32), k109 s x1 x2 x4 x5 x6 x7 x8 = some (r, s') → sf_G X V 10 (sf_Q X V (sf_Qi V r s')) s 109 [(0, .ref (V.2.1 149)), (1, .int x1), (2, .int x2), (4, .int x4), (5, .int x5), (6, .int x6), (7, .int x7), (8, .int x8)] []) {s : sf_Sg} {x1 : Int32} {x2 : Int32} {x4 : Int32} {x5 : Int32} {x6 : Int32} {x7 : Int32} {x8 : Int32} (h : f10_order_b109 k109 s x1 x2 x4 x5 x6 x7 x8 = some (r, s')) : sf_G X V 10 (sf_Q X V (sf_Qi V r s')) s 109 [(0, .ref (V.2.1 149)), (1, .int x1), (2, .int x2), (4, .int x4), (5, .int x5), (6, .int x6), (7, .int x7), (8, .int x8)] [] := by
  unfold f10_order_b109 at h
  refine sf_iload (pc := 109) C 7 dX10_order_109 rfl ?_
  refine sf_iload (pc := 111) C 4 dX10_order_111 rfl ?_
  refine sf_icmp_ge (tgt := 178) (pc := 113) C dX10_order_113 rfl (fun c113 => ?_) (fun c113 => ?_)
  · replace h := (if_pos c113).symm.trans h
    refine sf_sub [2, 5, 6] rfl ?_
    exact w10_order_b178 C h
  · replace h := (if_neg c113).symm.trans h
    refine sf_aload_n (pc := 116) C 0 dX10_order_116 rfl ?_
    refine sf_iload_n (pc := 117) C 1 dX10_order_117 rfl ?_
    refine sf_iload (pc := 118) C 7 dX10_order_118 rfl ?_
    refine sf_iload (pc := 120) C 3 dX10_order_120 rfl ?_
    obtain ⟨q122, e122, h⟩ := sf_ob h
    refine sf_callVi (pc := 122) C (As := [.int x1, .int x8, .int x4]) nk_149 sh_149 rfl yk_X10_soreBy cl_10_306 (k10_soreBy e122) (by decide) rfl (Nat.le_of_ble_eq_true rfl) rfl dX10_order_122 ?_
    refine sf_istore (lv' := [(9, .int q122.1), (0, .ref (V.2.1 149)), (1, .int x1), (2, .int x2), (4, .int x4), (5, .int x5), (6, .int x6), (7, .int x7), (8, .int x8)]) (pc := 125) C dX10_order_125 (by decide) rfl ?_
    refine sf_iload (pc := 127) C 0 dX10_order_127 rfl ?_
    refine sf_iload (pc := 129) C 7 dX10_order_129 rfl ?_
    refine sf_icmp_ge (tgt := 139) (pc := 131) C dX10_order_131 rfl (fun c131 => ?_) (fun c131 => ?_)
    · replace h := (if_pos c131).symm.trans h
      refine sf_iload (pc := 139) C 6 dX10_order_139 rfl ?_
      refine sf_sub [1, 2, 3, 4, 5, 7, 8, 0] rfl ?_
      exact w10_order_b141 C hk109 h
    · replace h := (if_neg c131).symm.trans h
      refine sf_iload (pc := 134) C 8 dX10_order_134 rfl ?_
      refine sf_goto (tgt := 141) (pc := 136) C dX10_order_136 rfl ?_
      refine sf_sub [1, 2, 3, 4, 5, 7, 8, 0] rfl ?_
      exact w10_order_b141 C hk109 h
set_option maxHeartbeats 4000000 in
set_option maxRecDepth 100000 in
theorem w10_order_L109 {X : sf_X} {V : sf_V} {r : Int32} {s' : sf_Sg} (C : sf_C X V cX10_order 10 RX10 (some .int) 6) : ∀  (s : sf_Sg) (x1 : Int32) (x2 : Int32) (x4 : Int32) (x5 : Int32) (x6 : Int32) (x7 : Int32) (x8 : Int32), f10_order_L109 s x1 x2 x4 x5 x6 x7 x8 = some (r, s') → sf_G X V 10 (sf_Q X V (sf_Qi V r s')) s 109 [(0, .ref (V.2.1 149)), (1, .int x1), (2, .int x2), (4, .int x4), (5, .int x5), (6, .int x6), (7, .int x7), (8, .int x8)] [] :=
  sf_it_ind (fun (k : sf_Sg → Int32 → Int32 → Int32 → Int32 → Int32 → Int32 → Int32 → Option (Int32 × sf_Sg)) => ∀  (s : sf_Sg) (x1 : Int32) (x2 : Int32) (x4 : Int32) (x5 : Int32) (x6 : Int32) (x7 : Int32) (x8 : Int32), k s x1 x2 x4 x5 x6 x7 x8 = some (r, s') → sf_G X V 10 (sf_Q X V (sf_Qi V r s')) s 109 [(0, .ref (V.2.1 149)), (1, .int x1), (2, .int x2), (4, .int x4), (5, .int x5), (6, .int x6), (7, .int x7), (8, .int x8)] []) _ _ (fun s x1 x2 x4 x5 x6 x7 x8 h => by cases h) (fun k hk s x1 x2 x4 x5 x6 x7 x8 h => w10_order_b109 C hk h) _
set_option maxHeartbeats 4000000 in
set_option maxRecDepth 100000 in
theorem w10_order_b86 {X : sf_X} {V : sf_V} {r : Int32} {s' : sf_Sg} (C : sf_C X V cX10_order 10 RX10 (some .int) 6) {s : sf_Sg} {x1 : Int32} {x2 : Int32} {x4 : Int32} {x5 : Int32} (h : f10_order_b86 s x1 x2 x4 x5 = some (r, s')) : sf_G X V 10 (sf_Q X V (sf_Qi V r s')) s 86 [(0, .ref (V.2.1 149)), (1, .int x1), (2, .int x2), (4, .int x4), (5, .int x5)] [] := by
  unfold f10_order_b86 at h
  refine sf_aload_n (pc := 86) C 0 dX10_order_86 rfl ?_
  refine sf_getr (pc := 87) C nk_149 sh_149 rfl fl_10_25 dX10_order_87 ?_
  refine sf_aload_n (pc := 90) C 0 dX10_order_90 rfl ?_
  refine sf_getr (pc := 91) C nk_149 sh_149 rfl fl_10_53 dX10_order_91 ?_
  refine sf_bipush (v := 31) (pc := 94) C dX10_order_94 (by decide) ?_
  obtain ⟨s96, e96, h⟩ := sf_ob h
  refine sf_callSv (pc := 96) C (As := [.ref (V.2.1 155), .ref (V.2.1 163), .int (31 : Int32)]) yk_X10_copyRow cl_10_157 (k10_copyRow ⟨nk_155, sh_155⟩ ⟨nk_163, sh_163⟩ e96) (by decide) rfl (Nat.le_of_ble_eq_true rfl) rfl dX10_order_96 ?_
  refine sf_iconst (v := 0) (pc := 99) C dX10_order_99 (by decide) ?_
  refine sf_istore (lv' := [(6, .int (0 : Int32)), (0, .ref (V.2.1 149)), (1, .int x1), (2, .int x2), (4, .int x4), (5, .int x5)]) (pc := 100) C dX10_order_100 (by decide) rfl ?_
  refine sf_ldc (v := 1000000) (pc := 102) C dX10_order_102 tm_1056 ?_
  refine sf_istore (lv' := [(7, .int (1000000 : Int32)), (6, .int (0 : Int32)), (0, .ref (V.2.1 149)), (1, .int x1), (2, .int x2), (4, .int x4), (5, .int x5)]) (pc := 104) C dX10_order_104 (by decide) rfl ?_
  refine sf_iconst (v := 0) (pc := 106) C dX10_order_106 (by decide) ?_
  refine sf_istore (lv' := [(8, .int (0 : Int32)), (7, .int (1000000 : Int32)), (6, .int (0 : Int32)), (0, .ref (V.2.1 149)), (1, .int x1), (2, .int x2), (4, .int x4), (5, .int x5)]) (pc := 107) C dX10_order_107 (by decide) rfl ?_
  refine sf_sub [3, 4, 5, 6, 7, 2, 1, 0] rfl ?_
  exact w10_order_L109 C _ _ _ _ _ _ _ _ h
set_option maxHeartbeats 4000000 in
set_option maxRecDepth 100000 in
theorem w10_order_b39 {X : sf_X} {V : sf_V} {r : Int32} {s' : sf_Sg} {k39 : sf_Sg → Int32 → Int32 → Int32 → Int32 → Int32 → Int32 → Option (Int32 × sf_Sg)} (C : sf_C X V cX10_order 10 RX10 (some .int) 6) (hk39 : ∀  (s : sf_Sg) (x1 : Int32) (x2 : Int32) (x3 : Int32) (x4 : Int32) (x5 : Int32) (x6 : Int32), k39 s x1 x2 x3 x4 x5 x6 = some (r, s') → sf_G X V 10 (sf_Q X V (sf_Qi V r s')) s 39 [(0, .ref (V.2.1 149)), (1, .int x1), (2, .int x2), (3, .int x3), (4, .int x4), (5, .int x5), (6, .int x6)] []) {s : sf_Sg} {x1 : Int32} {x2 : Int32} {x3 : Int32} {x4 : Int32} {x5 : Int32} {x6 : Int32} (h : f10_order_b39 k39 s x1 x2 x3 x4 x5 x6 = some (r, s')) : sf_G X V 10 (sf_Q X V (sf_Qi V r s')) s 39 [(0, .ref (V.2.1 149)), (1, .int x1), (2, .int x2), (3, .int x3), (4, .int x4), (5, .int x5), (6, .int x6)] [] := by
  unfold f10_order_b39 at h
  refine sf_iload (pc := 39) C 6 dX10_order_39 rfl ?_
  refine sf_aload_n (pc := 41) C 0 dX10_order_41 rfl ?_
  refine sf_get (pc := 42) C nk_149 sh_149 rfl fl_10_88 dX10_order_42 ?_
  refine sf_icmp_ge (tgt := 86) (pc := 45) C dX10_order_45 rfl (fun c45 => ?_) (fun c45 => ?_)
  · replace h := (if_pos c45).symm.trans h
    refine sf_sub [0, 1, 2, 4, 5] rfl ?_
    exact w10_order_b86 C h
  · replace h := (if_neg c45).symm.trans h
    refine sf_iload (pc := 48) C 4 dX10_order_48 rfl ?_
    refine sf_iload_n (pc := 50) C 3 dX10_order_50 rfl ?_
    refine sf_iload (pc := 51) C 6 dX10_order_51 rfl ?_
    refine sf_ishr (pc := 53) C dX10_order_53 ?_
    refine sf_iconst (v := 1) (pc := 54) C dX10_order_54 (by decide) ?_
    refine sf_iand (pc := 55) C dX10_order_55 ?_
    refine sf_iadd (pc := 56) C dX10_order_56 ?_
    refine sf_istore (lv' := [(4, .int (x4 + ((x3 >>> (x6 &&& 31)) &&& (1 : Int32)))), (0, .ref (V.2.1 149)), (1, .int x1), (2, .int x2), (3, .int x3), (5, .int x5), (6, .int x6)]) (pc := 57) C dX10_order_57 (by decide) rfl ?_
    refine sf_iload (pc := 59) C 5 dX10_order_59 rfl ?_
    refine sf_iload_n (pc := 61) C 4 dX10_order_61 rfl ?_
    refine sf_iload (pc := 62) C 6 dX10_order_62 rfl ?_
    refine sf_ishr (pc := 64) C dX10_order_64 ?_
    refine sf_iconst (v := 1) (pc := 65) C dX10_order_65 (by decide) ?_
    refine sf_iand (pc := 66) C dX10_order_66 ?_
    refine sf_iconst (v := 1) (pc := 67) C dX10_order_67 (by decide) ?_
    refine sf_icmp_ne (tgt := 76) (pc := 68) C dX10_order_68 rfl (fun c68 => ?_) (fun c68 => ?_)
    · replace h := (if_neg c68).symm.trans h
      refine sf_iconst (v := 1) (pc := 76) C dX10_order_76 (by decide) ?_
      refine sf_sub [1, 2, 3, 4, 0, 6] rfl ?_
      exact w10_order_b77 C hk39 h
    · replace h := (if_pos c68).symm.trans h
      refine sf_bipush (v := 10) (pc := 71) C dX10_order_71 (by decide) ?_
      refine sf_goto (tgt := 77) (pc := 73) C dX10_order_73 rfl ?_
      refine sf_sub [1, 2, 3, 4, 0, 6] rfl ?_
      exact w10_order_b77 C hk39 h
set_option maxHeartbeats 4000000 in
set_option maxRecDepth 100000 in
theorem w10_order_L39 {X : sf_X} {V : sf_V} {r : Int32} {s' : sf_Sg} (C : sf_C X V cX10_order 10 RX10 (some .int) 6) : ∀  (s : sf_Sg) (x1 : Int32) (x2 : Int32) (x3 : Int32) (x4 : Int32) (x5 : Int32) (x6 : Int32), f10_order_L39 s x1 x2 x3 x4 x5 x6 = some (r, s') → sf_G X V 10 (sf_Q X V (sf_Qi V r s')) s 39 [(0, .ref (V.2.1 149)), (1, .int x1), (2, .int x2), (3, .int x3), (4, .int x4), (5, .int x5), (6, .int x6)] [] :=
  sf_it_ind (fun (k : sf_Sg → Int32 → Int32 → Int32 → Int32 → Int32 → Int32 → Option (Int32 × sf_Sg)) => ∀  (s : sf_Sg) (x1 : Int32) (x2 : Int32) (x3 : Int32) (x4 : Int32) (x5 : Int32) (x6 : Int32), k s x1 x2 x3 x4 x5 x6 = some (r, s') → sf_G X V 10 (sf_Q X V (sf_Qi V r s')) s 39 [(0, .ref (V.2.1 149)), (1, .int x1), (2, .int x2), (3, .int x3), (4, .int x4), (5, .int x5), (6, .int x6)] []) _ _ (fun s x1 x2 x3 x4 x5 x6 h => by cases h) (fun k hk s x1 x2 x3 x4 x5 x6 h => w10_order_b39 C hk h) _
set_option maxHeartbeats 4000000 in
set_option maxRecDepth 100000 in
theorem w10_order_b0 {X : sf_X} {V : sf_V} {r : Int32} {s' : sf_Sg} (C : sf_C X V cX10_order 10 RX10 (some .int) 6) {s : sf_Sg} {x1 : Int32} {x2 : Int32} (h : f10_order_b0 s x1 x2 = some (r, s')) : sf_G X V 10 (sf_Q X V (sf_Qi V r s')) s 0 [(0, .ref (V.2.1 149)), (1, .int x1), (2, .int x2)] [] := by
  unfold f10_order_b0 at h
  refine sf_aload_n (pc := 0) C 0 dX10_order_0 rfl ?_
  refine sf_iload_n (pc := 1) C 1 dX10_order_1 rfl ?_
  refine sf_callVi (pc := 2) C (As := [.int x1]) nk_149 sh_149 rfl yk_X10_isBack cl_10_237 (k10_isBack rfl) (by decide) rfl (Nat.le_of_ble_eq_true rfl) rfl dX10_order_2 ?_
  refine sf_if_ne (tgt := 11) (pc := 5) C dX10_order_5 rfl (fun c5 => ?_) (fun c5 => ?_)
  · replace h := (if_neg c5).symm.trans h
    refine sf_iload_n (pc := 11) C 2 dX10_order_11 rfl ?_
    refine sf_i2l (pc := 12) C dX10_order_12 ?_
    refine sf_lconst (v := 0) (pc := 13) C dX10_order_13 (by decide) ?_
    refine sf_lconst (v := 1) (pc := 14) C dX10_order_14 (by decide) ?_
    refine sf_callSi (pc := 15) C (As := [.long x2.toInt64, .long (0 : Int64), .long (1 : Int64)]) yk_X10_in cl_10_91 (k10_in rfl) (by decide) rfl (Nat.le_of_ble_eq_true rfl) rfl dX10_order_15 ?_
    refine sf_if_ne (tgt := 24) (pc := 18) C dX10_order_18 rfl (fun c18 => ?_) (fun c18 => ?_)
    · replace h := (if_neg c18).symm.trans h
      refine sf_aload_n (pc := 24) C 0 dX10_order_24 rfl ?_
      refine sf_iload_n (pc := 25) C 1 dX10_order_25 rfl ?_
      obtain ⟨v26, e26, h⟩ := sf_ob h
      refine sf_callVi (pc := 26) C (As := [.int x1]) nk_149 sh_149 rfl yk_X10_carriedBy cl_10_240 (k10_carriedBy e26) (by decide) rfl (Nat.le_of_ble_eq_true rfl) rfl dX10_order_26 ?_
      refine sf_istore_n (lv' := [(3, .int v26), (0, .ref (V.2.1 149)), (1, .int x1), (2, .int x2)]) (pc := 29) C dX10_order_29 (by decide) rfl ?_
      refine sf_iconst (v := 0) (pc := 30) C dX10_order_30 (by decide) ?_
      refine sf_istore (lv' := [(4, .int (0 : Int32)), (3, .int v26), (0, .ref (V.2.1 149)), (1, .int x1), (2, .int x2)]) (pc := 31) C dX10_order_31 (by decide) rfl ?_
      refine sf_iconst (v := 1) (pc := 33) C dX10_order_33 (by decide) ?_
      refine sf_istore (lv' := [(5, .int (1 : Int32)), (4, .int (0 : Int32)), (3, .int v26), (0, .ref (V.2.1 149)), (1, .int x1), (2, .int x2)]) (pc := 34) C dX10_order_34 (by decide) rfl ?_
      refine sf_iconst (v := 0) (pc := 36) C dX10_order_36 (by decide) ?_
      refine sf_istore (lv' := [(6, .int (0 : Int32)), (5, .int (1 : Int32)), (4, .int (0 : Int32)), (3, .int v26), (0, .ref (V.2.1 149)), (1, .int x1), (2, .int x2)]) (pc := 37) C dX10_order_37 (by decide) rfl ?_
      refine sf_sub [4, 5, 6, 3, 2, 1, 0] rfl ?_
      exact w10_order_L39 C _ _ _ _ _ _ _ h
    · replace h := (if_pos c18).symm.trans h
      refine sf_ldc (v := -1000000002) (pc := 21) C dX10_order_21 tm_940 ?_
      exact sf_iretW (pc := 23) C dX10_order_23 h
  · replace h := (if_pos c5).symm.trans h
    refine sf_ldc (v := -1000000001) (pc := 8) C dX10_order_8 tm_1069 ?_
    exact sf_iretW (pc := 10) C dX10_order_10 h
set_option maxHeartbeats 4000000 in
set_option maxRecDepth 100000 in
theorem k10_order {l : Launch} {V : sf_V} {s : sf_Sg} {x1 : Int32} {x2 : Int32} {r : Int32} {s' : sf_Sg} (h : f10_order s x1 x2 = some (r, s')) : sf_M l V yX10_order (.code yX10_order cX10_order 10 (some .int)) 6 [.ref (V.2.1 149), .int x1, .int x2] s (sf_Qi V r s') := by
  refine sf_enter (by decide) (Nat.le_of_ble_eq_true rfl) (fun X hX C => ?_)
  refine sf_sub [0, 1, 2] rfl ?_
  exact w10_order_b0 (show sf_C X V cX10_order 10 RX10 (some .int) 6 from C)  h
set_option maxHeartbeats 4000000 in
set_option maxRecDepth 100000 in
theorem w10_could_b74 {X : sf_X} {V : sf_V} {r : Int32} {s' : sf_Sg} {k31 : sf_Sg → Int32 → Int32 → Int32 → Option (Int32 × sf_Sg)} (C : sf_C X V cX10_could 5 RX10 (some .int) 4) (hk31 : ∀  (s : sf_Sg) (x1 : Int32) (x2 : Int32) (x3 : Int32), k31 s x1 x2 x3 = some (r, s') → sf_G X V 5 (sf_Q X V (sf_Qi V r s')) s 31 [(0, .ref (V.2.1 149)), (1, .int x1), (2, .int x2), (3, .int x3)] []) {s : sf_Sg} {x1 : Int32} {x3 : Int32} {t1 : Int32} {t0 : Int32} (h : f10_could_b74 k31 s x1 x3 t1 t0 = some (r, s')) : sf_G X V 5 (sf_Q X V (sf_Qi V r s')) s 74 [(0, .ref (V.2.1 149)), (1, .int x1), (3, .int x3)] [.int t1, .int t0] := by
  unfold f10_could_b74 at h
  refine sf_ior (pc := 74) C dX10_could_74 ?_
  refine sf_istore_n (lv' := [(2, .int (t0 ||| t1)), (0, .ref (V.2.1 149)), (1, .int x1), (3, .int x3)]) (pc := 75) C dX10_could_75 (by decide) rfl ?_
  refine sf_aload_n (pc := 76) C 1 dX10_could_76 rfl ?_
  refine sf_getr (pc := 77) C nk_149 sh_149 rfl fl_10_25 dX10_could_77 ?_
  refine sf_bipush (v := 12) (pc := 80) C dX10_could_80 (by decide) ?_
  refine sf_iload_n (pc := 82) C 2 dX10_could_82 rfl ?_
  refine sf_iadd (pc := 83) C dX10_could_83 ?_
  refine sf_iconst (v := -1) (pc := 84) C dX10_could_84 (by decide) ?_
  obtain ⟨s85, e85, h⟩ := sf_ob h
  refine sf_iast (pc := 85) C nk_155 sh_155 e85 dX10_could_85 ?_
  refine sf_iinc (v := (x3 + 1)) (lv' := [(3, .int (x3 + 1)), (2, .int (t0 ||| t1)), (0, .ref (V.2.1 149)), (1, .int x1)]) (pc := 86) C 3 dX10_could_86 rfl rfl (by decide) rfl ?_
  refine sf_goto (tgt := 31) (pc := 89) C dX10_could_89 rfl ?_
  refine sf_sub [2, 3, 1, 0] rfl ?_
  exact hk31 _ _ _ _ h
set_option maxHeartbeats 4000000 in
set_option maxRecDepth 100000 in
theorem w10_could_b31 {X : sf_X} {V : sf_V} {r : Int32} {s' : sf_Sg} {k31 : sf_Sg → Int32 → Int32 → Int32 → Option (Int32 × sf_Sg)} (C : sf_C X V cX10_could 5 RX10 (some .int) 4) (hk31 : ∀  (s : sf_Sg) (x1 : Int32) (x2 : Int32) (x3 : Int32), k31 s x1 x2 x3 = some (r, s') → sf_G X V 5 (sf_Q X V (sf_Qi V r s')) s 31 [(0, .ref (V.2.1 149)), (1, .int x1), (2, .int x2), (3, .int x3)] []) {s : sf_Sg} {x1 : Int32} {x2 : Int32} {x3 : Int32} (h : f10_could_b31 k31 s x1 x2 x3 = some (r, s')) : sf_G X V 5 (sf_Q X V (sf_Qi V r s')) s 31 [(0, .ref (V.2.1 149)), (1, .int x1), (2, .int x2), (3, .int x3)] [] := by
  unfold f10_could_b31 at h
  refine sf_iload_n (pc := 31) C 3 dX10_could_31 rfl ?_
  refine sf_aload_n (pc := 32) C 0 dX10_could_32 rfl ?_
  refine sf_get (pc := 33) C nk_149 sh_149 rfl fl_10_95 dX10_could_33 ?_
  refine sf_icmp_ge (tgt := 92) (pc := 36) C dX10_could_36 rfl (fun c36 => ?_) (fun c36 => ?_)
  · replace h := (if_pos c36).symm.trans h
    refine sf_iload_n (pc := 92) C 2 dX10_could_92 rfl ?_
    exact sf_iretW (pc := 93) C dX10_could_93 h
  · replace h := (if_neg c36).symm.trans h
    refine sf_aload_n (pc := 39) C 0 dX10_could_39 rfl ?_
    refine sf_iload_n (pc := 40) C 3 dX10_could_40 rfl ?_
    obtain ⟨v41, e41, h⟩ := sf_ob h
    refine sf_callVi (pc := 41) C (As := [.int x3]) nk_149 sh_149 rfl yk_X10_gallingOf cl_10_208 (k10_gallingOf e41) (by decide) rfl (Nat.le_of_ble_eq_true rfl) rfl dX10_could_41 ?_
    refine sf_istore (lv' := [(4, .int v41), (0, .ref (V.2.1 149)), (1, .int x1), (2, .int x2), (3, .int x3)]) (pc := 44) C dX10_could_44 (by decide) rfl ?_
    refine sf_aload_n (pc := 46) C 1 dX10_could_46 rfl ?_
    refine sf_getr (pc := 47) C nk_149 sh_149 rfl fl_10_25 dX10_could_47 ?_
    refine sf_bipush (v := 12) (pc := 50) C dX10_could_50 (by decide) ?_
    refine sf_iload_n (pc := 52) C 2 dX10_could_52 rfl ?_
    refine sf_iadd (pc := 53) C dX10_could_53 ?_
    refine sf_iload_n (pc := 54) C 4 dX10_could_54 rfl ?_
    obtain ⟨s55, e55, h⟩ := sf_ob h
    refine sf_iast (pc := 55) C nk_155 sh_155 e55 dX10_could_55 ?_
    refine sf_iload_n (pc := 56) C 3 dX10_could_56 rfl ?_
    refine sf_aload_n (pc := 57) C 1 dX10_could_57 rfl ?_
    refine sf_iload_n (pc := 58) C 4 dX10_could_58 rfl ?_
    obtain ⟨v59, e59, h⟩ := sf_ob h
    refine sf_callVi (pc := 59) C (As := [.int x3]) nk_149 sh_149 rfl yk_X10_gallingOf cl_10_208 (k10_gallingOf e59) (by decide) rfl (Nat.le_of_ble_eq_true rfl) rfl dX10_could_59 ?_
    refine sf_iload (pc := 62) C 0 dX10_could_62 rfl ?_
    refine sf_icmp_gt (tgt := 73) (pc := 64) C dX10_could_64 rfl (fun c64 => ?_) (fun c64 => ?_)
    · replace h := (if_pos c64).symm.trans h
      refine sf_iconst (v := 0) (pc := 73) C dX10_could_73 (by decide) ?_
      refine sf_sub [1, 2, 4] rfl ?_
      exact w10_could_b74 C hk31 h
    · replace h := (if_neg c64).symm.trans h
      refine sf_iconst (v := 1) (pc := 67) C dX10_could_67 (by decide) ?_
      refine sf_iload_n (pc := 68) C 4 dX10_could_68 rfl ?_
      refine sf_ishl (pc := 69) C dX10_could_69 ?_
      refine sf_goto (tgt := 74) (pc := 70) C dX10_could_70 rfl ?_
      refine sf_sub [1, 2, 4] rfl ?_
      exact w10_could_b74 C hk31 h
set_option maxHeartbeats 4000000 in
set_option maxRecDepth 100000 in
theorem w10_could_L31 {X : sf_X} {V : sf_V} {r : Int32} {s' : sf_Sg} (C : sf_C X V cX10_could 5 RX10 (some .int) 4) : ∀  (s : sf_Sg) (x1 : Int32) (x2 : Int32) (x3 : Int32), f10_could_L31 s x1 x2 x3 = some (r, s') → sf_G X V 5 (sf_Q X V (sf_Qi V r s')) s 31 [(0, .ref (V.2.1 149)), (1, .int x1), (2, .int x2), (3, .int x3)] [] :=
  sf_it_ind (fun (k : sf_Sg → Int32 → Int32 → Int32 → Option (Int32 × sf_Sg)) => ∀  (s : sf_Sg) (x1 : Int32) (x2 : Int32) (x3 : Int32), k s x1 x2 x3 = some (r, s') → sf_G X V 5 (sf_Q X V (sf_Qi V r s')) s 31 [(0, .ref (V.2.1 149)), (1, .int x1), (2, .int x2), (3, .int x3)] []) _ _ (fun s x1 x2 x3 h => by cases h) (fun k hk s x1 x2 x3 h => w10_could_b31 C hk h) _
set_option maxHeartbeats 4000000 in
set_option maxRecDepth 100000 in
theorem w10_could_b0 {X : sf_X} {V : sf_V} {r : Int32} {s' : sf_Sg} (C : sf_C X V cX10_could 5 RX10 (some .int) 4) {s : sf_Sg} {x1 : Int32} (h : f10_could_b0 s x1 = some (r, s')) : sf_G X V 5 (sf_Q X V (sf_Qi V r s')) s 0 [(0, .ref (V.2.1 149)), (1, .int x1)] [] := by
  unfold f10_could_b0 at h
  refine sf_aload_n (pc := 0) C 0 dX10_could_0 rfl ?_
  refine sf_iload_n (pc := 1) C 1 dX10_could_1 rfl ?_
  refine sf_callVi (pc := 2) C (As := [.int x1]) nk_149 sh_149 rfl yk_X10_isBurden cl_10_233 (k10_isBurden rfl) (by decide) rfl (Nat.le_of_ble_eq_true rfl) rfl dX10_could_2 ?_
  refine sf_if_ne (tgt := 11) (pc := 5) C dX10_could_5 rfl (fun c5 => ?_) (fun c5 => ?_)
  · replace h := (if_neg c5).symm.trans h
    refine sf_aload_n (pc := 11) C 0 dX10_could_11 rfl ?_
    refine sf_getr (pc := 12) C nk_149 sh_149 rfl fl_10_25 dX10_could_12 ?_
    refine sf_bipush (v := 12) (pc := 15) C dX10_could_15 (by decide) ?_
    refine sf_iload_n (pc := 17) C 1 dX10_could_17 rfl ?_
    refine sf_iadd (pc := 18) C dX10_could_18 ?_
    obtain ⟨v19, e19, h⟩ := sf_ob h
    refine sf_iald (pc := 19) C nk_155 sh_155 e19 dX10_could_19 ?_
    refine sf_iconst (v := -1) (pc := 20) C dX10_could_20 (by decide) ?_
    refine sf_icmp_eq (tgt := 27) (pc := 21) C dX10_could_21 rfl (fun c21 => ?_) (fun c21 => ?_)
    · replace h := (if_pos c21).symm.trans h
      refine sf_iconst (v := 0) (pc := 27) C dX10_could_27 (by decide) ?_
      refine sf_istore_n (lv' := [(2, .int (0 : Int32)), (0, .ref (V.2.1 149)), (1, .int x1)]) (pc := 28) C dX10_could_28 (by decide) rfl ?_
      refine sf_iconst (v := 0) (pc := 29) C dX10_could_29 (by decide) ?_
      refine sf_istore_n (lv' := [(3, .int (0 : Int32)), (2, .int (0 : Int32)), (0, .ref (V.2.1 149)), (1, .int x1)]) (pc := 30) C dX10_could_30 (by decide) rfl ?_
      refine sf_sub [2, 3, 1, 0] rfl ?_
      exact w10_could_L31 C _ _ _ _ h
    · replace h := (if_neg c21).symm.trans h
      refine sf_ldc (v := -1000000003) (pc := 24) C dX10_could_24 tm_1099 ?_
      exact sf_iretW (pc := 26) C dX10_could_26 h
  · replace h := (if_pos c5).symm.trans h
    refine sf_ldc (v := -1000000001) (pc := 8) C dX10_could_8 tm_1069 ?_
    exact sf_iretW (pc := 10) C dX10_could_10 h
set_option maxHeartbeats 4000000 in
set_option maxRecDepth 100000 in
theorem k10_could {l : Launch} {V : sf_V} {s : sf_Sg} {x1 : Int32} {r : Int32} {s' : sf_Sg} (h : f10_could s x1 = some (r, s')) : sf_M l V yX10_could (.code yX10_could cX10_could 5 (some .int)) 4 [.ref (V.2.1 149), .int x1] s (sf_Qi V r s') := by
  refine sf_enter (by decide) (Nat.le_of_ble_eq_true rfl) (fun X hX C => ?_)
  refine sf_sub [0, 1] rfl ?_
  exact w10_could_b0 (show sf_C X V cX10_could 5 RX10 (some .int) 4 from C)  h
