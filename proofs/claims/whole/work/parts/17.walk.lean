set_option maxHeartbeats 4000000 in
set_option maxRecDepth 100000 in
theorem w10_shareOf_b0 {X : sf_X} {V : sf_V} {s : sf_Sg} {r : Int32} (C : sf_C X V cX10_shareOf 4 RX10 (some .int) 2) {x1 : Int32} {x2 : Int32} {x3 : Int32} (h : f10_shareOf_b0 s x1 x2 x3 = some r) : sf_G X V 4 (sf_Q X V (sf_Qi V r s)) s 0 [(0, .ref (V.2.1 149)), (1, .int x1), (2, .int x2), (3, .int x3)] [] := by
  unfold f10_shareOf_b0 at h
  refine sf_aload_n (pc := 0) C 0 dX10_shareOf_0 rfl ?_
  refine sf_iload_n (pc := 1) C 1 dX10_shareOf_1 rfl ?_
  refine sf_callVi (pc := 2) C (As := [.int x1]) nk_149 sh_149 rfl yk_X10_isBurden cl_10_233 (k10_isBurden rfl) (by decide) rfl (Nat.le_of_ble_eq_true rfl) rfl dX10_shareOf_2 ?_
  refine sf_if_eq (tgt := 29) (pc := 5) C dX10_shareOf_5 rfl (fun c5 => ?_) (fun c5 => ?_)
  · replace h := (if_pos c5).symm.trans h
    refine sf_ldc (v := -1000000001) (pc := 29) C dX10_shareOf_29 tm_1069 ?_
    exact sf_iretR (pc := 31) C dX10_shareOf_31 h
  · replace h := (if_neg c5).symm.trans h
    refine sf_aload_n (pc := 8) C 0 dX10_shareOf_8 rfl ?_
    refine sf_iload_n (pc := 9) C 2 dX10_shareOf_9 rfl ?_
    refine sf_callVi (pc := 10) C (As := [.int x2]) nk_149 sh_149 rfl yk_X10_isBack cl_10_237 (k10_isBack rfl) (by decide) rfl (Nat.le_of_ble_eq_true rfl) rfl dX10_shareOf_10 ?_
    refine sf_if_eq (tgt := 29) (pc := 13) C dX10_shareOf_13 rfl (fun c13 => ?_) (fun c13 => ?_)
    · replace h := (if_pos c13).symm.trans h
      refine sf_ldc (v := -1000000001) (pc := 29) C dX10_shareOf_29 tm_1069 ?_
      exact sf_iretR (pc := 31) C dX10_shareOf_31 h
    · replace h := (if_neg c13).symm.trans h
      refine sf_aload_n (pc := 16) C 0 dX10_shareOf_16 rfl ?_
      refine sf_iload_n (pc := 17) C 3 dX10_shareOf_17 rfl ?_
      refine sf_callVi (pc := 18) C (As := [.int x3]) nk_149 sh_149 rfl yk_X10_isBack cl_10_237 (k10_isBack rfl) (by decide) rfl (Nat.le_of_ble_eq_true rfl) rfl dX10_shareOf_18 ?_
      refine sf_if_eq (tgt := 29) (pc := 21) C dX10_shareOf_21 rfl (fun c21 => ?_) (fun c21 => ?_)
      · replace h := (if_pos c21).symm.trans h
        refine sf_ldc (v := -1000000001) (pc := 29) C dX10_shareOf_29 tm_1069 ?_
        exact sf_iretR (pc := 31) C dX10_shareOf_31 h
      · replace h := (if_neg c21).symm.trans h
        refine sf_iload_n (pc := 24) C 2 dX10_shareOf_24 rfl ?_
        refine sf_iload_n (pc := 25) C 3 dX10_shareOf_25 rfl ?_
        refine sf_icmp_ne (tgt := 32) (pc := 26) C dX10_shareOf_26 rfl (fun c26 => ?_) (fun c26 => ?_)
        · replace h := (if_neg c26).symm.trans h
          refine sf_aload_n (pc := 32) C 0 dX10_shareOf_32 rfl ?_
          refine sf_getr (pc := 33) C nk_149 sh_149 rfl fl_10_25 dX10_shareOf_33 ?_
          refine sf_iload_n (pc := 36) C 1 dX10_shareOf_36 rfl ?_
          obtain ⟨v37, e37, h⟩ := sf_ob h
          refine sf_iald (pc := 37) C nk_155 sh_155 e37 dX10_shareOf_37 ?_
          refine sf_aload_n (pc := 38) C 0 dX10_shareOf_38 rfl ?_
          refine sf_getr (pc := 39) C nk_149 sh_149 rfl fl_10_25 dX10_shareOf_39 ?_
          refine sf_iload_n (pc := 42) C 1 dX10_shareOf_42 rfl ?_
          obtain ⟨v43, e43, h⟩ := sf_ob h
          refine sf_iald (pc := 43) C nk_155 sh_155 e43 dX10_shareOf_43 ?_
          refine sf_aload_n (pc := 44) C 0 dX10_shareOf_44 rfl ?_
          refine sf_getr (pc := 45) C nk_149 sh_149 rfl fl_10_19 dX10_shareOf_45 ?_
          refine sf_iload_n (pc := 48) C 3 dX10_shareOf_48 rfl ?_
          obtain ⟨v49, e49, h⟩ := sf_ob h
          refine sf_iald (pc := 49) C nk_153 sh_153 e49 dX10_shareOf_49 ?_
          refine sf_imul (pc := 50) C dX10_shareOf_50 ?_
          refine sf_aload_n (pc := 51) C 0 dX10_shareOf_51 rfl ?_
          refine sf_getr (pc := 52) C nk_149 sh_149 rfl fl_10_19 dX10_shareOf_52 ?_
          refine sf_iload_n (pc := 55) C 2 dX10_shareOf_55 rfl ?_
          obtain ⟨v56, e56, h⟩ := sf_ob h
          refine sf_iald (pc := 56) C nk_153 sh_153 e56 dX10_shareOf_56 ?_
          refine sf_aload_n (pc := 57) C 0 dX10_shareOf_57 rfl ?_
          refine sf_getr (pc := 58) C nk_149 sh_149 rfl fl_10_19 dX10_shareOf_58 ?_
          refine sf_iload_n (pc := 61) C 3 dX10_shareOf_61 rfl ?_
          obtain ⟨v62, e62, h⟩ := sf_ob h
          refine sf_iald (pc := 62) C nk_153 sh_153 e62 dX10_shareOf_62 ?_
          refine sf_iadd (pc := 63) C dX10_shareOf_63 ?_
          obtain ⟨v64, e64, h⟩ := sf_ob h
          refine sf_idivO (pc := 64) C e64 dX10_shareOf_64 ?_
          refine sf_isub (pc := 65) C dX10_shareOf_65 ?_
          exact sf_iretR (pc := 66) C dX10_shareOf_66 h
        · replace h := (if_pos c26).symm.trans h
          refine sf_ldc (v := -1000000001) (pc := 29) C dX10_shareOf_29 tm_1069 ?_
          exact sf_iretR (pc := 31) C dX10_shareOf_31 h
set_option maxHeartbeats 4000000 in
set_option maxRecDepth 100000 in
theorem k10_shareOf {l : Launch} {V : sf_V} {s : sf_Sg} {x1 : Int32} {x2 : Int32} {x3 : Int32} {r : Int32} (h : f10_shareOf s x1 x2 x3 = some r) : sf_M l V yX10_shareOf (.code yX10_shareOf cX10_shareOf 4 (some .int)) 2 [.ref (V.2.1 149), .int x1, .int x2, .int x3] s (sf_Qi V r s) := by
  refine sf_enter (by decide) (Nat.le_of_ble_eq_true rfl) (fun X hX C => ?_)
  refine sf_sub [0, 1, 2, 3] rfl ?_
  exact w10_shareOf_b0 (show sf_C X V cX10_shareOf 4 RX10 (some .int) 2 from C)  h
set_option maxHeartbeats 4000000 in
set_option maxRecDepth 100000 in
theorem w10_fair_b34 {X : sf_X} {V : sf_V} {s : sf_Sg} {r : Int32} {k34 : Int32 → Int32 → Int64 → Int32 → Option Int32} (C : sf_C X V cX10_fair 6 RX10 (some .int) 1) (hk34 : ∀  (x1 : Int32) (x2 : Int32) (x3 : Int64) (x5 : Int32), k34 x1 x2 x3 x5 = some r → sf_G X V 6 (sf_Q X V (sf_Qi V r s)) s 34 [(1, .int x1), (2, .int x2), (3, .long x3), (5, .int x5)] []) {x1 : Int32} {x2 : Int32} {x3 : Int64} {x5 : Int32} (h : f10_fair_b34 k34 x1 x2 x3 x5 = some r) : sf_G X V 6 (sf_Q X V (sf_Qi V r s)) s 34 [(1, .int x1), (2, .int x2), (3, .long x3), (5, .int x5)] [] := by
  unfold f10_fair_b34 at h
  refine sf_iload (pc := 34) C 3 dX10_fair_34 rfl ?_
  refine sf_iload_n (pc := 36) C 0 dX10_fair_36 rfl ?_
  refine sf_icmp_ge (tgt := 55) (pc := 37) C dX10_fair_37 rfl (fun c37 => ?_) (fun c37 => ?_)
  · replace h := (if_pos c37).symm.trans h
    refine sf_lload_n (pc := 55) C 2 dX10_fair_55 rfl ?_
    refine sf_l2i (pc := 56) C dX10_fair_56 ?_
    exact sf_iretR (pc := 57) C dX10_fair_57 h
  · replace h := (if_neg c37).symm.trans h
    refine sf_lload_n (pc := 40) C 2 dX10_fair_40 rfl ?_
    refine sf_iload_n (pc := 41) C 1 dX10_fair_41 rfl ?_
    refine sf_i2l (pc := 42) C dX10_fair_42 ?_
    refine sf_lmul (pc := 43) C dX10_fair_43 ?_
    refine sf_ldc2 (v := 100) (pc := 44) C dX10_fair_44 tm_1215 ?_
    refine sf_ldiv (pc := 47) C dX10_fair_47 (by decide) ?_
    refine sf_lstore_n (lv' := [(3, .long ((x3 * x2.toInt64) / (100 : Int64))), (1, .int x1), (2, .int x2), (5, .int x5)]) (pc := 48) C dX10_fair_48 (by decide) rfl ?_
    refine sf_iinc (v := (x5 + 1)) (lv' := [(5, .int (x5 + 1)), (3, .long ((x3 * x2.toInt64) / (100 : Int64))), (1, .int x1), (2, .int x2)]) (pc := 49) C 3 dX10_fair_49 rfl rfl (by decide) rfl ?_
    refine sf_goto (tgt := 34) (pc := 52) C dX10_fair_52 rfl ?_
    refine sf_sub [2, 3, 1, 0] rfl ?_
    exact hk34 _ _ _ _ h
set_option maxHeartbeats 4000000 in
set_option maxRecDepth 100000 in
theorem w10_fair_L34 {X : sf_X} {V : sf_V} {s : sf_Sg} {r : Int32} (C : sf_C X V cX10_fair 6 RX10 (some .int) 1) : ∀  (x1 : Int32) (x2 : Int32) (x3 : Int64) (x5 : Int32), f10_fair_L34 x1 x2 x3 x5 = some r → sf_G X V 6 (sf_Q X V (sf_Qi V r s)) s 34 [(1, .int x1), (2, .int x2), (3, .long x3), (5, .int x5)] [] :=
  sf_it_ind (fun (k : Int32 → Int32 → Int64 → Int32 → Option Int32) => ∀  (x1 : Int32) (x2 : Int32) (x3 : Int64) (x5 : Int32), k x1 x2 x3 x5 = some r → sf_G X V 6 (sf_Q X V (sf_Qi V r s)) s 34 [(1, .int x1), (2, .int x2), (3, .long x3), (5, .int x5)] []) _ _ (fun x1 x2 x3 x5 h => by cases h) (fun k hk x1 x2 x3 x5 h => w10_fair_b34 C hk h) _
set_option maxHeartbeats 4000000 in
set_option maxRecDepth 100000 in
theorem w10_fair_b0 {X : sf_X} {V : sf_V} {s : sf_Sg} {r : Int32} (C : sf_C X V cX10_fair 6 RX10 (some .int) 1) {x1 : Int32} {x2 : Int32} (h : f10_fair_b0 x1 x2 = some r) : sf_G X V 6 (sf_Q X V (sf_Qi V r s)) s 0 [(1, .int x1), (2, .int x2)] [] := by
  unfold f10_fair_b0 at h
  refine sf_iload_n (pc := 0) C 0 dX10_fair_0 rfl ?_
  refine sf_i2l (pc := 1) C dX10_fair_1 ?_
  refine sf_lconst (v := 0) (pc := 2) C dX10_fair_2 (by decide) ?_
  refine sf_ldc2 (v := 60) (pc := 3) C dX10_fair_3 tm_1098 ?_
  refine sf_callSi (pc := 6) C (As := [.long x1.toInt64, .long (0 : Int64), .long (60 : Int64)]) yk_X10_in cl_10_91 (k10_in rfl) (by decide) rfl (Nat.le_of_ble_eq_true rfl) rfl dX10_fair_6 ?_
  refine sf_if_eq (tgt := 24) (pc := 9) C dX10_fair_9 rfl (fun c9 => ?_) (fun c9 => ?_)
  · replace h := (if_pos c9).symm.trans h
    refine sf_ldc (v := -1000000002) (pc := 24) C dX10_fair_24 tm_940 ?_
    exact sf_iretR (pc := 26) C dX10_fair_26 h
  · replace h := (if_neg c9).symm.trans h
    refine sf_iload_n (pc := 12) C 1 dX10_fair_12 rfl ?_
    refine sf_i2l (pc := 13) C dX10_fair_13 ?_
    refine sf_lconst (v := 0) (pc := 14) C dX10_fair_14 (by decide) ?_
    refine sf_ldc2 (v := 100) (pc := 15) C dX10_fair_15 tm_1215 ?_
    refine sf_callSi (pc := 18) C (As := [.long x2.toInt64, .long (0 : Int64), .long (100 : Int64)]) yk_X10_in cl_10_91 (k10_in rfl) (by decide) rfl (Nat.le_of_ble_eq_true rfl) rfl dX10_fair_18 ?_
    refine sf_if_ne (tgt := 27) (pc := 21) C dX10_fair_21 rfl (fun c21 => ?_) (fun c21 => ?_)
    · replace h := (if_neg c21).symm.trans h
      refine sf_ldc2 (v := 1000000000) (pc := 27) C dX10_fair_27 tm_1216 ?_
      refine sf_lstore_n (lv' := [(3, .long (1000000000 : Int64)), (1, .int x1), (2, .int x2)]) (pc := 30) C dX10_fair_30 (by decide) rfl ?_
      refine sf_iconst (v := 0) (pc := 31) C dX10_fair_31 (by decide) ?_
      refine sf_istore (lv' := [(5, .int (0 : Int32)), (3, .long (1000000000 : Int64)), (1, .int x1), (2, .int x2)]) (pc := 32) C dX10_fair_32 (by decide) rfl ?_
      refine sf_sub [2, 3, 1, 0] rfl ?_
      exact w10_fair_L34 C _ _ _ _ h
    · replace h := (if_pos c21).symm.trans h
      refine sf_ldc (v := -1000000002) (pc := 24) C dX10_fair_24 tm_940 ?_
      exact sf_iretR (pc := 26) C dX10_fair_26 h
set_option maxHeartbeats 4000000 in
set_option maxRecDepth 100000 in
theorem k10_fair {l : Launch} {V : sf_V} {s : sf_Sg} {x1 : Int32} {x2 : Int32} {r : Int32} (h : f10_fair x1 x2 = some r) : sf_M l V yX10_fair (.code yX10_fair cX10_fair 6 (some .int)) 1 [.ref (V.2.1 149), .int x1, .int x2] s (sf_Qi V r s) := by
  refine sf_enter (by decide) (Nat.le_of_ble_eq_true rfl) (fun X hX C => ?_)
  refine sf_sub [1, 2] rfl ?_
  exact w10_fair_b0 (show sf_C X V cX10_fair 6 RX10 (some .int) 1 from C)  h
set_option maxHeartbeats 4000000 in
set_option maxRecDepth 100000 in
theorem w10_feel_b0 {X : sf_X} {V : sf_V} {r : Int32} {s' : sf_Sg} (C : sf_C X V cX10_feel 4 RX10 (some .int) 1) {s : sf_Sg} {x1 : Int32} {x2 : Int32} {x3 : Int32} (h : f10_feel_b0 s x1 x2 x3 = some (r, s')) : sf_G X V 4 (sf_Q X V (sf_Qi V r s')) s 0 [(0, .ref (V.2.1 149)), (1, .int x1), (2, .int x2), (3, .int x3)] [] := by
  unfold f10_feel_b0 at h
  refine sf_iload_n (pc := 0) C 1 dX10_feel_0 rfl ?_
  refine sf_i2l (pc := 1) C dX10_feel_1 ?_
  refine sf_lconst (v := 1) (pc := 2) C dX10_feel_2 (by decide) ?_
  refine sf_ldc2 (v := 99) (pc := 3) C dX10_feel_3 tm_1221 ?_
  refine sf_callSi (pc := 6) C (As := [.long x1.toInt64, .long (1 : Int64), .long (99 : Int64)]) yk_X10_in cl_10_91 (k10_in rfl) (by decide) rfl (Nat.le_of_ble_eq_true rfl) rfl dX10_feel_6 ?_
  refine sf_if_eq (tgt := 36) (pc := 9) C dX10_feel_9 rfl (fun c9 => ?_) (fun c9 => ?_)
  · replace h := (if_pos c9).symm.trans h
    refine sf_ldc (v := -1000000002) (pc := 36) C dX10_feel_36 tm_940 ?_
    exact sf_iretW (pc := 38) C dX10_feel_38 h
  · replace h := (if_neg c9).symm.trans h
    refine sf_iload_n (pc := 12) C 2 dX10_feel_12 rfl ?_
    refine sf_i2l (pc := 13) C dX10_feel_13 ?_
    refine sf_lconst (v := 0) (pc := 14) C dX10_feel_14 (by decide) ?_
    refine sf_ldc2 (v := 30) (pc := 15) C dX10_feel_15 tm_1137 ?_
    refine sf_callSi (pc := 18) C (As := [.long x2.toInt64, .long (0 : Int64), .long (30 : Int64)]) yk_X10_in cl_10_91 (k10_in rfl) (by decide) rfl (Nat.le_of_ble_eq_true rfl) rfl dX10_feel_18 ?_
    refine sf_if_eq (tgt := 36) (pc := 21) C dX10_feel_21 rfl (fun c21 => ?_) (fun c21 => ?_)
    · replace h := (if_pos c21).symm.trans h
      refine sf_ldc (v := -1000000002) (pc := 36) C dX10_feel_36 tm_940 ?_
      exact sf_iretW (pc := 38) C dX10_feel_38 h
    · replace h := (if_neg c21).symm.trans h
      refine sf_iload_n (pc := 24) C 3 dX10_feel_24 rfl ?_
      refine sf_i2l (pc := 25) C dX10_feel_25 ?_
      refine sf_lconst (v := 0) (pc := 26) C dX10_feel_26 (by decide) ?_
      refine sf_ldc2 (v := 99) (pc := 27) C dX10_feel_27 tm_1221 ?_
      refine sf_callSi (pc := 30) C (As := [.long x3.toInt64, .long (0 : Int64), .long (99 : Int64)]) yk_X10_in cl_10_91 (k10_in rfl) (by decide) rfl (Nat.le_of_ble_eq_true rfl) rfl dX10_feel_30 ?_
      refine sf_if_ne (tgt := 39) (pc := 33) C dX10_feel_33 rfl (fun c33 => ?_) (fun c33 => ?_)
      · replace h := (if_neg c33).symm.trans h
        refine sf_aload_n (pc := 39) C 0 dX10_feel_39 rfl ?_
        refine sf_get (pc := 40) C nk_149 sh_149 rfl fl_10_171 dX10_feel_40 ?_
        refine sf_bipush (v := 6) (pc := 43) C dX10_feel_43 (by decide) ?_
        refine sf_icmp_ne (tgt := 51) (pc := 45) C dX10_feel_45 rfl (fun c45 => ?_) (fun c45 => ?_)
        · replace h := (if_neg c45).symm.trans h
          refine sf_aload_n (pc := 51) C 0 dX10_feel_51 rfl ?_
          refine sf_getr (pc := 52) C nk_149 sh_149 rfl fl_10_59 dX10_feel_52 ?_
          refine sf_aload_n (pc := 55) C 0 dX10_feel_55 rfl ?_
          refine sf_get (pc := 56) C nk_149 sh_149 rfl fl_10_171 dX10_feel_56 ?_
          refine sf_iload_n (pc := 59) C 1 dX10_feel_59 rfl ?_
          obtain ⟨s60, e60, h⟩ := sf_ob h
          refine sf_iast (pc := 60) C nk_165 sh_165 e60 dX10_feel_60 ?_
          refine sf_aload_n (pc := 61) C 0 dX10_feel_61 rfl ?_
          refine sf_getr (pc := 62) C nk_149 sh_149 rfl fl_10_62 dX10_feel_62 ?_
          refine sf_aload_n (pc := 65) C 0 dX10_feel_65 rfl ?_
          refine sf_get (pc := 66) C nk_149 sh_149 rfl fl_10_171 dX10_feel_66 ?_
          refine sf_iload_n (pc := 69) C 2 dX10_feel_69 rfl ?_
          obtain ⟨s70, e70, h⟩ := sf_ob h
          refine sf_iast (pc := 70) C nk_166 sh_166 e70 dX10_feel_70 ?_
          refine sf_aload_n (pc := 71) C 0 dX10_feel_71 rfl ?_
          refine sf_getr (pc := 72) C nk_149 sh_149 rfl fl_10_65 dX10_feel_72 ?_
          refine sf_aload_n (pc := 75) C 0 dX10_feel_75 rfl ?_
          refine sf_get (pc := 76) C nk_149 sh_149 rfl fl_10_171 dX10_feel_76 ?_
          refine sf_iload_n (pc := 79) C 3 dX10_feel_79 rfl ?_
          obtain ⟨s80, e80, h⟩ := sf_ob h
          refine sf_iast (pc := 80) C nk_167 sh_167 e80 dX10_feel_80 ?_
          refine sf_aload_n (pc := 81) C 0 dX10_feel_81 rfl ?_
          refine sf_dup (pc := 82) C dX10_feel_82 rfl ?_
          refine sf_get (pc := 83) C nk_149 sh_149 rfl fl_10_171 dX10_feel_83 ?_
          refine sf_iconst (v := 1) (pc := 86) C dX10_feel_86 (by decide) ?_
          refine sf_iadd (pc := 87) C dX10_feel_87 ?_
          refine sf_put (pc := 88) C nk_149 sh_149 rfl fw_10_171 rfl rfl dX10_feel_88 ?_
          refine sf_aload_n (pc := 91) C 0 dX10_feel_91 rfl ?_
          refine sf_get (pc := 92) C nk_149 sh_149 rfl fl_10_171 dX10_feel_92 ?_
          exact sf_iretW (pc := 95) C dX10_feel_95 h
        · replace h := (if_pos c45).symm.trans h
          refine sf_ldc (v := -1000000004) (pc := 48) C dX10_feel_48 tm_941 ?_
          exact sf_iretW (pc := 50) C dX10_feel_50 h
      · replace h := (if_pos c33).symm.trans h
        refine sf_ldc (v := -1000000002) (pc := 36) C dX10_feel_36 tm_940 ?_
        exact sf_iretW (pc := 38) C dX10_feel_38 h
set_option maxHeartbeats 4000000 in
set_option maxRecDepth 100000 in
theorem k10_feel {l : Launch} {V : sf_V} {s : sf_Sg} {x1 : Int32} {x2 : Int32} {x3 : Int32} {r : Int32} {s' : sf_Sg} (h : f10_feel s x1 x2 x3 = some (r, s')) : sf_M l V yX10_feel (.code yX10_feel cX10_feel 4 (some .int)) 1 [.ref (V.2.1 149), .int x1, .int x2, .int x3] s (sf_Qi V r s') := by
  refine sf_enter (by decide) (Nat.le_of_ble_eq_true rfl) (fun X hX C => ?_)
  refine sf_sub [0, 1, 2, 3] rfl ?_
  exact w10_feel_b0 (show sf_C X V cX10_feel 4 RX10 (some .int) 1 from C)  h
set_option maxHeartbeats 4000000 in
set_option maxRecDepth 100000 in
theorem w10_gallsBy_b0 {X : sf_X} {V : sf_V} {s : sf_Sg} {r : Int32} (C : sf_C X V cX10_gallsBy 3 RX10 (some .int) 1) {x0 : Int32} {x1 : Int32} {x2 : Int32} (h : f10_gallsBy_b0 x0 x1 x2 = r) : sf_G X V 3 (sf_Q X V (sf_Qi V r s)) s 0 [(0, .int x0), (1, .int x1), (2, .int x2)] [] := by
  unfold f10_gallsBy_b0 at h
  refine sf_iload_n (pc := 0) C 0 dX10_gallsBy_0 rfl ?_
  refine sf_bipush (v := 21) (pc := 1) C dX10_gallsBy_1 (by decide) ?_
  refine sf_idiv (pc := 3) C dX10_gallsBy_3 (by decide) ?_
  refine sf_iconst (v := 1) (pc := 4) C dX10_gallsBy_4 (by decide) ?_
  refine sf_iadd (pc := 5) C dX10_gallsBy_5 ?_
  refine sf_iload_n (pc := 6) C 1 dX10_gallsBy_6 rfl ?_
  refine sf_isub (pc := 7) C dX10_gallsBy_7 ?_
  refine sf_callSi (pc := 8) C (As := [.int (((x0 / (21 : Int32)) + (1 : Int32)) - x1)]) yk_X10_notBelow cl_10_188 (k10_notBelow rfl) (by decide) rfl (Nat.le_of_ble_eq_true rfl) rfl dX10_gallsBy_8 ?_
  refine sf_iload_n (pc := 11) C 0 dX10_gallsBy_11 rfl ?_
  refine sf_bipush (v := 21) (pc := 12) C dX10_gallsBy_12 (by decide) ?_
  refine sf_irem (pc := 14) C dX10_gallsBy_14 (by decide) ?_
  refine sf_iload_n (pc := 15) C 2 dX10_gallsBy_15 rfl ?_
  refine sf_isub (pc := 16) C dX10_gallsBy_16 ?_
  refine sf_callSi (pc := 17) C (As := [.int ((sf_rem x0 (21 : Int32)) - x2)]) yk_X10_notBelow cl_10_188 (k10_notBelow rfl) (by decide) rfl (Nat.le_of_ble_eq_true rfl) rfl dX10_gallsBy_17 ?_
  refine sf_iadd (pc := 20) C dX10_gallsBy_20 ?_
  exact sf_iretT (pc := 21) C dX10_gallsBy_21 h
set_option maxHeartbeats 4000000 in
set_option maxRecDepth 100000 in
theorem k10_gallsBy {l : Launch} {V : sf_V} {s : sf_Sg} {x0 : Int32} {x1 : Int32} {x2 : Int32} {r : Int32} (h : f10_gallsBy x0 x1 x2 = r) : sf_M l V yX10_gallsBy (.code yX10_gallsBy cX10_gallsBy 3 (some .int)) 1 [.int x0, .int x1, .int x2] s (sf_Qi V r s) := by
  refine sf_enter (by decide) (Nat.le_of_ble_eq_true rfl) (fun X hX C => ?_)
  refine sf_sub [0, 1, 2] rfl ?_
  exact w10_gallsBy_b0 (show sf_C X V cX10_gallsBy 3 RX10 (some .int) 1 from C)  h
set_option maxHeartbeats 4000000 in
set_option maxRecDepth 100000 in
theorem w10_couldBe_b46 {X : sf_X} {V : sf_V} {s : sf_Sg} {r : Int32} {k4 : Int32 → Int32 → Int32 → Option Int32} (C : sf_C X V cX10_couldBe 4 RX10 (some .boolean) 2) (hk4 : ∀  (x1 : Int32) (x2 : Int32) (x3 : Int32), k4 x1 x2 x3 = some r → sf_G X V 4 (sf_Q X V (sf_Qi V r s)) s 4 [(0, .ref (V.2.1 149)), (1, .int x1), (2, .int x2), (3, .int x3)] []) {x1 : Int32} {x3 : Int32} {t0 : Int32} (h : f10_couldBe_b46 s k4 x1 x3 t0 = some r) : sf_G X V 4 (sf_Q X V (sf_Qi V r s)) s 46 [(0, .ref (V.2.1 149)), (1, .int x1), (3, .int x3)] [.int t0] := by
  unfold f10_couldBe_b46 at h
  refine sf_istore_n (lv' := [(2, .int t0), (0, .ref (V.2.1 149)), (1, .int x1), (3, .int x3)]) (pc := 46) C dX10_couldBe_46 (by decide) rfl ?_
  refine sf_iinc (v := (x3 + 1)) (lv' := [(3, .int (x3 + 1)), (2, .int t0), (0, .ref (V.2.1 149)), (1, .int x1)]) (pc := 47) C 3 dX10_couldBe_47 rfl rfl (by decide) rfl ?_
  refine sf_goto (tgt := 4) (pc := 50) C dX10_couldBe_50 rfl ?_
  refine sf_sub [2, 3, 1, 0] rfl ?_
  exact hk4 _ _ _ h
set_option maxHeartbeats 4000000 in
set_option maxRecDepth 100000 in
theorem w10_couldBe_b4 {X : sf_X} {V : sf_V} {s : sf_Sg} {r : Int32} {k4 : Int32 → Int32 → Int32 → Option Int32} (C : sf_C X V cX10_couldBe 4 RX10 (some .boolean) 2) (hk4 : ∀  (x1 : Int32) (x2 : Int32) (x3 : Int32), k4 x1 x2 x3 = some r → sf_G X V 4 (sf_Q X V (sf_Qi V r s)) s 4 [(0, .ref (V.2.1 149)), (1, .int x1), (2, .int x2), (3, .int x3)] []) {x1 : Int32} {x2 : Int32} {x3 : Int32} (h : f10_couldBe_b4 s k4 x1 x2 x3 = some r) : sf_G X V 4 (sf_Q X V (sf_Qi V r s)) s 4 [(0, .ref (V.2.1 149)), (1, .int x1), (2, .int x2), (3, .int x3)] [] := by
  unfold f10_couldBe_b4 at h
  refine sf_iload_n (pc := 4) C 3 dX10_couldBe_4 rfl ?_
  refine sf_aload_n (pc := 5) C 0 dX10_couldBe_5 rfl ?_
  refine sf_get (pc := 6) C nk_149 sh_149 rfl fl_10_171 dX10_couldBe_6 ?_
  refine sf_icmp_ge (tgt := 53) (pc := 9) C dX10_couldBe_9 rfl (fun c9 => ?_) (fun c9 => ?_)
  · replace h := (if_pos c9).symm.trans h
    refine sf_iload_n (pc := 53) C 2 dX10_couldBe_53 rfl ?_
    obtain ⟨v54, e54, h⟩ := sf_ob h
    exact sf_zretB (pc := 54) C e54 dX10_couldBe_54 h
  · replace h := (if_neg c9).symm.trans h
    refine sf_iload_n (pc := 12) C 2 dX10_couldBe_12 rfl ?_
    refine sf_if_eq (tgt := 53) (pc := 13) C dX10_couldBe_13 rfl (fun c13 => ?_) (fun c13 => ?_)
    · replace h := (if_pos c13).symm.trans h
      refine sf_iload_n (pc := 53) C 2 dX10_couldBe_53 rfl ?_
      obtain ⟨v54, e54, h⟩ := sf_ob h
      exact sf_zretB (pc := 54) C e54 dX10_couldBe_54 h
    · replace h := (if_neg c13).symm.trans h
      refine sf_iload_n (pc := 16) C 1 dX10_couldBe_16 rfl ?_
      refine sf_aload_n (pc := 17) C 0 dX10_couldBe_17 rfl ?_
      refine sf_getr (pc := 18) C nk_149 sh_149 rfl fl_10_59 dX10_couldBe_18 ?_
      refine sf_iload_n (pc := 21) C 3 dX10_couldBe_21 rfl ?_
      obtain ⟨v22, e22, h⟩ := sf_ob h
      refine sf_iald (pc := 22) C nk_165 sh_165 e22 dX10_couldBe_22 ?_
      refine sf_aload_n (pc := 23) C 0 dX10_couldBe_23 rfl ?_
      refine sf_getr (pc := 24) C nk_149 sh_149 rfl fl_10_62 dX10_couldBe_24 ?_
      refine sf_iload_n (pc := 27) C 3 dX10_couldBe_27 rfl ?_
      obtain ⟨v28, e28, h⟩ := sf_ob h
      refine sf_iald (pc := 28) C nk_166 sh_166 e28 dX10_couldBe_28 ?_
      refine sf_callSi (pc := 29) C (As := [.int x1, .int v22, .int v28]) yk_X10_gallsBy cl_10_316 (k10_gallsBy rfl) (by decide) rfl (Nat.le_of_ble_eq_true rfl) rfl dX10_couldBe_29 ?_
      refine sf_aload_n (pc := 32) C 0 dX10_couldBe_32 rfl ?_
      refine sf_getr (pc := 33) C nk_149 sh_149 rfl fl_10_65 dX10_couldBe_33 ?_
      refine sf_iload_n (pc := 36) C 3 dX10_couldBe_36 rfl ?_
      obtain ⟨v37, e37, h⟩ := sf_ob h
      refine sf_iald (pc := 37) C nk_167 sh_167 e37 dX10_couldBe_37 ?_
      refine sf_icmp_ne (tgt := 45) (pc := 38) C dX10_couldBe_38 rfl (fun c38 => ?_) (fun c38 => ?_)
      · replace h := (if_neg c38).symm.trans h
        refine sf_iconst (v := 0) (pc := 45) C dX10_couldBe_45 (by decide) ?_
        refine sf_sub [0, 1, 3] rfl ?_
        exact w10_couldBe_b46 C hk4 h
      · replace h := (if_pos c38).symm.trans h
        refine sf_iconst (v := 1) (pc := 41) C dX10_couldBe_41 (by decide) ?_
        refine sf_goto (tgt := 46) (pc := 42) C dX10_couldBe_42 rfl ?_
        refine sf_sub [0, 1, 3] rfl ?_
        exact w10_couldBe_b46 C hk4 h
set_option maxHeartbeats 4000000 in
set_option maxRecDepth 100000 in
theorem w10_couldBe_L4 {X : sf_X} {V : sf_V} {s : sf_Sg} {r : Int32} (C : sf_C X V cX10_couldBe 4 RX10 (some .boolean) 2) : ∀  (x1 : Int32) (x2 : Int32) (x3 : Int32), f10_couldBe_L4 s x1 x2 x3 = some r → sf_G X V 4 (sf_Q X V (sf_Qi V r s)) s 4 [(0, .ref (V.2.1 149)), (1, .int x1), (2, .int x2), (3, .int x3)] [] :=
  sf_it_ind (fun (k : Int32 → Int32 → Int32 → Option Int32) => ∀  (x1 : Int32) (x2 : Int32) (x3 : Int32), k x1 x2 x3 = some r → sf_G X V 4 (sf_Q X V (sf_Qi V r s)) s 4 [(0, .ref (V.2.1 149)), (1, .int x1), (2, .int x2), (3, .int x3)] []) _ _ (fun x1 x2 x3 h => by cases h) (fun k hk x1 x2 x3 h => w10_couldBe_b4 C hk h) _
set_option maxHeartbeats 4000000 in
set_option maxRecDepth 100000 in
theorem w10_couldBe_b0 {X : sf_X} {V : sf_V} {s : sf_Sg} {r : Int32} (C : sf_C X V cX10_couldBe 4 RX10 (some .boolean) 2) {x1 : Int32} (h : f10_couldBe_b0 s x1 = some r) : sf_G X V 4 (sf_Q X V (sf_Qi V r s)) s 0 [(0, .ref (V.2.1 149)), (1, .int x1)] [] := by
  unfold f10_couldBe_b0 at h
  refine sf_iconst (v := 1) (pc := 0) C dX10_couldBe_0 (by decide) ?_
  refine sf_istore_n (lv' := [(2, .int (1 : Int32)), (0, .ref (V.2.1 149)), (1, .int x1)]) (pc := 1) C dX10_couldBe_1 (by decide) rfl ?_
  refine sf_iconst (v := 0) (pc := 2) C dX10_couldBe_2 (by decide) ?_
  refine sf_istore_n (lv' := [(3, .int (0 : Int32)), (2, .int (1 : Int32)), (0, .ref (V.2.1 149)), (1, .int x1)]) (pc := 3) C dX10_couldBe_3 (by decide) rfl ?_
  refine sf_sub [2, 3, 1, 0] rfl ?_
  exact w10_couldBe_L4 C _ _ _ h
set_option maxHeartbeats 4000000 in
set_option maxRecDepth 100000 in
theorem k10_couldBe {l : Launch} {V : sf_V} {s : sf_Sg} {x1 : Int32} {r : Int32} (h : f10_couldBe s x1 = some r) : sf_M l V yX10_couldBe (.code yX10_couldBe cX10_couldBe 4 (some .boolean)) 2 [.ref (V.2.1 149), .int x1] s (sf_Qi V r s) := by
  refine sf_enter (by decide) (Nat.le_of_ble_eq_true rfl) (fun X hX C => ?_)
  refine sf_sub [0, 1] rfl ?_
  exact w10_couldBe_b0 (show sf_C X V cX10_couldBe 4 RX10 (some .boolean) 2 from C)  h
set_option maxHeartbeats 4000000 in
set_option maxRecDepth 100000 in
theorem w10_carries_b44 {X : sf_X} {V : sf_V} {s : sf_Sg} {r : Int32} {k24 : Int32 → Int32 → Int32 → Int32 → Option Int32} (C : sf_C X V cX10_carries 5 RX10 (some .int) 3) (hk24 : ∀  (x1 : Int32) (x2 : Int32) (x3 : Int32) (x4 : Int32), k24 x1 x2 x3 x4 = some r → sf_G X V 5 (sf_Q X V (sf_Qi V r s)) s 24 [(0, .ref (V.2.1 149)), (1, .int x1), (2, .int x2), (3, .int x3), (4, .int x4)] []) {x1 : Int32} {x2 : Int32} {x3 : Int32} {x4 : Int32} (h : f10_carries_b44 s k24 x1 x2 x3 x4 = some r) : sf_G X V 5 (sf_Q X V (sf_Qi V r s)) s 44 [(0, .ref (V.2.1 149)), (1, .int x1), (2, .int x2), (3, .int x3), (4, .int x4)] [] := by
  unfold f10_carries_b44 at h
  refine sf_iinc (v := (x4 + (-1))) (lv' := [(4, .int (x4 + (-1))), (0, .ref (V.2.1 149)), (1, .int x1), (2, .int x2), (3, .int x3)]) (pc := 44) C 4 dX10_carries_44 rfl rfl (by decide) rfl ?_
  refine sf_goto (tgt := 24) (pc := 47) C dX10_carries_47 rfl ?_
  refine sf_sub [1, 2, 3, 4, 0] rfl ?_
  exact hk24 _ _ _ _ h
set_option maxHeartbeats 4000000 in
set_option maxRecDepth 100000 in
theorem w10_carries_b50 {X : sf_X} {V : sf_V} {s : sf_Sg} {r : Int32} (C : sf_C X V cX10_carries 5 RX10 (some .int) 3) {x1 : Int32} {x2 : Int32} {x3 : Int32} (h : f10_carries_b50 s x1 x2 x3 = some r) : sf_G X V 5 (sf_Q X V (sf_Qi V r s)) s 50 [(1, .int x1), (2, .int x2), (3, .int x3)] [] := by
  unfold f10_carries_b50 at h
  refine sf_iload_n (pc := 50) C 0 dX10_carries_50 rfl ?_
  refine sf_if_ne (tgt := 58) (pc := 51) C dX10_carries_51 rfl (fun c51 => ?_) (fun c51 => ?_)
  · replace h := (if_neg c51).symm.trans h
    refine sf_iload_n (pc := 58) C 2 dX10_carries_58 rfl ?_
    refine sf_if_ge (tgt := 66) (pc := 59) C dX10_carries_59 rfl (fun c59 => ?_) (fun c59 => ?_)
    · replace h := (if_pos c59).symm.trans h
      refine sf_iload_n (pc := 66) C 0 dX10_carries_66 rfl ?_
      refine sf_iconst (v := 1) (pc := 67) C dX10_carries_67 (by decide) ?_
      refine sf_icmp_ne (tgt := 80) (pc := 68) C dX10_carries_68 rfl (fun c68 => ?_) (fun c68 => ?_)
      · replace h := (if_neg c68).symm.trans h
        refine sf_iload_n (pc := 80) C 2 dX10_carries_80 rfl ?_
        refine sf_bipush (v := 21) (pc := 81) C dX10_carries_81 (by decide) ?_
        refine sf_irem (pc := 83) C dX10_carries_83 (by decide) ?_
        exact sf_iretR (pc := 84) C dX10_carries_84 h
      · replace h := (if_pos c68).symm.trans h
        refine sf_iload_n (pc := 71) C 2 dX10_carries_71 rfl ?_
        refine sf_bipush (v := 21) (pc := 72) C dX10_carries_72 (by decide) ?_
        refine sf_idiv (pc := 74) C dX10_carries_74 (by decide) ?_
        refine sf_iconst (v := 1) (pc := 75) C dX10_carries_75 (by decide) ?_
        refine sf_iadd (pc := 76) C dX10_carries_76 ?_
        refine sf_goto (tgt := 84) (pc := 77) C dX10_carries_77 rfl ?_
        exact sf_iretR (pc := 84) C dX10_carries_84 h
    · replace h := (if_neg c59).symm.trans h
      refine sf_iconst (v := -1) (pc := 62) C dX10_carries_62 (by decide) ?_
      refine sf_goto (tgt := 84) (pc := 63) C dX10_carries_63 rfl ?_
      exact sf_iretR (pc := 84) C dX10_carries_84 h
  · replace h := (if_pos c51).symm.trans h
    refine sf_iload_n (pc := 54) C 1 dX10_carries_54 rfl ?_
    refine sf_goto (tgt := 84) (pc := 55) C dX10_carries_55 rfl ?_
    exact sf_iretR (pc := 84) C dX10_carries_84 h
set_option maxHeartbeats 4000000 in
set_option maxRecDepth 100000 in
theorem w10_carries_b24 {X : sf_X} {V : sf_V} {s : sf_Sg} {r : Int32} {k24 : Int32 → Int32 → Int32 → Int32 → Option Int32} (C : sf_C X V cX10_carries 5 RX10 (some .int) 3) (hk24 : ∀  (x1 : Int32) (x2 : Int32) (x3 : Int32) (x4 : Int32), k24 x1 x2 x3 x4 = some r → sf_G X V 5 (sf_Q X V (sf_Qi V r s)) s 24 [(0, .ref (V.2.1 149)), (1, .int x1), (2, .int x2), (3, .int x3), (4, .int x4)] []) {x1 : Int32} {x2 : Int32} {x3 : Int32} {x4 : Int32} (h : f10_carries_b24 s k24 x1 x2 x3 x4 = some r) : sf_G X V 5 (sf_Q X V (sf_Qi V r s)) s 24 [(0, .ref (V.2.1 149)), (1, .int x1), (2, .int x2), (3, .int x3), (4, .int x4)] [] := by
  unfold f10_carries_b24 at h
  refine sf_iload (pc := 24) C 4 dX10_carries_24 rfl ?_
  refine sf_if_lt (tgt := 50) (pc := 26) C dX10_carries_26 rfl (fun c26 => ?_) (fun c26 => ?_)
  · replace h := (if_pos c26).symm.trans h
    refine sf_sub [1, 2, 3] rfl ?_
    exact w10_carries_b50 C h
  · replace h := (if_neg c26).symm.trans h
    refine sf_aload_n (pc := 29) C 0 dX10_carries_29 rfl ?_
    refine sf_iload (pc := 30) C 4 dX10_carries_30 rfl ?_
    obtain ⟨v32, e32, h⟩ := sf_ob h
    refine sf_callVi (pc := 32) C (As := [.int x4]) nk_149 sh_149 rfl yk_X10_couldBe cl_10_321 (k10_couldBe e32) (by decide) rfl (Nat.le_of_ble_eq_true rfl) rfl dX10_carries_32 ?_
    refine sf_if_eq (tgt := 44) (pc := 35) C dX10_carries_35 rfl (fun c35 => ?_) (fun c35 => ?_)
    · replace h := (if_pos c35).symm.trans h
      exact w10_carries_b44 C hk24 h
    · replace h := (if_neg c35).symm.trans h
      refine sf_iload (pc := 38) C 4 dX10_carries_38 rfl ?_
      refine sf_istore_n (lv' := [(3, .int x4), (0, .ref (V.2.1 149)), (1, .int x1), (2, .int x2), (4, .int x4)]) (pc := 40) C dX10_carries_40 (by decide) rfl ?_
      refine sf_iinc (v := (x2 + 1)) (lv' := [(2, .int (x2 + 1)), (3, .int x4), (0, .ref (V.2.1 149)), (1, .int x1), (4, .int x4)]) (pc := 41) C 3 dX10_carries_41 rfl rfl (by decide) rfl ?_
      refine sf_sub [2, 3, 0, 1, 4] rfl ?_
      exact w10_carries_b44 C hk24 h
set_option maxHeartbeats 4000000 in
set_option maxRecDepth 100000 in
theorem w10_carries_L24 {X : sf_X} {V : sf_V} {s : sf_Sg} {r : Int32} (C : sf_C X V cX10_carries 5 RX10 (some .int) 3) : ∀  (x1 : Int32) (x2 : Int32) (x3 : Int32) (x4 : Int32), f10_carries_L24 s x1 x2 x3 x4 = some r → sf_G X V 5 (sf_Q X V (sf_Qi V r s)) s 24 [(0, .ref (V.2.1 149)), (1, .int x1), (2, .int x2), (3, .int x3), (4, .int x4)] [] :=
  sf_it_ind (fun (k : Int32 → Int32 → Int32 → Int32 → Option Int32) => ∀  (x1 : Int32) (x2 : Int32) (x3 : Int32) (x4 : Int32), k x1 x2 x3 x4 = some r → sf_G X V 5 (sf_Q X V (sf_Qi V r s)) s 24 [(0, .ref (V.2.1 149)), (1, .int x1), (2, .int x2), (3, .int x3), (4, .int x4)] []) _ _ (fun x1 x2 x3 x4 h => by cases h) (fun k hk x1 x2 x3 x4 h => w10_carries_b24 C hk h) _
set_option maxHeartbeats 4000000 in
set_option maxRecDepth 100000 in
theorem w10_carries_b0 {X : sf_X} {V : sf_V} {s : sf_Sg} {r : Int32} (C : sf_C X V cX10_carries 5 RX10 (some .int) 3) {x1 : Int32} (h : f10_carries_b0 s x1 = some r) : sf_G X V 5 (sf_Q X V (sf_Qi V r s)) s 0 [(0, .ref (V.2.1 149)), (1, .int x1)] [] := by
  unfold f10_carries_b0 at h
  refine sf_iload_n (pc := 0) C 1 dX10_carries_0 rfl ?_
  refine sf_i2l (pc := 1) C dX10_carries_1 ?_
  refine sf_lconst (v := 0) (pc := 2) C dX10_carries_2 (by decide) ?_
  refine sf_ldc2 (v := 2) (pc := 3) C dX10_carries_3 tm_1226 ?_
  refine sf_callSi (pc := 6) C (As := [.long x1.toInt64, .long (0 : Int64), .long (2 : Int64)]) yk_X10_in cl_10_91 (k10_in rfl) (by decide) rfl (Nat.le_of_ble_eq_true rfl) rfl dX10_carries_6 ?_
  refine sf_if_ne (tgt := 15) (pc := 9) C dX10_carries_9 rfl (fun c9 => ?_) (fun c9 => ?_)
  · replace h := (if_neg c9).symm.trans h
    refine sf_iconst (v := 0) (pc := 15) C dX10_carries_15 (by decide) ?_
    refine sf_istore_n (lv' := [(2, .int (0 : Int32)), (0, .ref (V.2.1 149)), (1, .int x1)]) (pc := 16) C dX10_carries_16 (by decide) rfl ?_
    refine sf_iconst (v := -1) (pc := 17) C dX10_carries_17 (by decide) ?_
    refine sf_istore_n (lv' := [(3, .int (-1 : Int32)), (2, .int (0 : Int32)), (0, .ref (V.2.1 149)), (1, .int x1)]) (pc := 18) C dX10_carries_18 (by decide) rfl ?_
    refine sf_sipush (v := 1259) (pc := 19) C dX10_carries_19 (by decide) ?_
    refine sf_istore (lv' := [(4, .int (1259 : Int32)), (3, .int (-1 : Int32)), (2, .int (0 : Int32)), (0, .ref (V.2.1 149)), (1, .int x1)]) (pc := 22) C dX10_carries_22 (by decide) rfl ?_
    refine sf_sub [3, 4, 2, 1, 0] rfl ?_
    exact w10_carries_L24 C _ _ _ _ h
  · replace h := (if_pos c9).symm.trans h
    refine sf_ldc (v := -1000000002) (pc := 12) C dX10_carries_12 tm_940 ?_
    exact sf_iretR (pc := 14) C dX10_carries_14 h
set_option maxHeartbeats 4000000 in
set_option maxRecDepth 100000 in
theorem k10_carries {l : Launch} {V : sf_V} {s : sf_Sg} {x1 : Int32} {r : Int32} (h : f10_carries s x1 = some r) : sf_M l V yX10_carries (.code yX10_carries cX10_carries 5 (some .int)) 3 [.ref (V.2.1 149), .int x1] s (sf_Qi V r s) := by
  refine sf_enter (by decide) (Nat.le_of_ble_eq_true rfl) (fun X hX C => ?_)
  refine sf_sub [0, 1] rfl ?_
  exact w10_carries_b0 (show sf_C X V cX10_carries 5 RX10 (some .int) 3 from C)  h
set_option maxHeartbeats 4000000 in
set_option maxRecDepth 100000 in
theorem w10_greatestPart_b82 {X : sf_X} {V : sf_V} {r : Int32} {s' : sf_Sg} {k25 : sf_Sg → Int32 → Int32 → Int32 → Option (Int32 × sf_Sg)} (C : sf_C X V cX10_greatestPart 5 RX10 (some .int) 3) (hk25 : ∀  (s : sf_Sg) (x1 : Int32) (x2 : Int32) (x3 : Int32), k25 s x1 x2 x3 = some (r, s') → sf_G X V 5 (sf_Q X V (sf_Qi V r s')) s 25 [(0, .ref (V.2.1 149)), (1, .int x1), (2, .int x2), (3, .int x3)] []) {s : sf_Sg} {x1 : Int32} {x2 : Int32} {x3 : Int32} (h : f10_greatestPart_b82 k25 s x1 x2 x3 = some (r, s')) : sf_G X V 5 (sf_Q X V (sf_Qi V r s')) s 82 [(0, .ref (V.2.1 149)), (1, .int x1), (2, .int x2), (3, .int x3)] [] := by
  unfold f10_greatestPart_b82 at h
  refine sf_iinc (v := (x3 + 1)) (lv' := [(3, .int (x3 + 1)), (0, .ref (V.2.1 149)), (1, .int x1), (2, .int x2)]) (pc := 82) C 3 dX10_greatestPart_82 rfl rfl (by decide) rfl ?_
  refine sf_goto (tgt := 25) (pc := 85) C dX10_greatestPart_85 rfl ?_
  refine sf_sub [1, 2, 3, 0] rfl ?_
  exact hk25 _ _ _ _ h
set_option maxHeartbeats 4000000 in
set_option maxRecDepth 100000 in
theorem w10_greatestPart_b81 {X : sf_X} {V : sf_V} {r : Int32} {s' : sf_Sg} {k25 : sf_Sg → Int32 → Int32 → Int32 → Option (Int32 × sf_Sg)} (C : sf_C X V cX10_greatestPart 5 RX10 (some .int) 3) (hk25 : ∀  (s : sf_Sg) (x1 : Int32) (x2 : Int32) (x3 : Int32), k25 s x1 x2 x3 = some (r, s') → sf_G X V 5 (sf_Q X V (sf_Qi V r s')) s 25 [(0, .ref (V.2.1 149)), (1, .int x1), (2, .int x2), (3, .int x3)] []) {s : sf_Sg} {x1 : Int32} {x3 : Int32} {t0 : Int32} (h : f10_greatestPart_b81 k25 s x1 x3 t0 = some (r, s')) : sf_G X V 5 (sf_Q X V (sf_Qi V r s')) s 81 [(0, .ref (V.2.1 149)), (1, .int x1), (3, .int x3)] [.int t0] := by
  unfold f10_greatestPart_b81 at h
  refine sf_istore_n (lv' := [(2, .int t0), (0, .ref (V.2.1 149)), (1, .int x1), (3, .int x3)]) (pc := 81) C dX10_greatestPart_81 (by decide) rfl ?_
  refine sf_sub [1, 2, 0, 3] rfl ?_
  exact w10_greatestPart_b82 C hk25 h
set_option maxHeartbeats 4000000 in
set_option maxRecDepth 100000 in
theorem w10_greatestPart_b25 {X : sf_X} {V : sf_V} {r : Int32} {s' : sf_Sg} {k25 : sf_Sg → Int32 → Int32 → Int32 → Option (Int32 × sf_Sg)} (C : sf_C X V cX10_greatestPart 5 RX10 (some .int) 3) (hk25 : ∀  (s : sf_Sg) (x1 : Int32) (x2 : Int32) (x3 : Int32), k25 s x1 x2 x3 = some (r, s') → sf_G X V 5 (sf_Q X V (sf_Qi V r s')) s 25 [(0, .ref (V.2.1 149)), (1, .int x1), (2, .int x2), (3, .int x3)] []) {s : sf_Sg} {x1 : Int32} {x2 : Int32} {x3 : Int32} (h : f10_greatestPart_b25 k25 s x1 x2 x3 = some (r, s')) : sf_G X V 5 (sf_Q X V (sf_Qi V r s')) s 25 [(0, .ref (V.2.1 149)), (1, .int x1), (2, .int x2), (3, .int x3)] [] := by
  unfold f10_greatestPart_b25 at h
  refine sf_iload_n (pc := 25) C 3 dX10_greatestPart_25 rfl ?_
  refine sf_sipush (v := 1260) (pc := 26) C dX10_greatestPart_26 (by decide) ?_
  refine sf_icmp_ge (tgt := 88) (pc := 29) C dX10_greatestPart_29 rfl (fun c29 => ?_) (fun c29 => ?_)
  · replace h := (if_pos c29).symm.trans h
    refine sf_iload_n (pc := 88) C 2 dX10_greatestPart_88 rfl ?_
    exact sf_iretW (pc := 89) C dX10_greatestPart_89 h
  · replace h := (if_neg c29).symm.trans h
    refine sf_aload_n (pc := 32) C 0 dX10_greatestPart_32 rfl ?_
    refine sf_iload_n (pc := 33) C 3 dX10_greatestPart_33 rfl ?_
    obtain ⟨v34, e34, h⟩ := sf_ob h
    refine sf_callVi (pc := 34) C (As := [.int x3]) nk_149 sh_149 rfl yk_X10_couldBe cl_10_321 (k10_couldBe e34) (by decide) rfl (Nat.le_of_ble_eq_true rfl) rfl dX10_greatestPart_34 ?_
    refine sf_if_eq (tgt := 82) (pc := 37) C dX10_greatestPart_37 rfl (fun c37 => ?_) (fun c37 => ?_)
    · replace h := (if_pos c37).symm.trans h
      exact w10_greatestPart_b82 C hk25 h
    · replace h := (if_neg c37).symm.trans h
      refine sf_iload_n (pc := 40) C 3 dX10_greatestPart_40 rfl ?_
      refine sf_iload_n (pc := 41) C 1 dX10_greatestPart_41 rfl ?_
      refine sf_iconst (v := 0) (pc := 42) C dX10_greatestPart_42 (by decide) ?_
      refine sf_callSi (pc := 43) C (As := [.int x3, .int x1, .int (0 : Int32)]) yk_X10_gallsBy cl_10_316 (k10_gallsBy rfl) (by decide) rfl (Nat.le_of_ble_eq_true rfl) rfl dX10_greatestPart_43 ?_
      refine sf_istore (lv' := [(4, .int (f10_gallsBy x3 x1 (0 : Int32))), (0, .ref (V.2.1 149)), (1, .int x1), (2, .int x2), (3, .int x3)]) (pc := 46) C dX10_greatestPart_46 (by decide) rfl ?_
      refine sf_aload_n (pc := 48) C 1 dX10_greatestPart_48 rfl ?_
      refine sf_getr (pc := 49) C nk_149 sh_149 rfl fl_10_68 dX10_greatestPart_49 ?_
      refine sf_iload (pc := 52) C 0 dX10_greatestPart_52 rfl ?_
      refine sf_dup2 (pc := 54) C dX10_greatestPart_54 rfl rfl ?_
      obtain ⟨v55, e55, h⟩ := sf_ob h
      refine sf_iald (pc := 55) C nk_168 sh_168 e55 dX10_greatestPart_55 ?_
      refine sf_iconst (v := 1) (pc := 56) C dX10_greatestPart_56 (by decide) ?_
      refine sf_iadd (pc := 57) C dX10_greatestPart_57 ?_
      obtain ⟨s58, e58, h⟩ := sf_ob h
      refine sf_iast (pc := 58) C nk_168 sh_168 e58 dX10_greatestPart_58 ?_
      refine sf_aload_n (pc := 59) C 1 dX10_greatestPart_59 rfl ?_
      refine sf_getr (pc := 60) C nk_149 sh_149 rfl fl_10_68 dX10_greatestPart_60 ?_
      refine sf_iload (pc := 63) C 0 dX10_greatestPart_63 rfl ?_
      obtain ⟨v65, e65, h⟩ := sf_ob h
      refine sf_iald (pc := 65) C nk_168 sh_168 e65 dX10_greatestPart_65 ?_
      refine sf_iload_n (pc := 66) C 3 dX10_greatestPart_66 rfl ?_
      refine sf_icmp_le (tgt := 80) (pc := 67) C dX10_greatestPart_67 rfl (fun c67 => ?_) (fun c67 => ?_)
      · replace h := (if_pos c67).symm.trans h
        refine sf_iload_n (pc := 80) C 3 dX10_greatestPart_80 rfl ?_
        refine sf_sub [1, 2, 4] rfl ?_
        exact w10_greatestPart_b81 C hk25 h
      · replace h := (if_neg c67).symm.trans h
        refine sf_aload_n (pc := 70) C 1 dX10_greatestPart_70 rfl ?_
        refine sf_getr (pc := 71) C nk_149 sh_149 rfl fl_10_68 dX10_greatestPart_71 ?_
        refine sf_iload (pc := 74) C 0 dX10_greatestPart_74 rfl ?_
        obtain ⟨v76, e76, h⟩ := sf_ob h
        refine sf_iald (pc := 76) C nk_168 sh_168 e76 dX10_greatestPart_76 ?_
        refine sf_goto (tgt := 81) (pc := 77) C dX10_greatestPart_77 rfl ?_
        refine sf_sub [1, 2, 4] rfl ?_
        exact w10_greatestPart_b81 C hk25 h
set_option maxHeartbeats 4000000 in
set_option maxRecDepth 100000 in
theorem w10_greatestPart_L25 {X : sf_X} {V : sf_V} {r : Int32} {s' : sf_Sg} (C : sf_C X V cX10_greatestPart 5 RX10 (some .int) 3) : ∀  (s : sf_Sg) (x1 : Int32) (x2 : Int32) (x3 : Int32), f10_greatestPart_L25 s x1 x2 x3 = some (r, s') → sf_G X V 5 (sf_Q X V (sf_Qi V r s')) s 25 [(0, .ref (V.2.1 149)), (1, .int x1), (2, .int x2), (3, .int x3)] [] :=
  sf_it_ind (fun (k : sf_Sg → Int32 → Int32 → Int32 → Option (Int32 × sf_Sg)) => ∀  (s : sf_Sg) (x1 : Int32) (x2 : Int32) (x3 : Int32), k s x1 x2 x3 = some (r, s') → sf_G X V 5 (sf_Q X V (sf_Qi V r s')) s 25 [(0, .ref (V.2.1 149)), (1, .int x1), (2, .int x2), (3, .int x3)] []) _ _ (fun s x1 x2 x3 h => by cases h) (fun k hk s x1 x2 x3 h => w10_greatestPart_b25 C hk h) _
set_option maxHeartbeats 4000000 in
set_option maxRecDepth 100000 in
theorem w10_greatestPart_b23 {X : sf_X} {V : sf_V} {r : Int32} {s' : sf_Sg} (C : sf_C X V cX10_greatestPart 5 RX10 (some .int) 3) {s : sf_Sg} {x1 : Int32} {x2 : Int32} (h : f10_greatestPart_b23 s x1 x2 = some (r, s')) : sf_G X V 5 (sf_Q X V (sf_Qi V r s')) s 23 [(0, .ref (V.2.1 149)), (1, .int x1), (2, .int x2)] [] := by
  unfold f10_greatestPart_b23 at h
  refine sf_iconst (v := 0) (pc := 23) C dX10_greatestPart_23 (by decide) ?_
  refine sf_istore_n (lv' := [(3, .int (0 : Int32)), (0, .ref (V.2.1 149)), (1, .int x1), (2, .int x2)]) (pc := 24) C dX10_greatestPart_24 (by decide) rfl ?_
  refine sf_sub [1, 2, 3, 0] rfl ?_
  exact w10_greatestPart_L25 C _ _ _ _ h
set_option maxHeartbeats 4000000 in
set_option maxRecDepth 100000 in
theorem w10_greatestPart_b4 {X : sf_X} {V : sf_V} {r : Int32} {s' : sf_Sg} {k4 : sf_Sg → Int32 → Int32 → Int32 → Option (Int32 × sf_Sg)} (C : sf_C X V cX10_greatestPart 5 RX10 (some .int) 3) (hk4 : ∀  (s : sf_Sg) (x1 : Int32) (x2 : Int32) (x3 : Int32), k4 s x1 x2 x3 = some (r, s') → sf_G X V 5 (sf_Q X V (sf_Qi V r s')) s 4 [(0, .ref (V.2.1 149)), (1, .int x1), (2, .int x2), (3, .int x3)] []) {s : sf_Sg} {x1 : Int32} {x2 : Int32} {x3 : Int32} (h : f10_greatestPart_b4 k4 s x1 x2 x3 = some (r, s')) : sf_G X V 5 (sf_Q X V (sf_Qi V r s')) s 4 [(0, .ref (V.2.1 149)), (1, .int x1), (2, .int x2), (3, .int x3)] [] := by
  unfold f10_greatestPart_b4 at h
  refine sf_iload_n (pc := 4) C 3 dX10_greatestPart_4 rfl ?_
  refine sf_bipush (v := 80) (pc := 5) C dX10_greatestPart_5 (by decide) ?_
  refine sf_icmp_ge (tgt := 23) (pc := 7) C dX10_greatestPart_7 rfl (fun c7 => ?_) (fun c7 => ?_)
  · replace h := (if_pos c7).symm.trans h
    refine sf_sub [0, 1, 2] rfl ?_
    exact w10_greatestPart_b23 C h
  · replace h := (if_neg c7).symm.trans h
    refine sf_aload_n (pc := 10) C 0 dX10_greatestPart_10 rfl ?_
    refine sf_getr (pc := 11) C nk_149 sh_149 rfl fl_10_68 dX10_greatestPart_11 ?_
    refine sf_iload_n (pc := 14) C 3 dX10_greatestPart_14 rfl ?_
    refine sf_iconst (v := 0) (pc := 15) C dX10_greatestPart_15 (by decide) ?_
    obtain ⟨s16, e16, h⟩ := sf_ob h
    refine sf_iast (pc := 16) C nk_168 sh_168 e16 dX10_greatestPart_16 ?_
    refine sf_iinc (v := (x3 + 1)) (lv' := [(3, .int (x3 + 1)), (0, .ref (V.2.1 149)), (1, .int x1), (2, .int x2)]) (pc := 17) C 3 dX10_greatestPart_17 rfl rfl (by decide) rfl ?_
    refine sf_goto (tgt := 4) (pc := 20) C dX10_greatestPart_20 rfl ?_
    refine sf_sub [1, 2, 3, 0] rfl ?_
    exact hk4 _ _ _ _ h
set_option maxHeartbeats 4000000 in
set_option maxRecDepth 100000 in
theorem w10_greatestPart_L4 {X : sf_X} {V : sf_V} {r : Int32} {s' : sf_Sg} (C : sf_C X V cX10_greatestPart 5 RX10 (some .int) 3) : ∀  (s : sf_Sg) (x1 : Int32) (x2 : Int32) (x3 : Int32), f10_greatestPart_L4 s x1 x2 x3 = some (r, s') → sf_G X V 5 (sf_Q X V (sf_Qi V r s')) s 4 [(0, .ref (V.2.1 149)), (1, .int x1), (2, .int x2), (3, .int x3)] [] :=
  sf_it_ind (fun (k : sf_Sg → Int32 → Int32 → Int32 → Option (Int32 × sf_Sg)) => ∀  (s : sf_Sg) (x1 : Int32) (x2 : Int32) (x3 : Int32), k s x1 x2 x3 = some (r, s') → sf_G X V 5 (sf_Q X V (sf_Qi V r s')) s 4 [(0, .ref (V.2.1 149)), (1, .int x1), (2, .int x2), (3, .int x3)] []) _ _ (fun s x1 x2 x3 h => by cases h) (fun k hk s x1 x2 x3 h => w10_greatestPart_b4 C hk h) _
set_option maxHeartbeats 4000000 in
set_option maxRecDepth 100000 in
theorem w10_greatestPart_b0 {X : sf_X} {V : sf_V} {r : Int32} {s' : sf_Sg} (C : sf_C X V cX10_greatestPart 5 RX10 (some .int) 3) {s : sf_Sg} {x1 : Int32} (h : f10_greatestPart_b0 s x1 = some (r, s')) : sf_G X V 5 (sf_Q X V (sf_Qi V r s')) s 0 [(0, .ref (V.2.1 149)), (1, .int x1)] [] := by
  unfold f10_greatestPart_b0 at h
  refine sf_iconst (v := 0) (pc := 0) C dX10_greatestPart_0 (by decide) ?_
  refine sf_istore_n (lv' := [(2, .int (0 : Int32)), (0, .ref (V.2.1 149)), (1, .int x1)]) (pc := 1) C dX10_greatestPart_1 (by decide) rfl ?_
  refine sf_iconst (v := 0) (pc := 2) C dX10_greatestPart_2 (by decide) ?_
  refine sf_istore_n (lv' := [(3, .int (0 : Int32)), (2, .int (0 : Int32)), (0, .ref (V.2.1 149)), (1, .int x1)]) (pc := 3) C dX10_greatestPart_3 (by decide) rfl ?_
  refine sf_sub [2, 3, 1, 0] rfl ?_
  exact w10_greatestPart_L4 C _ _ _ _ h
set_option maxHeartbeats 4000000 in
set_option maxRecDepth 100000 in
theorem k10_greatestPart {l : Launch} {V : sf_V} {s : sf_Sg} {x1 : Int32} {r : Int32} {s' : sf_Sg} (h : f10_greatestPart s x1 = some (r, s')) : sf_M l V yX10_greatestPart (.code yX10_greatestPart cX10_greatestPart 5 (some .int)) 3 [.ref (V.2.1 149), .int x1] s (sf_Qi V r s') := by
  refine sf_enter (by decide) (Nat.le_of_ble_eq_true rfl) (fun X hX C => ?_)
  refine sf_sub [0, 1] rfl ?_
  exact w10_greatestPart_b0 (show sf_C X V cX10_greatestPart 5 RX10 (some .int) 3 from C)  h
set_option maxHeartbeats 4000000 in
set_option maxRecDepth 100000 in
theorem w10_tryNext_b47 {X : sf_X} {V : sf_V} {r : Int32} {s' : sf_Sg} {k10 : sf_Sg → Int32 → Int32 → Int32 → Option (Int32 × sf_Sg)} (C : sf_C X V cX10_tryNext 5 RX10 (some .int) 4) (hk10 : ∀  (s : sf_Sg) (x1 : Int32) (x2 : Int32) (x3 : Int32), k10 s x1 x2 x3 = some (r, s') → sf_G X V 5 (sf_Q X V (sf_Qi V r s')) s 10 [(0, .ref (V.2.1 149)), (1, .int x1), (2, .int x2), (3, .int x3)] []) {s : sf_Sg} {x1 : Int32} {x3 : Int32} {t0 : Int32} (h : f10_tryNext_b47 k10 s x1 x3 t0 = some (r, s')) : sf_G X V 5 (sf_Q X V (sf_Qi V r s')) s 47 [(0, .ref (V.2.1 149)), (1, .int x1), (3, .int x3)] [.int t0] := by
  unfold f10_tryNext_b47 at h
  refine sf_istore_n (lv' := [(2, .int t0), (0, .ref (V.2.1 149)), (1, .int x1), (3, .int x3)]) (pc := 47) C dX10_tryNext_47 (by decide) rfl ?_
  refine sf_iinc (v := (x3 + 1)) (lv' := [(3, .int (x3 + 1)), (2, .int t0), (0, .ref (V.2.1 149)), (1, .int x1)]) (pc := 48) C 3 dX10_tryNext_48 rfl rfl (by decide) rfl ?_
  refine sf_goto (tgt := 10) (pc := 51) C dX10_tryNext_51 rfl ?_
  refine sf_sub [2, 3, 1, 0] rfl ?_
  exact hk10 _ _ _ _ h
set_option maxHeartbeats 4000000 in
set_option maxRecDepth 100000 in
theorem w10_tryNext_b34 {X : sf_X} {V : sf_V} {r : Int32} {s' : sf_Sg} {k10 : sf_Sg → Int32 → Int32 → Int32 → Option (Int32 × sf_Sg)} (C : sf_C X V cX10_tryNext 5 RX10 (some .int) 4) (hk10 : ∀  (s : sf_Sg) (x1 : Int32) (x2 : Int32) (x3 : Int32), k10 s x1 x2 x3 = some (r, s') → sf_G X V 5 (sf_Q X V (sf_Qi V r s')) s 10 [(0, .ref (V.2.1 149)), (1, .int x1), (2, .int x2), (3, .int x3)] []) {s : sf_Sg} {x2 : Int32} {x3 : Int32} {x4 : Int32} {t0 : Int32} (h : f10_tryNext_b34 k10 s x2 x3 x4 t0 = some (r, s')) : sf_G X V 5 (sf_Q X V (sf_Qi V r s')) s 34 [(0, .ref (V.2.1 149)), (2, .int x2), (3, .int x3), (4, .int x4)] [.int t0] := by
  unfold f10_tryNext_b34 at h
  refine sf_istore_n (lv' := [(1, .int t0), (0, .ref (V.2.1 149)), (2, .int x2), (3, .int x3), (4, .int x4)]) (pc := 34) C dX10_tryNext_34 (by decide) rfl ?_
  refine sf_iload (pc := 35) C 4 dX10_tryNext_35 rfl ?_
  refine sf_iload_n (pc := 37) C 2 dX10_tryNext_37 rfl ?_
  refine sf_icmp_ge (tgt := 46) (pc := 38) C dX10_tryNext_38 rfl (fun c38 => ?_) (fun c38 => ?_)
  · replace h := (if_pos c38).symm.trans h
    refine sf_iload_n (pc := 46) C 2 dX10_tryNext_46 rfl ?_
    refine sf_sub [1, 0, 3] rfl ?_
    exact w10_tryNext_b47 C hk10 h
  · replace h := (if_neg c38).symm.trans h
    refine sf_iload (pc := 41) C 4 dX10_tryNext_41 rfl ?_
    refine sf_goto (tgt := 47) (pc := 43) C dX10_tryNext_43 rfl ?_
    refine sf_sub [1, 0, 3] rfl ?_
    exact w10_tryNext_b47 C hk10 h
set_option maxHeartbeats 4000000 in
set_option maxRecDepth 100000 in
theorem w10_tryNext_b10 {X : sf_X} {V : sf_V} {r : Int32} {s' : sf_Sg} {k10 : sf_Sg → Int32 → Int32 → Int32 → Option (Int32 × sf_Sg)} (C : sf_C X V cX10_tryNext 5 RX10 (some .int) 4) (hk10 : ∀  (s : sf_Sg) (x1 : Int32) (x2 : Int32) (x3 : Int32), k10 s x1 x2 x3 = some (r, s') → sf_G X V 5 (sf_Q X V (sf_Qi V r s')) s 10 [(0, .ref (V.2.1 149)), (1, .int x1), (2, .int x2), (3, .int x3)] []) {s : sf_Sg} {x1 : Int32} {x2 : Int32} {x3 : Int32} (h : f10_tryNext_b10 k10 s x1 x2 x3 = some (r, s')) : sf_G X V 5 (sf_Q X V (sf_Qi V r s')) s 10 [(0, .ref (V.2.1 149)), (1, .int x1), (2, .int x2), (3, .int x3)] [] := by
  unfold f10_tryNext_b10 at h
  refine sf_iload_n (pc := 10) C 3 dX10_tryNext_10 rfl ?_
  refine sf_bipush (v := 60) (pc := 11) C dX10_tryNext_11 (by decide) ?_
  refine sf_icmp_gt (tgt := 54) (pc := 13) C dX10_tryNext_13 rfl (fun c13 => ?_) (fun c13 => ?_)
  · replace h := (if_pos c13).symm.trans h
    refine sf_iload_n (pc := 54) C 1 dX10_tryNext_54 rfl ?_
    exact sf_iretW (pc := 55) C dX10_tryNext_55 h
  · replace h := (if_neg c13).symm.trans h
    refine sf_aload_n (pc := 16) C 0 dX10_tryNext_16 rfl ?_
    refine sf_iload_n (pc := 17) C 3 dX10_tryNext_17 rfl ?_
    obtain ⟨q18, e18, h⟩ := sf_ob h
    refine sf_callVi (pc := 18) C (As := [.int x3]) nk_149 sh_149 rfl yk_X10_greatestPart cl_10_327 (k10_greatestPart e18) (by decide) rfl (Nat.le_of_ble_eq_true rfl) rfl dX10_tryNext_18 ?_
    refine sf_istore (lv' := [(4, .int q18.1), (0, .ref (V.2.1 149)), (1, .int x1), (2, .int x2), (3, .int x3)]) (pc := 21) C dX10_tryNext_21 (by decide) rfl ?_
    refine sf_iload (pc := 23) C 0 dX10_tryNext_23 rfl ?_
    refine sf_iload_n (pc := 25) C 3 dX10_tryNext_25 rfl ?_
    refine sf_icmp_ge (tgt := 33) (pc := 26) C dX10_tryNext_26 rfl (fun c26 => ?_) (fun c26 => ?_)
    · replace h := (if_pos c26).symm.trans h
      refine sf_iload_n (pc := 33) C 2 dX10_tryNext_33 rfl ?_
      refine sf_sub [1, 3, 4, 0] rfl ?_
      exact w10_tryNext_b34 C hk10 h
    · replace h := (if_neg c26).symm.trans h
      refine sf_iload_n (pc := 29) C 4 dX10_tryNext_29 rfl ?_
      refine sf_goto (tgt := 34) (pc := 30) C dX10_tryNext_30 rfl ?_
      refine sf_sub [1, 3, 4, 0] rfl ?_
      exact w10_tryNext_b34 C hk10 h
set_option maxHeartbeats 4000000 in
set_option maxRecDepth 100000 in
theorem w10_tryNext_L10 {X : sf_X} {V : sf_V} {r : Int32} {s' : sf_Sg} (C : sf_C X V cX10_tryNext 5 RX10 (some .int) 4) : ∀  (s : sf_Sg) (x1 : Int32) (x2 : Int32) (x3 : Int32), f10_tryNext_L10 s x1 x2 x3 = some (r, s') → sf_G X V 5 (sf_Q X V (sf_Qi V r s')) s 10 [(0, .ref (V.2.1 149)), (1, .int x1), (2, .int x2), (3, .int x3)] [] :=
  sf_it_ind (fun (k : sf_Sg → Int32 → Int32 → Int32 → Option (Int32 × sf_Sg)) => ∀  (s : sf_Sg) (x1 : Int32) (x2 : Int32) (x3 : Int32), k s x1 x2 x3 = some (r, s') → sf_G X V 5 (sf_Q X V (sf_Qi V r s')) s 10 [(0, .ref (V.2.1 149)), (1, .int x1), (2, .int x2), (3, .int x3)] []) _ _ (fun s x1 x2 x3 h => by cases h) (fun k hk s x1 x2 x3 h => w10_tryNext_b10 C hk h) _
set_option maxHeartbeats 4000000 in
set_option maxRecDepth 100000 in
theorem w10_tryNext_b0 {X : sf_X} {V : sf_V} {r : Int32} {s' : sf_Sg} (C : sf_C X V cX10_tryNext 5 RX10 (some .int) 4) {s : sf_Sg} (h : f10_tryNext_b0 s = some (r, s')) : sf_G X V 5 (sf_Q X V (sf_Qi V r s')) s 0 [(0, .ref (V.2.1 149))] [] := by
  unfold f10_tryNext_b0 at h
  refine sf_iconst (v := -1) (pc := 0) C dX10_tryNext_0 (by decide) ?_
  refine sf_istore_n (lv' := [(1, .int (-1 : Int32)), (0, .ref (V.2.1 149))]) (pc := 1) C dX10_tryNext_1 (by decide) rfl ?_
  refine sf_aload_n (pc := 2) C 1 dX10_tryNext_2 rfl ?_
  refine sf_iconst (v := 0) (pc := 3) C dX10_tryNext_3 (by decide) ?_
  obtain ⟨v4, e4, h⟩ := sf_ob h
  refine sf_callVi (pc := 4) C (As := [.int (0 : Int32)]) nk_149 sh_149 rfl yk_X10_carries cl_10_324 (k10_carries e4) (by decide) rfl (Nat.le_of_ble_eq_true rfl) rfl dX10_tryNext_4 ?_
  refine sf_istore_n (lv' := [(2, .int v4), (1, .int (-1 : Int32)), (0, .ref (V.2.1 149))]) (pc := 7) C dX10_tryNext_7 (by decide) rfl ?_
  refine sf_iconst (v := 1) (pc := 8) C dX10_tryNext_8 (by decide) ?_
  refine sf_istore_n (lv' := [(3, .int (1 : Int32)), (2, .int v4), (1, .int (-1 : Int32)), (0, .ref (V.2.1 149))]) (pc := 9) C dX10_tryNext_9 (by decide) rfl ?_
  refine sf_sub [3, 2, 1, 0] rfl ?_
  exact w10_tryNext_L10 C _ _ _ _ h
set_option maxHeartbeats 4000000 in
set_option maxRecDepth 100000 in
theorem k10_tryNext {l : Launch} {V : sf_V} {s : sf_Sg} {r : Int32} {s' : sf_Sg} (h : f10_tryNext s = some (r, s')) : sf_M l V yX10_tryNext (.code yX10_tryNext cX10_tryNext 5 (some .int)) 4 [.ref (V.2.1 149)] s (sf_Qi V r s') := by
  refine sf_enter (by decide) (Nat.le_of_ble_eq_true rfl) (fun X hX C => ?_)
  refine sf_sub [0] rfl ?_
  exact w10_tryNext_b0 (show sf_C X V cX10_tryNext 5 RX10 (some .int) 4 from C)  h
set_option maxHeartbeats 4000000 in
set_option maxRecDepth 100000 in
theorem w10_write_b0 {X : sf_X} {V : sf_V} {r : Int32} {s' : sf_Sg} (C : sf_C X V cX10_write 3 RX10 (some .int) 2) {s : sf_Sg} {x1 : Int32} {x2 : Int32} (h : f10_write_b0 s x1 x2 = some (r, s')) : sf_G X V 3 (sf_Q X V (sf_Qi V r s')) s 0 [(0, .ref (V.2.1 149)), (1, .int x1), (2, .int x2)] [] := by
  unfold f10_write_b0 at h
  refine sf_aload_n (pc := 0) C 0 dX10_write_0 rfl ?_
  refine sf_iload_n (pc := 1) C 1 dX10_write_1 rfl ?_
  refine sf_callVi (pc := 2) C (As := [.int x1]) nk_149 sh_149 rfl yk_X10_isBack cl_10_237 (k10_isBack rfl) (by decide) rfl (Nat.le_of_ble_eq_true rfl) rfl dX10_write_2 ?_
  refine sf_if_ne (tgt := 11) (pc := 5) C dX10_write_5 rfl (fun c5 => ?_) (fun c5 => ?_)
  · replace h := (if_neg c5).symm.trans h
    refine sf_iload_n (pc := 11) C 2 dX10_write_11 rfl ?_
    refine sf_i2l (pc := 12) C dX10_write_12 ?_
    refine sf_lconst (v := 0) (pc := 13) C dX10_write_13 (by decide) ?_
    refine sf_ldc2 (v := 9999) (pc := 14) C dX10_write_14 tm_1247 ?_
    refine sf_callSi (pc := 17) C (As := [.long x2.toInt64, .long (0 : Int64), .long (9999 : Int64)]) yk_X10_in cl_10_91 (k10_in rfl) (by decide) rfl (Nat.le_of_ble_eq_true rfl) rfl dX10_write_17 ?_
    refine sf_if_ne (tgt := 26) (pc := 20) C dX10_write_20 rfl (fun c20 => ?_) (fun c20 => ?_)
    · replace h := (if_neg c20).symm.trans h
      refine sf_aload_n (pc := 26) C 0 dX10_write_26 rfl ?_
      refine sf_get (pc := 27) C nk_149 sh_149 rfl fl_10_174 dX10_write_27 ?_
      refine sf_bipush (v := 15) (pc := 30) C dX10_write_30 (by decide) ?_
      refine sf_icmp_ne (tgt := 38) (pc := 32) C dX10_write_32 rfl (fun c32 => ?_) (fun c32 => ?_)
      · replace h := (if_neg c32).symm.trans h
        refine sf_aload_n (pc := 38) C 0 dX10_write_38 rfl ?_
        refine sf_getr (pc := 39) C nk_149 sh_149 rfl fl_10_71 dX10_write_39 ?_
        refine sf_aload_n (pc := 42) C 0 dX10_write_42 rfl ?_
        refine sf_get (pc := 43) C nk_149 sh_149 rfl fl_10_174 dX10_write_43 ?_
        refine sf_iload_n (pc := 46) C 1 dX10_write_46 rfl ?_
        obtain ⟨s47, e47, h⟩ := sf_ob h
        refine sf_iast (pc := 47) C nk_169 sh_169 e47 dX10_write_47 ?_
        refine sf_aload_n (pc := 48) C 0 dX10_write_48 rfl ?_
        refine sf_getr (pc := 49) C nk_149 sh_149 rfl fl_10_74 dX10_write_49 ?_
        refine sf_aload_n (pc := 52) C 0 dX10_write_52 rfl ?_
        refine sf_get (pc := 53) C nk_149 sh_149 rfl fl_10_174 dX10_write_53 ?_
        refine sf_iload_n (pc := 56) C 2 dX10_write_56 rfl ?_
        obtain ⟨s57, e57, h⟩ := sf_ob h
        refine sf_iast (pc := 57) C nk_170 sh_170 e57 dX10_write_57 ?_
        refine sf_aload_n (pc := 58) C 0 dX10_write_58 rfl ?_
        refine sf_dup (pc := 59) C dX10_write_59 rfl ?_
        refine sf_get (pc := 60) C nk_149 sh_149 rfl fl_10_174 dX10_write_60 ?_
        refine sf_iconst (v := 1) (pc := 63) C dX10_write_63 (by decide) ?_
        refine sf_iadd (pc := 64) C dX10_write_64 ?_
        refine sf_put (pc := 65) C nk_149 sh_149 rfl fw_10_174 rfl rfl dX10_write_65 ?_
        refine sf_aload_n (pc := 68) C 0 dX10_write_68 rfl ?_
        refine sf_get (pc := 69) C nk_149 sh_149 rfl fl_10_174 dX10_write_69 ?_
        exact sf_iretW (pc := 72) C dX10_write_72 h
      · replace h := (if_pos c32).symm.trans h
        refine sf_ldc (v := -1000000004) (pc := 35) C dX10_write_35 tm_941 ?_
        exact sf_iretW (pc := 37) C dX10_write_37 h
    · replace h := (if_pos c20).symm.trans h
      refine sf_ldc (v := -1000000002) (pc := 23) C dX10_write_23 tm_940 ?_
      exact sf_iretW (pc := 25) C dX10_write_25 h
  · replace h := (if_pos c5).symm.trans h
    refine sf_ldc (v := -1000000001) (pc := 8) C dX10_write_8 tm_1069 ?_
    exact sf_iretW (pc := 10) C dX10_write_10 h
set_option maxHeartbeats 4000000 in
set_option maxRecDepth 100000 in
theorem k10_write {l : Launch} {V : sf_V} {s : sf_Sg} {x1 : Int32} {x2 : Int32} {r : Int32} {s' : sf_Sg} (h : f10_write s x1 x2 = some (r, s')) : sf_M l V yX10_write (.code yX10_write cX10_write 3 (some .int)) 2 [.ref (V.2.1 149), .int x1, .int x2] s (sf_Qi V r s') := by
  refine sf_enter (by decide) (Nat.le_of_ble_eq_true rfl) (fun X hX C => ?_)
  refine sf_sub [0, 1, 2] rfl ?_
  exact w10_write_b0 (show sf_C X V cX10_write 3 RX10 (some .int) 2 from C)  h
set_option maxHeartbeats 4000000 in
set_option maxRecDepth 100000 in
theorem w10_tear_b0 {X : sf_X} {V : sf_V} {r : Int32} {s' : sf_Sg} (C : sf_C X V cX10_tear 2 RX10 (some .int) 0) {s : sf_Sg} (h : f10_tear_b0 s = (r, s')) : sf_G X V 2 (sf_Q X V (sf_Qi V r s')) s 0 [(0, .ref (V.2.1 149))] [] := by
  unfold f10_tear_b0 at h
  refine sf_aload_n (pc := 0) C 0 dX10_tear_0 rfl ?_
  refine sf_get (pc := 1) C nk_149 sh_149 rfl fl_10_171 dX10_tear_1 ?_
  refine sf_aload_n (pc := 4) C 0 dX10_tear_4 rfl ?_
  refine sf_get (pc := 5) C nk_149 sh_149 rfl fl_10_174 dX10_tear_5 ?_
  refine sf_iadd (pc := 8) C dX10_tear_8 ?_
  refine sf_istore_n (lv' := [(1, .int ((s 149 32) + (s 149 37))), (0, .ref (V.2.1 149))]) (pc := 9) C dX10_tear_9 (by decide) rfl ?_
  refine sf_aload_n (pc := 10) C 1 dX10_tear_10 rfl ?_
  refine sf_iconst (v := 0) (pc := 11) C dX10_tear_11 (by decide) ?_
  refine sf_put (pc := 12) C nk_149 sh_149 rfl fw_10_171 rfl rfl dX10_tear_12 ?_
  refine sf_aload_n (pc := 15) C 1 dX10_tear_15 rfl ?_
  refine sf_iconst (v := 0) (pc := 16) C dX10_tear_16 (by decide) ?_
  refine sf_put (pc := 17) C nk_149 sh_149 rfl fw_10_174 rfl rfl dX10_tear_17 ?_
  refine sf_iload_n (pc := 20) C 0 dX10_tear_20 rfl ?_
  exact sf_iretU (pc := 21) C dX10_tear_21 h
set_option maxHeartbeats 4000000 in
set_option maxRecDepth 100000 in
theorem k10_tear {l : Launch} {V : sf_V} {s : sf_Sg} {r : Int32} {s' : sf_Sg} (h : f10_tear s = (r, s')) : sf_M l V yX10_tear (.code yX10_tear cX10_tear 2 (some .int)) 0 [.ref (V.2.1 149)] s (sf_Qi V r s') := by
  refine sf_enter (by decide) (Nat.le_of_ble_eq_true rfl) (fun X hX C => ?_)
  refine sf_sub [0] rfl ?_
  exact w10_tear_b0 (show sf_C X V cX10_tear 2 RX10 (some .int) 0 from C)  h
set_option maxHeartbeats 4000000 in
set_option maxRecDepth 100000 in
theorem w10_judge_b2 {X : sf_X} {V : sf_V} {s : sf_Sg} {r : Int32} {k2 : Int32 → Option Int32} (C : sf_C X V cX10_judge 2 RX10 (some .int) 0) (hk2 : ∀  (x1 : Int32), k2 x1 = some r → sf_G X V 2 (sf_Q X V (sf_Qi V r s)) s 2 [(0, .ref (V.2.1 149)), (1, .int x1)] []) {x1 : Int32} (h : f10_judge_b2 s k2 x1 = some r) : sf_G X V 2 (sf_Q X V (sf_Qi V r s)) s 2 [(0, .ref (V.2.1 149)), (1, .int x1)] [] := by
  unfold f10_judge_b2 at h
  refine sf_iload_n (pc := 2) C 1 dX10_judge_2 rfl ?_
  refine sf_aload_n (pc := 3) C 0 dX10_judge_3 rfl ?_
  refine sf_get (pc := 4) C nk_149 sh_149 rfl fl_10_174 dX10_judge_4 ?_
  refine sf_icmp_ge (tgt := 41) (pc := 7) C dX10_judge_7 rfl (fun c7 => ?_) (fun c7 => ?_)
  · replace h := (if_pos c7).symm.trans h
    refine sf_iconst (v := -1) (pc := 41) C dX10_judge_41 (by decide) ?_
    exact sf_iretR (pc := 42) C dX10_judge_42 h
  · replace h := (if_neg c7).symm.trans h
    refine sf_aload_n (pc := 10) C 0 dX10_judge_10 rfl ?_
    refine sf_getr (pc := 11) C nk_149 sh_149 rfl fl_10_25 dX10_judge_11 ?_
    refine sf_bipush (v := 24) (pc := 14) C dX10_judge_14 (by decide) ?_
    refine sf_aload_n (pc := 16) C 0 dX10_judge_16 rfl ?_
    refine sf_getr (pc := 17) C nk_149 sh_149 rfl fl_10_71 dX10_judge_17 ?_
    refine sf_iload_n (pc := 20) C 1 dX10_judge_20 rfl ?_
    obtain ⟨v21, e21, h⟩ := sf_ob h
    refine sf_iald (pc := 21) C nk_169 sh_169 e21 dX10_judge_21 ?_
    refine sf_iadd (pc := 22) C dX10_judge_22 ?_
    obtain ⟨v23, e23, h⟩ := sf_ob h
    refine sf_iald (pc := 23) C nk_155 sh_155 e23 dX10_judge_23 ?_
    refine sf_aload_n (pc := 24) C 0 dX10_judge_24 rfl ?_
    refine sf_getr (pc := 25) C nk_149 sh_149 rfl fl_10_74 dX10_judge_25 ?_
    refine sf_iload_n (pc := 28) C 1 dX10_judge_28 rfl ?_
    obtain ⟨v29, e29, h⟩ := sf_ob h
    refine sf_iald (pc := 29) C nk_170 sh_170 e29 dX10_judge_29 ?_
    refine sf_icmp_eq (tgt := 35) (pc := 30) C dX10_judge_30 rfl (fun c30 => ?_) (fun c30 => ?_)
    · replace h := (if_pos c30).symm.trans h
      refine sf_iinc (v := (x1 + 1)) (lv' := [(1, .int (x1 + 1)), (0, .ref (V.2.1 149))]) (pc := 35) C 1 dX10_judge_35 rfl rfl (by decide) rfl ?_
      refine sf_goto (tgt := 2) (pc := 38) C dX10_judge_38 rfl ?_
      refine sf_sub [1, 0] rfl ?_
      exact hk2 _ h
    · replace h := (if_neg c30).symm.trans h
      refine sf_iload_n (pc := 33) C 1 dX10_judge_33 rfl ?_
      exact sf_iretR (pc := 34) C dX10_judge_34 h
set_option maxHeartbeats 4000000 in
set_option maxRecDepth 100000 in
theorem w10_judge_L2 {X : sf_X} {V : sf_V} {s : sf_Sg} {r : Int32} (C : sf_C X V cX10_judge 2 RX10 (some .int) 0) : ∀  (x1 : Int32), f10_judge_L2 s x1 = some r → sf_G X V 2 (sf_Q X V (sf_Qi V r s)) s 2 [(0, .ref (V.2.1 149)), (1, .int x1)] [] :=
  sf_it_ind (fun (k : Int32 → Option Int32) => ∀  (x1 : Int32), k x1 = some r → sf_G X V 2 (sf_Q X V (sf_Qi V r s)) s 2 [(0, .ref (V.2.1 149)), (1, .int x1)] []) _ _ (fun x1 h => by cases h) (fun k hk x1 h => w10_judge_b2 C hk h) _
set_option maxHeartbeats 4000000 in
set_option maxRecDepth 100000 in
theorem w10_judge_b0 {X : sf_X} {V : sf_V} {s : sf_Sg} {r : Int32} (C : sf_C X V cX10_judge 2 RX10 (some .int) 0) (h : f10_judge_b0 s = some r) : sf_G X V 2 (sf_Q X V (sf_Qi V r s)) s 0 [(0, .ref (V.2.1 149))] [] := by
  unfold f10_judge_b0 at h
  refine sf_iconst (v := 0) (pc := 0) C dX10_judge_0 (by decide) ?_
  refine sf_istore_n (lv' := [(1, .int (0 : Int32)), (0, .ref (V.2.1 149))]) (pc := 1) C dX10_judge_1 (by decide) rfl ?_
  refine sf_sub [1, 0] rfl ?_
  exact w10_judge_L2 C _ h
set_option maxHeartbeats 4000000 in
set_option maxRecDepth 100000 in
theorem k10_judge {l : Launch} {V : sf_V} {s : sf_Sg} {r : Int32} (h : f10_judge s = some r) : sf_M l V yX10_judge (.code yX10_judge cX10_judge 2 (some .int)) 0 [.ref (V.2.1 149)] s (sf_Qi V r s) := by
  refine sf_enter (by decide) (Nat.le_of_ble_eq_true rfl) (fun X hX C => ?_)
  refine sf_sub [0] rfl ?_
  exact w10_judge_b0 (show sf_C X V cX10_judge 2 RX10 (some .int) 0 from C)  h
set_option maxHeartbeats 4000000 in
set_option maxRecDepth 100000 in
theorem w10_seed_b0 {X : sf_X} {V : sf_V} {r : Int32} {s' : sf_Sg} (C : sf_C X V cX10_seed 3 RX10 (some .int) 0) {s : sf_Sg} {x1 : Int32} (h : f10_seed_b0 s x1 = (r, s')) : sf_G X V 3 (sf_Q X V (sf_Qi V r s')) s 0 [(0, .ref (V.2.1 149)), (1, .int x1)] [] := by
  unfold f10_seed_b0 at h
  refine sf_iload_n (pc := 0) C 1 dX10_seed_0 rfl ?_
  refine sf_if_ge (tgt := 7) (pc := 1) C dX10_seed_1 rfl (fun c1 => ?_) (fun c1 => ?_)
  · replace h := (if_pos c1).symm.trans h
    refine sf_aload_n (pc := 7) C 0 dX10_seed_7 rfl ?_
    refine sf_get (pc := 8) C nk_149 sh_149 rfl fl_10_272 dX10_seed_8 ?_
    refine sf_istore_n (lv' := [(2, .int (s 149 10)), (0, .ref (V.2.1 149)), (1, .int x1)]) (pc := 11) C dX10_seed_11 (by decide) rfl ?_
    refine sf_aload_n (pc := 12) C 1 dX10_seed_12 rfl ?_
    refine sf_iload_n (pc := 13) C 2 dX10_seed_13 rfl ?_
    refine sf_put (pc := 14) C nk_149 sh_149 rfl fw_10_272 rfl rfl dX10_seed_14 ?_
    refine sf_iload_n (pc := 17) C 0 dX10_seed_17 rfl ?_
    exact sf_iretU (pc := 18) C dX10_seed_18 h
  · replace h := (if_neg c1).symm.trans h
    refine sf_ldc (v := -1000000002) (pc := 4) C dX10_seed_4 tm_940 ?_
    exact sf_iretU (pc := 6) C dX10_seed_6 h
set_option maxHeartbeats 4000000 in
set_option maxRecDepth 100000 in
theorem k10_seed {l : Launch} {V : sf_V} {s : sf_Sg} {x1 : Int32} {r : Int32} {s' : sf_Sg} (h : f10_seed s x1 = (r, s')) : sf_M l V yX10_seed (.code yX10_seed cX10_seed 3 (some .int)) 0 [.ref (V.2.1 149), .int x1] s (sf_Qi V r s') := by
  refine sf_enter (by decide) (Nat.le_of_ble_eq_true rfl) (fun X hX C => ?_)
  refine sf_sub [0, 1] rfl ?_
  exact w10_seed_b0 (show sf_C X V cX10_seed 3 RX10 (some .int) 0 from C)  h
set_option maxHeartbeats 4000000 in
set_option maxRecDepth 100000 in
theorem w10_keep_b44 {X : sf_X} {V : sf_V} {r : Int32} {s' : sf_Sg} (C : sf_C X V cX10_keep 3 RX10 (some .int) 1) {s : sf_Sg} {x1 : Int32} (h : f10_keep_b44 s x1 = some (r, s')) : sf_G X V 3 (sf_Q X V (sf_Qi V r s')) s 44 [(0, .ref (V.2.1 149)), (1, .int x1)] [] := by
  unfold f10_keep_b44 at h
  refine sf_aload_n (pc := 44) C 0 dX10_keep_44 rfl ?_
  refine sf_getr (pc := 45) C nk_149 sh_149 rfl fl_10_77 dX10_keep_45 ?_
  refine sf_bipush (v := 32) (pc := 48) C dX10_keep_48 (by decide) ?_
  refine sf_iload_n (pc := 50) C 1 dX10_keep_50 rfl ?_
  refine sf_imul (pc := 51) C dX10_keep_51 ?_
  refine sf_bipush (v := 31) (pc := 52) C dX10_keep_52 (by decide) ?_
  refine sf_iadd (pc := 54) C dX10_keep_54 ?_
  refine sf_aload_n (pc := 55) C 0 dX10_keep_55 rfl ?_
  refine sf_get (pc := 56) C nk_149 sh_149 rfl fl_10_272 dX10_keep_56 ?_
  obtain ⟨s59, e59, h⟩ := sf_ob h
  refine sf_iast (pc := 59) C nk_171 sh_171 e59 dX10_keep_59 ?_
  refine sf_aload_n (pc := 60) C 0 dX10_keep_60 rfl ?_
  refine sf_getr (pc := 61) C nk_149 sh_149 rfl fl_10_80 dX10_keep_61 ?_
  refine sf_iload_n (pc := 64) C 1 dX10_keep_64 rfl ?_
  refine sf_iconst (v := 1) (pc := 65) C dX10_keep_65 (by decide) ?_
  obtain ⟨s66, e66, h⟩ := sf_ob h
  refine sf_zast (pc := 66) C nk_172 sh_172 rfl e66 dX10_keep_66 ?_
  refine sf_aload_n (pc := 67) C 0 dX10_keep_67 rfl ?_
  refine sf_iconst (v := 0) (pc := 68) C dX10_keep_68 (by decide) ?_
  refine sf_put (pc := 69) C nk_149 sh_149 rfl fw_10_177 rfl rfl dX10_keep_69 ?_
  refine sf_iconst (v := 1) (pc := 72) C dX10_keep_72 (by decide) ?_
  exact sf_iretW (pc := 73) C dX10_keep_73 h
set_option maxHeartbeats 4000000 in
set_option maxRecDepth 100000 in
theorem w10_keep_b15 {X : sf_X} {V : sf_V} {r : Int32} {s' : sf_Sg} {k15 : sf_Sg → Int32 → Int32 → Option (Int32 × sf_Sg)} (C : sf_C X V cX10_keep 3 RX10 (some .int) 1) (hk15 : ∀  (s : sf_Sg) (x1 : Int32) (x2 : Int32), k15 s x1 x2 = some (r, s') → sf_G X V 3 (sf_Q X V (sf_Qi V r s')) s 15 [(0, .ref (V.2.1 149)), (1, .int x1), (2, .int x2)] []) {s : sf_Sg} {x1 : Int32} {x2 : Int32} (h : f10_keep_b15 k15 s x1 x2 = some (r, s')) : sf_G X V 3 (sf_Q X V (sf_Qi V r s')) s 15 [(0, .ref (V.2.1 149)), (1, .int x1), (2, .int x2)] [] := by
  unfold f10_keep_b15 at h
  refine sf_iload_n (pc := 15) C 2 dX10_keep_15 rfl ?_
  refine sf_bipush (v := 31) (pc := 16) C dX10_keep_16 (by decide) ?_
  refine sf_icmp_ge (tgt := 44) (pc := 18) C dX10_keep_18 rfl (fun c18 => ?_) (fun c18 => ?_)
  · replace h := (if_pos c18).symm.trans h
    refine sf_sub [0, 1] rfl ?_
    exact w10_keep_b44 C h
  · replace h := (if_neg c18).symm.trans h
    refine sf_aload_n (pc := 21) C 0 dX10_keep_21 rfl ?_
    refine sf_getr (pc := 22) C nk_149 sh_149 rfl fl_10_77 dX10_keep_22 ?_
    refine sf_bipush (v := 32) (pc := 25) C dX10_keep_25 (by decide) ?_
    refine sf_iload_n (pc := 27) C 1 dX10_keep_27 rfl ?_
    refine sf_imul (pc := 28) C dX10_keep_28 ?_
    refine sf_iload_n (pc := 29) C 2 dX10_keep_29 rfl ?_
    refine sf_iadd (pc := 30) C dX10_keep_30 ?_
    refine sf_aload_n (pc := 31) C 0 dX10_keep_31 rfl ?_
    refine sf_getr (pc := 32) C nk_149 sh_149 rfl fl_10_25 dX10_keep_32 ?_
    refine sf_iload_n (pc := 35) C 2 dX10_keep_35 rfl ?_
    obtain ⟨v36, e36, h⟩ := sf_ob h
    refine sf_iald (pc := 36) C nk_155 sh_155 e36 dX10_keep_36 ?_
    obtain ⟨s37, e37, h⟩ := sf_ob h
    refine sf_iast (pc := 37) C nk_171 sh_171 e37 dX10_keep_37 ?_
    refine sf_iinc (v := (x2 + 1)) (lv' := [(2, .int (x2 + 1)), (0, .ref (V.2.1 149)), (1, .int x1)]) (pc := 38) C 2 dX10_keep_38 rfl rfl (by decide) rfl ?_
    refine sf_goto (tgt := 15) (pc := 41) C dX10_keep_41 rfl ?_
    refine sf_sub [1, 2, 0] rfl ?_
    exact hk15 _ _ _ h
set_option maxHeartbeats 4000000 in
set_option maxRecDepth 100000 in
theorem w10_keep_L15 {X : sf_X} {V : sf_V} {r : Int32} {s' : sf_Sg} (C : sf_C X V cX10_keep 3 RX10 (some .int) 1) : ∀  (s : sf_Sg) (x1 : Int32) (x2 : Int32), f10_keep_L15 s x1 x2 = some (r, s') → sf_G X V 3 (sf_Q X V (sf_Qi V r s')) s 15 [(0, .ref (V.2.1 149)), (1, .int x1), (2, .int x2)] [] :=
  sf_it_ind (fun (k : sf_Sg → Int32 → Int32 → Option (Int32 × sf_Sg)) => ∀  (s : sf_Sg) (x1 : Int32) (x2 : Int32), k s x1 x2 = some (r, s') → sf_G X V 3 (sf_Q X V (sf_Qi V r s')) s 15 [(0, .ref (V.2.1 149)), (1, .int x1), (2, .int x2)] []) _ _ (fun s x1 x2 h => by cases h) (fun k hk s x1 x2 h => w10_keep_b15 C hk h) _
set_option maxHeartbeats 4000000 in
set_option maxRecDepth 100000 in
theorem w10_keep_b0 {X : sf_X} {V : sf_V} {r : Int32} {s' : sf_Sg} (C : sf_C X V cX10_keep 3 RX10 (some .int) 1) {s : sf_Sg} {x1 : Int32} (h : f10_keep_b0 s x1 = some (r, s')) : sf_G X V 3 (sf_Q X V (sf_Qi V r s')) s 0 [(0, .ref (V.2.1 149)), (1, .int x1)] [] := by
  unfold f10_keep_b0 at h
  refine sf_iload_n (pc := 0) C 1 dX10_keep_0 rfl ?_
  refine sf_i2l (pc := 1) C dX10_keep_1 ?_
  refine sf_lconst (v := 0) (pc := 2) C dX10_keep_2 (by decide) ?_
  refine sf_lconst (v := 1) (pc := 3) C dX10_keep_3 (by decide) ?_
  refine sf_callSi (pc := 4) C (As := [.long x1.toInt64, .long (0 : Int64), .long (1 : Int64)]) yk_X10_in cl_10_91 (k10_in rfl) (by decide) rfl (Nat.le_of_ble_eq_true rfl) rfl dX10_keep_4 ?_
  refine sf_if_ne (tgt := 13) (pc := 7) C dX10_keep_7 rfl (fun c7 => ?_) (fun c7 => ?_)
  · replace h := (if_neg c7).symm.trans h
    refine sf_iconst (v := 0) (pc := 13) C dX10_keep_13 (by decide) ?_
    refine sf_istore_n (lv' := [(2, .int (0 : Int32)), (0, .ref (V.2.1 149)), (1, .int x1)]) (pc := 14) C dX10_keep_14 (by decide) rfl ?_
    refine sf_sub [1, 2, 0] rfl ?_
    exact w10_keep_L15 C _ _ _ h
  · replace h := (if_pos c7).symm.trans h
    refine sf_ldc (v := -1000000001) (pc := 10) C dX10_keep_10 tm_1069 ?_
    exact sf_iretW (pc := 12) C dX10_keep_12 h
set_option maxHeartbeats 4000000 in
set_option maxRecDepth 100000 in
theorem k10_keep {l : Launch} {V : sf_V} {s : sf_Sg} {x1 : Int32} {r : Int32} {s' : sf_Sg} (h : f10_keep s x1 = some (r, s')) : sf_M l V yX10_keep (.code yX10_keep cX10_keep 3 (some .int)) 1 [.ref (V.2.1 149), .int x1] s (sf_Qi V r s') := by
  refine sf_enter (by decide) (Nat.le_of_ble_eq_true rfl) (fun X hX C => ?_)
  refine sf_sub [0, 1] rfl ?_
  exact w10_keep_b0 (show sf_C X V cX10_keep 3 RX10 (some .int) 1 from C)  h
set_option maxHeartbeats 4000000 in
set_option maxRecDepth 100000 in
theorem w10_goBack_b56 {X : sf_X} {V : sf_V} {r : Int32} {s' : sf_Sg} (C : sf_C X V cX10_goBack 3 RX10 (some .int) 1) {s : sf_Sg} {x1 : Int32} (h : f10_goBack_b56 s x1 = some (r, s')) : sf_G X V 3 (sf_Q X V (sf_Qi V r s')) s 56 [(0, .ref (V.2.1 149)), (1, .int x1)] [] := by
  unfold f10_goBack_b56 at h
  refine sf_aload_n (pc := 56) C 0 dX10_goBack_56 rfl ?_
  refine sf_aload_n (pc := 57) C 0 dX10_goBack_57 rfl ?_
  refine sf_getr (pc := 58) C nk_149 sh_149 rfl fl_10_77 dX10_goBack_58 ?_
  refine sf_bipush (v := 32) (pc := 61) C dX10_goBack_61 (by decide) ?_
  refine sf_iload_n (pc := 63) C 1 dX10_goBack_63 rfl ?_
  refine sf_imul (pc := 64) C dX10_goBack_64 ?_
  refine sf_bipush (v := 31) (pc := 65) C dX10_goBack_65 (by decide) ?_
  refine sf_iadd (pc := 67) C dX10_goBack_67 ?_
  obtain ⟨v68, e68, h⟩ := sf_ob h
  refine sf_iald (pc := 68) C nk_171 sh_171 e68 dX10_goBack_68 ?_
  refine sf_put (pc := 69) C nk_149 sh_149 rfl fw_10_272 rfl rfl dX10_goBack_69 ?_
  refine sf_aload_n (pc := 72) C 0 dX10_goBack_72 rfl ?_
  refine sf_iconst (v := 0) (pc := 73) C dX10_goBack_73 (by decide) ?_
  refine sf_put (pc := 74) C nk_149 sh_149 rfl fw_10_177 rfl rfl dX10_goBack_74 ?_
  refine sf_iconst (v := 1) (pc := 77) C dX10_goBack_77 (by decide) ?_
  exact sf_iretW (pc := 78) C dX10_goBack_78 h
set_option maxHeartbeats 4000000 in
set_option maxRecDepth 100000 in
theorem w10_goBack_b27 {X : sf_X} {V : sf_V} {r : Int32} {s' : sf_Sg} {k27 : sf_Sg → Int32 → Int32 → Option (Int32 × sf_Sg)} (C : sf_C X V cX10_goBack 3 RX10 (some .int) 1) (hk27 : ∀  (s : sf_Sg) (x1 : Int32) (x2 : Int32), k27 s x1 x2 = some (r, s') → sf_G X V 3 (sf_Q X V (sf_Qi V r s')) s 27 [(0, .ref (V.2.1 149)), (1, .int x1), (2, .int x2)] []) {s : sf_Sg} {x1 : Int32} {x2 : Int32} (h : f10_goBack_b27 k27 s x1 x2 = some (r, s')) : sf_G X V 3 (sf_Q X V (sf_Qi V r s')) s 27 [(0, .ref (V.2.1 149)), (1, .int x1), (2, .int x2)] [] := by
  unfold f10_goBack_b27 at h
  refine sf_iload_n (pc := 27) C 2 dX10_goBack_27 rfl ?_
  refine sf_bipush (v := 31) (pc := 28) C dX10_goBack_28 (by decide) ?_
  refine sf_icmp_ge (tgt := 56) (pc := 30) C dX10_goBack_30 rfl (fun c30 => ?_) (fun c30 => ?_)
  · replace h := (if_pos c30).symm.trans h
    refine sf_sub [0, 1] rfl ?_
    exact w10_goBack_b56 C h
  · replace h := (if_neg c30).symm.trans h
    refine sf_aload_n (pc := 33) C 0 dX10_goBack_33 rfl ?_
    refine sf_getr (pc := 34) C nk_149 sh_149 rfl fl_10_25 dX10_goBack_34 ?_
    refine sf_iload_n (pc := 37) C 2 dX10_goBack_37 rfl ?_
    refine sf_aload_n (pc := 38) C 0 dX10_goBack_38 rfl ?_
    refine sf_getr (pc := 39) C nk_149 sh_149 rfl fl_10_77 dX10_goBack_39 ?_
    refine sf_bipush (v := 32) (pc := 42) C dX10_goBack_42 (by decide) ?_
    refine sf_iload_n (pc := 44) C 1 dX10_goBack_44 rfl ?_
    refine sf_imul (pc := 45) C dX10_goBack_45 ?_
    refine sf_iload_n (pc := 46) C 2 dX10_goBack_46 rfl ?_
    refine sf_iadd (pc := 47) C dX10_goBack_47 ?_
    obtain ⟨v48, e48, h⟩ := sf_ob h
    refine sf_iald (pc := 48) C nk_171 sh_171 e48 dX10_goBack_48 ?_
    obtain ⟨s49, e49, h⟩ := sf_ob h
    refine sf_iast (pc := 49) C nk_155 sh_155 e49 dX10_goBack_49 ?_
    refine sf_iinc (v := (x2 + 1)) (lv' := [(2, .int (x2 + 1)), (0, .ref (V.2.1 149)), (1, .int x1)]) (pc := 50) C 2 dX10_goBack_50 rfl rfl (by decide) rfl ?_
    refine sf_goto (tgt := 27) (pc := 53) C dX10_goBack_53 rfl ?_
    refine sf_sub [1, 2, 0] rfl ?_
    exact hk27 _ _ _ h
set_option maxHeartbeats 4000000 in
set_option maxRecDepth 100000 in
theorem w10_goBack_L27 {X : sf_X} {V : sf_V} {r : Int32} {s' : sf_Sg} (C : sf_C X V cX10_goBack 3 RX10 (some .int) 1) : ∀  (s : sf_Sg) (x1 : Int32) (x2 : Int32), f10_goBack_L27 s x1 x2 = some (r, s') → sf_G X V 3 (sf_Q X V (sf_Qi V r s')) s 27 [(0, .ref (V.2.1 149)), (1, .int x1), (2, .int x2)] [] :=
  sf_it_ind (fun (k : sf_Sg → Int32 → Int32 → Option (Int32 × sf_Sg)) => ∀  (s : sf_Sg) (x1 : Int32) (x2 : Int32), k s x1 x2 = some (r, s') → sf_G X V 3 (sf_Q X V (sf_Qi V r s')) s 27 [(0, .ref (V.2.1 149)), (1, .int x1), (2, .int x2)] []) _ _ (fun s x1 x2 h => by cases h) (fun k hk s x1 x2 h => w10_goBack_b27 C hk h) _
set_option maxHeartbeats 4000000 in
set_option maxRecDepth 100000 in
theorem w10_goBack_b0 {X : sf_X} {V : sf_V} {r : Int32} {s' : sf_Sg} (C : sf_C X V cX10_goBack 3 RX10 (some .int) 1) {s : sf_Sg} {x1 : Int32} (h : f10_goBack_b0 s x1 = some (r, s')) : sf_G X V 3 (sf_Q X V (sf_Qi V r s')) s 0 [(0, .ref (V.2.1 149)), (1, .int x1)] [] := by
  unfold f10_goBack_b0 at h
  refine sf_iload_n (pc := 0) C 1 dX10_goBack_0 rfl ?_
  refine sf_i2l (pc := 1) C dX10_goBack_1 ?_
  refine sf_lconst (v := 0) (pc := 2) C dX10_goBack_2 (by decide) ?_
  refine sf_lconst (v := 1) (pc := 3) C dX10_goBack_3 (by decide) ?_
  refine sf_callSi (pc := 4) C (As := [.long x1.toInt64, .long (0 : Int64), .long (1 : Int64)]) yk_X10_in cl_10_91 (k10_in rfl) (by decide) rfl (Nat.le_of_ble_eq_true rfl) rfl dX10_goBack_4 ?_
  refine sf_if_ne (tgt := 13) (pc := 7) C dX10_goBack_7 rfl (fun c7 => ?_) (fun c7 => ?_)
  · replace h := (if_neg c7).symm.trans h
    refine sf_aload_n (pc := 13) C 0 dX10_goBack_13 rfl ?_
    refine sf_getr (pc := 14) C nk_149 sh_149 rfl fl_10_80 dX10_goBack_14 ?_
    refine sf_iload_n (pc := 17) C 1 dX10_goBack_17 rfl ?_
    obtain ⟨v18, e18, h⟩ := sf_ob h
    refine sf_zald (pc := 18) C nk_172 sh_172 e18 dX10_goBack_18 ?_
    refine sf_if_ne (tgt := 25) (pc := 19) C dX10_goBack_19 rfl (fun c19 => ?_) (fun c19 => ?_)
    · replace h := (if_neg c19).symm.trans h
      refine sf_iconst (v := 0) (pc := 25) C dX10_goBack_25 (by decide) ?_
      refine sf_istore_n (lv' := [(2, .int (0 : Int32)), (0, .ref (V.2.1 149)), (1, .int x1)]) (pc := 26) C dX10_goBack_26 (by decide) rfl ?_
      refine sf_sub [1, 2, 0] rfl ?_
      exact w10_goBack_L27 C _ _ _ h
    · replace h := (if_pos c19).symm.trans h
      refine sf_ldc (v := -1000000003) (pc := 22) C dX10_goBack_22 tm_1099 ?_
      exact sf_iretW (pc := 24) C dX10_goBack_24 h
  · replace h := (if_pos c7).symm.trans h
    refine sf_ldc (v := -1000000001) (pc := 10) C dX10_goBack_10 tm_1069 ?_
    exact sf_iretW (pc := 12) C dX10_goBack_12 h
set_option maxHeartbeats 4000000 in
set_option maxRecDepth 100000 in
theorem k10_goBack {l : Launch} {V : sf_V} {s : sf_Sg} {x1 : Int32} {r : Int32} {s' : sf_Sg} (h : f10_goBack s x1 = some (r, s')) : sf_M l V yX10_goBack (.code yX10_goBack cX10_goBack 3 (some .int)) 1 [.ref (V.2.1 149), .int x1] s (sf_Qi V r s') := by
  refine sf_enter (by decide) (Nat.le_of_ble_eq_true rfl) (fun X hX C => ?_)
  refine sf_sub [0, 1] rfl ?_
  exact w10_goBack_b0 (show sf_C X V cX10_goBack 3 RX10 (some .int) 1 from C)  h
