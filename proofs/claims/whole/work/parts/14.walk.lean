set_option maxHeartbeats 4000000 in
set_option maxRecDepth 100000 in
theorem w10_feed_b0 {X : sf_X} {V : sf_V} {r : Int32} {s' : sf_Sg} (C : sf_C X V cX10_feed 2 RX10 (some .int) 1) {s : sf_Sg} {x1 : Int32} (h : f10_feed_b0 s x1 = some (r, s')) : sf_G X V 2 (sf_Q X V (sf_Qi V r s')) s 0 [(0, .ref (V.2.1 149)), (1, .int x1)] [] := by
  unfold f10_feed_b0 at h
  refine sf_iload_n (pc := 0) C 1 dX10_feed_0 rfl ?_
  refine sf_i2l (pc := 1) C dX10_feed_1 ?_
  refine sf_lconst (v := 0) (pc := 2) C dX10_feed_2 (by decide) ?_
  refine sf_ldc2 (v := 255) (pc := 3) C dX10_feed_3 tm_936 ?_
  refine sf_callSi (pc := 6) C (As := [.long x1.toInt64, .long (0 : Int64), .long (255 : Int64)]) yk_X10_in cl_10_91 (k10_in rfl) (by decide) rfl (Nat.le_of_ble_eq_true rfl) rfl dX10_feed_6 ?_
  refine sf_if_ne (tgt := 15) (pc := 9) C dX10_feed_9 rfl (fun c9 => ?_) (fun c9 => ?_)
  · replace h := (if_neg c9).symm.trans h
    refine sf_aload_n (pc := 15) C 0 dX10_feed_15 rfl ?_
    refine sf_get (pc := 16) C nk_149 sh_149 rfl fl_10_101 dX10_feed_16 ?_
    refine sf_sipush (v := 240) (pc := 19) C dX10_feed_19 (by decide) ?_
    refine sf_icmp_ne (tgt := 28) (pc := 22) C dX10_feed_22 rfl (fun c22 => ?_) (fun c22 => ?_)
    · replace h := (if_neg c22).symm.trans h
      refine sf_aload_n (pc := 28) C 0 dX10_feed_28 rfl ?_
      refine sf_getr (pc := 29) C nk_149 sh_149 rfl fl_10_28 dX10_feed_29 ?_
      refine sf_aload_n (pc := 32) C 0 dX10_feed_32 rfl ?_
      refine sf_get (pc := 33) C nk_149 sh_149 rfl fl_10_101 dX10_feed_33 ?_
      refine sf_iload_n (pc := 36) C 1 dX10_feed_36 rfl ?_
      obtain ⟨s37, e37, h⟩ := sf_ob h
      refine sf_iast (pc := 37) C nk_156 sh_156 e37 dX10_feed_37 ?_
      refine sf_aload_n (pc := 38) C 0 dX10_feed_38 rfl ?_
      refine sf_dup (pc := 39) C dX10_feed_39 rfl ?_
      refine sf_get (pc := 40) C nk_149 sh_149 rfl fl_10_101 dX10_feed_40 ?_
      refine sf_iconst (v := 1) (pc := 43) C dX10_feed_43 (by decide) ?_
      refine sf_iadd (pc := 44) C dX10_feed_44 ?_
      refine sf_put (pc := 45) C nk_149 sh_149 rfl fw_10_101 rfl rfl dX10_feed_45 ?_
      refine sf_aload_n (pc := 48) C 0 dX10_feed_48 rfl ?_
      refine sf_get (pc := 49) C nk_149 sh_149 rfl fl_10_101 dX10_feed_49 ?_
      exact sf_iretW (pc := 52) C dX10_feed_52 h
    · replace h := (if_pos c22).symm.trans h
      refine sf_ldc (v := -1000000004) (pc := 25) C dX10_feed_25 tm_941 ?_
      exact sf_iretW (pc := 27) C dX10_feed_27 h
  · replace h := (if_pos c9).symm.trans h
    refine sf_ldc (v := -1000000002) (pc := 12) C dX10_feed_12 tm_940 ?_
    exact sf_iretW (pc := 14) C dX10_feed_14 h
set_option maxHeartbeats 4000000 in
set_option maxRecDepth 100000 in
theorem k10_feed {l : Launch} {V : sf_V} {s : sf_Sg} {x1 : Int32} {r : Int32} {s' : sf_Sg} (h : f10_feed s x1 = some (r, s')) : sf_M l V yX10_feed (.code yX10_feed cX10_feed 2 (some .int)) 1 [.ref (V.2.1 149), .int x1] s (sf_Qi V r s') := by
  refine sf_enter (by decide) (Nat.le_of_ble_eq_true rfl) (fun X hX C => ?_)
  refine sf_sub [0, 1] rfl ?_
  exact w10_feed_b0 (show sf_C X V cX10_feed 2 RX10 (some .int) 1 from C)  h
set_option maxHeartbeats 4000000 in
set_option maxRecDepth 100000 in
theorem w10_here_b38 {X : sf_X} {V : sf_V} {r : Int32} {s' : sf_Sg} (C : sf_C X V cX10_here 1 RX10 (some .int) 0) {s : sf_Sg} (h : f10_here_b38 s = some (r, s')) : sf_G X V 1 (sf_Q X V (sf_Qi V r s')) s 38 [(0, .ref (V.2.1 149))] [] := by
  unfold f10_here_b38 at h
  refine sf_aload_n (pc := 38) C 0 dX10_here_38 rfl ?_
  refine sf_get (pc := 39) C nk_149 sh_149 rfl fl_10_105 dX10_here_39 ?_
  refine sf_aload_n (pc := 42) C 0 dX10_here_42 rfl ?_
  refine sf_get (pc := 43) C nk_149 sh_149 rfl fl_10_101 dX10_here_43 ?_
  refine sf_icmp_ge (tgt := 61) (pc := 46) C dX10_here_46 rfl (fun c46 => ?_) (fun c46 => ?_)
  · replace h := (if_pos c46).symm.trans h
    refine sf_iconst (v := -1) (pc := 61) C dX10_here_61 (by decide) ?_
    exact sf_iretW (pc := 62) C dX10_here_62 h
  · replace h := (if_neg c46).symm.trans h
    refine sf_aload_n (pc := 49) C 0 dX10_here_49 rfl ?_
    refine sf_getr (pc := 50) C nk_149 sh_149 rfl fl_10_28 dX10_here_50 ?_
    refine sf_aload_n (pc := 53) C 0 dX10_here_53 rfl ?_
    refine sf_get (pc := 54) C nk_149 sh_149 rfl fl_10_105 dX10_here_54 ?_
    obtain ⟨v57, e57, h⟩ := sf_ob h
    refine sf_iald (pc := 57) C nk_156 sh_156 e57 dX10_here_57 ?_
    refine sf_goto (tgt := 62) (pc := 58) C dX10_here_58 rfl ?_
    exact sf_iretW (pc := 62) C dX10_here_62 h
set_option maxHeartbeats 4000000 in
set_option maxRecDepth 100000 in
theorem w10_here_b0 {X : sf_X} {V : sf_V} {r : Int32} {s' : sf_Sg} {k0 : sf_Sg → Option (Int32 × sf_Sg)} (C : sf_C X V cX10_here 1 RX10 (some .int) 0) (hk0 : ∀  (s : sf_Sg), k0 s = some (r, s') → sf_G X V 1 (sf_Q X V (sf_Qi V r s')) s 0 [(0, .ref (V.2.1 149))] []) {s : sf_Sg} (h : f10_here_b0 k0 s = some (r, s')) : sf_G X V 1 (sf_Q X V (sf_Qi V r s')) s 0 [(0, .ref (V.2.1 149))] [] := by
  unfold f10_here_b0 at h
  refine sf_aload_n (pc := 0) C 0 dX10_here_0 rfl ?_
  refine sf_get (pc := 1) C nk_149 sh_149 rfl fl_10_105 dX10_here_1 ?_
  refine sf_aload_n (pc := 4) C 0 dX10_here_4 rfl ?_
  refine sf_get (pc := 5) C nk_149 sh_149 rfl fl_10_101 dX10_here_5 ?_
  refine sf_icmp_ge (tgt := 38) (pc := 8) C dX10_here_8 rfl (fun c8 => ?_) (fun c8 => ?_)
  · replace h := (if_pos c8).symm.trans h
    exact w10_here_b38 C h
  · replace h := (if_neg c8).symm.trans h
    refine sf_aload_n (pc := 11) C 0 dX10_here_11 rfl ?_
    refine sf_getr (pc := 12) C nk_149 sh_149 rfl fl_10_28 dX10_here_12 ?_
    refine sf_aload_n (pc := 15) C 0 dX10_here_15 rfl ?_
    refine sf_get (pc := 16) C nk_149 sh_149 rfl fl_10_105 dX10_here_16 ?_
    obtain ⟨v19, e19, h⟩ := sf_ob h
    refine sf_iald (pc := 19) C nk_156 sh_156 e19 dX10_here_19 ?_
    refine sf_bipush (v := 32) (pc := 20) C dX10_here_20 (by decide) ?_
    refine sf_icmp_ne (tgt := 38) (pc := 22) C dX10_here_22 rfl (fun c22 => ?_) (fun c22 => ?_)
    · replace h := (if_neg c22).symm.trans h
      exact w10_here_b38 C h
    · replace h := (if_pos c22).symm.trans h
      refine sf_aload_n (pc := 25) C 0 dX10_here_25 rfl ?_
      refine sf_dup (pc := 26) C dX10_here_26 rfl ?_
      refine sf_get (pc := 27) C nk_149 sh_149 rfl fl_10_105 dX10_here_27 ?_
      refine sf_iconst (v := 1) (pc := 30) C dX10_here_30 (by decide) ?_
      refine sf_iadd (pc := 31) C dX10_here_31 ?_
      refine sf_put (pc := 32) C nk_149 sh_149 rfl fw_10_105 rfl rfl dX10_here_32 ?_
      refine sf_goto (tgt := 0) (pc := 35) C dX10_here_35 rfl ?_
      exact hk0 _ h
set_option maxHeartbeats 4000000 in
set_option maxRecDepth 100000 in
theorem w10_here_L0 {X : sf_X} {V : sf_V} {r : Int32} {s' : sf_Sg} (C : sf_C X V cX10_here 1 RX10 (some .int) 0) : ∀  (s : sf_Sg), f10_here_L0 s = some (r, s') → sf_G X V 1 (sf_Q X V (sf_Qi V r s')) s 0 [(0, .ref (V.2.1 149))] [] :=
  sf_it_ind (fun (k : sf_Sg → Option (Int32 × sf_Sg)) => ∀  (s : sf_Sg), k s = some (r, s') → sf_G X V 1 (sf_Q X V (sf_Qi V r s')) s 0 [(0, .ref (V.2.1 149))] []) _ _ (fun s h => by cases h) (fun k hk s h => w10_here_b0 C hk h) _
set_option maxHeartbeats 4000000 in
set_option maxRecDepth 100000 in
theorem k10_here {l : Launch} {V : sf_V} {s : sf_Sg} {r : Int32} {s' : sf_Sg} (h : f10_here s = some (r, s')) : sf_M l V yX10_here (.code yX10_here cX10_here 1 (some .int)) 0 [.ref (V.2.1 149)] s (sf_Qi V r s') := by
  refine sf_enter (by decide) (Nat.le_of_ble_eq_true rfl) (fun X hX C => ?_)
  refine sf_sub [0] rfl ?_
  exact w10_here_L0 (show sf_C X V cX10_here 1 RX10 (some .int) 0 from C) _ h
set_option maxHeartbeats 4000000 in
set_option maxRecDepth 100000 in
theorem w10_fails_b0 {X : sf_X} {V : sf_V} {r : Int32} {s' : sf_Sg} (C : sf_C X V cX10_fails 3 RX10 (some .int) 0) {s : sf_Sg} {x1 : Int32} {x2 : Int32} (h : f10_fails_b0 s x1 x2 = (r, s')) : sf_G X V 3 (sf_Q X V (sf_Qi V r s')) s 0 [(0, .ref (V.2.1 149)), (1, .int x1), (2, .int x2)] [] := by
  unfold f10_fails_b0 at h
  refine sf_aload_n (pc := 0) C 0 dX10_fails_0 rfl ?_
  refine sf_iload_n (pc := 1) C 2 dX10_fails_1 rfl ?_
  refine sf_put (pc := 2) C nk_149 sh_149 rfl fw_10_31 rfl rfl dX10_fails_2 ?_
  refine sf_iload_n (pc := 5) C 1 dX10_fails_5 rfl ?_
  exact sf_iretU (pc := 6) C dX10_fails_6 h
set_option maxHeartbeats 4000000 in
set_option maxRecDepth 100000 in
theorem k10_fails {l : Launch} {V : sf_V} {s : sf_Sg} {x1 : Int32} {x2 : Int32} {r : Int32} {s' : sf_Sg} (h : f10_fails s x1 x2 = (r, s')) : sf_M l V yX10_fails (.code yX10_fails cX10_fails 3 (some .int)) 0 [.ref (V.2.1 149), .int x1, .int x2] s (sf_Qi V r s') := by
  refine sf_enter (by decide) (Nat.le_of_ble_eq_true rfl) (fun X hX C => ?_)
  refine sf_sub [0, 1, 2] rfl ?_
  exact w10_fails_b0 (show sf_C X V cX10_fails 3 RX10 (some .int) 0 from C)  h
set_option maxHeartbeats 4000000 in
set_option maxRecDepth 100000 in
theorem w10_takeNumber_b113 {X : sf_X} {V : sf_V} {r : Int32} {s' : sf_Sg} {k42 : sf_Sg → Int32 → Int32 → Option (Int32 × sf_Sg)} (C : sf_C X V cX10_takeNumber 4 RX10 (some .int) 1) (hk42 : ∀  (s : sf_Sg) (x1 : Int32) (x2 : Int32), k42 s x1 x2 = some (r, s') → sf_G X V 4 (sf_Q X V (sf_Qi V r s')) s 42 [(0, .ref (V.2.1 149)), (1, .int x1), (2, .int x2)] []) {s : sf_Sg} {x1 : Int32} {x2 : Int32} {t1 : Int32} (h : f10_takeNumber_b113 k42 s x1 x2 t1 = some (r, s')) : sf_G X V 4 (sf_Q X V (sf_Qi V r s')) s 113 [(0, .ref (V.2.1 149)), (1, .int x1), (2, .int x2)] [.int t1, .ref (V.2.1 149)] := by
  unfold f10_takeNumber_b113 at h
  refine sf_put (pc := 113) C nk_149 sh_149 rfl fw_10_123 rfl rfl dX10_takeNumber_113 ?_
  refine sf_aload_n (pc := 116) C 0 dX10_takeNumber_116 rfl ?_
  refine sf_dup (pc := 117) C dX10_takeNumber_117 rfl ?_
  refine sf_get (pc := 118) C nk_149 sh_149 rfl fl_10_105 dX10_takeNumber_118 ?_
  refine sf_iconst (v := 1) (pc := 121) C dX10_takeNumber_121 (by decide) ?_
  refine sf_iadd (pc := 122) C dX10_takeNumber_122 ?_
  refine sf_put (pc := 123) C nk_149 sh_149 rfl fw_10_105 rfl rfl dX10_takeNumber_123 ?_
  refine sf_goto (tgt := 42) (pc := 126) C dX10_takeNumber_126 rfl ?_
  exact hk42 _ _ _ h
set_option maxHeartbeats 4000000 in
set_option maxRecDepth 100000 in
theorem w10_takeNumber_b157 {X : sf_X} {V : sf_V} {r : Int32} {s' : sf_Sg} (C : sf_C X V cX10_takeNumber 4 RX10 (some .int) 1) {s : sf_Sg} (h : f10_takeNumber_b157 s = some (r, s')) : sf_G X V 4 (sf_Q X V (sf_Qi V r s')) s 157 [(0, .ref (V.2.1 149))] [] := by
  unfold f10_takeNumber_b157 at h
  refine sf_aload_n (pc := 157) C 0 dX10_takeNumber_157 rfl ?_
  refine sf_iconst (v := 2) (pc := 158) C dX10_takeNumber_158 (by decide) ?_
  refine sf_aload_n (pc := 159) C 0 dX10_takeNumber_159 rfl ?_
  refine sf_get (pc := 160) C nk_149 sh_149 rfl fl_10_120 dX10_takeNumber_160 ?_
  refine sf_callVi (pc := 163) C (As := [.int (2 : Int32), .int (s 149 16)]) nk_149 sh_149 rfl yk_X10_fails cl_10_116 (k10_fails rfl) (by decide) rfl (Nat.le_of_ble_eq_true rfl) rfl dX10_takeNumber_163 ?_
  refine sf_goto (tgt := 170) (pc := 166) C dX10_takeNumber_166 rfl ?_
  exact sf_iretW (pc := 170) C dX10_takeNumber_170 h
set_option maxHeartbeats 4000000 in
set_option maxRecDepth 100000 in
theorem w10_takeNumber_b129 {X : sf_X} {V : sf_V} {r : Int32} {s' : sf_Sg} (C : sf_C X V cX10_takeNumber 4 RX10 (some .int) 1) {s : sf_Sg} {x1 : Int32} {x2 : Int32} (h : f10_takeNumber_b129 s x1 x2 = some (r, s')) : sf_G X V 4 (sf_Q X V (sf_Qi V r s')) s 129 [(0, .ref (V.2.1 149)), (1, .int x1), (2, .int x2)] [] := by
  unfold f10_takeNumber_b129 at h
  refine sf_aload_n (pc := 129) C 0 dX10_takeNumber_129 rfl ?_
  refine sf_get (pc := 130) C nk_149 sh_149 rfl fl_10_105 dX10_takeNumber_130 ?_
  refine sf_aload_n (pc := 133) C 0 dX10_takeNumber_133 rfl ?_
  refine sf_get (pc := 134) C nk_149 sh_149 rfl fl_10_120 dX10_takeNumber_134 ?_
  refine sf_isub (pc := 137) C dX10_takeNumber_137 ?_
  refine sf_iconst (v := 3) (pc := 138) C dX10_takeNumber_138 (by decide) ?_
  refine sf_icmp_gt (tgt := 157) (pc := 139) C dX10_takeNumber_139 rfl (fun c139 => ?_) (fun c139 => ?_)
  · replace h := (if_pos c139).symm.trans h
    refine sf_sub [0] rfl ?_
    exact w10_takeNumber_b157 C h
  · replace h := (if_neg c139).symm.trans h
    refine sf_aload_n (pc := 142) C 0 dX10_takeNumber_142 rfl ?_
    refine sf_get (pc := 143) C nk_149 sh_149 rfl fl_10_123 dX10_takeNumber_143 ?_
    refine sf_i2l (pc := 146) C dX10_takeNumber_146 ?_
    refine sf_iload_n (pc := 147) C 1 dX10_takeNumber_147 rfl ?_
    refine sf_i2l (pc := 148) C dX10_takeNumber_148 ?_
    refine sf_iload_n (pc := 149) C 2 dX10_takeNumber_149 rfl ?_
    refine sf_i2l (pc := 150) C dX10_takeNumber_150 ?_
    refine sf_callSi (pc := 151) C (As := [.long (s 149 15).toInt64, .long x1.toInt64, .long x2.toInt64]) yk_X10_in cl_10_91 (k10_in rfl) (by decide) rfl (Nat.le_of_ble_eq_true rfl) rfl dX10_takeNumber_151 ?_
    refine sf_if_ne (tgt := 169) (pc := 154) C dX10_takeNumber_154 rfl (fun c154 => ?_) (fun c154 => ?_)
    · replace h := (if_neg c154).symm.trans h
      refine sf_iconst (v := 0) (pc := 169) C dX10_takeNumber_169 (by decide) ?_
      exact sf_iretW (pc := 170) C dX10_takeNumber_170 h
    · replace h := (if_pos c154).symm.trans h
      refine sf_sub [0] rfl ?_
      exact w10_takeNumber_b157 C h
set_option maxHeartbeats 4000000 in
set_option maxRecDepth 100000 in
theorem w10_takeNumber_b42 {X : sf_X} {V : sf_V} {r : Int32} {s' : sf_Sg} {k42 : sf_Sg → Int32 → Int32 → Option (Int32 × sf_Sg)} (C : sf_C X V cX10_takeNumber 4 RX10 (some .int) 1) (hk42 : ∀  (s : sf_Sg) (x1 : Int32) (x2 : Int32), k42 s x1 x2 = some (r, s') → sf_G X V 4 (sf_Q X V (sf_Qi V r s')) s 42 [(0, .ref (V.2.1 149)), (1, .int x1), (2, .int x2)] []) {s : sf_Sg} {x1 : Int32} {x2 : Int32} (h : f10_takeNumber_b42 k42 s x1 x2 = some (r, s')) : sf_G X V 4 (sf_Q X V (sf_Qi V r s')) s 42 [(0, .ref (V.2.1 149)), (1, .int x1), (2, .int x2)] [] := by
  unfold f10_takeNumber_b42 at h
  refine sf_aload_n (pc := 42) C 0 dX10_takeNumber_42 rfl ?_
  refine sf_get (pc := 43) C nk_149 sh_149 rfl fl_10_105 dX10_takeNumber_43 ?_
  refine sf_aload_n (pc := 46) C 0 dX10_takeNumber_46 rfl ?_
  refine sf_get (pc := 47) C nk_149 sh_149 rfl fl_10_101 dX10_takeNumber_47 ?_
  refine sf_icmp_ge (tgt := 129) (pc := 50) C dX10_takeNumber_50 rfl (fun c50 => ?_) (fun c50 => ?_)
  · replace h := (if_pos c50).symm.trans h
    exact w10_takeNumber_b129 C h
  · replace h := (if_neg c50).symm.trans h
    refine sf_aload_n (pc := 53) C 0 dX10_takeNumber_53 rfl ?_
    refine sf_getr (pc := 54) C nk_149 sh_149 rfl fl_10_28 dX10_takeNumber_54 ?_
    refine sf_aload_n (pc := 57) C 0 dX10_takeNumber_57 rfl ?_
    refine sf_get (pc := 58) C nk_149 sh_149 rfl fl_10_105 dX10_takeNumber_58 ?_
    obtain ⟨v61, e61, h⟩ := sf_ob h
    refine sf_iald (pc := 61) C nk_156 sh_156 e61 dX10_takeNumber_61 ?_
    refine sf_i2l (pc := 62) C dX10_takeNumber_62 ?_
    refine sf_ldc2 (v := 48) (pc := 63) C dX10_takeNumber_63 tm_966 ?_
    refine sf_ldc2 (v := 57) (pc := 66) C dX10_takeNumber_66 tm_967 ?_
    refine sf_callSi (pc := 69) C (As := [.long v61.toInt64, .long (48 : Int64), .long (57 : Int64)]) yk_X10_in cl_10_91 (k10_in rfl) (by decide) rfl (Nat.le_of_ble_eq_true rfl) rfl dX10_takeNumber_69 ?_
    refine sf_if_eq (tgt := 129) (pc := 72) C dX10_takeNumber_72 rfl (fun c72 => ?_) (fun c72 => ?_)
    · replace h := (if_pos c72).symm.trans h
      exact w10_takeNumber_b129 C h
    · replace h := (if_neg c72).symm.trans h
      refine sf_aload_n (pc := 75) C 0 dX10_takeNumber_75 rfl ?_
      refine sf_aload_n (pc := 76) C 0 dX10_takeNumber_76 rfl ?_
      refine sf_get (pc := 77) C nk_149 sh_149 rfl fl_10_123 dX10_takeNumber_77 ?_
      refine sf_sipush (v := 10000) (pc := 80) C dX10_takeNumber_80 (by decide) ?_
      refine sf_icmp_le (tgt := 93) (pc := 83) C dX10_takeNumber_83 rfl (fun c83 => ?_) (fun c83 => ?_)
      · replace h := (if_pos c83).symm.trans h
        refine sf_bipush (v := 10) (pc := 93) C dX10_takeNumber_93 (by decide) ?_
        refine sf_aload_n (pc := 95) C 0 dX10_takeNumber_95 rfl ?_
        refine sf_get (pc := 96) C nk_149 sh_149 rfl fl_10_123 dX10_takeNumber_96 ?_
        refine sf_imul (pc := 99) C dX10_takeNumber_99 ?_
        refine sf_aload_n (pc := 100) C 0 dX10_takeNumber_100 rfl ?_
        refine sf_getr (pc := 101) C nk_149 sh_149 rfl fl_10_28 dX10_takeNumber_101 ?_
        refine sf_aload_n (pc := 104) C 0 dX10_takeNumber_104 rfl ?_
        refine sf_get (pc := 105) C nk_149 sh_149 rfl fl_10_105 dX10_takeNumber_105 ?_
        obtain ⟨v108, e108, h⟩ := sf_ob h
        refine sf_iald (pc := 108) C nk_156 sh_156 e108 dX10_takeNumber_108 ?_
        refine sf_iadd (pc := 109) C dX10_takeNumber_109 ?_
        refine sf_bipush (v := 48) (pc := 110) C dX10_takeNumber_110 (by decide) ?_
        refine sf_isub (pc := 112) C dX10_takeNumber_112 ?_
        exact w10_takeNumber_b113 C hk42 h
      · replace h := (if_neg c83).symm.trans h
        refine sf_aload_n (pc := 86) C 0 dX10_takeNumber_86 rfl ?_
        refine sf_get (pc := 87) C nk_149 sh_149 rfl fl_10_123 dX10_takeNumber_87 ?_
        refine sf_goto (tgt := 113) (pc := 90) C dX10_takeNumber_90 rfl ?_
        exact w10_takeNumber_b113 C hk42 h
set_option maxHeartbeats 4000000 in
set_option maxRecDepth 100000 in
theorem w10_takeNumber_L42 {X : sf_X} {V : sf_V} {r : Int32} {s' : sf_Sg} (C : sf_C X V cX10_takeNumber 4 RX10 (some .int) 1) : ∀  (s : sf_Sg) (x1 : Int32) (x2 : Int32), f10_takeNumber_L42 s x1 x2 = some (r, s') → sf_G X V 4 (sf_Q X V (sf_Qi V r s')) s 42 [(0, .ref (V.2.1 149)), (1, .int x1), (2, .int x2)] [] :=
  sf_it_ind (fun (k : sf_Sg → Int32 → Int32 → Option (Int32 × sf_Sg)) => ∀  (s : sf_Sg) (x1 : Int32) (x2 : Int32), k s x1 x2 = some (r, s') → sf_G X V 4 (sf_Q X V (sf_Qi V r s')) s 42 [(0, .ref (V.2.1 149)), (1, .int x1), (2, .int x2)] []) _ _ (fun s x1 x2 h => by cases h) (fun k hk s x1 x2 h => w10_takeNumber_b42 C hk h) _
set_option maxHeartbeats 4000000 in
set_option maxRecDepth 100000 in
theorem w10_takeNumber_b0 {X : sf_X} {V : sf_V} {r : Int32} {s' : sf_Sg} (C : sf_C X V cX10_takeNumber 4 RX10 (some .int) 1) {s : sf_Sg} {x1 : Int32} {x2 : Int32} (h : f10_takeNumber_b0 s x1 x2 = some (r, s')) : sf_G X V 4 (sf_Q X V (sf_Qi V r s')) s 0 [(0, .ref (V.2.1 149)), (1, .int x1), (2, .int x2)] [] := by
  unfold f10_takeNumber_b0 at h
  refine sf_aload_n (pc := 0) C 0 dX10_takeNumber_0 rfl ?_
  obtain ⟨q1, e1, h⟩ := sf_ob h
  refine sf_callVi (pc := 1) C (As := []) nk_149 sh_149 rfl yk_X10_here cl_10_108 (k10_here e1) (by decide) rfl (Nat.le_of_ble_eq_true rfl) rfl dX10_takeNumber_1 ?_
  refine sf_istore_n (lv' := [(3, .int q1.1), (0, .ref (V.2.1 149)), (1, .int x1), (2, .int x2)]) (pc := 4) C dX10_takeNumber_4 (by decide) rfl ?_
  refine sf_iload_n (pc := 5) C 0 dX10_takeNumber_5 rfl ?_
  refine sf_i2l (pc := 6) C dX10_takeNumber_6 ?_
  refine sf_ldc2 (v := 48) (pc := 7) C dX10_takeNumber_7 tm_966 ?_
  refine sf_ldc2 (v := 57) (pc := 10) C dX10_takeNumber_10 tm_967 ?_
  refine sf_callSi (pc := 13) C (As := [.long q1.1.toInt64, .long (48 : Int64), .long (57 : Int64)]) yk_X10_in cl_10_91 (k10_in rfl) (by decide) rfl (Nat.le_of_ble_eq_true rfl) rfl dX10_takeNumber_13 ?_
  refine sf_if_ne (tgt := 29) (pc := 16) C dX10_takeNumber_16 rfl (fun c16 => ?_) (fun c16 => ?_)
  · replace h := (if_neg c16).symm.trans h
    refine sf_aload_n (pc := 29) C 1 dX10_takeNumber_29 rfl ?_
    refine sf_aload_n (pc := 30) C 1 dX10_takeNumber_30 rfl ?_
    refine sf_get (pc := 31) C nk_149 sh_149 rfl fl_10_105 dX10_takeNumber_31 ?_
    refine sf_put (pc := 34) C nk_149 sh_149 rfl fw_10_120 rfl rfl dX10_takeNumber_34 ?_
    refine sf_aload_n (pc := 37) C 1 dX10_takeNumber_37 rfl ?_
    refine sf_iconst (v := 0) (pc := 38) C dX10_takeNumber_38 (by decide) ?_
    refine sf_put (pc := 39) C nk_149 sh_149 rfl fw_10_123 rfl rfl dX10_takeNumber_39 ?_
    refine sf_sub [1, 2, 3] rfl ?_
    exact w10_takeNumber_L42 C _ _ _ h
  · replace h := (if_pos c16).symm.trans h
    refine sf_aload_n (pc := 19) C 1 dX10_takeNumber_19 rfl ?_
    refine sf_iconst (v := 1) (pc := 20) C dX10_takeNumber_20 (by decide) ?_
    refine sf_aload_n (pc := 21) C 1 dX10_takeNumber_21 rfl ?_
    refine sf_get (pc := 22) C nk_149 sh_149 rfl fl_10_105 dX10_takeNumber_22 ?_
    refine sf_callVi (pc := 25) C (As := [.int (1 : Int32), .int (q1.2 149 14)]) nk_149 sh_149 rfl yk_X10_fails cl_10_116 (k10_fails rfl) (by decide) rfl (Nat.le_of_ble_eq_true rfl) rfl dX10_takeNumber_25 ?_
    exact sf_iretW (pc := 28) C dX10_takeNumber_28 h
set_option maxHeartbeats 4000000 in
set_option maxRecDepth 100000 in
theorem k10_takeNumber {l : Launch} {V : sf_V} {s : sf_Sg} {x1 : Int32} {x2 : Int32} {r : Int32} {s' : sf_Sg} (h : f10_takeNumber s x1 x2 = some (r, s')) : sf_M l V yX10_takeNumber (.code yX10_takeNumber cX10_takeNumber 4 (some .int)) 1 [.ref (V.2.1 149), .int x1, .int x2] s (sf_Qi V r s') := by
  refine sf_enter (by decide) (Nat.le_of_ble_eq_true rfl) (fun X hX C => ?_)
  refine sf_sub [0, 1, 2] rfl ?_
  exact w10_takeNumber_b0 (show sf_C X V cX10_takeNumber 4 RX10 (some .int) 1 from C)  h
set_option maxHeartbeats 4000000 in
set_option maxRecDepth 100000 in
theorem w10_into_b0 {X : sf_X} {V : sf_V} {a1 : Nat} {n1 : Nat} (h1 : sf_isA a1 n1) {r : Int32} {s' : sf_Sg} (C : sf_C X V cX10_into 6 RX10 (some .int) 2) {s : sf_Sg} {x2 : Int32} {x3 : Int32} {x4 : Int32} (h : f10_into_b0 a1 n1 s x2 x3 x4 = some (r, s')) : sf_G X V 6 (sf_Q X V (sf_Qi V r s')) s 0 [(0, .ref (V.2.1 149)), (1, .ref (V.2.1 a1)), (2, .int x2), (3, .int x3), (4, .int x4)] [] := by
  unfold f10_into_b0 at h
  refine sf_aload_n (pc := 0) C 0 dX10_into_0 rfl ?_
  refine sf_iload_n (pc := 1) C 3 dX10_into_1 rfl ?_
  refine sf_iload (pc := 2) C 4 dX10_into_2 rfl ?_
  obtain ⟨q4, e4, h⟩ := sf_ob h
  refine sf_callVi (pc := 4) C (As := [.int x3, .int x4]) nk_149 sh_149 rfl yk_X10_takeNumber cl_10_126 (k10_takeNumber e4) (by decide) rfl (Nat.le_of_ble_eq_true rfl) rfl dX10_into_4 ?_
  refine sf_istore (lv' := [(5, .int q4.1), (0, .ref (V.2.1 149)), (1, .ref (V.2.1 a1)), (2, .int x2), (3, .int x3), (4, .int x4)]) (pc := 7) C dX10_into_7 (by decide) rfl ?_
  refine sf_aload_n (pc := 9) C 2 dX10_into_9 rfl ?_
  refine sf_iload_n (pc := 10) C 3 dX10_into_10 rfl ?_
  refine sf_aload_n (pc := 11) C 1 dX10_into_11 rfl ?_
  refine sf_get (pc := 12) C nk_149 sh_149 rfl fl_10_123 dX10_into_12 ?_
  obtain ⟨s15, e15, h⟩ := sf_ob h
  refine sf_iast (pc := 15) C h1.1 h1.2 e15 dX10_into_15 ?_
  refine sf_iload (pc := 16) C 0 dX10_into_16 rfl ?_
  exact sf_iretW (pc := 18) C dX10_into_18 h
set_option maxHeartbeats 4000000 in
set_option maxRecDepth 100000 in
theorem k10_into {l : Launch} {V : sf_V} {a1 : Nat} {n1 : Nat} (h1 : sf_isA a1 n1) {s : sf_Sg} {x2 : Int32} {x3 : Int32} {x4 : Int32} {r : Int32} {s' : sf_Sg} (h : f10_into a1 n1 s x2 x3 x4 = some (r, s')) : sf_M l V yX10_into (.code yX10_into cX10_into 6 (some .int)) 2 [.ref (V.2.1 149), .ref (V.2.1 a1), .int x2, .int x3, .int x4] s (sf_Qi V r s') := by
  refine sf_enter (by decide) (Nat.le_of_ble_eq_true rfl) (fun X hX C => ?_)
  refine sf_sub [0, 1, 2, 3, 4] rfl ?_
  exact w10_into_b0 h1 (show sf_C X V cX10_into 6 RX10 (some .int) 2 from C)  h
set_option maxHeartbeats 4000000 in
set_option maxRecDepth 100000 in
theorem w10_takeShop_b0 {X : sf_X} {V : sf_V} {r : Int32} {s' : sf_Sg} (C : sf_C X V cX10_takeShop 2 RX10 (some .int) 2) {s : sf_Sg} (h : f10_takeShop_b0 s = some (r, s')) : sf_G X V 2 (sf_Q X V (sf_Qi V r s')) s 0 [(0, .ref (V.2.1 149))] [] := by
  unfold f10_takeShop_b0 at h
  refine sf_aload_n (pc := 0) C 0 dX10_takeShop_0 rfl ?_
  refine sf_iconst (v := 1) (pc := 1) C dX10_takeShop_1 (by decide) ?_
  refine sf_put (pc := 2) C nk_149 sh_149 rfl fw_10_129 rfl rfl dX10_takeShop_2 ?_
  refine sf_aload_n (pc := 5) C 0 dX10_takeShop_5 rfl ?_
  refine sf_iconst (v := 0) (pc := 6) C dX10_takeShop_6 (by decide) ?_
  refine sf_bipush (v := 99) (pc := 7) C dX10_takeShop_7 (by decide) ?_
  obtain ⟨q9, e9, h⟩ := sf_ob h
  refine sf_callVi (pc := 9) C (As := [.int (0 : Int32), .int (99 : Int32)]) nk_149 sh_149 rfl yk_X10_takeNumber cl_10_126 (k10_takeNumber e9) (by decide) rfl (Nat.le_of_ble_eq_true rfl) rfl dX10_takeShop_9 ?_
  refine sf_istore_n (lv' := [(1, .int q9.1), (0, .ref (V.2.1 149))]) (pc := 12) C dX10_takeShop_12 (by decide) rfl ?_
  refine sf_aload_n (pc := 13) C 1 dX10_takeShop_13 rfl ?_
  refine sf_aload_n (pc := 14) C 1 dX10_takeShop_14 rfl ?_
  refine sf_get (pc := 15) C nk_149 sh_149 rfl fl_10_123 dX10_takeShop_15 ?_
  refine sf_put (pc := 18) C nk_149 sh_149 rfl fw_10_132 rfl rfl dX10_takeShop_18 ?_
  refine sf_iload_n (pc := 21) C 0 dX10_takeShop_21 rfl ?_
  exact sf_iretW (pc := 22) C dX10_takeShop_22 h
set_option maxHeartbeats 4000000 in
set_option maxRecDepth 100000 in
theorem k10_takeShop {l : Launch} {V : sf_V} {s : sf_Sg} {r : Int32} {s' : sf_Sg} (h : f10_takeShop s = some (r, s')) : sf_M l V yX10_takeShop (.code yX10_takeShop cX10_takeShop 2 (some .int)) 2 [.ref (V.2.1 149)] s (sf_Qi V r s') := by
  refine sf_enter (by decide) (Nat.le_of_ble_eq_true rfl) (fun X hX C => ?_)
  refine sf_sub [0] rfl ?_
  exact w10_takeShop_b0 (show sf_C X V cX10_takeShop 2 RX10 (some .int) 2 from C)  h
set_option maxHeartbeats 4000000 in
set_option maxRecDepth 100000 in
theorem w10_takeBurden_b47 {X : sf_X} {V : sf_V} {r : Int32} {s' : sf_Sg} (C : sf_C X V cX10_takeBurden 3 RX10 (some .int) 3) {s : sf_Sg} {x1 : Int32} {t0 : Int32} (h : f10_takeBurden_b47 s x1 t0 = some (r, s')) : sf_G X V 3 (sf_Q X V (sf_Qi V r s')) s 47 [(0, .ref (V.2.1 149)), (1, .int x1)] [.int t0] := by
  unfold f10_takeBurden_b47 at h
  refine sf_istore_n (lv' := [(2, .int t0), (0, .ref (V.2.1 149)), (1, .int x1)]) (pc := 47) C dX10_takeBurden_47 (by decide) rfl ?_
  refine sf_iload_n (pc := 48) C 0 dX10_takeBurden_48 rfl ?_
  refine sf_if_le (tgt := 56) (pc := 49) C dX10_takeBurden_49 rfl (fun c49 => ?_) (fun c49 => ?_)
  · replace h := (if_pos c49).symm.trans h
    refine sf_aload_n (pc := 56) C 1 dX10_takeBurden_56 rfl ?_
    refine sf_aload_n (pc := 57) C 1 dX10_takeBurden_57 rfl ?_
    refine sf_getr (pc := 58) C nk_149 sh_149 rfl fl_10_41 dX10_takeBurden_58 ?_
    refine sf_iload_n (pc := 61) C 2 dX10_takeBurden_61 rfl ?_
    refine sf_iconst (v := 0) (pc := 62) C dX10_takeBurden_62 (by decide) ?_
    refine sf_bipush (v := 20) (pc := 63) C dX10_takeBurden_63 (by decide) ?_
    obtain ⟨q65, e65, h⟩ := sf_ob h
    refine sf_callVi (pc := 65) C (As := [.ref (V.2.1 159), .int x1, .int (0 : Int32), .int (20 : Int32)]) nk_149 sh_149 rfl yk_X10_into cl_10_138 (k10_into ⟨nk_159, sh_159⟩ e65) (by decide) rfl (Nat.le_of_ble_eq_true rfl) rfl dX10_takeBurden_65 ?_
    exact sf_iretW (pc := 68) C dX10_takeBurden_68 h
  · replace h := (if_neg c49).symm.trans h
    refine sf_iload_n (pc := 52) C 0 dX10_takeBurden_52 rfl ?_
    refine sf_goto (tgt := 68) (pc := 53) C dX10_takeBurden_53 rfl ?_
    exact sf_iretW (pc := 68) C dX10_takeBurden_68 h
set_option maxHeartbeats 4000000 in
set_option maxRecDepth 100000 in
theorem w10_takeBurden_b0 {X : sf_X} {V : sf_V} {r : Int32} {s' : sf_Sg} (C : sf_C X V cX10_takeBurden 3 RX10 (some .int) 3) {s : sf_Sg} (h : f10_takeBurden_b0 s = some (r, s')) : sf_G X V 3 (sf_Q X V (sf_Qi V r s')) s 0 [(0, .ref (V.2.1 149))] [] := by
  unfold f10_takeBurden_b0 at h
  refine sf_aload_n (pc := 0) C 0 dX10_takeBurden_0 rfl ?_
  refine sf_get (pc := 1) C nk_149 sh_149 rfl fl_10_135 dX10_takeBurden_1 ?_
  refine sf_istore_n (lv' := [(1, .int (s 149 19)), (0, .ref (V.2.1 149))]) (pc := 4) C dX10_takeBurden_4 (by decide) rfl ?_
  refine sf_aload_n (pc := 5) C 1 dX10_takeBurden_5 rfl ?_
  refine sf_dup (pc := 6) C dX10_takeBurden_6 rfl ?_
  refine sf_get (pc := 7) C nk_149 sh_149 rfl fl_10_135 dX10_takeBurden_7 ?_
  refine sf_iconst (v := 1) (pc := 10) C dX10_takeBurden_10 (by decide) ?_
  refine sf_iadd (pc := 11) C dX10_takeBurden_11 ?_
  refine sf_put (pc := 12) C nk_149 sh_149 rfl fw_10_135 rfl rfl dX10_takeBurden_12 ?_
  refine sf_aload_n (pc := 15) C 1 dX10_takeBurden_15 rfl ?_
  refine sf_aload_n (pc := 16) C 1 dX10_takeBurden_16 rfl ?_
  refine sf_getr (pc := 17) C nk_149 sh_149 rfl fl_10_35 dX10_takeBurden_17 ?_
  refine sf_iload_n (pc := 20) C 0 dX10_takeBurden_20 rfl ?_
  refine sf_iconst (v := 0) (pc := 21) C dX10_takeBurden_21 (by decide) ?_
  refine sf_iconst (v := 4) (pc := 22) C dX10_takeBurden_22 (by decide) ?_
  obtain ⟨q23, e23, h⟩ := sf_ob h
  refine sf_callVi (pc := 23) C (As := [.ref (V.2.1 157), .int (s 149 19), .int (0 : Int32), .int (4 : Int32)]) nk_149 sh_149 rfl yk_X10_into cl_10_138 (k10_into ⟨nk_157, sh_157⟩ e23) (by decide) rfl (Nat.le_of_ble_eq_true rfl) rfl dX10_takeBurden_23 ?_
  refine sf_istore_n (lv' := [(2, .int q23.1), (1, .int (s 149 19)), (0, .ref (V.2.1 149))]) (pc := 26) C dX10_takeBurden_26 (by decide) rfl ?_
  refine sf_iload_n (pc := 27) C 0 dX10_takeBurden_27 rfl ?_
  refine sf_if_le (tgt := 35) (pc := 28) C dX10_takeBurden_28 rfl (fun c28 => ?_) (fun c28 => ?_)
  · replace h := (if_pos c28).symm.trans h
    refine sf_aload_n (pc := 35) C 2 dX10_takeBurden_35 rfl ?_
    refine sf_aload_n (pc := 36) C 2 dX10_takeBurden_36 rfl ?_
    refine sf_getr (pc := 37) C nk_149 sh_149 rfl fl_10_38 dX10_takeBurden_37 ?_
    refine sf_iload_n (pc := 40) C 1 dX10_takeBurden_40 rfl ?_
    refine sf_iconst (v := 1) (pc := 41) C dX10_takeBurden_41 (by decide) ?_
    refine sf_bipush (v := 60) (pc := 42) C dX10_takeBurden_42 (by decide) ?_
    obtain ⟨q44, e44, h⟩ := sf_ob h
    refine sf_callVi (pc := 44) C (As := [.ref (V.2.1 158), .int (s 149 19), .int (1 : Int32), .int (60 : Int32)]) nk_149 sh_149 rfl yk_X10_into cl_10_138 (k10_into ⟨nk_158, sh_158⟩ e44) (by decide) rfl (Nat.le_of_ble_eq_true rfl) rfl dX10_takeBurden_44 ?_
    refine sf_sub [2, 1] rfl ?_
    exact w10_takeBurden_b47 C h
  · replace h := (if_neg c28).symm.trans h
    refine sf_iload_n (pc := 31) C 0 dX10_takeBurden_31 rfl ?_
    refine sf_goto (tgt := 47) (pc := 32) C dX10_takeBurden_32 rfl ?_
    refine sf_sub [2, 1] rfl ?_
    exact w10_takeBurden_b47 C h
set_option maxHeartbeats 4000000 in
set_option maxRecDepth 100000 in
theorem k10_takeBurden {l : Launch} {V : sf_V} {s : sf_Sg} {r : Int32} {s' : sf_Sg} (h : f10_takeBurden s = some (r, s')) : sf_M l V yX10_takeBurden (.code yX10_takeBurden cX10_takeBurden 3 (some .int)) 3 [.ref (V.2.1 149)] s (sf_Qi V r s') := by
  refine sf_enter (by decide) (Nat.le_of_ble_eq_true rfl) (fun X hX C => ?_)
  refine sf_sub [0] rfl ?_
  exact w10_takeBurden_b0 (show sf_C X V cX10_takeBurden 3 RX10 (some .int) 3 from C)  h
set_option maxHeartbeats 4000000 in
set_option maxRecDepth 100000 in
theorem w10_takeBack_b0 {X : sf_X} {V : sf_V} {r : Int32} {s' : sf_Sg} (C : sf_C X V cX10_takeBack 3 RX10 (some .int) 3) {s : sf_Sg} (h : f10_takeBack_b0 s = some (r, s')) : sf_G X V 3 (sf_Q X V (sf_Qi V r s')) s 0 [(0, .ref (V.2.1 149))] [] := by
  unfold f10_takeBack_b0 at h
  refine sf_aload_n (pc := 0) C 0 dX10_takeBack_0 rfl ?_
  refine sf_get (pc := 1) C nk_149 sh_149 rfl fl_10_142 dX10_takeBack_1 ?_
  refine sf_istore_n (lv' := [(1, .int (s 149 23)), (0, .ref (V.2.1 149))]) (pc := 4) C dX10_takeBack_4 (by decide) rfl ?_
  refine sf_aload_n (pc := 5) C 1 dX10_takeBack_5 rfl ?_
  refine sf_dup (pc := 6) C dX10_takeBack_6 rfl ?_
  refine sf_get (pc := 7) C nk_149 sh_149 rfl fl_10_142 dX10_takeBack_7 ?_
  refine sf_iconst (v := 1) (pc := 10) C dX10_takeBack_10 (by decide) ?_
  refine sf_iadd (pc := 11) C dX10_takeBack_11 ?_
  refine sf_put (pc := 12) C nk_149 sh_149 rfl fw_10_142 rfl rfl dX10_takeBack_12 ?_
  refine sf_aload_n (pc := 15) C 1 dX10_takeBack_15 rfl ?_
  refine sf_aload_n (pc := 16) C 1 dX10_takeBack_16 rfl ?_
  refine sf_getr (pc := 17) C nk_149 sh_149 rfl fl_10_44 dX10_takeBack_17 ?_
  refine sf_iload_n (pc := 20) C 0 dX10_takeBack_20 rfl ?_
  refine sf_iconst (v := 1) (pc := 21) C dX10_takeBack_21 (by decide) ?_
  refine sf_bipush (v := 99) (pc := 22) C dX10_takeBack_22 (by decide) ?_
  obtain ⟨q24, e24, h⟩ := sf_ob h
  refine sf_callVi (pc := 24) C (As := [.ref (V.2.1 160), .int (s 149 23), .int (1 : Int32), .int (99 : Int32)]) nk_149 sh_149 rfl yk_X10_into cl_10_138 (k10_into ⟨nk_160, sh_160⟩ e24) (by decide) rfl (Nat.le_of_ble_eq_true rfl) rfl dX10_takeBack_24 ?_
  refine sf_istore_n (lv' := [(2, .int q24.1), (1, .int (s 149 23)), (0, .ref (V.2.1 149))]) (pc := 27) C dX10_takeBack_27 (by decide) rfl ?_
  refine sf_iload_n (pc := 28) C 0 dX10_takeBack_28 rfl ?_
  refine sf_if_le (tgt := 36) (pc := 29) C dX10_takeBack_29 rfl (fun c29 => ?_) (fun c29 => ?_)
  · replace h := (if_pos c29).symm.trans h
    refine sf_aload_n (pc := 36) C 2 dX10_takeBack_36 rfl ?_
    refine sf_aload_n (pc := 37) C 2 dX10_takeBack_37 rfl ?_
    refine sf_getr (pc := 38) C nk_149 sh_149 rfl fl_10_47 dX10_takeBack_38 ?_
    refine sf_iload_n (pc := 41) C 1 dX10_takeBack_41 rfl ?_
    refine sf_iconst (v := 0) (pc := 42) C dX10_takeBack_42 (by decide) ?_
    refine sf_bipush (v := 9) (pc := 43) C dX10_takeBack_43 (by decide) ?_
    obtain ⟨q45, e45, h⟩ := sf_ob h
    refine sf_callVi (pc := 45) C (As := [.ref (V.2.1 161), .int (s 149 23), .int (0 : Int32), .int (9 : Int32)]) nk_149 sh_149 rfl yk_X10_into cl_10_138 (k10_into ⟨nk_161, sh_161⟩ e45) (by decide) rfl (Nat.le_of_ble_eq_true rfl) rfl dX10_takeBack_45 ?_
    exact sf_iretW (pc := 48) C dX10_takeBack_48 h
  · replace h := (if_neg c29).symm.trans h
    refine sf_iload_n (pc := 32) C 0 dX10_takeBack_32 rfl ?_
    refine sf_goto (tgt := 48) (pc := 33) C dX10_takeBack_33 rfl ?_
    exact sf_iretW (pc := 48) C dX10_takeBack_48 h
set_option maxHeartbeats 4000000 in
set_option maxRecDepth 100000 in
theorem k10_takeBack {l : Launch} {V : sf_V} {s : sf_Sg} {r : Int32} {s' : sf_Sg} (h : f10_takeBack s = some (r, s')) : sf_M l V yX10_takeBack (.code yX10_takeBack cX10_takeBack 3 (some .int)) 3 [.ref (V.2.1 149)] s (sf_Qi V r s') := by
  refine sf_enter (by decide) (Nat.le_of_ble_eq_true rfl) (fun X hX C => ?_)
  refine sf_sub [0] rfl ?_
  exact w10_takeBack_b0 (show sf_C X V cX10_takeBack 3 RX10 (some .int) 3 from C)  h
set_option maxHeartbeats 4000000 in
set_option maxRecDepth 100000 in
theorem w10_takeClause_b52 {X : sf_X} {V : sf_V} {r : Int32} {s' : sf_Sg} (C : sf_C X V cX10_takeClause 5 RX10 (some .int) 4) {s : sf_Sg} (h : f10_takeClause_b52 s = some (r, s')) : sf_G X V 5 (sf_Q X V (sf_Qi V r s')) s 52 [(0, .ref (V.2.1 149))] [] := by
  unfold f10_takeClause_b52 at h
  refine sf_aload_n (pc := 52) C 0 dX10_takeClause_52 rfl ?_
  refine sf_iconst (v := 1) (pc := 53) C dX10_takeClause_53 (by decide) ?_
  refine sf_aload_n (pc := 54) C 0 dX10_takeClause_54 rfl ?_
  refine sf_get (pc := 55) C nk_149 sh_149 rfl fl_10_105 dX10_takeClause_55 ?_
  refine sf_callVi (pc := 58) C (As := [.int (1 : Int32), .int (s 149 14)]) nk_149 sh_149 rfl yk_X10_fails cl_10_116 (k10_fails rfl) (by decide) rfl (Nat.le_of_ble_eq_true rfl) rfl dX10_takeClause_58 ?_
  exact sf_iretW (pc := 61) C dX10_takeClause_61 h
set_option maxHeartbeats 4000000 in
set_option maxRecDepth 100000 in
theorem w10_takeClause_b186 {X : sf_X} {V : sf_V} {r : Int32} {s' : sf_Sg} (C : sf_C X V cX10_takeClause 5 RX10 (some .int) 4) {s : sf_Sg} {x4 : Int32} (h : f10_takeClause_b186 s x4 = some (r, s')) : sf_G X V 5 (sf_Q X V (sf_Qi V r s')) s 186 [(0, .ref (V.2.1 149)), (4, .int x4)] [] := by
  unfold f10_takeClause_b186 at h
  refine sf_aload_n (pc := 186) C 0 dX10_takeClause_186 rfl ?_
  refine sf_dup (pc := 187) C dX10_takeClause_187 rfl ?_
  refine sf_get (pc := 188) C nk_149 sh_149 rfl fl_10_105 dX10_takeClause_188 ?_
  refine sf_iconst (v := 1) (pc := 191) C dX10_takeClause_191 (by decide) ?_
  refine sf_iadd (pc := 192) C dX10_takeClause_192 ?_
  refine sf_put (pc := 193) C nk_149 sh_149 rfl fw_10_105 rfl rfl dX10_takeClause_193 ?_
  refine sf_iload (pc := 196) C 1 dX10_takeClause_196 rfl ?_
  exact sf_iretW (pc := 198) C dX10_takeClause_198 h
set_option maxHeartbeats 4000000 in
set_option maxRecDepth 100000 in
theorem w10_takeClause_b160 {X : sf_X} {V : sf_V} {r : Int32} {s' : sf_Sg} (C : sf_C X V cX10_takeClause 5 RX10 (some .int) 4) {s : sf_Sg} {t0 : Int32} (h : f10_takeClause_b160 s t0 = some (r, s')) : sf_G X V 5 (sf_Q X V (sf_Qi V r s')) s 160 [(0, .ref (V.2.1 149))] [.int t0] := by
  unfold f10_takeClause_b160 at h
  refine sf_istore (lv' := [(4, .int t0), (0, .ref (V.2.1 149))]) (pc := 160) C dX10_takeClause_160 (by decide) rfl ?_
  refine sf_iload (pc := 162) C 0 dX10_takeClause_162 rfl ?_
  refine sf_if_ne (tgt := 186) (pc := 164) C dX10_takeClause_164 rfl (fun c164 => ?_) (fun c164 => ?_)
  · replace h := (if_neg c164).symm.trans h
    refine sf_sub [1, 0] rfl ?_
    exact w10_takeClause_b186 C h
  · replace h := (if_pos c164).symm.trans h
    refine sf_aload_n (pc := 167) C 1 dX10_takeClause_167 rfl ?_
    obtain ⟨q168, e168, h⟩ := sf_ob h
    refine sf_callVi (pc := 168) C (As := []) nk_149 sh_149 rfl yk_X10_here cl_10_108 (k10_here e168) (by decide) rfl (Nat.le_of_ble_eq_true rfl) rfl dX10_takeClause_168 ?_
    refine sf_bipush (v := 59) (pc := 171) C dX10_takeClause_171 (by decide) ?_
    refine sf_icmp_eq (tgt := 186) (pc := 173) C dX10_takeClause_173 rfl (fun c173 => ?_) (fun c173 => ?_)
    · replace h := (if_pos c173).symm.trans h
      refine sf_sub [1, 0] rfl ?_
      exact w10_takeClause_b186 C h
    · replace h := (if_neg c173).symm.trans h
      refine sf_aload_n (pc := 176) C 1 dX10_takeClause_176 rfl ?_
      refine sf_iconst (v := 1) (pc := 177) C dX10_takeClause_177 (by decide) ?_
      refine sf_aload_n (pc := 178) C 1 dX10_takeClause_178 rfl ?_
      refine sf_get (pc := 179) C nk_149 sh_149 rfl fl_10_105 dX10_takeClause_179 ?_
      refine sf_callVi (pc := 182) C (As := [.int (1 : Int32), .int (q168.2 149 14)]) nk_149 sh_149 rfl yk_X10_fails cl_10_116 (k10_fails rfl) (by decide) rfl (Nat.le_of_ble_eq_true rfl) rfl dX10_takeClause_182 ?_
      exact sf_iretW (pc := 185) C dX10_takeClause_185 h
set_option maxHeartbeats 4000000 in
set_option maxRecDepth 100000 in
theorem w10_takeClause_b108 {X : sf_X} {V : sf_V} {r : Int32} {s' : sf_Sg} (C : sf_C X V cX10_takeClause 5 RX10 (some .int) 4) {s : sf_Sg} {x2 : Int32} {t0 : Int32} (h : f10_takeClause_b108 s x2 t0 = some (r, s')) : sf_G X V 5 (sf_Q X V (sf_Qi V r s')) s 108 [(0, .ref (V.2.1 149)), (2, .int x2)] [.int t0] := by
  unfold f10_takeClause_b108 at h
  refine sf_istore_n (lv' := [(3, .int t0), (0, .ref (V.2.1 149)), (2, .int x2)]) (pc := 108) C dX10_takeClause_108 (by decide) rfl ?_
  refine sf_iload_n (pc := 109) C 0 dX10_takeClause_109 rfl ?_
  refine sf_if_eq (tgt := 123) (pc := 110) C dX10_takeClause_110 rfl (fun c110 => ?_) (fun c110 => ?_)
  · replace h := (if_pos c110).symm.trans h
    refine sf_aload_n (pc := 123) C 1 dX10_takeClause_123 rfl ?_
    refine sf_dup (pc := 124) C dX10_takeClause_124 rfl ?_
    refine sf_get (pc := 125) C nk_149 sh_149 rfl fl_10_105 dX10_takeClause_125 ?_
    refine sf_iconst (v := 1) (pc := 128) C dX10_takeClause_128 (by decide) ?_
    refine sf_iadd (pc := 129) C dX10_takeClause_129 ?_
    refine sf_put (pc := 130) C nk_149 sh_149 rfl fw_10_105 rfl rfl dX10_takeClause_130 ?_
    refine sf_iload_n (pc := 133) C 2 dX10_takeClause_133 rfl ?_
    refine sf_if_ne (tgt := 144) (pc := 134) C dX10_takeClause_134 rfl (fun c134 => ?_) (fun c134 => ?_)
    · replace h := (if_neg c134).symm.trans h
      refine sf_iload_n (pc := 144) C 2 dX10_takeClause_144 rfl ?_
      refine sf_iconst (v := 1) (pc := 145) C dX10_takeClause_145 (by decide) ?_
      refine sf_icmp_ne (tgt := 156) (pc := 146) C dX10_takeClause_146 rfl (fun c146 => ?_) (fun c146 => ?_)
      · replace h := (if_neg c146).symm.trans h
        refine sf_aload_n (pc := 156) C 1 dX10_takeClause_156 rfl ?_
        obtain ⟨q157, e157, h⟩ := sf_ob h
        refine sf_callVi (pc := 157) C (As := []) nk_149 sh_149 rfl yk_X10_takeBack cl_10_151 (k10_takeBack e157) (by decide) rfl (Nat.le_of_ble_eq_true rfl) rfl dX10_takeClause_157 ?_
        refine sf_sub [1] rfl ?_
        exact w10_takeClause_b160 C h
      · replace h := (if_pos c146).symm.trans h
        refine sf_aload_n (pc := 149) C 1 dX10_takeClause_149 rfl ?_
        obtain ⟨q150, e150, h⟩ := sf_ob h
        refine sf_callVi (pc := 150) C (As := []) nk_149 sh_149 rfl yk_X10_takeBurden cl_10_148 (k10_takeBurden e150) (by decide) rfl (Nat.le_of_ble_eq_true rfl) rfl dX10_takeClause_150 ?_
        refine sf_goto (tgt := 160) (pc := 153) C dX10_takeClause_153 rfl ?_
        refine sf_sub [1] rfl ?_
        exact w10_takeClause_b160 C h
    · replace h := (if_pos c134).symm.trans h
      refine sf_aload_n (pc := 137) C 1 dX10_takeClause_137 rfl ?_
      obtain ⟨q138, e138, h⟩ := sf_ob h
      refine sf_callVi (pc := 138) C (As := []) nk_149 sh_149 rfl yk_X10_takeShop cl_10_145 (k10_takeShop e138) (by decide) rfl (Nat.le_of_ble_eq_true rfl) rfl dX10_takeClause_138 ?_
      refine sf_goto (tgt := 160) (pc := 141) C dX10_takeClause_141 rfl ?_
      refine sf_sub [1] rfl ?_
      exact w10_takeClause_b160 C h
  · replace h := (if_neg c110).symm.trans h
    refine sf_aload_n (pc := 113) C 1 dX10_takeClause_113 rfl ?_
    refine sf_iconst (v := 3) (pc := 114) C dX10_takeClause_114 (by decide) ?_
    refine sf_aload_n (pc := 115) C 1 dX10_takeClause_115 rfl ?_
    refine sf_get (pc := 116) C nk_149 sh_149 rfl fl_10_105 dX10_takeClause_116 ?_
    refine sf_callVi (pc := 119) C (As := [.int (3 : Int32), .int (s 149 14)]) nk_149 sh_149 rfl yk_X10_fails cl_10_116 (k10_fails rfl) (by decide) rfl (Nat.le_of_ble_eq_true rfl) rfl dX10_takeClause_119 ?_
    exact sf_iretW (pc := 122) C dX10_takeClause_122 h
set_option maxHeartbeats 4000000 in
set_option maxRecDepth 100000 in
theorem w10_takeClause_b62 {X : sf_X} {V : sf_V} {r : Int32} {s' : sf_Sg} (C : sf_C X V cX10_takeClause 5 RX10 (some .int) 4) {s : sf_Sg} {x2 : Int32} (h : f10_takeClause_b62 s x2 = some (r, s')) : sf_G X V 5 (sf_Q X V (sf_Qi V r s')) s 62 [(0, .ref (V.2.1 149)), (2, .int x2)] [] := by
  unfold f10_takeClause_b62 at h
  refine sf_iload_n (pc := 62) C 1 dX10_takeClause_62 rfl ?_
  refine sf_if_ne (tgt := 73) (pc := 63) C dX10_takeClause_63 rfl (fun c63 => ?_) (fun c63 => ?_)
  · replace h := (if_neg c63).symm.trans h
    refine sf_iload_n (pc := 73) C 1 dX10_takeClause_73 rfl ?_
    refine sf_iconst (v := 1) (pc := 74) C dX10_takeClause_74 (by decide) ?_
    refine sf_icmp_ne (tgt := 95) (pc := 75) C dX10_takeClause_75 rfl (fun c75 => ?_) (fun c75 => ?_)
    · replace h := (if_neg c75).symm.trans h
      refine sf_aload_n (pc := 95) C 0 dX10_takeClause_95 rfl ?_
      refine sf_get (pc := 96) C nk_149 sh_149 rfl fl_10_142 dX10_takeClause_96 ?_
      refine sf_iconst (v := 5) (pc := 99) C dX10_takeClause_99 (by decide) ?_
      refine sf_icmp_ne (tgt := 107) (pc := 100) C dX10_takeClause_100 rfl (fun c100 => ?_) (fun c100 => ?_)
      · replace h := (if_neg c100).symm.trans h
        refine sf_iconst (v := 0) (pc := 107) C dX10_takeClause_107 (by decide) ?_
        exact w10_takeClause_b108 C h
      · replace h := (if_pos c100).symm.trans h
        refine sf_iconst (v := 1) (pc := 103) C dX10_takeClause_103 (by decide) ?_
        refine sf_goto (tgt := 108) (pc := 104) C dX10_takeClause_104 rfl ?_
        exact w10_takeClause_b108 C h
    · replace h := (if_pos c75).symm.trans h
      refine sf_aload_n (pc := 78) C 0 dX10_takeClause_78 rfl ?_
      refine sf_get (pc := 79) C nk_149 sh_149 rfl fl_10_135 dX10_takeClause_79 ?_
      refine sf_bipush (v := 6) (pc := 82) C dX10_takeClause_82 (by decide) ?_
      refine sf_icmp_ne (tgt := 91) (pc := 84) C dX10_takeClause_84 rfl (fun c84 => ?_) (fun c84 => ?_)
      · replace h := (if_neg c84).symm.trans h
        refine sf_iconst (v := 0) (pc := 91) C dX10_takeClause_91 (by decide) ?_
        refine sf_goto (tgt := 108) (pc := 92) C dX10_takeClause_92 rfl ?_
        exact w10_takeClause_b108 C h
      · replace h := (if_pos c84).symm.trans h
        refine sf_iconst (v := 1) (pc := 87) C dX10_takeClause_87 (by decide) ?_
        refine sf_goto (tgt := 108) (pc := 88) C dX10_takeClause_88 rfl ?_
        exact w10_takeClause_b108 C h
  · replace h := (if_pos c63).symm.trans h
    refine sf_aload_n (pc := 66) C 0 dX10_takeClause_66 rfl ?_
    refine sf_get (pc := 67) C nk_149 sh_149 rfl fl_10_129 dX10_takeClause_67 ?_
    refine sf_goto (tgt := 108) (pc := 70) C dX10_takeClause_70 rfl ?_
    exact w10_takeClause_b108 C h
set_option maxHeartbeats 4000000 in
set_option maxRecDepth 100000 in
theorem w10_takeClause_b36 {X : sf_X} {V : sf_V} {r : Int32} {s' : sf_Sg} (C : sf_C X V cX10_takeClause 5 RX10 (some .int) 4) {s : sf_Sg} {t0 : Int32} (h : f10_takeClause_b36 s t0 = some (r, s')) : sf_G X V 5 (sf_Q X V (sf_Qi V r s')) s 36 [(0, .ref (V.2.1 149))] [.int t0] := by
  unfold f10_takeClause_b36 at h
  refine sf_istore_n (lv' := [(2, .int t0), (0, .ref (V.2.1 149))]) (pc := 36) C dX10_takeClause_36 (by decide) rfl ?_
  refine sf_iload_n (pc := 37) C 0 dX10_takeClause_37 rfl ?_
  refine sf_if_lt (tgt := 52) (pc := 38) C dX10_takeClause_38 rfl (fun c38 => ?_) (fun c38 => ?_)
  · replace h := (if_pos c38).symm.trans h
    refine sf_sub [1] rfl ?_
    exact w10_takeClause_b52 C h
  · replace h := (if_neg c38).symm.trans h
    refine sf_iload_n (pc := 41) C 0 dX10_takeClause_41 rfl ?_
    refine sf_if_le (tgt := 62) (pc := 42) C dX10_takeClause_42 rfl (fun c42 => ?_) (fun c42 => ?_)
    · replace h := (if_pos c42).symm.trans h
      refine sf_sub [1, 0] rfl ?_
      exact w10_takeClause_b62 C h
    · replace h := (if_neg c42).symm.trans h
      refine sf_aload_n (pc := 45) C 1 dX10_takeClause_45 rfl ?_
      refine sf_get (pc := 46) C nk_149 sh_149 rfl fl_10_129 dX10_takeClause_46 ?_
      refine sf_if_ne (tgt := 62) (pc := 49) C dX10_takeClause_49 rfl (fun c49 => ?_) (fun c49 => ?_)
      · replace h := (if_neg c49).symm.trans h
        refine sf_sub [1, 0] rfl ?_
        exact w10_takeClause_b62 C h
      · replace h := (if_pos c49).symm.trans h
        refine sf_sub [1] rfl ?_
        exact w10_takeClause_b52 C h
set_option maxHeartbeats 4000000 in
set_option maxRecDepth 100000 in
theorem w10_takeClause_b0 {X : sf_X} {V : sf_V} {r : Int32} {s' : sf_Sg} (C : sf_C X V cX10_takeClause 5 RX10 (some .int) 4) {s : sf_Sg} (h : f10_takeClause_b0 s = some (r, s')) : sf_G X V 5 (sf_Q X V (sf_Qi V r s')) s 0 [(0, .ref (V.2.1 149))] [] := by
  unfold f10_takeClause_b0 at h
  refine sf_aload_n (pc := 0) C 0 dX10_takeClause_0 rfl ?_
  obtain ⟨q1, e1, h⟩ := sf_ob h
  refine sf_callVi (pc := 1) C (As := []) nk_149 sh_149 rfl yk_X10_here cl_10_108 (k10_here e1) (by decide) rfl (Nat.le_of_ble_eq_true rfl) rfl dX10_takeClause_1 ?_
  refine sf_istore_n (lv' := [(1, .int q1.1), (0, .ref (V.2.1 149))]) (pc := 4) C dX10_takeClause_4 (by decide) rfl ?_
  refine sf_iload_n (pc := 5) C 0 dX10_takeClause_5 rfl ?_
  refine sf_bipush (v := 102) (pc := 6) C dX10_takeClause_6 (by decide) ?_
  refine sf_icmp_ne (tgt := 15) (pc := 8) C dX10_takeClause_8 rfl (fun c8 => ?_) (fun c8 => ?_)
  · replace h := (if_neg c8).symm.trans h
    refine sf_iload_n (pc := 15) C 0 dX10_takeClause_15 rfl ?_
    refine sf_bipush (v := 98) (pc := 16) C dX10_takeClause_16 (by decide) ?_
    refine sf_icmp_ne (tgt := 25) (pc := 18) C dX10_takeClause_18 rfl (fun c18 => ?_) (fun c18 => ?_)
    · replace h := (if_neg c18).symm.trans h
      refine sf_iload_n (pc := 25) C 0 dX10_takeClause_25 rfl ?_
      refine sf_bipush (v := 112) (pc := 26) C dX10_takeClause_26 (by decide) ?_
      refine sf_icmp_ne (tgt := 35) (pc := 28) C dX10_takeClause_28 rfl (fun c28 => ?_) (fun c28 => ?_)
      · replace h := (if_neg c28).symm.trans h
        refine sf_iconst (v := -1) (pc := 35) C dX10_takeClause_35 (by decide) ?_
        refine sf_sub [1] rfl ?_
        exact w10_takeClause_b36 C h
      · replace h := (if_pos c28).symm.trans h
        refine sf_iconst (v := 2) (pc := 31) C dX10_takeClause_31 (by decide) ?_
        refine sf_goto (tgt := 36) (pc := 32) C dX10_takeClause_32 rfl ?_
        refine sf_sub [1] rfl ?_
        exact w10_takeClause_b36 C h
    · replace h := (if_pos c18).symm.trans h
      refine sf_iconst (v := 1) (pc := 21) C dX10_takeClause_21 (by decide) ?_
      refine sf_goto (tgt := 36) (pc := 22) C dX10_takeClause_22 rfl ?_
      refine sf_sub [1] rfl ?_
      exact w10_takeClause_b36 C h
  · replace h := (if_pos c8).symm.trans h
    refine sf_iconst (v := 0) (pc := 11) C dX10_takeClause_11 (by decide) ?_
    refine sf_goto (tgt := 36) (pc := 12) C dX10_takeClause_12 rfl ?_
    refine sf_sub [1] rfl ?_
    exact w10_takeClause_b36 C h
set_option maxHeartbeats 4000000 in
set_option maxRecDepth 100000 in
theorem k10_takeClause {l : Launch} {V : sf_V} {s : sf_Sg} {r : Int32} {s' : sf_Sg} (h : f10_takeClause s = some (r, s')) : sf_M l V yX10_takeClause (.code yX10_takeClause cX10_takeClause 5 (some .int)) 4 [.ref (V.2.1 149)] s (sf_Qi V r s') := by
  refine sf_enter (by decide) (Nat.le_of_ble_eq_true rfl) (fun X hX C => ?_)
  refine sf_sub [0] rfl ?_
  exact w10_takeClause_b0 (show sf_C X V cX10_takeClause 5 RX10 (some .int) 4 from C)  h
set_option maxHeartbeats 4000000 in
set_option maxRecDepth 100000 in
theorem w10_copyRow_b2 {X : sf_X} {V : sf_V} {a0 : Nat} {n0 : Nat} {a1 : Nat} {n1 : Nat} (h0 : sf_isA a0 n0) (h1 : sf_isA a1 n1) {s' : sf_Sg} {k2 : sf_Sg → Int32 → Int32 → Option sf_Sg} (C : sf_C X V cX10_copyRow 4 RX10 none 0) (hk2 : ∀  (s : sf_Sg) (x2 : Int32) (x3 : Int32), k2 s x2 x3 = some s' → sf_G X V 4 (sf_Q X V (sf_Qv V s')) s 2 [(0, .ref (V.2.1 a0)), (1, .ref (V.2.1 a1)), (2, .int x2), (3, .int x3)] []) {s : sf_Sg} {x2 : Int32} {x3 : Int32} (h : f10_copyRow_b2 a0 n0 a1 n1 k2 s x2 x3 = some s') : sf_G X V 4 (sf_Q X V (sf_Qv V s')) s 2 [(0, .ref (V.2.1 a0)), (1, .ref (V.2.1 a1)), (2, .int x2), (3, .int x3)] [] := by
  unfold f10_copyRow_b2 at h
  refine sf_iload_n (pc := 2) C 3 dX10_copyRow_2 rfl ?_
  refine sf_iload_n (pc := 3) C 2 dX10_copyRow_3 rfl ?_
  refine sf_icmp_ge (tgt := 19) (pc := 4) C dX10_copyRow_4 rfl (fun c4 => ?_) (fun c4 => ?_)
  · replace h := (if_pos c4).symm.trans h
    exact sf_vretW (pc := 19) C dX10_copyRow_19 h
  · replace h := (if_neg c4).symm.trans h
    refine sf_aload_n (pc := 7) C 1 dX10_copyRow_7 rfl ?_
    refine sf_iload_n (pc := 8) C 3 dX10_copyRow_8 rfl ?_
    refine sf_aload_n (pc := 9) C 0 dX10_copyRow_9 rfl ?_
    refine sf_iload_n (pc := 10) C 3 dX10_copyRow_10 rfl ?_
    obtain ⟨v11, e11, h⟩ := sf_ob h
    refine sf_iald (pc := 11) C h0.1 h0.2 e11 dX10_copyRow_11 ?_
    obtain ⟨s12, e12, h⟩ := sf_ob h
    refine sf_iast (pc := 12) C h1.1 h1.2 e12 dX10_copyRow_12 ?_
    refine sf_iinc (v := (x3 + 1)) (lv' := [(3, .int (x3 + 1)), (0, .ref (V.2.1 a0)), (1, .ref (V.2.1 a1)), (2, .int x2)]) (pc := 13) C 3 dX10_copyRow_13 rfl rfl (by decide) rfl ?_
    refine sf_goto (tgt := 2) (pc := 16) C dX10_copyRow_16 rfl ?_
    refine sf_sub [1, 2, 3, 0] rfl ?_
    exact hk2 _ _ _ h
set_option maxHeartbeats 4000000 in
set_option maxRecDepth 100000 in
theorem w10_copyRow_L2 {X : sf_X} {V : sf_V} {a0 : Nat} {n0 : Nat} {a1 : Nat} {n1 : Nat} (h0 : sf_isA a0 n0) (h1 : sf_isA a1 n1) {s' : sf_Sg} (C : sf_C X V cX10_copyRow 4 RX10 none 0) : ∀  (s : sf_Sg) (x2 : Int32) (x3 : Int32), f10_copyRow_L2 a0 n0 a1 n1 s x2 x3 = some s' → sf_G X V 4 (sf_Q X V (sf_Qv V s')) s 2 [(0, .ref (V.2.1 a0)), (1, .ref (V.2.1 a1)), (2, .int x2), (3, .int x3)] [] :=
  sf_it_ind (fun (k : sf_Sg → Int32 → Int32 → Option sf_Sg) => ∀  (s : sf_Sg) (x2 : Int32) (x3 : Int32), k s x2 x3 = some s' → sf_G X V 4 (sf_Q X V (sf_Qv V s')) s 2 [(0, .ref (V.2.1 a0)), (1, .ref (V.2.1 a1)), (2, .int x2), (3, .int x3)] []) _ _ (fun s x2 x3 h => by cases h) (fun k hk s x2 x3 h => w10_copyRow_b2 h0 h1 C hk h) _
set_option maxHeartbeats 4000000 in
set_option maxRecDepth 100000 in
theorem w10_copyRow_b0 {X : sf_X} {V : sf_V} {a0 : Nat} {n0 : Nat} {a1 : Nat} {n1 : Nat} (h0 : sf_isA a0 n0) (h1 : sf_isA a1 n1) {s' : sf_Sg} (C : sf_C X V cX10_copyRow 4 RX10 none 0) {s : sf_Sg} {x2 : Int32} (h : f10_copyRow_b0 a0 n0 a1 n1 s x2 = some s') : sf_G X V 4 (sf_Q X V (sf_Qv V s')) s 0 [(0, .ref (V.2.1 a0)), (1, .ref (V.2.1 a1)), (2, .int x2)] [] := by
  unfold f10_copyRow_b0 at h
  refine sf_iconst (v := 0) (pc := 0) C dX10_copyRow_0 (by decide) ?_
  refine sf_istore_n (lv' := [(3, .int (0 : Int32)), (0, .ref (V.2.1 a0)), (1, .ref (V.2.1 a1)), (2, .int x2)]) (pc := 1) C dX10_copyRow_1 (by decide) rfl ?_
  refine sf_sub [1, 2, 3, 0] rfl ?_
  exact w10_copyRow_L2 h0 h1 C _ _ _ h
set_option maxHeartbeats 4000000 in
set_option maxRecDepth 100000 in
theorem k10_copyRow {l : Launch} {V : sf_V} {a0 : Nat} {n0 : Nat} {a1 : Nat} {n1 : Nat} (h0 : sf_isA a0 n0) (h1 : sf_isA a1 n1) {s : sf_Sg} {x2 : Int32} {s' : sf_Sg} (h : f10_copyRow a0 n0 a1 n1 s x2 = some s') : sf_M l V yX10_copyRow (.code yX10_copyRow cX10_copyRow 4 none) 0 [.ref (V.2.1 a0), .ref (V.2.1 a1), .int x2] s (sf_Qv V s') := by
  refine sf_enter (by decide) (Nat.le_of_ble_eq_true rfl) (fun X hX C => ?_)
  refine sf_sub [0, 1, 2] rfl ?_
  exact w10_copyRow_b0 h0 h1 (show sf_C X V cX10_copyRow 4 RX10 none 0 from C)  h
set_option maxHeartbeats 4000000 in
set_option maxRecDepth 100000 in
theorem w10_takeRead_b150 {X : sf_X} {V : sf_V} {s' : sf_Sg} {k120 : sf_Sg → Int32 → Option sf_Sg} (C : sf_C X V cX10_takeRead 2 RX10 none 1) (hk120 : ∀  (s : sf_Sg) (x1 : Int32), k120 s x1 = some s' → sf_G X V 2 (sf_Q X V (sf_Qv V s')) s 120 [(0, .ref (V.2.1 149)), (1, .int x1)] []) {s : sf_Sg} {x1 : Int32} {t2 : Int32} {t1 : Int32} (h : f10_takeRead_b150 k120 s x1 t2 t1 = some s') : sf_G X V 2 (sf_Q X V (sf_Qv V s')) s 150 [(0, .ref (V.2.1 149)), (1, .int x1)] [.int t2, .int t1, .ref (V.2.1 155)] := by
  unfold f10_takeRead_b150 at h
  obtain ⟨s150, e150, h⟩ := sf_ob h
  refine sf_iast (pc := 150) C nk_155 sh_155 e150 dX10_takeRead_150 ?_
  refine sf_iinc (v := (x1 + 1)) (lv' := [(1, .int (x1 + 1)), (0, .ref (V.2.1 149))]) (pc := 151) C 1 dX10_takeRead_151 rfl rfl (by decide) rfl ?_
  refine sf_goto (tgt := 120) (pc := 154) C dX10_takeRead_154 rfl ?_
  refine sf_sub [1, 0] rfl ?_
  exact hk120 _ _ h
set_option maxHeartbeats 4000000 in
set_option maxRecDepth 100000 in
theorem w10_takeRead_b157 {X : sf_X} {V : sf_V} {s' : sf_Sg} (C : sf_C X V cX10_takeRead 2 RX10 none 1) {s : sf_Sg} (h : f10_takeRead_b157 s = some s') : sf_G X V 2 (sf_Q X V (sf_Qv V s')) s 157 [(0, .ref (V.2.1 149))] [] := by
  unfold f10_takeRead_b157 at h
  refine sf_aload_n (pc := 157) C 0 dX10_takeRead_157 rfl ?_
  refine sf_getr (pc := 158) C nk_149 sh_149 rfl fl_10_13 dX10_takeRead_158 ?_
  refine sf_aload_n (pc := 161) C 0 dX10_takeRead_161 rfl ?_
  refine sf_getr (pc := 162) C nk_149 sh_149 rfl fl_10_25 dX10_takeRead_162 ?_
  refine sf_aload_n (pc := 165) C 0 dX10_takeRead_165 rfl ?_
  refine sf_get (pc := 166) C nk_149 sh_149 rfl fl_10_88 dX10_takeRead_166 ?_
  obtain ⟨s169, e169, h⟩ := sf_ob h
  refine sf_callSv (pc := 169) C (As := [.ref (V.2.1 151), .ref (V.2.1 155), .int (s 149 2)]) yk_X10_copyRow cl_10_157 (k10_copyRow ⟨nk_151, sh_151⟩ ⟨nk_155, sh_155⟩ e169) (by decide) rfl (Nat.le_of_ble_eq_true rfl) rfl dX10_takeRead_169 ?_
  refine sf_aload_n (pc := 172) C 0 dX10_takeRead_172 rfl ?_
  refine sf_getr (pc := 173) C nk_149 sh_149 rfl fl_10_25 dX10_takeRead_173 ?_
  refine sf_bipush (v := 29) (pc := 176) C dX10_takeRead_176 (by decide) ?_
  refine sf_aload_n (pc := 178) C 0 dX10_takeRead_178 rfl ?_
  refine sf_get (pc := 179) C nk_149 sh_149 rfl fl_10_154 dX10_takeRead_179 ?_
  obtain ⟨s182, e182, h⟩ := sf_ob h
  refine sf_iast (pc := 182) C nk_155 sh_155 e182 dX10_takeRead_182 ?_
  exact sf_vretW (pc := 183) C dX10_takeRead_183 h
set_option maxHeartbeats 4000000 in
set_option maxRecDepth 100000 in
theorem w10_takeRead_b120 {X : sf_X} {V : sf_V} {s' : sf_Sg} {k120 : sf_Sg → Int32 → Option sf_Sg} (C : sf_C X V cX10_takeRead 2 RX10 none 1) (hk120 : ∀  (s : sf_Sg) (x1 : Int32), k120 s x1 = some s' → sf_G X V 2 (sf_Q X V (sf_Qv V s')) s 120 [(0, .ref (V.2.1 149)), (1, .int x1)] []) {s : sf_Sg} {x1 : Int32} (h : f10_takeRead_b120 k120 s x1 = some s') : sf_G X V 2 (sf_Q X V (sf_Qv V s')) s 120 [(0, .ref (V.2.1 149)), (1, .int x1)] [] := by
  unfold f10_takeRead_b120 at h
  refine sf_iload_n (pc := 120) C 1 dX10_takeRead_120 rfl ?_
  refine sf_bipush (v := 31) (pc := 121) C dX10_takeRead_121 (by decide) ?_
  refine sf_icmp_ge (tgt := 157) (pc := 123) C dX10_takeRead_123 rfl (fun c123 => ?_) (fun c123 => ?_)
  · replace h := (if_pos c123).symm.trans h
    refine sf_sub [0] rfl ?_
    exact w10_takeRead_b157 C h
  · replace h := (if_neg c123).symm.trans h
    refine sf_aload_n (pc := 126) C 0 dX10_takeRead_126 rfl ?_
    refine sf_getr (pc := 127) C nk_149 sh_149 rfl fl_10_25 dX10_takeRead_127 ?_
    refine sf_iload_n (pc := 130) C 1 dX10_takeRead_130 rfl ?_
    refine sf_iload_n (pc := 131) C 1 dX10_takeRead_131 rfl ?_
    refine sf_i2l (pc := 132) C dX10_takeRead_132 ?_
    refine sf_ldc2 (v := 12) (pc := 133) C dX10_takeRead_133 tm_987 ?_
    refine sf_ldc2 (v := 23) (pc := 136) C dX10_takeRead_136 tm_988 ?_
    refine sf_callSi (pc := 139) C (As := [.long x1.toInt64, .long (12 : Int64), .long (23 : Int64)]) yk_X10_in cl_10_91 (k10_in rfl) (by decide) rfl (Nat.le_of_ble_eq_true rfl) rfl dX10_takeRead_139 ?_
    refine sf_if_eq (tgt := 149) (pc := 142) C dX10_takeRead_142 rfl (fun c142 => ?_) (fun c142 => ?_)
    · replace h := (if_pos c142).symm.trans h
      refine sf_iconst (v := 0) (pc := 149) C dX10_takeRead_149 (by decide) ?_
      exact w10_takeRead_b150 C hk120 h
    · replace h := (if_neg c142).symm.trans h
      refine sf_iconst (v := -1) (pc := 145) C dX10_takeRead_145 (by decide) ?_
      refine sf_goto (tgt := 150) (pc := 146) C dX10_takeRead_146 rfl ?_
      exact w10_takeRead_b150 C hk120 h
set_option maxHeartbeats 4000000 in
set_option maxRecDepth 100000 in
theorem w10_takeRead_L120 {X : sf_X} {V : sf_V} {s' : sf_Sg} (C : sf_C X V cX10_takeRead 2 RX10 none 1) : ∀  (s : sf_Sg) (x1 : Int32), f10_takeRead_L120 s x1 = some s' → sf_G X V 2 (sf_Q X V (sf_Qv V s')) s 120 [(0, .ref (V.2.1 149)), (1, .int x1)] [] :=
  sf_it_ind (fun (k : sf_Sg → Int32 → Option sf_Sg) => ∀  (s : sf_Sg) (x1 : Int32), k s x1 = some s' → sf_G X V 2 (sf_Q X V (sf_Qv V s')) s 120 [(0, .ref (V.2.1 149)), (1, .int x1)] []) _ _ (fun s x1 h => by cases h) (fun k hk s x1 h => w10_takeRead_b120 C hk h) _
set_option maxHeartbeats 4000000 in
set_option maxRecDepth 100000 in
theorem w10_takeRead_b24 {X : sf_X} {V : sf_V} {s' : sf_Sg} (C : sf_C X V cX10_takeRead 2 RX10 none 1) {s : sf_Sg} {t1 : Int32} (h : f10_takeRead_b24 s t1 = some s') : sf_G X V 2 (sf_Q X V (sf_Qv V s')) s 24 [(0, .ref (V.2.1 149))] [.int t1, .ref (V.2.1 149)] := by
  unfold f10_takeRead_b24 at h
  refine sf_put (pc := 24) C nk_149 sh_149 rfl fw_10_154 rfl rfl dX10_takeRead_24 ?_
  refine sf_aload_n (pc := 27) C 0 dX10_takeRead_27 rfl ?_
  refine sf_aload_n (pc := 28) C 0 dX10_takeRead_28 rfl ?_
  refine sf_get (pc := 29) C nk_149 sh_149 rfl fl_10_135 dX10_takeRead_29 ?_
  refine sf_put (pc := 32) C nk_149 sh_149 rfl fw_10_88 rfl rfl dX10_takeRead_32 ?_
  refine sf_aload_n (pc := 35) C 0 dX10_takeRead_35 rfl ?_
  refine sf_aload_n (pc := 36) C 0 dX10_takeRead_36 rfl ?_
  refine sf_get (pc := 37) C nk_149 sh_149 rfl fl_10_142 dX10_takeRead_37 ?_
  refine sf_put (pc := 40) C nk_149 sh_149 rfl fw_10_95 rfl rfl dX10_takeRead_40 ?_
  refine sf_aload_n (pc := 43) C 0 dX10_takeRead_43 rfl ?_
  refine sf_getr (pc := 44) C nk_149 sh_149 rfl fl_10_35 dX10_takeRead_44 ?_
  refine sf_aload_n (pc := 47) C 0 dX10_takeRead_47 rfl ?_
  refine sf_getr (pc := 48) C nk_149 sh_149 rfl fl_10_7 dX10_takeRead_48 ?_
  refine sf_aload_n (pc := 51) C 0 dX10_takeRead_51 rfl ?_
  refine sf_get (pc := 52) C nk_149 sh_149 rfl fl_10_88 dX10_takeRead_52 ?_
  obtain ⟨s55, e55, h⟩ := sf_ob h
  refine sf_callSv (pc := 55) C (As := [.ref (V.2.1 157), .ref (V.2.1 150), .int ((sf_s1 (sf_s1 (sf_s1 s 149 1 t1) 149 2 ((sf_s1 s 149 1 t1) 149 19)) 149 6 ((sf_s1 (sf_s1 s 149 1 t1) 149 2 ((sf_s1 s 149 1 t1) 149 19)) 149 23)) 149 2)]) yk_X10_copyRow cl_10_157 (k10_copyRow ⟨nk_157, sh_157⟩ ⟨nk_150, sh_150⟩ e55) (by decide) rfl (Nat.le_of_ble_eq_true rfl) rfl dX10_takeRead_55 ?_
  refine sf_aload_n (pc := 58) C 0 dX10_takeRead_58 rfl ?_
  refine sf_getr (pc := 59) C nk_149 sh_149 rfl fl_10_38 dX10_takeRead_59 ?_
  refine sf_aload_n (pc := 62) C 0 dX10_takeRead_62 rfl ?_
  refine sf_getr (pc := 63) C nk_149 sh_149 rfl fl_10_13 dX10_takeRead_63 ?_
  refine sf_aload_n (pc := 66) C 0 dX10_takeRead_66 rfl ?_
  refine sf_get (pc := 67) C nk_149 sh_149 rfl fl_10_88 dX10_takeRead_67 ?_
  obtain ⟨s70, e70, h⟩ := sf_ob h
  refine sf_callSv (pc := 70) C (As := [.ref (V.2.1 158), .ref (V.2.1 151), .int (s55 149 2)]) yk_X10_copyRow cl_10_157 (k10_copyRow ⟨nk_158, sh_158⟩ ⟨nk_151, sh_151⟩ e70) (by decide) rfl (Nat.le_of_ble_eq_true rfl) rfl dX10_takeRead_70 ?_
  refine sf_aload_n (pc := 73) C 0 dX10_takeRead_73 rfl ?_
  refine sf_getr (pc := 74) C nk_149 sh_149 rfl fl_10_41 dX10_takeRead_74 ?_
  refine sf_aload_n (pc := 77) C 0 dX10_takeRead_77 rfl ?_
  refine sf_getr (pc := 78) C nk_149 sh_149 rfl fl_10_16 dX10_takeRead_78 ?_
  refine sf_aload_n (pc := 81) C 0 dX10_takeRead_81 rfl ?_
  refine sf_get (pc := 82) C nk_149 sh_149 rfl fl_10_88 dX10_takeRead_82 ?_
  obtain ⟨s85, e85, h⟩ := sf_ob h
  refine sf_callSv (pc := 85) C (As := [.ref (V.2.1 159), .ref (V.2.1 152), .int (s70 149 2)]) yk_X10_copyRow cl_10_157 (k10_copyRow ⟨nk_159, sh_159⟩ ⟨nk_152, sh_152⟩ e85) (by decide) rfl (Nat.le_of_ble_eq_true rfl) rfl dX10_takeRead_85 ?_
  refine sf_aload_n (pc := 88) C 0 dX10_takeRead_88 rfl ?_
  refine sf_getr (pc := 89) C nk_149 sh_149 rfl fl_10_44 dX10_takeRead_89 ?_
  refine sf_aload_n (pc := 92) C 0 dX10_takeRead_92 rfl ?_
  refine sf_getr (pc := 93) C nk_149 sh_149 rfl fl_10_19 dX10_takeRead_93 ?_
  refine sf_aload_n (pc := 96) C 0 dX10_takeRead_96 rfl ?_
  refine sf_get (pc := 97) C nk_149 sh_149 rfl fl_10_95 dX10_takeRead_97 ?_
  obtain ⟨s100, e100, h⟩ := sf_ob h
  refine sf_callSv (pc := 100) C (As := [.ref (V.2.1 160), .ref (V.2.1 153), .int (s85 149 6)]) yk_X10_copyRow cl_10_157 (k10_copyRow ⟨nk_160, sh_160⟩ ⟨nk_153, sh_153⟩ e100) (by decide) rfl (Nat.le_of_ble_eq_true rfl) rfl dX10_takeRead_100 ?_
  refine sf_aload_n (pc := 103) C 0 dX10_takeRead_103 rfl ?_
  refine sf_getr (pc := 104) C nk_149 sh_149 rfl fl_10_47 dX10_takeRead_104 ?_
  refine sf_aload_n (pc := 107) C 0 dX10_takeRead_107 rfl ?_
  refine sf_getr (pc := 108) C nk_149 sh_149 rfl fl_10_22 dX10_takeRead_108 ?_
  refine sf_aload_n (pc := 111) C 0 dX10_takeRead_111 rfl ?_
  refine sf_get (pc := 112) C nk_149 sh_149 rfl fl_10_95 dX10_takeRead_112 ?_
  obtain ⟨s115, e115, h⟩ := sf_ob h
  refine sf_callSv (pc := 115) C (As := [.ref (V.2.1 161), .ref (V.2.1 154), .int (s100 149 6)]) yk_X10_copyRow cl_10_157 (k10_copyRow ⟨nk_161, sh_161⟩ ⟨nk_154, sh_154⟩ e115) (by decide) rfl (Nat.le_of_ble_eq_true rfl) rfl dX10_takeRead_115 ?_
  refine sf_iconst (v := 0) (pc := 118) C dX10_takeRead_118 (by decide) ?_
  refine sf_istore_n (lv' := [(1, .int (0 : Int32)), (0, .ref (V.2.1 149))]) (pc := 119) C dX10_takeRead_119 (by decide) rfl ?_
  refine sf_sub [1, 0] rfl ?_
  exact w10_takeRead_L120 C _ _ h
set_option maxHeartbeats 4000000 in
set_option maxRecDepth 100000 in
theorem w10_takeRead_b0 {X : sf_X} {V : sf_V} {s' : sf_Sg} (C : sf_C X V cX10_takeRead 2 RX10 none 1) {s : sf_Sg} (h : f10_takeRead_b0 s = some s') : sf_G X V 2 (sf_Q X V (sf_Qv V s')) s 0 [(0, .ref (V.2.1 149))] [] := by
  unfold f10_takeRead_b0 at h
  refine sf_aload_n (pc := 0) C 0 dX10_takeRead_0 rfl ?_
  refine sf_aload_n (pc := 1) C 0 dX10_takeRead_1 rfl ?_
  refine sf_get (pc := 2) C nk_149 sh_149 rfl fl_10_129 dX10_takeRead_2 ?_
  obtain ⟨v5, e5, h⟩ := sf_ob h
  refine sf_putB (pc := 5) C nk_149 sh_149 rfl fw_10_84 e5 dX10_takeRead_5 ?_
  refine sf_aload_n (pc := 8) C 0 dX10_takeRead_8 rfl ?_
  refine sf_aload_n (pc := 9) C 0 dX10_takeRead_9 rfl ?_
  refine sf_get (pc := 10) C nk_149 sh_149 rfl fl_10_129 dX10_takeRead_10 ?_
  refine sf_if_eq (tgt := 23) (pc := 13) C dX10_takeRead_13 rfl (fun c13 => ?_) (fun c13 => ?_)
  · replace h := (if_pos c13).symm.trans h
    refine sf_iconst (v := 0) (pc := 23) C dX10_takeRead_23 (by decide) ?_
    exact w10_takeRead_b24 C h
  · replace h := (if_neg c13).symm.trans h
    refine sf_aload_n (pc := 16) C 0 dX10_takeRead_16 rfl ?_
    refine sf_get (pc := 17) C nk_149 sh_149 rfl fl_10_132 dX10_takeRead_17 ?_
    refine sf_goto (tgt := 24) (pc := 20) C dX10_takeRead_20 rfl ?_
    exact w10_takeRead_b24 C h
set_option maxHeartbeats 4000000 in
set_option maxRecDepth 100000 in
theorem k10_takeRead {l : Launch} {V : sf_V} {s : sf_Sg} {s' : sf_Sg} (h : f10_takeRead s = some s') : sf_M l V yX10_takeRead (.code yX10_takeRead cX10_takeRead 2 none) 1 [.ref (V.2.1 149)] s (sf_Qv V s') := by
  refine sf_enter (by decide) (Nat.le_of_ble_eq_true rfl) (fun X hX C => ?_)
  refine sf_sub [0] rfl ?_
  exact w10_takeRead_b0 (show sf_C X V cX10_takeRead 2 RX10 none 1 from C)  h
set_option maxHeartbeats 4000000 in
set_option maxRecDepth 100000 in
theorem w10_shop_b46 {X : sf_X} {V : sf_V} {r : Int32} {s' : sf_Sg} (C : sf_C X V cX10_shop 2 RX10 (some .int) 5) {s : sf_Sg} {x1 : Int32} (h : f10_shop_b46 s x1 = some (r, s')) : sf_G X V 2 (sf_Q X V (sf_Qi V r s')) s 46 [(0, .ref (V.2.1 149)), (1, .int x1)] [] := by
  unfold f10_shop_b46 at h
  refine sf_aload_n (pc := 46) C 0 dX10_shop_46 rfl ?_
  refine sf_iconst (v := 0) (pc := 47) C dX10_shop_47 (by decide) ?_
  refine sf_put (pc := 48) C nk_149 sh_149 rfl fw_10_101 rfl rfl dX10_shop_48 ?_
  refine sf_iload_n (pc := 51) C 1 dX10_shop_51 rfl ?_
  refine sf_if_le (tgt := 60) (pc := 52) C dX10_shop_52 rfl (fun c52 => ?_) (fun c52 => ?_)
  · replace h := (if_pos c52).symm.trans h
    refine sf_aload_n (pc := 60) C 0 dX10_shop_60 rfl ?_
    obtain ⟨s61, e61, h⟩ := sf_ob h
    refine sf_callVv (pc := 61) C (As := []) nk_149 sh_149 rfl yk_X10_takeRead cl_10_168 (k10_takeRead e61) (by decide) rfl (Nat.le_of_ble_eq_true rfl) rfl dX10_shop_61 ?_
    refine sf_aload_n (pc := 64) C 0 dX10_shop_64 rfl ?_
    refine sf_iconst (v := 0) (pc := 65) C dX10_shop_65 (by decide) ?_
    refine sf_put (pc := 66) C nk_149 sh_149 rfl fw_10_171 rfl rfl dX10_shop_66 ?_
    refine sf_aload_n (pc := 69) C 0 dX10_shop_69 rfl ?_
    refine sf_iconst (v := 0) (pc := 70) C dX10_shop_70 (by decide) ?_
    refine sf_put (pc := 71) C nk_149 sh_149 rfl fw_10_174 rfl rfl dX10_shop_71 ?_
    refine sf_aload_n (pc := 74) C 0 dX10_shop_74 rfl ?_
    refine sf_iconst (v := 0) (pc := 75) C dX10_shop_75 (by decide) ?_
    refine sf_put (pc := 76) C nk_149 sh_149 rfl fw_10_177 rfl rfl dX10_shop_76 ?_
    refine sf_aload_n (pc := 79) C 0 dX10_shop_79 rfl ?_
    refine sf_getr (pc := 80) C nk_149 sh_149 rfl fl_10_80 dX10_shop_80 ?_
    refine sf_iconst (v := 0) (pc := 83) C dX10_shop_83 (by decide) ?_
    refine sf_iconst (v := 0) (pc := 84) C dX10_shop_84 (by decide) ?_
    obtain ⟨s85, e85, h⟩ := sf_ob h
    refine sf_zast (pc := 85) C nk_172 sh_172 rfl e85 dX10_shop_85 ?_
    refine sf_aload_n (pc := 86) C 0 dX10_shop_86 rfl ?_
    refine sf_getr (pc := 87) C nk_149 sh_149 rfl fl_10_80 dX10_shop_87 ?_
    refine sf_iconst (v := 1) (pc := 90) C dX10_shop_90 (by decide) ?_
    refine sf_iconst (v := 0) (pc := 91) C dX10_shop_91 (by decide) ?_
    obtain ⟨s92, e92, h⟩ := sf_ob h
    refine sf_zast (pc := 92) C nk_172 sh_172 rfl e92 dX10_shop_92 ?_
    refine sf_aload_n (pc := 93) C 0 dX10_shop_93 rfl ?_
    refine sf_get (pc := 94) C nk_149 sh_149 rfl fl_10_88 dX10_shop_94 ?_
    exact sf_iretW (pc := 97) C dX10_shop_97 h
  · replace h := (if_neg c52).symm.trans h
    refine sf_bipush (v := -10) (pc := 55) C dX10_shop_55 (by decide) ?_
    refine sf_iload_n (pc := 57) C 1 dX10_shop_57 rfl ?_
    refine sf_isub (pc := 58) C dX10_shop_58 ?_
    exact sf_iretW (pc := 59) C dX10_shop_59 h
set_option maxHeartbeats 4000000 in
set_option maxRecDepth 100000 in
theorem w10_shop_b27 {X : sf_X} {V : sf_V} {r : Int32} {s' : sf_Sg} {k27 : sf_Sg → Int32 → Option (Int32 × sf_Sg)} (C : sf_C X V cX10_shop 2 RX10 (some .int) 5) (hk27 : ∀  (s : sf_Sg) (x1 : Int32), k27 s x1 = some (r, s') → sf_G X V 2 (sf_Q X V (sf_Qi V r s')) s 27 [(0, .ref (V.2.1 149)), (1, .int x1)] []) {s : sf_Sg} {x1 : Int32} (h : f10_shop_b27 k27 s x1 = some (r, s')) : sf_G X V 2 (sf_Q X V (sf_Qi V r s')) s 27 [(0, .ref (V.2.1 149)), (1, .int x1)] [] := by
  unfold f10_shop_b27 at h
  refine sf_iload_n (pc := 27) C 1 dX10_shop_27 rfl ?_
  refine sf_if_ne (tgt := 46) (pc := 28) C dX10_shop_28 rfl (fun c28 => ?_) (fun c28 => ?_)
  · replace h := (if_neg c28).symm.trans h
    exact w10_shop_b46 C h
  · replace h := (if_pos c28).symm.trans h
    refine sf_aload_n (pc := 31) C 0 dX10_shop_31 rfl ?_
    obtain ⟨q32, e32, h⟩ := sf_ob h
    refine sf_callVi (pc := 32) C (As := []) nk_149 sh_149 rfl yk_X10_here cl_10_108 (k10_here e32) (by decide) rfl (Nat.le_of_ble_eq_true rfl) rfl dX10_shop_32 ?_
    refine sf_if_lt (tgt := 46) (pc := 35) C dX10_shop_35 rfl (fun c35 => ?_) (fun c35 => ?_)
    · replace h := (if_pos c35).symm.trans h
      exact w10_shop_b46 C h
    · replace h := (if_neg c35).symm.trans h
      refine sf_aload_n (pc := 38) C 0 dX10_shop_38 rfl ?_
      obtain ⟨q39, e39, h⟩ := sf_ob h
      refine sf_callVi (pc := 39) C (As := []) nk_149 sh_149 rfl yk_X10_takeClause cl_10_165 (k10_takeClause e39) (by decide) rfl (Nat.le_of_ble_eq_true rfl) rfl dX10_shop_39 ?_
      refine sf_istore_n (lv' := [(1, .int q39.1), (0, .ref (V.2.1 149))]) (pc := 42) C dX10_shop_42 (by decide) rfl ?_
      refine sf_goto (tgt := 27) (pc := 43) C dX10_shop_43 rfl ?_
      refine sf_sub [1, 0] rfl ?_
      exact hk27 _ _ h
set_option maxHeartbeats 4000000 in
set_option maxRecDepth 100000 in
theorem w10_shop_L27 {X : sf_X} {V : sf_V} {r : Int32} {s' : sf_Sg} (C : sf_C X V cX10_shop 2 RX10 (some .int) 5) : ∀  (s : sf_Sg) (x1 : Int32), f10_shop_L27 s x1 = some (r, s') → sf_G X V 2 (sf_Q X V (sf_Qi V r s')) s 27 [(0, .ref (V.2.1 149)), (1, .int x1)] [] :=
  sf_it_ind (fun (k : sf_Sg → Int32 → Option (Int32 × sf_Sg)) => ∀  (s : sf_Sg) (x1 : Int32), k s x1 = some (r, s') → sf_G X V 2 (sf_Q X V (sf_Qi V r s')) s 27 [(0, .ref (V.2.1 149)), (1, .int x1)] []) _ _ (fun s x1 h => by cases h) (fun k hk s x1 h => w10_shop_b27 C hk h) _
set_option maxHeartbeats 4000000 in
set_option maxRecDepth 100000 in
theorem w10_shop_b0 {X : sf_X} {V : sf_V} {r : Int32} {s' : sf_Sg} (C : sf_C X V cX10_shop 2 RX10 (some .int) 5) {s : sf_Sg} (h : f10_shop_b0 s = some (r, s')) : sf_G X V 2 (sf_Q X V (sf_Qi V r s')) s 0 [(0, .ref (V.2.1 149))] [] := by
  unfold f10_shop_b0 at h
  refine sf_aload_n (pc := 0) C 0 dX10_shop_0 rfl ?_
  refine sf_iconst (v := -1) (pc := 1) C dX10_shop_1 (by decide) ?_
  refine sf_put (pc := 2) C nk_149 sh_149 rfl fw_10_31 rfl rfl dX10_shop_2 ?_
  refine sf_aload_n (pc := 5) C 0 dX10_shop_5 rfl ?_
  refine sf_iconst (v := 0) (pc := 6) C dX10_shop_6 (by decide) ?_
  refine sf_put (pc := 7) C nk_149 sh_149 rfl fw_10_105 rfl rfl dX10_shop_7 ?_
  refine sf_aload_n (pc := 10) C 0 dX10_shop_10 rfl ?_
  refine sf_iconst (v := 0) (pc := 11) C dX10_shop_11 (by decide) ?_
  refine sf_put (pc := 12) C nk_149 sh_149 rfl fw_10_129 rfl rfl dX10_shop_12 ?_
  refine sf_aload_n (pc := 15) C 0 dX10_shop_15 rfl ?_
  refine sf_iconst (v := 0) (pc := 16) C dX10_shop_16 (by decide) ?_
  refine sf_put (pc := 17) C nk_149 sh_149 rfl fw_10_135 rfl rfl dX10_shop_17 ?_
  refine sf_aload_n (pc := 20) C 0 dX10_shop_20 rfl ?_
  refine sf_iconst (v := 0) (pc := 21) C dX10_shop_21 (by decide) ?_
  refine sf_put (pc := 22) C nk_149 sh_149 rfl fw_10_142 rfl rfl dX10_shop_22 ?_
  refine sf_iconst (v := 0) (pc := 25) C dX10_shop_25 (by decide) ?_
  refine sf_istore_n (lv' := [(1, .int (0 : Int32)), (0, .ref (V.2.1 149))]) (pc := 26) C dX10_shop_26 (by decide) rfl ?_
  refine sf_sub [1, 0] rfl ?_
  exact w10_shop_L27 C _ _ h
set_option maxHeartbeats 4000000 in
set_option maxRecDepth 100000 in
theorem k10_shop {l : Launch} {V : sf_V} {s : sf_Sg} {r : Int32} {s' : sf_Sg} (h : f10_shop s = some (r, s')) : sf_M l V yX10_shop (.code yX10_shop cX10_shop 2 (some .int)) 5 [.ref (V.2.1 149)] s (sf_Qi V r s') := by
  refine sf_enter (by decide) (Nat.le_of_ble_eq_true rfl) (fun X hX C => ?_)
  refine sf_sub [0] rfl ?_
  exact w10_shop_b0 (show sf_C X V cX10_shop 2 RX10 (some .int) 5 from C)  h
set_option maxHeartbeats 4000000 in
set_option maxRecDepth 100000 in
theorem w10_fault_b0 {X : sf_X} {V : sf_V} {s : sf_Sg} {r : Int32} (C : sf_C X V cX10_fault 1 RX10 (some .int) 0) (h : f10_fault_b0 s = r) : sf_G X V 1 (sf_Q X V (sf_Qi V r s)) s 0 [(0, .ref (V.2.1 149))] [] := by
  unfold f10_fault_b0 at h
  refine sf_aload_n (pc := 0) C 0 dX10_fault_0 rfl ?_
  refine sf_get (pc := 1) C nk_149 sh_149 rfl fl_10_31 dX10_fault_1 ?_
  exact sf_iretT (pc := 4) C dX10_fault_4 h
set_option maxHeartbeats 4000000 in
set_option maxRecDepth 100000 in
theorem k10_fault {l : Launch} {V : sf_V} {s : sf_Sg} {r : Int32} (h : f10_fault s = r) : sf_M l V yX10_fault (.code yX10_fault cX10_fault 1 (some .int)) 0 [.ref (V.2.1 149)] s (sf_Qi V r s) := by
  refine sf_enter (by decide) (Nat.le_of_ble_eq_true rfl) (fun X hX C => ?_)
  refine sf_sub [0] rfl ?_
  exact w10_fault_b0 (show sf_C X V cX10_fault 1 RX10 (some .int) 0 from C)  h
set_option maxHeartbeats 4000000 in
set_option maxRecDepth 100000 in
theorem w10_notBelow_b0 {X : sf_X} {V : sf_V} {s : sf_Sg} {r : Int32} (C : sf_C X V cX10_notBelow 1 RX10 (some .int) 0) {x0 : Int32} (h : f10_notBelow_b0 x0 = r) : sf_G X V 1 (sf_Q X V (sf_Qi V r s)) s 0 [(0, .int x0)] [] := by
  unfold f10_notBelow_b0 at h
  refine sf_iload_n (pc := 0) C 0 dX10_notBelow_0 rfl ?_
  refine sf_if_le (tgt := 8) (pc := 1) C dX10_notBelow_1 rfl (fun c1 => ?_) (fun c1 => ?_)
  · replace h := (if_pos c1).symm.trans h
    refine sf_iconst (v := 0) (pc := 8) C dX10_notBelow_8 (by decide) ?_
    exact sf_iretT (pc := 9) C dX10_notBelow_9 h
  · replace h := (if_neg c1).symm.trans h
    refine sf_iload_n (pc := 4) C 0 dX10_notBelow_4 rfl ?_
    refine sf_goto (tgt := 9) (pc := 5) C dX10_notBelow_5 rfl ?_
    exact sf_iretT (pc := 9) C dX10_notBelow_9 h
set_option maxHeartbeats 4000000 in
set_option maxRecDepth 100000 in
theorem k10_notBelow {l : Launch} {V : sf_V} {s : sf_Sg} {x0 : Int32} {r : Int32} (h : f10_notBelow x0 = r) : sf_M l V yX10_notBelow (.code yX10_notBelow cX10_notBelow 1 (some .int)) 0 [.int x0] s (sf_Qi V r s) := by
  refine sf_enter (by decide) (Nat.le_of_ble_eq_true rfl) (fun X hX C => ?_)
  refine sf_sub [0] rfl ?_
  exact w10_notBelow_b0 (show sf_C X V cX10_notBelow 1 RX10 (some .int) 0 from C)  h
set_option maxHeartbeats 4000000 in
set_option maxRecDepth 100000 in
theorem w10_bears_b26 {X : sf_X} {V : sf_V} {s : sf_Sg} {r : Int32} (C : sf_C X V cX10_bears 3 RX10 (some .boolean) 0) (h : f10_bears_b26 s = some r) : sf_G X V 3 (sf_Q X V (sf_Qi V r s)) s 26 [] [] := by
  unfold f10_bears_b26 at h
  refine sf_iconst (v := 1) (pc := 26) C dX10_bears_26 (by decide) ?_
  refine sf_goto (tgt := 31) (pc := 27) C dX10_bears_27 rfl ?_
  exact sf_zretR (pc := 31) C (by first | rfl | exact sf_nb_in _ _ _) dX10_bears_31 h
set_option maxHeartbeats 4000000 in
set_option maxRecDepth 100000 in
theorem w10_bears_b0 {X : sf_X} {V : sf_V} {s : sf_Sg} {r : Int32} (C : sf_C X V cX10_bears 3 RX10 (some .boolean) 0) {x1 : Int32} {x2 : Int32} (h : f10_bears_b0 s x1 x2 = some r) : sf_G X V 3 (sf_Q X V (sf_Qi V r s)) s 0 [(0, .ref (V.2.1 149)), (1, .int x1), (2, .int x2)] [] := by
  unfold f10_bears_b0 at h
  refine sf_aload_n (pc := 0) C 0 dX10_bears_0 rfl ?_
  refine sf_getr (pc := 1) C nk_149 sh_149 rfl fl_10_25 dX10_bears_1 ?_
  refine sf_bipush (v := 12) (pc := 4) C dX10_bears_4 (by decide) ?_
  refine sf_iload_n (pc := 6) C 1 dX10_bears_6 rfl ?_
  refine sf_iadd (pc := 7) C dX10_bears_7 ?_
  obtain ⟨v8, e8, h⟩ := sf_ob h
  refine sf_iald (pc := 8) C nk_155 sh_155 e8 dX10_bears_8 ?_
  refine sf_iload_n (pc := 9) C 2 dX10_bears_9 rfl ?_
  refine sf_icmp_eq (tgt := 26) (pc := 10) C dX10_bears_10 rfl (fun c10 => ?_) (fun c10 => ?_)
  · replace h := (if_pos c10).symm.trans h
    refine sf_sub [] rfl ?_
    exact w10_bears_b26 C h
  · replace h := (if_neg c10).symm.trans h
    refine sf_aload_n (pc := 13) C 0 dX10_bears_13 rfl ?_
    refine sf_getr (pc := 14) C nk_149 sh_149 rfl fl_10_25 dX10_bears_14 ?_
    refine sf_bipush (v := 18) (pc := 17) C dX10_bears_17 (by decide) ?_
    refine sf_iload_n (pc := 19) C 1 dX10_bears_19 rfl ?_
    refine sf_iadd (pc := 20) C dX10_bears_20 ?_
    obtain ⟨v21, e21, h⟩ := sf_ob h
    refine sf_iald (pc := 21) C nk_155 sh_155 e21 dX10_bears_21 ?_
    refine sf_iload_n (pc := 22) C 2 dX10_bears_22 rfl ?_
    refine sf_icmp_ne (tgt := 30) (pc := 23) C dX10_bears_23 rfl (fun c23 => ?_) (fun c23 => ?_)
    · replace h := (if_neg c23).symm.trans h
      refine sf_iconst (v := 0) (pc := 30) C dX10_bears_30 (by decide) ?_
      exact sf_zretR (pc := 31) C (by first | rfl | exact sf_nb_in _ _ _) dX10_bears_31 h
    · replace h := (if_pos c23).symm.trans h
      refine sf_sub [] rfl ?_
      exact w10_bears_b26 C h
set_option maxHeartbeats 4000000 in
set_option maxRecDepth 100000 in
theorem k10_bears {l : Launch} {V : sf_V} {s : sf_Sg} {x1 : Int32} {x2 : Int32} {r : Int32} (h : f10_bears s x1 x2 = some r) : sf_M l V yX10_bears (.code yX10_bears cX10_bears 3 (some .boolean)) 0 [.ref (V.2.1 149), .int x1, .int x2] s (sf_Qi V r s) := by
  refine sf_enter (by decide) (Nat.le_of_ble_eq_true rfl) (fun X hX C => ?_)
  refine sf_sub [0, 1, 2] rfl ?_
  exact w10_bears_b0 (show sf_C X V cX10_bears 3 RX10 (some .boolean) 0 from C)  h
set_option maxHeartbeats 4000000 in
set_option maxRecDepth 100000 in
theorem w10_isShared_b0 {X : sf_X} {V : sf_V} {s : sf_Sg} {r : Int32} (C : sf_C X V cX10_isShared 2 RX10 (some .boolean) 0) {x1 : Int32} (h : f10_isShared_b0 s x1 = some r) : sf_G X V 2 (sf_Q X V (sf_Qi V r s)) s 0 [(0, .ref (V.2.1 149)), (1, .int x1)] [] := by
  unfold f10_isShared_b0 at h
  refine sf_aload_n (pc := 0) C 0 dX10_isShared_0 rfl ?_
  refine sf_getr (pc := 1) C nk_149 sh_149 rfl fl_10_25 dX10_isShared_1 ?_
  refine sf_bipush (v := 18) (pc := 4) C dX10_isShared_4 (by decide) ?_
  refine sf_iload_n (pc := 6) C 1 dX10_isShared_6 rfl ?_
  refine sf_iadd (pc := 7) C dX10_isShared_7 ?_
  obtain ⟨v8, e8, h⟩ := sf_ob h
  refine sf_iald (pc := 8) C nk_155 sh_155 e8 dX10_isShared_8 ?_
  refine sf_iconst (v := -1) (pc := 9) C dX10_isShared_9 (by decide) ?_
  refine sf_icmp_eq (tgt := 17) (pc := 10) C dX10_isShared_10 rfl (fun c10 => ?_) (fun c10 => ?_)
  · replace h := (if_pos c10).symm.trans h
    refine sf_iconst (v := 0) (pc := 17) C dX10_isShared_17 (by decide) ?_
    exact sf_zretR (pc := 18) C (by first | rfl | exact sf_nb_in _ _ _) dX10_isShared_18 h
  · replace h := (if_neg c10).symm.trans h
    refine sf_iconst (v := 1) (pc := 13) C dX10_isShared_13 (by decide) ?_
    refine sf_goto (tgt := 18) (pc := 14) C dX10_isShared_14 rfl ?_
    exact sf_zretR (pc := 18) C (by first | rfl | exact sf_nb_in _ _ _) dX10_isShared_18 h
set_option maxHeartbeats 4000000 in
set_option maxRecDepth 100000 in
theorem k10_isShared {l : Launch} {V : sf_V} {s : sf_Sg} {x1 : Int32} {r : Int32} (h : f10_isShared s x1 = some r) : sf_M l V yX10_isShared (.code yX10_isShared cX10_isShared 2 (some .boolean)) 0 [.ref (V.2.1 149), .int x1] s (sf_Qi V r s) := by
  refine sf_enter (by decide) (Nat.le_of_ble_eq_true rfl) (fun X hX C => ?_)
  refine sf_sub [0, 1] rfl ?_
  exact w10_isShared_b0 (show sf_C X V cX10_isShared 2 RX10 (some .boolean) 0 from C)  h
set_option maxHeartbeats 4000000 in
set_option maxRecDepth 100000 in
theorem w10_partOf_b0 {X : sf_X} {V : sf_V} {s : sf_Sg} {r : Int32} (C : sf_C X V cX10_partOf 3 RX10 (some .int) 1) {x1 : Int32} {x2 : Int32} (h : f10_partOf_b0 s x1 x2 = some r) : sf_G X V 3 (sf_Q X V (sf_Qi V r s)) s 0 [(0, .ref (V.2.1 149)), (1, .int x1), (2, .int x2)] [] := by
  unfold f10_partOf_b0 at h
  refine sf_aload_n (pc := 0) C 0 dX10_partOf_0 rfl ?_
  refine sf_iload_n (pc := 1) C 1 dX10_partOf_1 rfl ?_
  refine sf_iload_n (pc := 2) C 2 dX10_partOf_2 rfl ?_
  obtain ⟨v3, e3, h⟩ := sf_ob h
  refine sf_callVi (pc := 3) C (As := [.int x1, .int x2]) nk_149 sh_149 rfl yk_X10_bears cl_10_180 (k10_bears e3) (by decide) rfl (Nat.le_of_ble_eq_true rfl) rfl dX10_partOf_3 ?_
  refine sf_if_ne (tgt := 11) (pc := 6) C dX10_partOf_6 rfl (fun c6 => ?_) (fun c6 => ?_)
  · replace h := (if_neg c6).symm.trans h
    refine sf_aload_n (pc := 11) C 0 dX10_partOf_11 rfl ?_
    refine sf_iload_n (pc := 12) C 1 dX10_partOf_12 rfl ?_
    obtain ⟨v13, e13, h⟩ := sf_ob h
    refine sf_callVi (pc := 13) C (As := [.int x1]) nk_149 sh_149 rfl yk_X10_isShared cl_10_184 (k10_isShared e13) (by decide) rfl (Nat.le_of_ble_eq_true rfl) rfl dX10_partOf_13 ?_
    refine sf_if_ne (tgt := 28) (pc := 16) C dX10_partOf_16 rfl (fun c16 => ?_) (fun c16 => ?_)
    · replace h := (if_neg c16).symm.trans h
      refine sf_aload_n (pc := 28) C 0 dX10_partOf_28 rfl ?_
      refine sf_getr (pc := 29) C nk_149 sh_149 rfl fl_10_25 dX10_partOf_29 ?_
      refine sf_bipush (v := 12) (pc := 32) C dX10_partOf_32 (by decide) ?_
      refine sf_iload_n (pc := 34) C 1 dX10_partOf_34 rfl ?_
      refine sf_iadd (pc := 35) C dX10_partOf_35 ?_
      obtain ⟨v36, e36, h⟩ := sf_ob h
      refine sf_iald (pc := 36) C nk_155 sh_155 e36 dX10_partOf_36 ?_
      refine sf_iload_n (pc := 37) C 2 dX10_partOf_37 rfl ?_
      refine sf_icmp_ne (tgt := 59) (pc := 38) C dX10_partOf_38 rfl (fun c38 => ?_) (fun c38 => ?_)
      · replace h := (if_neg c38).symm.trans h
        refine sf_aload_n (pc := 59) C 0 dX10_partOf_59 rfl ?_
        refine sf_getr (pc := 60) C nk_149 sh_149 rfl fl_10_25 dX10_partOf_60 ?_
        refine sf_iload_n (pc := 63) C 1 dX10_partOf_63 rfl ?_
        obtain ⟨v64, e64, h⟩ := sf_ob h
        refine sf_iald (pc := 64) C nk_155 sh_155 e64 dX10_partOf_64 ?_
        refine sf_iconst (v := 2) (pc := 65) C dX10_partOf_65 (by decide) ?_
        refine sf_idiv (pc := 66) C dX10_partOf_66 (by decide) ?_
        exact sf_iretR (pc := 67) C dX10_partOf_67 h
      · replace h := (if_pos c38).symm.trans h
        refine sf_aload_n (pc := 41) C 0 dX10_partOf_41 rfl ?_
        refine sf_getr (pc := 42) C nk_149 sh_149 rfl fl_10_25 dX10_partOf_42 ?_
        refine sf_iload_n (pc := 45) C 1 dX10_partOf_45 rfl ?_
        obtain ⟨v46, e46, h⟩ := sf_ob h
        refine sf_iald (pc := 46) C nk_155 sh_155 e46 dX10_partOf_46 ?_
        refine sf_aload_n (pc := 47) C 0 dX10_partOf_47 rfl ?_
        refine sf_getr (pc := 48) C nk_149 sh_149 rfl fl_10_25 dX10_partOf_48 ?_
        refine sf_iload_n (pc := 51) C 1 dX10_partOf_51 rfl ?_
        obtain ⟨v52, e52, h⟩ := sf_ob h
        refine sf_iald (pc := 52) C nk_155 sh_155 e52 dX10_partOf_52 ?_
        refine sf_iconst (v := 2) (pc := 53) C dX10_partOf_53 (by decide) ?_
        refine sf_idiv (pc := 54) C dX10_partOf_54 (by decide) ?_
        refine sf_isub (pc := 55) C dX10_partOf_55 ?_
        refine sf_goto (tgt := 67) (pc := 56) C dX10_partOf_56 rfl ?_
        exact sf_iretR (pc := 67) C dX10_partOf_67 h
    · replace h := (if_pos c16).symm.trans h
      refine sf_aload_n (pc := 19) C 0 dX10_partOf_19 rfl ?_
      refine sf_getr (pc := 20) C nk_149 sh_149 rfl fl_10_25 dX10_partOf_20 ?_
      refine sf_iload_n (pc := 23) C 1 dX10_partOf_23 rfl ?_
      obtain ⟨v24, e24, h⟩ := sf_ob h
      refine sf_iald (pc := 24) C nk_155 sh_155 e24 dX10_partOf_24 ?_
      refine sf_goto (tgt := 67) (pc := 25) C dX10_partOf_25 rfl ?_
      exact sf_iretR (pc := 67) C dX10_partOf_67 h
  · replace h := (if_pos c6).symm.trans h
    refine sf_iconst (v := 0) (pc := 9) C dX10_partOf_9 (by decide) ?_
    exact sf_iretR (pc := 10) C dX10_partOf_10 h
set_option maxHeartbeats 4000000 in
set_option maxRecDepth 100000 in
theorem k10_partOf {l : Launch} {V : sf_V} {s : sf_Sg} {x1 : Int32} {x2 : Int32} {r : Int32} (h : f10_partOf s x1 x2 = some r) : sf_M l V yX10_partOf (.code yX10_partOf cX10_partOf 3 (some .int)) 1 [.ref (V.2.1 149), .int x1, .int x2] s (sf_Qi V r s) := by
  refine sf_enter (by decide) (Nat.le_of_ble_eq_true rfl) (fun X hX C => ?_)
  refine sf_sub [0, 1, 2] rfl ?_
  exact w10_partOf_b0 (show sf_C X V cX10_partOf 3 RX10 (some .int) 1 from C)  h
set_option maxHeartbeats 4000000 in
set_option maxRecDepth 100000 in
theorem w10_isAugust_b0 {X : sf_X} {V : sf_V} {s : sf_Sg} {r : Int32} (C : sf_C X V cX10_isAugust 1 RX10 (some .boolean) 0) (h : f10_isAugust_b0 s = some r) : sf_G X V 1 (sf_Q X V (sf_Qi V r s)) s 0 [(0, .ref (V.2.1 149))] [] := by
  unfold f10_isAugust_b0 at h
  refine sf_aload_n (pc := 0) C 0 dX10_isAugust_0 rfl ?_
  refine sf_getr (pc := 1) C nk_149 sh_149 rfl fl_10_25 dX10_isAugust_1 ?_
  refine sf_bipush (v := 30) (pc := 4) C dX10_isAugust_4 (by decide) ?_
  obtain ⟨v6, e6, h⟩ := sf_ob h
  refine sf_iald (pc := 6) C nk_155 sh_155 e6 dX10_isAugust_6 ?_
  refine sf_bipush (v := 12) (pc := 7) C dX10_isAugust_7 (by decide) ?_
  refine sf_irem (pc := 9) C dX10_isAugust_9 (by decide) ?_
  refine sf_bipush (v := 7) (pc := 10) C dX10_isAugust_10 (by decide) ?_
  refine sf_icmp_ne (tgt := 19) (pc := 12) C dX10_isAugust_12 rfl (fun c12 => ?_) (fun c12 => ?_)
  · replace h := (if_neg c12).symm.trans h
    refine sf_iconst (v := 0) (pc := 19) C dX10_isAugust_19 (by decide) ?_
    exact sf_zretR (pc := 20) C (by first | rfl | exact sf_nb_in _ _ _) dX10_isAugust_20 h
  · replace h := (if_pos c12).symm.trans h
    refine sf_iconst (v := 1) (pc := 15) C dX10_isAugust_15 (by decide) ?_
    refine sf_goto (tgt := 20) (pc := 16) C dX10_isAugust_16 rfl ?_
    exact sf_zretR (pc := 20) C (by first | rfl | exact sf_nb_in _ _ _) dX10_isAugust_20 h
set_option maxHeartbeats 4000000 in
set_option maxRecDepth 100000 in
theorem k10_isAugust {l : Launch} {V : sf_V} {s : sf_Sg} {r : Int32} (h : f10_isAugust s = some r) : sf_M l V yX10_isAugust (.code yX10_isAugust cX10_isAugust 1 (some .boolean)) 0 [.ref (V.2.1 149)] s (sf_Qi V r s) := by
  refine sf_enter (by decide) (Nat.le_of_ble_eq_true rfl) (fun X hX C => ?_)
  refine sf_sub [0] rfl ?_
  exact w10_isAugust_b0 (show sf_C X V cX10_isAugust 1 RX10 (some .boolean) 0 from C)  h
set_option maxHeartbeats 4000000 in
set_option maxRecDepth 100000 in
theorem w10_restOf_b0 {X : sf_X} {V : sf_V} {s : sf_Sg} {r : Int32} (C : sf_C X V cX10_restOf 2 RX10 (some .int) 1) {x1 : Int32} (h : f10_restOf_b0 s x1 = some r) : sf_G X V 2 (sf_Q X V (sf_Qi V r s)) s 0 [(0, .ref (V.2.1 149)), (1, .int x1)] [] := by
  unfold f10_restOf_b0 at h
  refine sf_aload_n (pc := 0) C 0 dX10_restOf_0 rfl ?_
  refine sf_getr (pc := 1) C nk_149 sh_149 rfl fl_10_16 dX10_restOf_1 ?_
  refine sf_iload_n (pc := 4) C 1 dX10_restOf_4 rfl ?_
  obtain ⟨v5, e5, h⟩ := sf_ob h
  refine sf_iald (pc := 5) C nk_152 sh_152 e5 dX10_restOf_5 ?_
  refine sf_aload_n (pc := 6) C 0 dX10_restOf_6 rfl ?_
  refine sf_getr (pc := 7) C nk_149 sh_149 rfl fl_10_25 dX10_restOf_7 ?_
  refine sf_bipush (v := 6) (pc := 10) C dX10_restOf_10 (by decide) ?_
  refine sf_iload_n (pc := 12) C 1 dX10_restOf_12 rfl ?_
  refine sf_iadd (pc := 13) C dX10_restOf_13 ?_
  obtain ⟨v14, e14, h⟩ := sf_ob h
  refine sf_iald (pc := 14) C nk_155 sh_155 e14 dX10_restOf_14 ?_
  refine sf_isub (pc := 15) C dX10_restOf_15 ?_
  refine sf_callSi (pc := 16) C (As := [.int (v5 - v14)]) yk_X10_notBelow cl_10_188 (k10_notBelow rfl) (by decide) rfl (Nat.le_of_ble_eq_true rfl) rfl dX10_restOf_16 ?_
  exact sf_iretR (pc := 19) C dX10_restOf_19 h
set_option maxHeartbeats 4000000 in
set_option maxRecDepth 100000 in
theorem k10_restOf {l : Launch} {V : sf_V} {s : sf_Sg} {x1 : Int32} {r : Int32} (h : f10_restOf s x1 = some r) : sf_M l V yX10_restOf (.code yX10_restOf cX10_restOf 2 (some .int)) 1 [.ref (V.2.1 149), .int x1] s (sf_Qi V r s) := by
  refine sf_enter (by decide) (Nat.le_of_ble_eq_true rfl) (fun X hX C => ?_)
  refine sf_sub [0, 1] rfl ?_
  exact w10_restOf_b0 (show sf_C X V cX10_restOf 2 RX10 (some .int) 1 from C)  h
set_option maxHeartbeats 4000000 in
set_option maxRecDepth 100000 in
theorem w10_rubsOn_b0 {X : sf_X} {V : sf_V} {s : sf_Sg} {r : Int32} (C : sf_C X V cX10_rubsOn 4 RX10 (some .int) 2) {x1 : Int32} {x2 : Int32} (h : f10_rubsOn_b0 s x1 x2 = some r) : sf_G X V 4 (sf_Q X V (sf_Qi V r s)) s 0 [(0, .ref (V.2.1 149)), (1, .int x1), (2, .int x2)] [] := by
  unfold f10_rubsOn_b0 at h
  refine sf_aload_n (pc := 0) C 0 dX10_rubsOn_0 rfl ?_
  refine sf_iload_n (pc := 1) C 1 dX10_rubsOn_1 rfl ?_
  obtain ⟨v2, e2, h⟩ := sf_ob h
  refine sf_callVi (pc := 2) C (As := [.int x1]) nk_149 sh_149 rfl yk_X10_restOf cl_10_192 (k10_restOf e2) (by decide) rfl (Nat.le_of_ble_eq_true rfl) rfl dX10_rubsOn_2 ?_
  refine sf_istore_n (lv' := [(3, .int v2), (0, .ref (V.2.1 149)), (1, .int x1), (2, .int x2)]) (pc := 5) C dX10_rubsOn_5 (by decide) rfl ?_
  refine sf_aload_n (pc := 6) C 1 dX10_rubsOn_6 rfl ?_
  refine sf_getr (pc := 7) C nk_149 sh_149 rfl fl_10_7 dX10_rubsOn_7 ?_
  refine sf_iload_n (pc := 10) C 2 dX10_rubsOn_10 rfl ?_
  obtain ⟨v11, e11, h⟩ := sf_ob h
  refine sf_iald (pc := 11) C nk_150 sh_150 e11 dX10_rubsOn_11 ?_
  by_cases c12_1 : v11 = 1
  · replace h := (if_pos c12_1).symm.trans h
    refine sf_tabIn (off := 32) (tgt := 44) (pc := 12) C dX10_rubsOn_12 (by rw [c12_1]; decide) (by rw [c12_1]; decide) (by rw [c12_1]; rfl) rfl ?_
    refine sf_aload_n (pc := 44) C 1 dX10_rubsOn_44 rfl ?_
    refine sf_iload_n (pc := 45) C 2 dX10_rubsOn_45 rfl ?_
    obtain ⟨v46, e46, h⟩ := sf_ob h
    refine sf_callVi (pc := 46) C (As := [.int x1]) nk_149 sh_149 rfl yk_X10_isShared cl_10_184 (k10_isShared e46) (by decide) rfl (Nat.le_of_ble_eq_true rfl) rfl dX10_rubsOn_46 ?_
    refine sf_if_eq (tgt := 58) (pc := 49) C dX10_rubsOn_49 rfl (fun c49 => ?_) (fun c49 => ?_)
    · replace h := (if_pos c49).symm.trans h
      refine sf_iload_n (pc := 58) C 0 dX10_rubsOn_58 rfl ?_
      exact sf_iretR (pc := 59) C dX10_rubsOn_59 h
    · replace h := (if_neg c49).symm.trans h
      refine sf_iload_n (pc := 52) C 0 dX10_rubsOn_52 rfl ?_
      refine sf_iconst (v := 2) (pc := 53) C dX10_rubsOn_53 (by decide) ?_
      refine sf_idiv (pc := 54) C dX10_rubsOn_54 (by decide) ?_
      refine sf_goto (tgt := 59) (pc := 55) C dX10_rubsOn_55 rfl ?_
      exact sf_iretR (pc := 59) C dX10_rubsOn_59 h
  replace h := (if_neg c12_1).symm.trans h
  by_cases c12_2 : v11 = 2
  · replace h := (if_pos c12_2).symm.trans h
    refine sf_tabIn (off := 48) (tgt := 60) (pc := 12) C dX10_rubsOn_12 (by rw [c12_2]; decide) (by rw [c12_2]; decide) (by rw [c12_2]; rfl) rfl ?_
    refine sf_iload_n (pc := 60) C 0 dX10_rubsOn_60 rfl ?_
    refine sf_if_le (tgt := 75) (pc := 61) C dX10_rubsOn_61 rfl (fun c61 => ?_) (fun c61 => ?_)
    · replace h := (if_pos c61).symm.trans h
      refine sf_iconst (v := 0) (pc := 75) C dX10_rubsOn_75 (by decide) ?_
      exact sf_iretR (pc := 76) C dX10_rubsOn_76 h
    · replace h := (if_neg c61).symm.trans h
      refine sf_iload_n (pc := 64) C 0 dX10_rubsOn_64 rfl ?_
      refine sf_aload_n (pc := 65) C 1 dX10_rubsOn_65 rfl ?_
      refine sf_getr (pc := 66) C nk_149 sh_149 rfl fl_10_22 dX10_rubsOn_66 ?_
      refine sf_iload_n (pc := 69) C 3 dX10_rubsOn_69 rfl ?_
      obtain ⟨v70, e70, h⟩ := sf_ob h
      refine sf_iald (pc := 70) C nk_154 sh_154 e70 dX10_rubsOn_70 ?_
      refine sf_iadd (pc := 71) C dX10_rubsOn_71 ?_
      refine sf_goto (tgt := 76) (pc := 72) C dX10_rubsOn_72 rfl ?_
      exact sf_iretR (pc := 76) C dX10_rubsOn_76 h
  replace h := (if_neg c12_2).symm.trans h
  by_cases c12_3 : v11 = 3
  · replace h := (if_pos c12_3).symm.trans h
    refine sf_tabIn (off := 65) (tgt := 77) (pc := 12) C dX10_rubsOn_12 (by rw [c12_3]; decide) (by rw [c12_3]; decide) (by rw [c12_3]; rfl) rfl ?_
    refine sf_iload_n (pc := 77) C 0 dX10_rubsOn_77 rfl ?_
    refine sf_iconst (v := 2) (pc := 78) C dX10_rubsOn_78 (by decide) ?_
    refine sf_aload_n (pc := 79) C 1 dX10_rubsOn_79 rfl ?_
    refine sf_getr (pc := 80) C nk_149 sh_149 rfl fl_10_25 dX10_rubsOn_80 ?_
    refine sf_bipush (v := 30) (pc := 83) C dX10_rubsOn_83 (by decide) ?_
    obtain ⟨v85, e85, h⟩ := sf_ob h
    refine sf_iald (pc := 85) C nk_155 sh_155 e85 dX10_rubsOn_85 ?_
    refine sf_iconst (v := 2) (pc := 86) C dX10_rubsOn_86 (by decide) ?_
    refine sf_irem (pc := 87) C dX10_rubsOn_87 (by decide) ?_
    refine sf_imul (pc := 88) C dX10_rubsOn_88 ?_
    refine sf_iadd (pc := 89) C dX10_rubsOn_89 ?_
    exact sf_iretR (pc := 90) C dX10_rubsOn_90 h
  replace h := (if_neg c12_3).symm.trans h
  by_cases c12_4 : v11 = 4
  · replace h := (if_pos c12_4).symm.trans h
    refine sf_tabIn (off := 79) (tgt := 91) (pc := 12) C dX10_rubsOn_12 (by rw [c12_4]; decide) (by rw [c12_4]; decide) (by rw [c12_4]; rfl) rfl ?_
    refine sf_aload_n (pc := 91) C 1 dX10_rubsOn_91 rfl ?_
    obtain ⟨v92, e92, h⟩ := sf_ob h
    refine sf_callVi (pc := 92) C (As := []) nk_149 sh_149 rfl yk_X10_isAugust cl_10_195 (k10_isAugust e92) (by decide) rfl (Nat.le_of_ble_eq_true rfl) rfl dX10_rubsOn_92 ?_
    refine sf_if_eq (tgt := 104) (pc := 95) C dX10_rubsOn_95 rfl (fun c95 => ?_) (fun c95 => ?_)
    · replace h := (if_pos c95).symm.trans h
      refine sf_iconst (v := 0) (pc := 104) C dX10_rubsOn_104 (by decide) ?_
      exact sf_iretR (pc := 105) C dX10_rubsOn_105 h
    · replace h := (if_neg c95).symm.trans h
      refine sf_iconst (v := 2) (pc := 98) C dX10_rubsOn_98 (by decide) ?_
      refine sf_iload_n (pc := 99) C 0 dX10_rubsOn_99 rfl ?_
      refine sf_imul (pc := 100) C dX10_rubsOn_100 ?_
      refine sf_goto (tgt := 105) (pc := 101) C dX10_rubsOn_101 rfl ?_
      exact sf_iretR (pc := 105) C dX10_rubsOn_105 h
  replace h := (if_neg c12_4).symm.trans h
  refine sf_tabOut (tgt := 106) (pc := 12) C dX10_rubsOn_12 (by have z1 := lv_neT (a := 1) c12_1 (by decide); have z2 := lv_neT (a := 2) c12_2 (by decide); have z3 := lv_neT (a := 3) c12_3 (by decide); have z4 := lv_neT (a := 4) c12_4 (by decide); omega) rfl ?_
  refine sf_iload_n (pc := 106) C 0 dX10_rubsOn_106 rfl ?_
  exact sf_iretR (pc := 107) C dX10_rubsOn_107 h
set_option maxHeartbeats 4000000 in
set_option maxRecDepth 100000 in
theorem k10_rubsOn {l : Launch} {V : sf_V} {s : sf_Sg} {x1 : Int32} {x2 : Int32} {r : Int32} (h : f10_rubsOn s x1 x2 = some r) : sf_M l V yX10_rubsOn (.code yX10_rubsOn cX10_rubsOn 4 (some .int)) 2 [.ref (V.2.1 149), .int x1, .int x2] s (sf_Qi V r s) := by
  refine sf_enter (by decide) (Nat.le_of_ble_eq_true rfl) (fun X hX C => ?_)
  refine sf_sub [0, 1, 2] rfl ?_
  exact w10_rubsOn_b0 (show sf_C X V cX10_rubsOn 4 RX10 (some .int) 2 from C)  h
set_option maxHeartbeats 4000000 in
set_option maxRecDepth 100000 in
theorem w10_partsOf_b4 {X : sf_X} {V : sf_V} {s : sf_Sg} {r : Int32} {k4 : Int32 → Int32 → Int32 → Option Int32} (C : sf_C X V cX10_partsOf 4 RX10 (some .int) 2) (hk4 : ∀  (x1 : Int32) (x2 : Int32) (x3 : Int32), k4 x1 x2 x3 = some r → sf_G X V 4 (sf_Q X V (sf_Qi V r s)) s 4 [(0, .ref (V.2.1 149)), (1, .int x1), (2, .int x2), (3, .int x3)] []) {x1 : Int32} {x2 : Int32} {x3 : Int32} (h : f10_partsOf_b4 s k4 x1 x2 x3 = some r) : sf_G X V 4 (sf_Q X V (sf_Qi V r s)) s 4 [(0, .ref (V.2.1 149)), (1, .int x1), (2, .int x2), (3, .int x3)] [] := by
  unfold f10_partsOf_b4 at h
  refine sf_iload_n (pc := 4) C 3 dX10_partsOf_4 rfl ?_
  refine sf_aload_n (pc := 5) C 0 dX10_partsOf_5 rfl ?_
  refine sf_get (pc := 6) C nk_149 sh_149 rfl fl_10_88 dX10_partsOf_6 ?_
  refine sf_icmp_ge (tgt := 27) (pc := 9) C dX10_partsOf_9 rfl (fun c9 => ?_) (fun c9 => ?_)
  · replace h := (if_pos c9).symm.trans h
    refine sf_iload_n (pc := 27) C 2 dX10_partsOf_27 rfl ?_
    exact sf_iretR (pc := 28) C dX10_partsOf_28 h
  · replace h := (if_neg c9).symm.trans h
    refine sf_iload_n (pc := 12) C 2 dX10_partsOf_12 rfl ?_
    refine sf_aload_n (pc := 13) C 0 dX10_partsOf_13 rfl ?_
    refine sf_iload_n (pc := 14) C 3 dX10_partsOf_14 rfl ?_
    refine sf_iload_n (pc := 15) C 1 dX10_partsOf_15 rfl ?_
    obtain ⟨v16, e16, h⟩ := sf_ob h
    refine sf_callVi (pc := 16) C (As := [.int x3, .int x1]) nk_149 sh_149 rfl yk_X10_partOf cl_10_199 (k10_partOf e16) (by decide) rfl (Nat.le_of_ble_eq_true rfl) rfl dX10_partsOf_16 ?_
    refine sf_iadd (pc := 19) C dX10_partsOf_19 ?_
    refine sf_istore_n (lv' := [(2, .int (x2 + v16)), (0, .ref (V.2.1 149)), (1, .int x1), (3, .int x3)]) (pc := 20) C dX10_partsOf_20 (by decide) rfl ?_
    refine sf_iinc (v := (x3 + 1)) (lv' := [(3, .int (x3 + 1)), (2, .int (x2 + v16)), (0, .ref (V.2.1 149)), (1, .int x1)]) (pc := 21) C 3 dX10_partsOf_21 rfl rfl (by decide) rfl ?_
    refine sf_goto (tgt := 4) (pc := 24) C dX10_partsOf_24 rfl ?_
    refine sf_sub [2, 3, 1, 0] rfl ?_
    exact hk4 _ _ _ h
set_option maxHeartbeats 4000000 in
set_option maxRecDepth 100000 in
theorem w10_partsOf_L4 {X : sf_X} {V : sf_V} {s : sf_Sg} {r : Int32} (C : sf_C X V cX10_partsOf 4 RX10 (some .int) 2) : ∀  (x1 : Int32) (x2 : Int32) (x3 : Int32), f10_partsOf_L4 s x1 x2 x3 = some r → sf_G X V 4 (sf_Q X V (sf_Qi V r s)) s 4 [(0, .ref (V.2.1 149)), (1, .int x1), (2, .int x2), (3, .int x3)] [] :=
  sf_it_ind (fun (k : Int32 → Int32 → Int32 → Option Int32) => ∀  (x1 : Int32) (x2 : Int32) (x3 : Int32), k x1 x2 x3 = some r → sf_G X V 4 (sf_Q X V (sf_Qi V r s)) s 4 [(0, .ref (V.2.1 149)), (1, .int x1), (2, .int x2), (3, .int x3)] []) _ _ (fun x1 x2 x3 h => by cases h) (fun k hk x1 x2 x3 h => w10_partsOf_b4 C hk h) _
set_option maxHeartbeats 4000000 in
set_option maxRecDepth 100000 in
theorem w10_partsOf_b0 {X : sf_X} {V : sf_V} {s : sf_Sg} {r : Int32} (C : sf_C X V cX10_partsOf 4 RX10 (some .int) 2) {x1 : Int32} (h : f10_partsOf_b0 s x1 = some r) : sf_G X V 4 (sf_Q X V (sf_Qi V r s)) s 0 [(0, .ref (V.2.1 149)), (1, .int x1)] [] := by
  unfold f10_partsOf_b0 at h
  refine sf_iconst (v := 0) (pc := 0) C dX10_partsOf_0 (by decide) ?_
  refine sf_istore_n (lv' := [(2, .int (0 : Int32)), (0, .ref (V.2.1 149)), (1, .int x1)]) (pc := 1) C dX10_partsOf_1 (by decide) rfl ?_
  refine sf_iconst (v := 0) (pc := 2) C dX10_partsOf_2 (by decide) ?_
  refine sf_istore_n (lv' := [(3, .int (0 : Int32)), (2, .int (0 : Int32)), (0, .ref (V.2.1 149)), (1, .int x1)]) (pc := 3) C dX10_partsOf_3 (by decide) rfl ?_
  refine sf_sub [2, 3, 1, 0] rfl ?_
  exact w10_partsOf_L4 C _ _ _ h
set_option maxHeartbeats 4000000 in
set_option maxRecDepth 100000 in
theorem k10_partsOf {l : Launch} {V : sf_V} {s : sf_Sg} {x1 : Int32} {r : Int32} (h : f10_partsOf s x1 = some r) : sf_M l V yX10_partsOf (.code yX10_partsOf cX10_partsOf 4 (some .int)) 2 [.ref (V.2.1 149), .int x1] s (sf_Qi V r s) := by
  refine sf_enter (by decide) (Nat.le_of_ble_eq_true rfl) (fun X hX C => ?_)
  refine sf_sub [0, 1] rfl ?_
  exact w10_partsOf_b0 (show sf_C X V cX10_partsOf 4 RX10 (some .int) 2 from C)  h
set_option maxHeartbeats 4000000 in
set_option maxRecDepth 100000 in
theorem w10_gallingOf_b46 {X : sf_X} {V : sf_V} {s : sf_Sg} {r : Int32} {k18 : Int32 → Int32 → Int32 → Option Int32} (C : sf_C X V cX10_gallingOf 4 RX10 (some .int) 3) (hk18 : ∀  (x1 : Int32) (x2 : Int32) (x3 : Int32), k18 x1 x2 x3 = some r → sf_G X V 4 (sf_Q X V (sf_Qi V r s)) s 18 [(0, .ref (V.2.1 149)), (1, .int x1), (2, .int x2), (3, .int x3)] []) {x1 : Int32} {x3 : Int32} {t1 : Int32} {t0 : Int32} (h : f10_gallingOf_b46 s k18 x1 x3 t1 t0 = some r) : sf_G X V 4 (sf_Q X V (sf_Qi V r s)) s 46 [(0, .ref (V.2.1 149)), (1, .int x1), (3, .int x3)] [.int t1, .int t0] := by
  unfold f10_gallingOf_b46 at h
  refine sf_iadd (pc := 46) C dX10_gallingOf_46 ?_
  refine sf_istore_n (lv' := [(2, .int (t0 + t1)), (0, .ref (V.2.1 149)), (1, .int x1), (3, .int x3)]) (pc := 47) C dX10_gallingOf_47 (by decide) rfl ?_
  refine sf_iinc (v := (x3 + 1)) (lv' := [(3, .int (x3 + 1)), (2, .int (t0 + t1)), (0, .ref (V.2.1 149)), (1, .int x1)]) (pc := 48) C 3 dX10_gallingOf_48 rfl rfl (by decide) rfl ?_
  refine sf_goto (tgt := 18) (pc := 51) C dX10_gallingOf_51 rfl ?_
  refine sf_sub [2, 3, 1, 0] rfl ?_
  exact hk18 _ _ _ h
set_option maxHeartbeats 4000000 in
set_option maxRecDepth 100000 in
theorem w10_gallingOf_b18 {X : sf_X} {V : sf_V} {s : sf_Sg} {r : Int32} {k18 : Int32 → Int32 → Int32 → Option Int32} (C : sf_C X V cX10_gallingOf 4 RX10 (some .int) 3) (hk18 : ∀  (x1 : Int32) (x2 : Int32) (x3 : Int32), k18 x1 x2 x3 = some r → sf_G X V 4 (sf_Q X V (sf_Qi V r s)) s 18 [(0, .ref (V.2.1 149)), (1, .int x1), (2, .int x2), (3, .int x3)] []) {x1 : Int32} {x2 : Int32} {x3 : Int32} (h : f10_gallingOf_b18 s k18 x1 x2 x3 = some r) : sf_G X V 4 (sf_Q X V (sf_Qi V r s)) s 18 [(0, .ref (V.2.1 149)), (1, .int x1), (2, .int x2), (3, .int x3)] [] := by
  unfold f10_gallingOf_b18 at h
  refine sf_iload_n (pc := 18) C 3 dX10_gallingOf_18 rfl ?_
  refine sf_aload_n (pc := 19) C 0 dX10_gallingOf_19 rfl ?_
  refine sf_get (pc := 20) C nk_149 sh_149 rfl fl_10_88 dX10_gallingOf_20 ?_
  refine sf_icmp_ge (tgt := 54) (pc := 23) C dX10_gallingOf_23 rfl (fun c23 => ?_) (fun c23 => ?_)
  · replace h := (if_pos c23).symm.trans h
    refine sf_iload_n (pc := 54) C 2 dX10_gallingOf_54 rfl ?_
    exact sf_iretR (pc := 55) C dX10_gallingOf_55 h
  · replace h := (if_neg c23).symm.trans h
    refine sf_iload_n (pc := 26) C 2 dX10_gallingOf_26 rfl ?_
    refine sf_aload_n (pc := 27) C 0 dX10_gallingOf_27 rfl ?_
    refine sf_iload_n (pc := 28) C 3 dX10_gallingOf_28 rfl ?_
    refine sf_iload_n (pc := 29) C 1 dX10_gallingOf_29 rfl ?_
    obtain ⟨v30, e30, h⟩ := sf_ob h
    refine sf_callVi (pc := 30) C (As := [.int x3, .int x1]) nk_149 sh_149 rfl yk_X10_bears cl_10_180 (k10_bears e30) (by decide) rfl (Nat.le_of_ble_eq_true rfl) rfl dX10_gallingOf_30 ?_
    refine sf_if_eq (tgt := 45) (pc := 33) C dX10_gallingOf_33 rfl (fun c33 => ?_) (fun c33 => ?_)
    · replace h := (if_pos c33).symm.trans h
      refine sf_iconst (v := 0) (pc := 45) C dX10_gallingOf_45 (by decide) ?_
      refine sf_sub [0, 1, 3] rfl ?_
      exact w10_gallingOf_b46 C hk18 h
    · replace h := (if_neg c33).symm.trans h
      refine sf_aload_n (pc := 36) C 0 dX10_gallingOf_36 rfl ?_
      refine sf_iload_n (pc := 37) C 3 dX10_gallingOf_37 rfl ?_
      refine sf_iload_n (pc := 38) C 1 dX10_gallingOf_38 rfl ?_
      obtain ⟨v39, e39, h⟩ := sf_ob h
      refine sf_callVi (pc := 39) C (As := [.int x3, .int x1]) nk_149 sh_149 rfl yk_X10_rubsOn cl_10_205 (k10_rubsOn e39) (by decide) rfl (Nat.le_of_ble_eq_true rfl) rfl dX10_gallingOf_39 ?_
      refine sf_goto (tgt := 46) (pc := 42) C dX10_gallingOf_42 rfl ?_
      refine sf_sub [0, 1, 3] rfl ?_
      exact w10_gallingOf_b46 C hk18 h
set_option maxHeartbeats 4000000 in
set_option maxRecDepth 100000 in
theorem w10_gallingOf_L18 {X : sf_X} {V : sf_V} {s : sf_Sg} {r : Int32} (C : sf_C X V cX10_gallingOf 4 RX10 (some .int) 3) : ∀  (x1 : Int32) (x2 : Int32) (x3 : Int32), f10_gallingOf_L18 s x1 x2 x3 = some r → sf_G X V 4 (sf_Q X V (sf_Qi V r s)) s 18 [(0, .ref (V.2.1 149)), (1, .int x1), (2, .int x2), (3, .int x3)] [] :=
  sf_it_ind (fun (k : Int32 → Int32 → Int32 → Option Int32) => ∀  (x1 : Int32) (x2 : Int32) (x3 : Int32), k x1 x2 x3 = some r → sf_G X V 4 (sf_Q X V (sf_Qi V r s)) s 18 [(0, .ref (V.2.1 149)), (1, .int x1), (2, .int x2), (3, .int x3)] []) _ _ (fun x1 x2 x3 h => by cases h) (fun k hk x1 x2 x3 h => w10_gallingOf_b18 C hk h) _
set_option maxHeartbeats 4000000 in
set_option maxRecDepth 100000 in
theorem w10_gallingOf_b0 {X : sf_X} {V : sf_V} {s : sf_Sg} {r : Int32} (C : sf_C X V cX10_gallingOf 4 RX10 (some .int) 3) {x1 : Int32} (h : f10_gallingOf_b0 s x1 = some r) : sf_G X V 4 (sf_Q X V (sf_Qi V r s)) s 0 [(0, .ref (V.2.1 149)), (1, .int x1)] [] := by
  unfold f10_gallingOf_b0 at h
  refine sf_aload_n (pc := 0) C 0 dX10_gallingOf_0 rfl ?_
  refine sf_iload_n (pc := 1) C 1 dX10_gallingOf_1 rfl ?_
  obtain ⟨v2, e2, h⟩ := sf_ob h
  refine sf_callVi (pc := 2) C (As := [.int x1]) nk_149 sh_149 rfl yk_X10_partsOf cl_10_202 (k10_partsOf e2) (by decide) rfl (Nat.le_of_ble_eq_true rfl) rfl dX10_gallingOf_2 ?_
  refine sf_aload_n (pc := 5) C 0 dX10_gallingOf_5 rfl ?_
  refine sf_getr (pc := 6) C nk_149 sh_149 rfl fl_10_19 dX10_gallingOf_6 ?_
  refine sf_iload_n (pc := 9) C 1 dX10_gallingOf_9 rfl ?_
  obtain ⟨v10, e10, h⟩ := sf_ob h
  refine sf_iald (pc := 10) C nk_153 sh_153 e10 dX10_gallingOf_10 ?_
  refine sf_isub (pc := 11) C dX10_gallingOf_11 ?_
  refine sf_callSi (pc := 12) C (As := [.int (v2 - v10)]) yk_X10_notBelow cl_10_188 (k10_notBelow rfl) (by decide) rfl (Nat.le_of_ble_eq_true rfl) rfl dX10_gallingOf_12 ?_
  refine sf_istore_n (lv' := [(2, .int (f10_notBelow (v2 - v10))), (0, .ref (V.2.1 149)), (1, .int x1)]) (pc := 15) C dX10_gallingOf_15 (by decide) rfl ?_
  refine sf_iconst (v := 0) (pc := 16) C dX10_gallingOf_16 (by decide) ?_
  refine sf_istore_n (lv' := [(3, .int (0 : Int32)), (2, .int (f10_notBelow (v2 - v10))), (0, .ref (V.2.1 149)), (1, .int x1)]) (pc := 17) C dX10_gallingOf_17 (by decide) rfl ?_
  refine sf_sub [2, 3, 1, 0] rfl ?_
  exact w10_gallingOf_L18 C _ _ _ h
set_option maxHeartbeats 4000000 in
set_option maxRecDepth 100000 in
theorem k10_gallingOf {l : Launch} {V : sf_V} {s : sf_Sg} {x1 : Int32} {r : Int32} (h : f10_gallingOf s x1 = some r) : sf_M l V yX10_gallingOf (.code yX10_gallingOf cX10_gallingOf 4 (some .int)) 3 [.ref (V.2.1 149), .int x1] s (sf_Qi V r s) := by
  refine sf_enter (by decide) (Nat.le_of_ble_eq_true rfl) (fun X hX C => ?_)
  refine sf_sub [0, 1] rfl ?_
  exact w10_gallingOf_b0 (show sf_C X V cX10_gallingOf 4 RX10 (some .int) 3 from C)  h
set_option maxHeartbeats 4000000 in
set_option maxRecDepth 100000 in
theorem w10_allGalling_b4 {X : sf_X} {V : sf_V} {s : sf_Sg} {r : Int32} {k4 : Int32 → Int32 → Option Int32} (C : sf_C X V cX10_allGalling 3 RX10 (some .int) 4) (hk4 : ∀  (x1 : Int32) (x2 : Int32), k4 x1 x2 = some r → sf_G X V 3 (sf_Q X V (sf_Qi V r s)) s 4 [(0, .ref (V.2.1 149)), (1, .int x1), (2, .int x2)] []) {x1 : Int32} {x2 : Int32} (h : f10_allGalling_b4 s k4 x1 x2 = some r) : sf_G X V 3 (sf_Q X V (sf_Qi V r s)) s 4 [(0, .ref (V.2.1 149)), (1, .int x1), (2, .int x2)] [] := by
  unfold f10_allGalling_b4 at h
  refine sf_iload_n (pc := 4) C 2 dX10_allGalling_4 rfl ?_
  refine sf_aload_n (pc := 5) C 0 dX10_allGalling_5 rfl ?_
  refine sf_get (pc := 6) C nk_149 sh_149 rfl fl_10_95 dX10_allGalling_6 ?_
  refine sf_icmp_ge (tgt := 26) (pc := 9) C dX10_allGalling_9 rfl (fun c9 => ?_) (fun c9 => ?_)
  · replace h := (if_pos c9).symm.trans h
    refine sf_iload_n (pc := 26) C 1 dX10_allGalling_26 rfl ?_
    exact sf_iretR (pc := 27) C dX10_allGalling_27 h
  · replace h := (if_neg c9).symm.trans h
    refine sf_iload_n (pc := 12) C 1 dX10_allGalling_12 rfl ?_
    refine sf_aload_n (pc := 13) C 0 dX10_allGalling_13 rfl ?_
    refine sf_iload_n (pc := 14) C 2 dX10_allGalling_14 rfl ?_
    obtain ⟨v15, e15, h⟩ := sf_ob h
    refine sf_callVi (pc := 15) C (As := [.int x2]) nk_149 sh_149 rfl yk_X10_gallingOf cl_10_208 (k10_gallingOf e15) (by decide) rfl (Nat.le_of_ble_eq_true rfl) rfl dX10_allGalling_15 ?_
    refine sf_iadd (pc := 18) C dX10_allGalling_18 ?_
    refine sf_istore_n (lv' := [(1, .int (x1 + v15)), (0, .ref (V.2.1 149)), (2, .int x2)]) (pc := 19) C dX10_allGalling_19 (by decide) rfl ?_
    refine sf_iinc (v := (x2 + 1)) (lv' := [(2, .int (x2 + 1)), (1, .int (x1 + v15)), (0, .ref (V.2.1 149))]) (pc := 20) C 2 dX10_allGalling_20 rfl rfl (by decide) rfl ?_
    refine sf_goto (tgt := 4) (pc := 23) C dX10_allGalling_23 rfl ?_
    refine sf_sub [2, 1, 0] rfl ?_
    exact hk4 _ _ h
set_option maxHeartbeats 4000000 in
set_option maxRecDepth 100000 in
theorem w10_allGalling_L4 {X : sf_X} {V : sf_V} {s : sf_Sg} {r : Int32} (C : sf_C X V cX10_allGalling 3 RX10 (some .int) 4) : ∀  (x1 : Int32) (x2 : Int32), f10_allGalling_L4 s x1 x2 = some r → sf_G X V 3 (sf_Q X V (sf_Qi V r s)) s 4 [(0, .ref (V.2.1 149)), (1, .int x1), (2, .int x2)] [] :=
  sf_it_ind (fun (k : Int32 → Int32 → Option Int32) => ∀  (x1 : Int32) (x2 : Int32), k x1 x2 = some r → sf_G X V 3 (sf_Q X V (sf_Qi V r s)) s 4 [(0, .ref (V.2.1 149)), (1, .int x1), (2, .int x2)] []) _ _ (fun x1 x2 h => by cases h) (fun k hk x1 x2 h => w10_allGalling_b4 C hk h) _
set_option maxHeartbeats 4000000 in
set_option maxRecDepth 100000 in
theorem w10_allGalling_b0 {X : sf_X} {V : sf_V} {s : sf_Sg} {r : Int32} (C : sf_C X V cX10_allGalling 3 RX10 (some .int) 4) (h : f10_allGalling_b0 s = some r) : sf_G X V 3 (sf_Q X V (sf_Qi V r s)) s 0 [(0, .ref (V.2.1 149))] [] := by
  unfold f10_allGalling_b0 at h
  refine sf_iconst (v := 0) (pc := 0) C dX10_allGalling_0 (by decide) ?_
  refine sf_istore_n (lv' := [(1, .int (0 : Int32)), (0, .ref (V.2.1 149))]) (pc := 1) C dX10_allGalling_1 (by decide) rfl ?_
  refine sf_iconst (v := 0) (pc := 2) C dX10_allGalling_2 (by decide) ?_
  refine sf_istore_n (lv' := [(2, .int (0 : Int32)), (1, .int (0 : Int32)), (0, .ref (V.2.1 149))]) (pc := 3) C dX10_allGalling_3 (by decide) rfl ?_
  refine sf_sub [2, 1, 0] rfl ?_
  exact w10_allGalling_L4 C _ _ h
set_option maxHeartbeats 4000000 in
set_option maxRecDepth 100000 in
theorem k10_allGalling {l : Launch} {V : sf_V} {s : sf_Sg} {r : Int32} (h : f10_allGalling s = some r) : sf_M l V yX10_allGalling (.code yX10_allGalling cX10_allGalling 3 (some .int)) 4 [.ref (V.2.1 149)] s (sf_Qi V r s) := by
  refine sf_enter (by decide) (Nat.le_of_ble_eq_true rfl) (fun X hX C => ?_)
  refine sf_sub [0] rfl ?_
  exact w10_allGalling_b0 (show sf_C X V cX10_allGalling 3 RX10 (some .int) 4 from C)  h
set_option maxHeartbeats 4000000 in
set_option maxRecDepth 100000 in
theorem w10_carriedBy_b29 {X : sf_X} {V : sf_V} {s : sf_Sg} {r : Int32} {k4 : Int32 → Int32 → Int32 → Option Int32} (C : sf_C X V cX10_carriedBy 4 RX10 (some .int) 1) (hk4 : ∀  (x1 : Int32) (x2 : Int32) (x3 : Int32), k4 x1 x2 x3 = some r → sf_G X V 4 (sf_Q X V (sf_Qi V r s)) s 4 [(0, .ref (V.2.1 149)), (1, .int x1), (2, .int x2), (3, .int x3)] []) {x1 : Int32} {x3 : Int32} {t1 : Int32} {t0 : Int32} (h : f10_carriedBy_b29 s k4 x1 x3 t1 t0 = some r) : sf_G X V 4 (sf_Q X V (sf_Qi V r s)) s 29 [(0, .ref (V.2.1 149)), (1, .int x1), (3, .int x3)] [.int t1, .int t0] := by
  unfold f10_carriedBy_b29 at h
  refine sf_ior (pc := 29) C dX10_carriedBy_29 ?_
  refine sf_istore_n (lv' := [(2, .int (t0 ||| t1)), (0, .ref (V.2.1 149)), (1, .int x1), (3, .int x3)]) (pc := 30) C dX10_carriedBy_30 (by decide) rfl ?_
  refine sf_iinc (v := (x3 + 1)) (lv' := [(3, .int (x3 + 1)), (2, .int (t0 ||| t1)), (0, .ref (V.2.1 149)), (1, .int x1)]) (pc := 31) C 3 dX10_carriedBy_31 rfl rfl (by decide) rfl ?_
  refine sf_goto (tgt := 4) (pc := 34) C dX10_carriedBy_34 rfl ?_
  refine sf_sub [2, 3, 1, 0] rfl ?_
  exact hk4 _ _ _ h
set_option maxHeartbeats 4000000 in
set_option maxRecDepth 100000 in
theorem w10_carriedBy_b4 {X : sf_X} {V : sf_V} {s : sf_Sg} {r : Int32} {k4 : Int32 → Int32 → Int32 → Option Int32} (C : sf_C X V cX10_carriedBy 4 RX10 (some .int) 1) (hk4 : ∀  (x1 : Int32) (x2 : Int32) (x3 : Int32), k4 x1 x2 x3 = some r → sf_G X V 4 (sf_Q X V (sf_Qi V r s)) s 4 [(0, .ref (V.2.1 149)), (1, .int x1), (2, .int x2), (3, .int x3)] []) {x1 : Int32} {x2 : Int32} {x3 : Int32} (h : f10_carriedBy_b4 s k4 x1 x2 x3 = some r) : sf_G X V 4 (sf_Q X V (sf_Qi V r s)) s 4 [(0, .ref (V.2.1 149)), (1, .int x1), (2, .int x2), (3, .int x3)] [] := by
  unfold f10_carriedBy_b4 at h
  refine sf_iload_n (pc := 4) C 3 dX10_carriedBy_4 rfl ?_
  refine sf_aload_n (pc := 5) C 0 dX10_carriedBy_5 rfl ?_
  refine sf_get (pc := 6) C nk_149 sh_149 rfl fl_10_88 dX10_carriedBy_6 ?_
  refine sf_icmp_ge (tgt := 37) (pc := 9) C dX10_carriedBy_9 rfl (fun c9 => ?_) (fun c9 => ?_)
  · replace h := (if_pos c9).symm.trans h
    refine sf_iload_n (pc := 37) C 2 dX10_carriedBy_37 rfl ?_
    exact sf_iretR (pc := 38) C dX10_carriedBy_38 h
  · replace h := (if_neg c9).symm.trans h
    refine sf_iload_n (pc := 12) C 2 dX10_carriedBy_12 rfl ?_
    refine sf_aload_n (pc := 13) C 0 dX10_carriedBy_13 rfl ?_
    refine sf_iload_n (pc := 14) C 3 dX10_carriedBy_14 rfl ?_
    refine sf_iload_n (pc := 15) C 1 dX10_carriedBy_15 rfl ?_
    obtain ⟨v16, e16, h⟩ := sf_ob h
    refine sf_callVi (pc := 16) C (As := [.int x3, .int x1]) nk_149 sh_149 rfl yk_X10_bears cl_10_180 (k10_bears e16) (by decide) rfl (Nat.le_of_ble_eq_true rfl) rfl dX10_carriedBy_16 ?_
    refine sf_if_eq (tgt := 28) (pc := 19) C dX10_carriedBy_19 rfl (fun c19 => ?_) (fun c19 => ?_)
    · replace h := (if_pos c19).symm.trans h
      refine sf_iconst (v := 0) (pc := 28) C dX10_carriedBy_28 (by decide) ?_
      refine sf_sub [0, 1, 3] rfl ?_
      exact w10_carriedBy_b29 C hk4 h
    · replace h := (if_neg c19).symm.trans h
      refine sf_iconst (v := 1) (pc := 22) C dX10_carriedBy_22 (by decide) ?_
      refine sf_iload_n (pc := 23) C 3 dX10_carriedBy_23 rfl ?_
      refine sf_ishl (pc := 24) C dX10_carriedBy_24 ?_
      refine sf_goto (tgt := 29) (pc := 25) C dX10_carriedBy_25 rfl ?_
      refine sf_sub [0, 1, 3] rfl ?_
      exact w10_carriedBy_b29 C hk4 h
set_option maxHeartbeats 4000000 in
set_option maxRecDepth 100000 in
theorem w10_carriedBy_L4 {X : sf_X} {V : sf_V} {s : sf_Sg} {r : Int32} (C : sf_C X V cX10_carriedBy 4 RX10 (some .int) 1) : ∀  (x1 : Int32) (x2 : Int32) (x3 : Int32), f10_carriedBy_L4 s x1 x2 x3 = some r → sf_G X V 4 (sf_Q X V (sf_Qi V r s)) s 4 [(0, .ref (V.2.1 149)), (1, .int x1), (2, .int x2), (3, .int x3)] [] :=
  sf_it_ind (fun (k : Int32 → Int32 → Int32 → Option Int32) => ∀  (x1 : Int32) (x2 : Int32) (x3 : Int32), k x1 x2 x3 = some r → sf_G X V 4 (sf_Q X V (sf_Qi V r s)) s 4 [(0, .ref (V.2.1 149)), (1, .int x1), (2, .int x2), (3, .int x3)] []) _ _ (fun x1 x2 x3 h => by cases h) (fun k hk x1 x2 x3 h => w10_carriedBy_b4 C hk h) _
set_option maxHeartbeats 4000000 in
set_option maxRecDepth 100000 in
theorem w10_carriedBy_b0 {X : sf_X} {V : sf_V} {s : sf_Sg} {r : Int32} (C : sf_C X V cX10_carriedBy 4 RX10 (some .int) 1) {x1 : Int32} (h : f10_carriedBy_b0 s x1 = some r) : sf_G X V 4 (sf_Q X V (sf_Qi V r s)) s 0 [(0, .ref (V.2.1 149)), (1, .int x1)] [] := by
  unfold f10_carriedBy_b0 at h
  refine sf_iconst (v := 0) (pc := 0) C dX10_carriedBy_0 (by decide) ?_
  refine sf_istore_n (lv' := [(2, .int (0 : Int32)), (0, .ref (V.2.1 149)), (1, .int x1)]) (pc := 1) C dX10_carriedBy_1 (by decide) rfl ?_
  refine sf_iconst (v := 0) (pc := 2) C dX10_carriedBy_2 (by decide) ?_
  refine sf_istore_n (lv' := [(3, .int (0 : Int32)), (2, .int (0 : Int32)), (0, .ref (V.2.1 149)), (1, .int x1)]) (pc := 3) C dX10_carriedBy_3 (by decide) rfl ?_
  refine sf_sub [2, 3, 1, 0] rfl ?_
  exact w10_carriedBy_L4 C _ _ _ h
set_option maxHeartbeats 4000000 in
set_option maxRecDepth 100000 in
theorem k10_carriedBy {l : Launch} {V : sf_V} {s : sf_Sg} {x1 : Int32} {r : Int32} (h : f10_carriedBy s x1 = some r) : sf_M l V yX10_carriedBy (.code yX10_carriedBy cX10_carriedBy 4 (some .int)) 1 [.ref (V.2.1 149), .int x1] s (sf_Qi V r s) := by
  refine sf_enter (by decide) (Nat.le_of_ble_eq_true rfl) (fun X hX C => ?_)
  refine sf_sub [0, 1] rfl ?_
  exact w10_carriedBy_b0 (show sf_C X V cX10_carriedBy 4 RX10 (some .int) 1 from C)  h
set_option maxHeartbeats 4000000 in
set_option maxRecDepth 100000 in
theorem w10_galledOnes_b34 {X : sf_X} {V : sf_V} {s : sf_Sg} {r : Int32} {k4 : Int32 → Int32 → Option Int32} (C : sf_C X V cX10_galledOnes 3 RX10 (some .int) 0) (hk4 : ∀  (x1 : Int32) (x2 : Int32), k4 x1 x2 = some r → sf_G X V 3 (sf_Q X V (sf_Qi V r s)) s 4 [(0, .ref (V.2.1 149)), (1, .int x1), (2, .int x2)] []) {x2 : Int32} {t1 : Int32} {t0 : Int32} (h : f10_galledOnes_b34 s k4 x2 t1 t0 = some r) : sf_G X V 3 (sf_Q X V (sf_Qi V r s)) s 34 [(0, .ref (V.2.1 149)), (2, .int x2)] [.int t1, .int t0] := by
  unfold f10_galledOnes_b34 at h
  refine sf_ior (pc := 34) C dX10_galledOnes_34 ?_
  refine sf_istore_n (lv' := [(1, .int (t0 ||| t1)), (0, .ref (V.2.1 149)), (2, .int x2)]) (pc := 35) C dX10_galledOnes_35 (by decide) rfl ?_
  refine sf_iinc (v := (x2 + 1)) (lv' := [(2, .int (x2 + 1)), (1, .int (t0 ||| t1)), (0, .ref (V.2.1 149))]) (pc := 36) C 2 dX10_galledOnes_36 rfl rfl (by decide) rfl ?_
  refine sf_goto (tgt := 4) (pc := 39) C dX10_galledOnes_39 rfl ?_
  refine sf_sub [2, 1, 0] rfl ?_
  exact hk4 _ _ h
set_option maxHeartbeats 4000000 in
set_option maxRecDepth 100000 in
theorem w10_galledOnes_b4 {X : sf_X} {V : sf_V} {s : sf_Sg} {r : Int32} {k4 : Int32 → Int32 → Option Int32} (C : sf_C X V cX10_galledOnes 3 RX10 (some .int) 0) (hk4 : ∀  (x1 : Int32) (x2 : Int32), k4 x1 x2 = some r → sf_G X V 3 (sf_Q X V (sf_Qi V r s)) s 4 [(0, .ref (V.2.1 149)), (1, .int x1), (2, .int x2)] []) {x1 : Int32} {x2 : Int32} (h : f10_galledOnes_b4 s k4 x1 x2 = some r) : sf_G X V 3 (sf_Q X V (sf_Qi V r s)) s 4 [(0, .ref (V.2.1 149)), (1, .int x1), (2, .int x2)] [] := by
  unfold f10_galledOnes_b4 at h
  refine sf_iload_n (pc := 4) C 2 dX10_galledOnes_4 rfl ?_
  refine sf_aload_n (pc := 5) C 0 dX10_galledOnes_5 rfl ?_
  refine sf_get (pc := 6) C nk_149 sh_149 rfl fl_10_95 dX10_galledOnes_6 ?_
  refine sf_icmp_ge (tgt := 42) (pc := 9) C dX10_galledOnes_9 rfl (fun c9 => ?_) (fun c9 => ?_)
  · replace h := (if_pos c9).symm.trans h
    refine sf_iload_n (pc := 42) C 1 dX10_galledOnes_42 rfl ?_
    exact sf_iretR (pc := 43) C dX10_galledOnes_43 h
  · replace h := (if_neg c9).symm.trans h
    refine sf_iload_n (pc := 12) C 1 dX10_galledOnes_12 rfl ?_
    refine sf_aload_n (pc := 13) C 0 dX10_galledOnes_13 rfl ?_
    refine sf_getr (pc := 14) C nk_149 sh_149 rfl fl_10_25 dX10_galledOnes_14 ?_
    refine sf_bipush (v := 24) (pc := 17) C dX10_galledOnes_17 (by decide) ?_
    refine sf_iload_n (pc := 19) C 2 dX10_galledOnes_19 rfl ?_
    refine sf_iadd (pc := 20) C dX10_galledOnes_20 ?_
    obtain ⟨v21, e21, h⟩ := sf_ob h
    refine sf_iald (pc := 21) C nk_155 sh_155 e21 dX10_galledOnes_21 ?_
    refine sf_bipush (v := 20) (pc := 22) C dX10_galledOnes_22 (by decide) ?_
    refine sf_icmp_lt (tgt := 33) (pc := 24) C dX10_galledOnes_24 rfl (fun c24 => ?_) (fun c24 => ?_)
    · replace h := (if_pos c24).symm.trans h
      refine sf_iconst (v := 0) (pc := 33) C dX10_galledOnes_33 (by decide) ?_
      refine sf_sub [0, 2] rfl ?_
      exact w10_galledOnes_b34 C hk4 h
    · replace h := (if_neg c24).symm.trans h
      refine sf_iconst (v := 1) (pc := 27) C dX10_galledOnes_27 (by decide) ?_
      refine sf_iload_n (pc := 28) C 2 dX10_galledOnes_28 rfl ?_
      refine sf_ishl (pc := 29) C dX10_galledOnes_29 ?_
      refine sf_goto (tgt := 34) (pc := 30) C dX10_galledOnes_30 rfl ?_
      refine sf_sub [0, 2] rfl ?_
      exact w10_galledOnes_b34 C hk4 h
set_option maxHeartbeats 4000000 in
set_option maxRecDepth 100000 in
theorem w10_galledOnes_L4 {X : sf_X} {V : sf_V} {s : sf_Sg} {r : Int32} (C : sf_C X V cX10_galledOnes 3 RX10 (some .int) 0) : ∀  (x1 : Int32) (x2 : Int32), f10_galledOnes_L4 s x1 x2 = some r → sf_G X V 3 (sf_Q X V (sf_Qi V r s)) s 4 [(0, .ref (V.2.1 149)), (1, .int x1), (2, .int x2)] [] :=
  sf_it_ind (fun (k : Int32 → Int32 → Option Int32) => ∀  (x1 : Int32) (x2 : Int32), k x1 x2 = some r → sf_G X V 3 (sf_Q X V (sf_Qi V r s)) s 4 [(0, .ref (V.2.1 149)), (1, .int x1), (2, .int x2)] []) _ _ (fun x1 x2 h => by cases h) (fun k hk x1 x2 h => w10_galledOnes_b4 C hk h) _
set_option maxHeartbeats 4000000 in
set_option maxRecDepth 100000 in
theorem w10_galledOnes_b0 {X : sf_X} {V : sf_V} {s : sf_Sg} {r : Int32} (C : sf_C X V cX10_galledOnes 3 RX10 (some .int) 0) (h : f10_galledOnes_b0 s = some r) : sf_G X V 3 (sf_Q X V (sf_Qi V r s)) s 0 [(0, .ref (V.2.1 149))] [] := by
  unfold f10_galledOnes_b0 at h
  refine sf_iconst (v := 0) (pc := 0) C dX10_galledOnes_0 (by decide) ?_
  refine sf_istore_n (lv' := [(1, .int (0 : Int32)), (0, .ref (V.2.1 149))]) (pc := 1) C dX10_galledOnes_1 (by decide) rfl ?_
  refine sf_iconst (v := 0) (pc := 2) C dX10_galledOnes_2 (by decide) ?_
  refine sf_istore_n (lv' := [(2, .int (0 : Int32)), (1, .int (0 : Int32)), (0, .ref (V.2.1 149))]) (pc := 3) C dX10_galledOnes_3 (by decide) rfl ?_
  refine sf_sub [2, 1, 0] rfl ?_
  exact w10_galledOnes_L4 C _ _ h
set_option maxHeartbeats 4000000 in
set_option maxRecDepth 100000 in
theorem k10_galledOnes {l : Launch} {V : sf_V} {s : sf_Sg} {r : Int32} (h : f10_galledOnes s = some r) : sf_M l V yX10_galledOnes (.code yX10_galledOnes cX10_galledOnes 3 (some .int)) 0 [.ref (V.2.1 149)] s (sf_Qi V r s) := by
  refine sf_enter (by decide) (Nat.le_of_ble_eq_true rfl) (fun X hX C => ?_)
  refine sf_sub [0] rfl ?_
  exact w10_galledOnes_b0 (show sf_C X V cX10_galledOnes 3 RX10 (some .int) 0 from C)  h
