set_option maxHeartbeats 4000000 in
set_option maxRecDepth 100000 in
theorem w9_within_b14 {X : sf_X} {V : sf_V} {s : sf_Sg} {r : Int32} (C : sf_C X V cX9_within 3 RX9 (some .boolean) 0) (h : f9_within_b14 = r) : sf_G X V 3 (sf_Q X V (sf_Qi V r s)) s 14 [] [] := by
  unfold f9_within_b14 at h
  refine sf_iconst (v := 0) (pc := 14) C dX9_within_14 (by decide) ?_
  exact sf_zretT (pc := 15) C (by first | rfl | exact sf_nb_in _ _ _) dX9_within_15 h
set_option maxHeartbeats 4000000 in
set_option maxRecDepth 100000 in
theorem w9_within_b0 {X : sf_X} {V : sf_V} {s : sf_Sg} {r : Int32} (C : sf_C X V cX9_within 3 RX9 (some .boolean) 0) {x0 : Int32} {x1 : Int32} {x2 : Int32} (h : f9_within_b0 x0 x1 x2 = r) : sf_G X V 3 (sf_Q X V (sf_Qi V r s)) s 0 [(0, .int x0), (1, .int x1), (2, .int x2)] [] := by
  unfold f9_within_b0 at h
  refine sf_iload_n (pc := 0) C 0 dX9_within_0 rfl ?_
  refine sf_iload_n (pc := 1) C 1 dX9_within_1 rfl ?_
  refine sf_icmp_lt (tgt := 14) (pc := 2) C dX9_within_2 rfl (fun c2 => ?_) (fun c2 => ?_)
  · replace h := (if_pos c2).symm.trans h
    refine sf_sub [] rfl ?_
    exact w9_within_b14 C h
  · replace h := (if_neg c2).symm.trans h
    refine sf_iload_n (pc := 5) C 0 dX9_within_5 rfl ?_
    refine sf_iload_n (pc := 6) C 2 dX9_within_6 rfl ?_
    refine sf_icmp_gt (tgt := 14) (pc := 7) C dX9_within_7 rfl (fun c7 => ?_) (fun c7 => ?_)
    · replace h := (if_pos c7).symm.trans h
      refine sf_sub [] rfl ?_
      exact w9_within_b14 C h
    · replace h := (if_neg c7).symm.trans h
      refine sf_iconst (v := 1) (pc := 10) C dX9_within_10 (by decide) ?_
      refine sf_goto (tgt := 15) (pc := 11) C dX9_within_11 rfl ?_
      exact sf_zretT (pc := 15) C (by first | rfl | exact sf_nb_in _ _ _) dX9_within_15 h
set_option maxHeartbeats 4000000 in
set_option maxRecDepth 100000 in
theorem k9_within {l : Launch} {V : sf_V} {s : sf_Sg} {x0 : Int32} {x1 : Int32} {x2 : Int32} {r : Int32} (h : f9_within x0 x1 x2 = r) : sf_M l V yX9_within (.code yX9_within cX9_within 3 (some .boolean)) 0 [.int x0, .int x1, .int x2] s (sf_Qi V r s) := by
  refine sf_enter (by decide) (Nat.le_of_ble_eq_true rfl) (fun X hX C => ?_)
  refine sf_sub [0, 1, 2] rfl ?_
  exact w9_within_b0 (show sf_C X V cX9_within 3 RX9 (some .boolean) 0 from C)  h
set_option maxHeartbeats 4000000 in
set_option maxRecDepth 100000 in
theorem w5_add_b0 {X : sf_X} {V : sf_V} {r : Int32} {s' : sf_Sg} (C : sf_C X V cX5_add 2 RX5 (some .boolean) 0) {s : sf_Sg} {x1 : Int32} (h : f5_add_b0 s x1 = some (r, s')) : sf_G X V 2 (sf_Q X V (sf_Qi V r s')) s 0 [(0, .ref (V.2.1 1)), (1, .int x1)] [] := by
  unfold f5_add_b0 at h
  refine sf_aload_n (pc := 0) C 0 dX5_add_0 rfl ?_
  refine sf_get (pc := 1) C nk_1 sh_1 rfl fl_5_19 dX5_add_1 ?_
  refine sf_sipush (v := 240) (pc := 4) C dX5_add_4 (by decide) ?_
  refine sf_icmp_lt (tgt := 12) (pc := 7) C dX5_add_7 rfl (fun c7 => ?_) (fun c7 => ?_)
  · replace h := (if_pos c7).symm.trans h
    refine sf_aload_n (pc := 12) C 0 dX5_add_12 rfl ?_
    refine sf_getr (pc := 13) C nk_1 sh_1 rfl fl_5_15 dX5_add_13 ?_
    refine sf_aload_n (pc := 16) C 0 dX5_add_16 rfl ?_
    refine sf_get (pc := 17) C nk_1 sh_1 rfl fl_5_19 dX5_add_17 ?_
    refine sf_iload_n (pc := 20) C 1 dX5_add_20 rfl ?_
    obtain ⟨s21, e21, h⟩ := sf_ob h
    refine sf_iast (pc := 21) C nk_2 sh_2 e21 dX5_add_21 ?_
    refine sf_aload_n (pc := 22) C 0 dX5_add_22 rfl ?_
    refine sf_dup (pc := 23) C dX5_add_23 rfl ?_
    refine sf_get (pc := 24) C nk_1 sh_1 rfl fl_5_19 dX5_add_24 ?_
    refine sf_iconst (v := 1) (pc := 27) C dX5_add_27 (by decide) ?_
    refine sf_iadd (pc := 28) C dX5_add_28 ?_
    refine sf_put (pc := 29) C nk_1 sh_1 rfl fw_5_19 rfl rfl dX5_add_29 ?_
    refine sf_iconst (v := 1) (pc := 32) C dX5_add_32 (by decide) ?_
    exact sf_zretW (pc := 33) C (by first | rfl | exact sf_nb_in _ _ _) dX5_add_33 h
  · replace h := (if_neg c7).symm.trans h
    refine sf_iconst (v := 0) (pc := 10) C dX5_add_10 (by decide) ?_
    exact sf_zretW (pc := 11) C (by first | rfl | exact sf_nb_in _ _ _) dX5_add_11 h
set_option maxHeartbeats 4000000 in
set_option maxRecDepth 100000 in
theorem k5_add {l : Launch} {V : sf_V} {s : sf_Sg} {x1 : Int32} {r : Int32} {s' : sf_Sg} (h : f5_add s x1 = some (r, s')) : sf_M l V yX5_add (.code yX5_add cX5_add 2 (some .boolean)) 0 [.ref (V.2.1 1), .int x1] s (sf_Qi V r s') := by
  refine sf_enter (by decide) (Nat.le_of_ble_eq_true rfl) (fun X hX C => ?_)
  refine sf_sub [0, 1] rfl ?_
  exact w5_add_b0 (show sf_C X V cX5_add 2 RX5 (some .boolean) 0 from C)  h
set_option maxHeartbeats 4000000 in
set_option maxRecDepth 100000 in
theorem w9_feed_b0 {X : sf_X} {V : sf_V} {r : Int32} {s' : sf_Sg} (C : sf_C X V cX9_feed 2 RX9 (some .int) 1) {s : sf_Sg} {x1 : Int32} (h : f9_feed_b0 s x1 = some (r, s')) : sf_G X V 2 (sf_Q X V (sf_Qi V r s')) s 0 [(0, .ref (V.2.1 0)), (1, .int x1)] [] := by
  unfold f9_feed_b0 at h
  refine sf_iload_n (pc := 0) C 1 dX9_feed_0 rfl ?_
  refine sf_iconst (v := 0) (pc := 1) C dX9_feed_1 (by decide) ?_
  refine sf_sipush (v := 255) (pc := 2) C dX9_feed_2 (by decide) ?_
  refine sf_callSi (pc := 5) C (As := [.int x1, .int (0 : Int32), .int (255 : Int32)]) yk_X9_within cl_9_89 (k9_within rfl) (by decide) rfl (Nat.le_of_ble_eq_true rfl) rfl dX9_feed_5 ?_
  refine sf_if_ne (tgt := 14) (pc := 8) C dX9_feed_8 rfl (fun c8 => ?_) (fun c8 => ?_)
  · replace h := (if_neg c8).symm.trans h
    refine sf_aload_n (pc := 14) C 0 dX9_feed_14 rfl ?_
    refine sf_getr (pc := 15) C nk_0 sh_0 rfl fl_9_10 dX9_feed_15 ?_
    refine sf_iload_n (pc := 18) C 1 dX9_feed_18 rfl ?_
    obtain ⟨q19, e19, h⟩ := sf_ob h
    refine sf_callVi (pc := 19) C (As := [.int x1]) nk_1 sh_1 rfl yk_X5_add cl_9_94 (k5_add e19) (by decide) rfl (Nat.le_of_ble_eq_true rfl) rfl dX9_feed_19 ?_
    refine sf_if_eq (tgt := 35) (pc := 22) C dX9_feed_22 rfl (fun c22 => ?_) (fun c22 => ?_)
    · replace h := (if_pos c22).symm.trans h
      refine sf_ldc (v := -1000000004) (pc := 35) C dX9_feed_35 tm_339 ?_
      exact sf_iretW (pc := 37) C dX9_feed_37 h
    · replace h := (if_neg c22).symm.trans h
      refine sf_aload_n (pc := 25) C 0 dX9_feed_25 rfl ?_
      refine sf_getr (pc := 26) C nk_0 sh_0 rfl fl_9_10 dX9_feed_26 ?_
      refine sf_get (pc := 29) C nk_1 sh_1 rfl fl_9_98 dX9_feed_29 ?_
      refine sf_goto (tgt := 37) (pc := 32) C dX9_feed_32 rfl ?_
      exact sf_iretW (pc := 37) C dX9_feed_37 h
  · replace h := (if_pos c8).symm.trans h
    refine sf_ldc (v := -1000000002) (pc := 11) C dX9_feed_11 tm_334 ?_
    exact sf_iretW (pc := 13) C dX9_feed_13 h
set_option maxHeartbeats 4000000 in
set_option maxRecDepth 100000 in
theorem k9_feed {l : Launch} {V : sf_V} {s : sf_Sg} {x1 : Int32} {r : Int32} {s' : sf_Sg} (h : f9_feed s x1 = some (r, s')) : sf_M l V yX9_feed (.code yX9_feed cX9_feed 2 (some .int)) 1 [.ref (V.2.1 0), .int x1] s (sf_Qi V r s') := by
  refine sf_enter (by decide) (Nat.le_of_ble_eq_true rfl) (fun X hX C => ?_)
  refine sf_sub [0, 1] rfl ?_
  exact w9_feed_b0 (show sf_C X V cX9_feed 2 RX9 (some .int) 1 from C)  h
set_option maxHeartbeats 4000000 in
set_option maxRecDepth 100000 in
theorem w7_clear_b0 {X : sf_X} {V : sf_V} {c : Nat} (hc : sf_isS c) {s' : sf_Sg} (C : sf_C X V cX7_clear 1 RX7 none 0) {s : sf_Sg} (h : f7_clear_b0 c s = s') : sf_G X V 1 (sf_Q X V (sf_Qv V s')) s 0 [(0, .ref (V.2.1 c))] [] := by
  unfold f7_clear_b0 at h
  refine sf_aload_n (pc := 0) C 0 dX7_clear_0 rfl ?_
  refine sf_iconst (v := 0) (pc := 1) C dX7_clear_1 (by decide) ?_
  refine sf_put (pc := 2) C (sf_kS0 hc) (sf_shS hc).1.1 rfl fw_7_38 rfl rfl dX7_clear_2 ?_
  refine sf_aload_n (pc := 5) C 0 dX7_clear_5 rfl ?_
  refine sf_iconst (v := 0) (pc := 6) C dX7_clear_6 (by decide) ?_
  refine sf_put (pc := 7) C (sf_kS0 hc) (sf_shS hc).1.1 rfl fw_7_42 rfl rfl dX7_clear_7 ?_
  refine sf_aload_n (pc := 10) C 0 dX7_clear_10 rfl ?_
  refine sf_iconst (v := 0) (pc := 11) C dX7_clear_11 (by decide) ?_
  refine sf_put (pc := 12) C (sf_kS0 hc) (sf_shS hc).1.1 rfl fw_7_27 rfl rfl dX7_clear_12 ?_
  refine sf_aload_n (pc := 15) C 0 dX7_clear_15 rfl ?_
  refine sf_iconst (v := 0) (pc := 16) C dX7_clear_16 (by decide) ?_
  refine sf_put (pc := 17) C (sf_kS0 hc) (sf_shS hc).1.1 rfl fw_7_31 rfl rfl dX7_clear_17 ?_
  exact sf_vretU (pc := 20) C dX7_clear_20 h
set_option maxHeartbeats 4000000 in
set_option maxRecDepth 100000 in
theorem k7_clear {l : Launch} {V : sf_V} {c : Nat} (hc : sf_isS c) {s : sf_Sg} {s' : sf_Sg} (h : f7_clear c s = s') : sf_M l V yX7_clear (.code yX7_clear cX7_clear 1 none) 0 [.ref (V.2.1 c)] s (sf_Qv V s') := by
  refine sf_enter (by decide) (Nat.le_of_ble_eq_true rfl) (fun X hX C => ?_)
  refine sf_sub [0] rfl ?_
  exact w7_clear_b0 hc (show sf_C X V cX7_clear 1 RX7 none 0 from C)  h
set_option maxHeartbeats 4000000 in
set_option maxRecDepth 100000 in
theorem w5_letterHere_b40 {X : sf_X} {V : sf_V} {s : sf_Sg} {r : Int32} (C : sf_C X V cX5_letterHere 1 RX5 (some .int) 0) (h : f5_letterHere_b40 s = some r) : sf_G X V 1 (sf_Q X V (sf_Qi V r s)) s 40 [] [] := by
  unfold f5_letterHere_b40 at h
  refine sf_iconst (v := -1) (pc := 40) C dX5_letterHere_40 (by decide) ?_
  exact sf_iretR (pc := 41) C dX5_letterHere_41 h
set_option maxHeartbeats 4000000 in
set_option maxRecDepth 100000 in
theorem w5_letterHere_b0 {X : sf_X} {V : sf_V} {s : sf_Sg} {r : Int32} (C : sf_C X V cX5_letterHere 1 RX5 (some .int) 0) (h : f5_letterHere_b0 s = some r) : sf_G X V 1 (sf_Q X V (sf_Qi V r s)) s 0 [(0, .ref (V.2.1 1))] [] := by
  unfold f5_letterHere_b0 at h
  refine sf_aload_n (pc := 0) C 0 dX5_letterHere_0 rfl ?_
  refine sf_get (pc := 1) C nk_1 sh_1 rfl fl_5_27 dX5_letterHere_1 ?_
  refine sf_if_lt (tgt := 40) (pc := 4) C dX5_letterHere_4 rfl (fun c4 => ?_) (fun c4 => ?_)
  · replace h := (if_pos c4).symm.trans h
    refine sf_sub [] rfl ?_
    exact w5_letterHere_b40 C h
  · replace h := (if_neg c4).symm.trans h
    refine sf_aload_n (pc := 7) C 0 dX5_letterHere_7 rfl ?_
    refine sf_get (pc := 8) C nk_1 sh_1 rfl fl_5_27 dX5_letterHere_8 ?_
    refine sf_aload_n (pc := 11) C 0 dX5_letterHere_11 rfl ?_
    refine sf_get (pc := 12) C nk_1 sh_1 rfl fl_5_19 dX5_letterHere_12 ?_
    refine sf_icmp_ge (tgt := 40) (pc := 15) C dX5_letterHere_15 rfl (fun c15 => ?_) (fun c15 => ?_)
    · replace h := (if_pos c15).symm.trans h
      refine sf_sub [] rfl ?_
      exact w5_letterHere_b40 C h
    · replace h := (if_neg c15).symm.trans h
      refine sf_aload_n (pc := 18) C 0 dX5_letterHere_18 rfl ?_
      refine sf_get (pc := 19) C nk_1 sh_1 rfl fl_5_27 dX5_letterHere_19 ?_
      refine sf_sipush (v := 240) (pc := 22) C dX5_letterHere_22 (by decide) ?_
      refine sf_icmp_ge (tgt := 40) (pc := 25) C dX5_letterHere_25 rfl (fun c25 => ?_) (fun c25 => ?_)
      · replace h := (if_pos c25).symm.trans h
        refine sf_sub [] rfl ?_
        exact w5_letterHere_b40 C h
      · replace h := (if_neg c25).symm.trans h
        refine sf_aload_n (pc := 28) C 0 dX5_letterHere_28 rfl ?_
        refine sf_getr (pc := 29) C nk_1 sh_1 rfl fl_5_15 dX5_letterHere_29 ?_
        refine sf_aload_n (pc := 32) C 0 dX5_letterHere_32 rfl ?_
        refine sf_get (pc := 33) C nk_1 sh_1 rfl fl_5_27 dX5_letterHere_33 ?_
        obtain ⟨v36, e36, h⟩ := sf_ob h
        refine sf_iald (pc := 36) C nk_2 sh_2 e36 dX5_letterHere_36 ?_
        refine sf_goto (tgt := 41) (pc := 37) C dX5_letterHere_37 rfl ?_
        exact sf_iretR (pc := 41) C dX5_letterHere_41 h
set_option maxHeartbeats 4000000 in
set_option maxRecDepth 100000 in
theorem k5_letterHere {l : Launch} {V : sf_V} {s : sf_Sg} {r : Int32} (h : f5_letterHere s = some r) : sf_M l V yX5_letterHere (.code yX5_letterHere cX5_letterHere 1 (some .int)) 0 [.ref (V.2.1 1)] s (sf_Qi V r s) := by
  refine sf_enter (by decide) (Nat.le_of_ble_eq_true rfl) (fun X hX C => ?_)
  refine sf_sub [0] rfl ?_
  exact w5_letterHere_b0 (show sf_C X V cX5_letterHere 1 RX5 (some .int) 0 from C)  h
set_option maxHeartbeats 4000000 in
set_option maxRecDepth 100000 in
theorem w5_passBlanks_b0 {X : sf_X} {V : sf_V} {s' : sf_Sg} {k0 : sf_Sg → Option sf_Sg} (C : sf_C X V cX5_passBlanks 1 RX5 none 1) (hk0 : ∀  (s : sf_Sg), k0 s = some s' → sf_G X V 1 (sf_Q X V (sf_Qv V s')) s 0 [(0, .ref (V.2.1 1))] []) {s : sf_Sg} (h : f5_passBlanks_b0 k0 s = some s') : sf_G X V 1 (sf_Q X V (sf_Qv V s')) s 0 [(0, .ref (V.2.1 1))] [] := by
  unfold f5_passBlanks_b0 at h
  refine sf_aload_n (pc := 0) C 0 dX5_passBlanks_0 rfl ?_
  refine sf_get (pc := 1) C nk_1 sh_1 rfl fl_5_27 dX5_passBlanks_1 ?_
  refine sf_aload_n (pc := 4) C 0 dX5_passBlanks_4 rfl ?_
  refine sf_get (pc := 5) C nk_1 sh_1 rfl fl_5_19 dX5_passBlanks_5 ?_
  refine sf_icmp_ge (tgt := 33) (pc := 8) C dX5_passBlanks_8 rfl (fun c8 => ?_) (fun c8 => ?_)
  · replace h := (if_pos c8).symm.trans h
    exact sf_vretW (pc := 33) C dX5_passBlanks_33 h
  · replace h := (if_neg c8).symm.trans h
    refine sf_aload_n (pc := 11) C 0 dX5_passBlanks_11 rfl ?_
    obtain ⟨v12, e12, h⟩ := sf_ob h
    refine sf_callVi (pc := 12) C (As := []) nk_1 sh_1 rfl yk_X5_letterHere cl_5_40 (k5_letterHere e12) (by decide) rfl (Nat.le_of_ble_eq_true rfl) rfl dX5_passBlanks_12 ?_
    refine sf_bipush (v := 32) (pc := 15) C dX5_passBlanks_15 (by decide) ?_
    refine sf_icmp_ne (tgt := 33) (pc := 17) C dX5_passBlanks_17 rfl (fun c17 => ?_) (fun c17 => ?_)
    · replace h := (if_neg c17).symm.trans h
      exact sf_vretW (pc := 33) C dX5_passBlanks_33 h
    · replace h := (if_pos c17).symm.trans h
      refine sf_aload_n (pc := 20) C 0 dX5_passBlanks_20 rfl ?_
      refine sf_dup (pc := 21) C dX5_passBlanks_21 rfl ?_
      refine sf_get (pc := 22) C nk_1 sh_1 rfl fl_5_27 dX5_passBlanks_22 ?_
      refine sf_iconst (v := 1) (pc := 25) C dX5_passBlanks_25 (by decide) ?_
      refine sf_iadd (pc := 26) C dX5_passBlanks_26 ?_
      refine sf_put (pc := 27) C nk_1 sh_1 rfl fw_5_27 rfl rfl dX5_passBlanks_27 ?_
      refine sf_goto (tgt := 0) (pc := 30) C dX5_passBlanks_30 rfl ?_
      exact hk0 _ h
set_option maxHeartbeats 4000000 in
set_option maxRecDepth 100000 in
theorem w5_passBlanks_L0 {X : sf_X} {V : sf_V} {s' : sf_Sg} (C : sf_C X V cX5_passBlanks 1 RX5 none 1) : ∀  (s : sf_Sg), f5_passBlanks_L0 s = some s' → sf_G X V 1 (sf_Q X V (sf_Qv V s')) s 0 [(0, .ref (V.2.1 1))] [] :=
  sf_it_ind (fun (k : sf_Sg → Option sf_Sg) => ∀  (s : sf_Sg), k s = some s' → sf_G X V 1 (sf_Q X V (sf_Qv V s')) s 0 [(0, .ref (V.2.1 1))] []) _ _ (fun s h => by cases h) (fun k hk s h => w5_passBlanks_b0 C hk h) _
set_option maxHeartbeats 4000000 in
set_option maxRecDepth 100000 in
theorem k5_passBlanks {l : Launch} {V : sf_V} {s : sf_Sg} {s' : sf_Sg} (h : f5_passBlanks s = some s') : sf_M l V yX5_passBlanks (.code yX5_passBlanks cX5_passBlanks 1 none) 1 [.ref (V.2.1 1)] s (sf_Qv V s') := by
  refine sf_enter (by decide) (Nat.le_of_ble_eq_true rfl) (fun X hX C => ?_)
  refine sf_sub [0] rfl ?_
  exact w5_passBlanks_L0 (show sf_C X V cX5_passBlanks 1 RX5 none 1 from C) _ h
set_option maxHeartbeats 4000000 in
set_option maxRecDepth 100000 in
theorem w5_faultOfWord_b74 {X : sf_X} {V : sf_V} {c0 : Nat} (hc0 : sf_isS c0) {s : sf_Sg} {r : Int32} (C : sf_C X V cX5_faultOfWord 3 RX5 (some .int) 0) {t0 : Int32} (h : f5_faultOfWord_b74 c0 s t0 = r) : sf_G X V 3 (sf_Q X V (sf_Qi V r s)) s 74 [] [.int t0] := by
  unfold f5_faultOfWord_b74 at h
  refine sf_istore_n (lv' := [(2, .int t0)]) (pc := 74) C dX5_faultOfWord_74 (by decide) rfl ?_
  refine sf_iload_n (pc := 75) C 0 dX5_faultOfWord_75 rfl ?_
  refine sf_if_eq (tgt := 83) (pc := 76) C dX5_faultOfWord_76 rfl (fun c76 => ?_) (fun c76 => ?_)
  · replace h := (if_pos c76).symm.trans h
    refine sf_iconst (v := 0) (pc := 83) C dX5_faultOfWord_83 (by decide) ?_
    exact sf_iretT (pc := 84) C dX5_faultOfWord_84 h
  · replace h := (if_neg c76).symm.trans h
    refine sf_iconst (v := 3) (pc := 79) C dX5_faultOfWord_79 (by decide) ?_
    refine sf_goto (tgt := 84) (pc := 80) C dX5_faultOfWord_80 rfl ?_
    exact sf_iretT (pc := 84) C dX5_faultOfWord_84 h
set_option maxHeartbeats 4000000 in
set_option maxRecDepth 100000 in
theorem w5_faultOfWord_b69 {X : sf_X} {V : sf_V} {c0 : Nat} (hc0 : sf_isS c0) {s : sf_Sg} {r : Int32} (C : sf_C X V cX5_faultOfWord 3 RX5 (some .int) 0) (h : f5_faultOfWord_b69 c0 s = r) : sf_G X V 3 (sf_Q X V (sf_Qi V r s)) s 69 [] [] := by
  unfold f5_faultOfWord_b69 at h
  refine sf_iconst (v := 1) (pc := 69) C dX5_faultOfWord_69 (by decide) ?_
  refine sf_goto (tgt := 74) (pc := 70) C dX5_faultOfWord_70 rfl ?_
  exact w5_faultOfWord_b74 hc0 C h
set_option maxHeartbeats 4000000 in
set_option maxRecDepth 100000 in
theorem w5_faultOfWord_b73 {X : sf_X} {V : sf_V} {c0 : Nat} (hc0 : sf_isS c0) {s : sf_Sg} {r : Int32} (C : sf_C X V cX5_faultOfWord 3 RX5 (some .int) 0) (h : f5_faultOfWord_b73 c0 s = r) : sf_G X V 3 (sf_Q X V (sf_Qi V r s)) s 73 [] [] := by
  unfold f5_faultOfWord_b73 at h
  refine sf_iconst (v := 0) (pc := 73) C dX5_faultOfWord_73 (by decide) ?_
  exact w5_faultOfWord_b74 hc0 C h
set_option maxHeartbeats 4000000 in
set_option maxRecDepth 100000 in
theorem w5_faultOfWord_b55 {X : sf_X} {V : sf_V} {c0 : Nat} (hc0 : sf_isS c0) {s : sf_Sg} {r : Int32} (C : sf_C X V cX5_faultOfWord 3 RX5 (some .int) 0) {x1 : Int32} (h : f5_faultOfWord_b55 c0 s x1 = r) : sf_G X V 3 (sf_Q X V (sf_Qi V r s)) s 55 [(0, .ref (V.2.1 c0)), (1, .int x1)] [] := by
  unfold f5_faultOfWord_b55 at h
  refine sf_iload_n (pc := 55) C 1 dX5_faultOfWord_55 rfl ?_
  refine sf_bipush (v := 112) (pc := 56) C dX5_faultOfWord_56 (by decide) ?_
  refine sf_icmp_ne (tgt := 73) (pc := 58) C dX5_faultOfWord_58 rfl (fun c58 => ?_) (fun c58 => ?_)
  · replace h := (if_neg c58).symm.trans h
    refine sf_sub [] rfl ?_
    exact w5_faultOfWord_b73 hc0 C h
  · replace h := (if_pos c58).symm.trans h
    refine sf_aload_n (pc := 61) C 0 dX5_faultOfWord_61 rfl ?_
    refine sf_get (pc := 62) C (sf_kS0 hc0) (sf_shS hc0).1.1 rfl fl_5_76 dX5_faultOfWord_62 ?_
    refine sf_iconst (v := 5) (pc := 65) C dX5_faultOfWord_65 (by decide) ?_
    refine sf_icmp_lt (tgt := 73) (pc := 66) C dX5_faultOfWord_66 rfl (fun c66 => ?_) (fun c66 => ?_)
    · replace h := (if_pos c66).symm.trans h
      refine sf_sub [] rfl ?_
      exact w5_faultOfWord_b73 hc0 C h
    · replace h := (if_neg c66).symm.trans h
      refine sf_sub [] rfl ?_
      exact w5_faultOfWord_b69 hc0 C h
set_option maxHeartbeats 4000000 in
set_option maxRecDepth 100000 in
theorem w5_faultOfWord_b40 {X : sf_X} {V : sf_V} {c0 : Nat} (hc0 : sf_isS c0) {s : sf_Sg} {r : Int32} (C : sf_C X V cX5_faultOfWord 3 RX5 (some .int) 0) {x1 : Int32} (h : f5_faultOfWord_b40 c0 s x1 = r) : sf_G X V 3 (sf_Q X V (sf_Qi V r s)) s 40 [(0, .ref (V.2.1 c0)), (1, .int x1)] [] := by
  unfold f5_faultOfWord_b40 at h
  refine sf_iload_n (pc := 40) C 1 dX5_faultOfWord_40 rfl ?_
  refine sf_bipush (v := 98) (pc := 41) C dX5_faultOfWord_41 (by decide) ?_
  refine sf_icmp_ne (tgt := 55) (pc := 43) C dX5_faultOfWord_43 rfl (fun c43 => ?_) (fun c43 => ?_)
  · replace h := (if_neg c43).symm.trans h
    exact w5_faultOfWord_b55 hc0 C h
  · replace h := (if_pos c43).symm.trans h
    refine sf_aload_n (pc := 46) C 0 dX5_faultOfWord_46 rfl ?_
    refine sf_get (pc := 47) C (sf_kS0 hc0) (sf_shS hc0).1.1 rfl fl_5_73 dX5_faultOfWord_47 ?_
    refine sf_bipush (v := 6) (pc := 50) C dX5_faultOfWord_50 (by decide) ?_
    refine sf_icmp_ge (tgt := 69) (pc := 52) C dX5_faultOfWord_52 rfl (fun c52 => ?_) (fun c52 => ?_)
    · replace h := (if_pos c52).symm.trans h
      refine sf_sub [] rfl ?_
      exact w5_faultOfWord_b69 hc0 C h
    · replace h := (if_neg c52).symm.trans h
      exact w5_faultOfWord_b55 hc0 C h
set_option maxHeartbeats 4000000 in
set_option maxRecDepth 100000 in
theorem w5_faultOfWord_b27 {X : sf_X} {V : sf_V} {c0 : Nat} (hc0 : sf_isS c0) {s : sf_Sg} {r : Int32} (C : sf_C X V cX5_faultOfWord 3 RX5 (some .int) 0) {x1 : Int32} (h : f5_faultOfWord_b27 c0 s x1 = r) : sf_G X V 3 (sf_Q X V (sf_Qi V r s)) s 27 [(0, .ref (V.2.1 c0)), (1, .int x1)] [] := by
  unfold f5_faultOfWord_b27 at h
  refine sf_iload_n (pc := 27) C 1 dX5_faultOfWord_27 rfl ?_
  refine sf_bipush (v := 102) (pc := 28) C dX5_faultOfWord_28 (by decide) ?_
  refine sf_icmp_ne (tgt := 40) (pc := 30) C dX5_faultOfWord_30 rfl (fun c30 => ?_) (fun c30 => ?_)
  · replace h := (if_neg c30).symm.trans h
    exact w5_faultOfWord_b40 hc0 C h
  · replace h := (if_pos c30).symm.trans h
    refine sf_aload_n (pc := 33) C 0 dX5_faultOfWord_33 rfl ?_
    refine sf_get (pc := 34) C (sf_kS0 hc0) (sf_shS hc0).1.1 rfl fl_5_59 dX5_faultOfWord_34 ?_
    refine sf_if_ne (tgt := 69) (pc := 37) C dX5_faultOfWord_37 rfl (fun c37 => ?_) (fun c37 => ?_)
    · replace h := (if_neg c37).symm.trans h
      refine sf_sub [] rfl ?_
      exact w5_faultOfWord_b69 hc0 C h
    · replace h := (if_pos c37).symm.trans h
      exact w5_faultOfWord_b40 hc0 C h
set_option maxHeartbeats 4000000 in
set_option maxRecDepth 100000 in
theorem w5_faultOfWord_b18 {X : sf_X} {V : sf_V} {c0 : Nat} (hc0 : sf_isS c0) {s : sf_Sg} {r : Int32} (C : sf_C X V cX5_faultOfWord 3 RX5 (some .int) 0) {x1 : Int32} (h : f5_faultOfWord_b18 c0 s x1 = r) : sf_G X V 3 (sf_Q X V (sf_Qi V r s)) s 18 [(0, .ref (V.2.1 c0)), (1, .int x1)] [] := by
  unfold f5_faultOfWord_b18 at h
  refine sf_aload_n (pc := 18) C 0 dX5_faultOfWord_18 rfl ?_
  refine sf_get (pc := 19) C (sf_kS0 hc0) (sf_shS hc0).1.1 rfl fl_5_59 dX5_faultOfWord_19 ?_
  refine sf_if_ne (tgt := 27) (pc := 22) C dX5_faultOfWord_22 rfl (fun c22 => ?_) (fun c22 => ?_)
  · replace h := (if_neg c22).symm.trans h
    exact w5_faultOfWord_b27 hc0 C h
  · replace h := (if_pos c22).symm.trans h
    refine sf_iconst (v := 1) (pc := 25) C dX5_faultOfWord_25 (by decide) ?_
    exact sf_iretT (pc := 26) C dX5_faultOfWord_26 h
set_option maxHeartbeats 4000000 in
set_option maxRecDepth 100000 in
theorem w5_faultOfWord_b0 {X : sf_X} {V : sf_V} {c0 : Nat} (hc0 : sf_isS c0) {s : sf_Sg} {r : Int32} (C : sf_C X V cX5_faultOfWord 3 RX5 (some .int) 0) {x1 : Int32} (h : f5_faultOfWord_b0 c0 s x1 = r) : sf_G X V 3 (sf_Q X V (sf_Qi V r s)) s 0 [(0, .ref (V.2.1 c0)), (1, .int x1)] [] := by
  unfold f5_faultOfWord_b0 at h
  refine sf_iload_n (pc := 0) C 1 dX5_faultOfWord_0 rfl ?_
  refine sf_bipush (v := 102) (pc := 1) C dX5_faultOfWord_1 (by decide) ?_
  refine sf_icmp_eq (tgt := 27) (pc := 3) C dX5_faultOfWord_3 rfl (fun c3 => ?_) (fun c3 => ?_)
  · replace h := (if_pos c3).symm.trans h
    exact w5_faultOfWord_b27 hc0 C h
  · replace h := (if_neg c3).symm.trans h
    refine sf_iload_n (pc := 6) C 1 dX5_faultOfWord_6 rfl ?_
    refine sf_bipush (v := 98) (pc := 7) C dX5_faultOfWord_7 (by decide) ?_
    refine sf_icmp_eq (tgt := 18) (pc := 9) C dX5_faultOfWord_9 rfl (fun c9 => ?_) (fun c9 => ?_)
    · replace h := (if_pos c9).symm.trans h
      exact w5_faultOfWord_b18 hc0 C h
    · replace h := (if_neg c9).symm.trans h
      refine sf_iload_n (pc := 12) C 1 dX5_faultOfWord_12 rfl ?_
      refine sf_bipush (v := 112) (pc := 13) C dX5_faultOfWord_13 (by decide) ?_
      refine sf_icmp_ne (tgt := 25) (pc := 15) C dX5_faultOfWord_15 rfl (fun c15 => ?_) (fun c15 => ?_)
      · replace h := (if_neg c15).symm.trans h
        refine sf_iconst (v := 1) (pc := 25) C dX5_faultOfWord_25 (by decide) ?_
        exact sf_iretT (pc := 26) C dX5_faultOfWord_26 h
      · replace h := (if_pos c15).symm.trans h
        exact w5_faultOfWord_b18 hc0 C h
set_option maxHeartbeats 4000000 in
set_option maxRecDepth 100000 in
theorem k5_faultOfWord {l : Launch} {V : sf_V} {c0 : Nat} (hc0 : sf_isS c0) {s : sf_Sg} {x1 : Int32} {r : Int32} (h : f5_faultOfWord c0 s x1 = r) : sf_M l V yX5_faultOfWord (.code yX5_faultOfWord cX5_faultOfWord 3 (some .int)) 0 [.ref (V.2.1 c0), .int x1] s (sf_Qi V r s) := by
  refine sf_enter (by decide) (Nat.le_of_ble_eq_true rfl) (fun X hX C => ?_)
  refine sf_sub [0, 1] rfl ?_
  exact w5_faultOfWord_b0 hc0 (show sf_C X V cX5_faultOfWord 3 RX5 (some .int) 0 from C)  h
set_option maxHeartbeats 4000000 in
set_option maxRecDepth 100000 in
theorem w5_blame_b0 {X : sf_X} {V : sf_V} {s' : sf_Sg} (C : sf_C X V cX5_blame 3 RX5 none 0) {s : sf_Sg} {x1 : Int32} {x2 : Int32} (h : f5_blame_b0 s x1 x2 = s') : sf_G X V 3 (sf_Q X V (sf_Qv V s')) s 0 [(0, .ref (V.2.1 1)), (1, .int x1), (2, .int x2)] [] := by
  unfold f5_blame_b0 at h
  refine sf_aload_n (pc := 0) C 0 dX5_blame_0 rfl ?_
  refine sf_iload_n (pc := 1) C 1 dX5_blame_1 rfl ?_
  refine sf_put (pc := 2) C nk_1 sh_1 rfl fw_5_30 rfl rfl dX5_blame_2 ?_
  refine sf_aload_n (pc := 5) C 0 dX5_blame_5 rfl ?_
  refine sf_iload_n (pc := 6) C 2 dX5_blame_6 rfl ?_
  refine sf_put (pc := 7) C nk_1 sh_1 rfl fw_5_9 rfl rfl dX5_blame_7 ?_
  exact sf_vretU (pc := 10) C dX5_blame_10 h
set_option maxHeartbeats 4000000 in
set_option maxRecDepth 100000 in
theorem k5_blame {l : Launch} {V : sf_V} {s : sf_Sg} {x1 : Int32} {x2 : Int32} {s' : sf_Sg} (h : f5_blame s x1 x2 = s') : sf_M l V yX5_blame (.code yX5_blame cX5_blame 3 none) 0 [.ref (V.2.1 1), .int x1, .int x2] s (sf_Qv V s') := by
  refine sf_enter (by decide) (Nat.le_of_ble_eq_true rfl) (fun X hX C => ?_)
  refine sf_sub [0, 1, 2] rfl ?_
  exact w5_blame_b0 (show sf_C X V cX5_blame 3 RX5 none 0 from C)  h
set_option maxHeartbeats 4000000 in
set_option maxRecDepth 100000 in
theorem w5_isFigure_b16 {X : sf_X} {V : sf_V} {s : sf_Sg} {r : Int32} (C : sf_C X V cX5_isFigure 1 RX5 (some .boolean) 0) (h : f5_isFigure_b16 = r) : sf_G X V 1 (sf_Q X V (sf_Qi V r s)) s 16 [] [] := by
  unfold f5_isFigure_b16 at h
  refine sf_iconst (v := 0) (pc := 16) C dX5_isFigure_16 (by decide) ?_
  exact sf_zretT (pc := 17) C (by first | rfl | exact sf_nb_in _ _ _) dX5_isFigure_17 h
set_option maxHeartbeats 4000000 in
set_option maxRecDepth 100000 in
theorem w5_isFigure_b0 {X : sf_X} {V : sf_V} {s : sf_Sg} {r : Int32} (C : sf_C X V cX5_isFigure 1 RX5 (some .boolean) 0) {x0 : Int32} (h : f5_isFigure_b0 x0 = r) : sf_G X V 1 (sf_Q X V (sf_Qi V r s)) s 0 [(0, .int x0)] [] := by
  unfold f5_isFigure_b0 at h
  refine sf_iload_n (pc := 0) C 0 dX5_isFigure_0 rfl ?_
  refine sf_bipush (v := 48) (pc := 1) C dX5_isFigure_1 (by decide) ?_
  refine sf_icmp_lt (tgt := 16) (pc := 3) C dX5_isFigure_3 rfl (fun c3 => ?_) (fun c3 => ?_)
  · replace h := (if_pos c3).symm.trans h
    refine sf_sub [] rfl ?_
    exact w5_isFigure_b16 C h
  · replace h := (if_neg c3).symm.trans h
    refine sf_iload_n (pc := 6) C 0 dX5_isFigure_6 rfl ?_
    refine sf_bipush (v := 57) (pc := 7) C dX5_isFigure_7 (by decide) ?_
    refine sf_icmp_gt (tgt := 16) (pc := 9) C dX5_isFigure_9 rfl (fun c9 => ?_) (fun c9 => ?_)
    · replace h := (if_pos c9).symm.trans h
      refine sf_sub [] rfl ?_
      exact w5_isFigure_b16 C h
    · replace h := (if_neg c9).symm.trans h
      refine sf_iconst (v := 1) (pc := 12) C dX5_isFigure_12 (by decide) ?_
      refine sf_goto (tgt := 17) (pc := 13) C dX5_isFigure_13 rfl ?_
      exact sf_zretT (pc := 17) C (by first | rfl | exact sf_nb_in _ _ _) dX5_isFigure_17 h
set_option maxHeartbeats 4000000 in
set_option maxRecDepth 100000 in
theorem k5_isFigure {l : Launch} {V : sf_V} {s : sf_Sg} {x0 : Int32} {r : Int32} (h : f5_isFigure x0 = r) : sf_M l V yX5_isFigure (.code yX5_isFigure cX5_isFigure 1 (some .boolean)) 0 [.int x0] s (sf_Qi V r s) := by
  refine sf_enter (by decide) (Nat.le_of_ble_eq_true rfl) (fun X hX C => ?_)
  refine sf_sub [0] rfl ?_
  exact w5_isFigure_b0 (show sf_C X V cX5_isFigure 1 RX5 (some .boolean) 0 from C)  h
set_option maxHeartbeats 4000000 in
set_option maxRecDepth 100000 in
theorem w5_readNumber_b67 {X : sf_X} {V : sf_V} {r : Int32} {s' : sf_Sg} {k21 : sf_Sg → Int32 → Int32 → Int32 → Int32 → Option (Int32 × sf_Sg)} (C : sf_C X V cX5_readNumber 5 RX5 (some .int) 2) (hk21 : ∀  (s : sf_Sg) (x1 : Int32) (x2 : Int32) (x3 : Int32) (x4 : Int32), k21 s x1 x2 x3 x4 = some (r, s') → sf_G X V 5 (sf_Q X V (sf_Qi V r s')) s 21 [(0, .ref (V.2.1 1)), (1, .int x1), (2, .int x2), (3, .int x3), (4, .int x4)] []) {s : sf_Sg} {x1 : Int32} {x2 : Int32} {x3 : Int32} {x4 : Int32} (h : f5_readNumber_b67 k21 s x1 x2 x3 x4 = some (r, s')) : sf_G X V 5 (sf_Q X V (sf_Qi V r s')) s 67 [(0, .ref (V.2.1 1)), (1, .int x1), (2, .int x2), (3, .int x3), (4, .int x4)] [] := by
  unfold f5_readNumber_b67 at h
  refine sf_aload_n (pc := 67) C 0 dX5_readNumber_67 rfl ?_
  refine sf_dup (pc := 68) C dX5_readNumber_68 rfl ?_
  refine sf_get (pc := 69) C nk_1 sh_1 rfl fl_5_27 dX5_readNumber_69 ?_
  refine sf_iconst (v := 1) (pc := 72) C dX5_readNumber_72 (by decide) ?_
  refine sf_iadd (pc := 73) C dX5_readNumber_73 ?_
  refine sf_put (pc := 74) C nk_1 sh_1 rfl fw_5_27 rfl rfl dX5_readNumber_74 ?_
  refine sf_goto (tgt := 21) (pc := 77) C dX5_readNumber_77 rfl ?_
  exact hk21 _ _ _ _ _ h
set_option maxHeartbeats 4000000 in
set_option maxRecDepth 100000 in
theorem w5_readNumber_b117 {X : sf_X} {V : sf_V} {r : Int32} {s' : sf_Sg} (C : sf_C X V cX5_readNumber 5 RX5 (some .int) 2) {s : sf_Sg} {x3 : Int32} {x4 : Int32} (h : f5_readNumber_b117 s x3 x4 = some (r, s')) : sf_G X V 5 (sf_Q X V (sf_Qi V r s')) s 117 [(0, .ref (V.2.1 1)), (3, .int x3), (4, .int x4)] [] := by
  unfold f5_readNumber_b117 at h
  refine sf_aload_n (pc := 117) C 0 dX5_readNumber_117 rfl ?_
  refine sf_iconst (v := 2) (pc := 118) C dX5_readNumber_118 (by decide) ?_
  refine sf_iload_n (pc := 119) C 1 dX5_readNumber_119 rfl ?_
  refine sf_callVv (pc := 120) C (As := [.int (2 : Int32), .int x3]) nk_1 sh_1 rfl yk_X5_blame cl_5_48 (k5_blame rfl) (by decide) rfl (Nat.le_of_ble_eq_true rfl) rfl dX5_readNumber_120 ?_
  refine sf_iload (pc := 123) C 2 dX5_readNumber_123 rfl ?_
  exact sf_iretW (pc := 125) C dX5_readNumber_125 h
set_option maxHeartbeats 4000000 in
set_option maxRecDepth 100000 in
theorem w5_readNumber_b80 {X : sf_X} {V : sf_V} {r : Int32} {s' : sf_Sg} (C : sf_C X V cX5_readNumber 5 RX5 (some .int) 2) {s : sf_Sg} {x1 : Int32} {x2 : Int32} {x3 : Int32} {x4 : Int32} (h : f5_readNumber_b80 s x1 x2 x3 x4 = some (r, s')) : sf_G X V 5 (sf_Q X V (sf_Qi V r s')) s 80 [(0, .ref (V.2.1 1)), (1, .int x1), (2, .int x2), (3, .int x3), (4, .int x4)] [] := by
  unfold f5_readNumber_b80 at h
  refine sf_aload_n (pc := 80) C 0 dX5_readNumber_80 rfl ?_
  refine sf_get (pc := 81) C nk_1 sh_1 rfl fl_5_27 dX5_readNumber_81 ?_
  refine sf_iload_n (pc := 84) C 3 dX5_readNumber_84 rfl ?_
  refine sf_icmp_ne (tgt := 97) (pc := 85) C dX5_readNumber_85 rfl (fun c85 => ?_) (fun c85 => ?_)
  · replace h := (if_neg c85).symm.trans h
    refine sf_aload_n (pc := 97) C 0 dX5_readNumber_97 rfl ?_
    refine sf_get (pc := 98) C nk_1 sh_1 rfl fl_5_27 dX5_readNumber_98 ?_
    refine sf_iload_n (pc := 101) C 3 dX5_readNumber_101 rfl ?_
    refine sf_isub (pc := 102) C dX5_readNumber_102 ?_
    refine sf_iconst (v := 3) (pc := 103) C dX5_readNumber_103 (by decide) ?_
    refine sf_icmp_gt (tgt := 117) (pc := 104) C dX5_readNumber_104 rfl (fun c104 => ?_) (fun c104 => ?_)
    · replace h := (if_pos c104).symm.trans h
      refine sf_sub [0, 3, 4] rfl ?_
      exact w5_readNumber_b117 C h
    · replace h := (if_neg c104).symm.trans h
      refine sf_iload (pc := 107) C 4 dX5_readNumber_107 rfl ?_
      refine sf_iload_n (pc := 109) C 1 dX5_readNumber_109 rfl ?_
      refine sf_iload_n (pc := 110) C 2 dX5_readNumber_110 rfl ?_
      refine sf_callNi (pc := 111) C (As := [.int x4, .int x1, .int x2]) yk_X9_within cl_5_83 (k9_within rfl) (by decide) rfl (Nat.le_of_ble_eq_true rfl) rfl dX5_readNumber_111 ?_
      refine sf_if_ne (tgt := 123) (pc := 114) C dX5_readNumber_114 rfl (fun c114 => ?_) (fun c114 => ?_)
      · replace h := (if_neg c114).symm.trans h
        refine sf_iload (pc := 123) C 4 dX5_readNumber_123 rfl ?_
        exact sf_iretW (pc := 125) C dX5_readNumber_125 h
      · replace h := (if_pos c114).symm.trans h
        refine sf_sub [0, 3, 4] rfl ?_
        exact w5_readNumber_b117 C h
  · replace h := (if_pos c85).symm.trans h
    refine sf_aload_n (pc := 88) C 0 dX5_readNumber_88 rfl ?_
    refine sf_iconst (v := 1) (pc := 89) C dX5_readNumber_89 (by decide) ?_
    refine sf_iload_n (pc := 90) C 3 dX5_readNumber_90 rfl ?_
    refine sf_callVv (pc := 91) C (As := [.int (1 : Int32), .int x3]) nk_1 sh_1 rfl yk_X5_blame cl_5_48 (k5_blame rfl) (by decide) rfl (Nat.le_of_ble_eq_true rfl) rfl dX5_readNumber_91 ?_
    refine sf_goto (tgt := 123) (pc := 94) C dX5_readNumber_94 rfl ?_
    refine sf_iload (pc := 123) C 4 dX5_readNumber_123 rfl ?_
    exact sf_iretW (pc := 125) C dX5_readNumber_125 h
set_option maxHeartbeats 4000000 in
set_option maxRecDepth 100000 in
theorem w5_readNumber_b21 {X : sf_X} {V : sf_V} {r : Int32} {s' : sf_Sg} {k21 : sf_Sg → Int32 → Int32 → Int32 → Int32 → Option (Int32 × sf_Sg)} (C : sf_C X V cX5_readNumber 5 RX5 (some .int) 2) (hk21 : ∀  (s : sf_Sg) (x1 : Int32) (x2 : Int32) (x3 : Int32) (x4 : Int32), k21 s x1 x2 x3 x4 = some (r, s') → sf_G X V 5 (sf_Q X V (sf_Qi V r s')) s 21 [(0, .ref (V.2.1 1)), (1, .int x1), (2, .int x2), (3, .int x3), (4, .int x4)] []) {s : sf_Sg} {x1 : Int32} {x2 : Int32} {x3 : Int32} {x4 : Int32} (h : f5_readNumber_b21 k21 s x1 x2 x3 x4 = some (r, s')) : sf_G X V 5 (sf_Q X V (sf_Qi V r s')) s 21 [(0, .ref (V.2.1 1)), (1, .int x1), (2, .int x2), (3, .int x3), (4, .int x4)] [] := by
  unfold f5_readNumber_b21 at h
  refine sf_aload_n (pc := 21) C 0 dX5_readNumber_21 rfl ?_
  refine sf_get (pc := 22) C nk_1 sh_1 rfl fl_5_27 dX5_readNumber_22 ?_
  refine sf_aload_n (pc := 25) C 0 dX5_readNumber_25 rfl ?_
  refine sf_get (pc := 26) C nk_1 sh_1 rfl fl_5_19 dX5_readNumber_26 ?_
  refine sf_icmp_ge (tgt := 80) (pc := 29) C dX5_readNumber_29 rfl (fun c29 => ?_) (fun c29 => ?_)
  · replace h := (if_pos c29).symm.trans h
    exact w5_readNumber_b80 C h
  · replace h := (if_neg c29).symm.trans h
    refine sf_aload_n (pc := 32) C 0 dX5_readNumber_32 rfl ?_
    obtain ⟨v33, e33, h⟩ := sf_ob h
    refine sf_callVi (pc := 33) C (As := []) nk_1 sh_1 rfl yk_X5_letterHere cl_5_40 (k5_letterHere e33) (by decide) rfl (Nat.le_of_ble_eq_true rfl) rfl dX5_readNumber_33 ?_
    refine sf_callSi (pc := 36) C (As := [.int v33]) yk_X5_isFigure cl_5_79 (k5_isFigure rfl) (by decide) rfl (Nat.le_of_ble_eq_true rfl) rfl dX5_readNumber_36 ?_
    refine sf_if_eq (tgt := 80) (pc := 39) C dX5_readNumber_39 rfl (fun c39 => ?_) (fun c39 => ?_)
    · replace h := (if_pos c39).symm.trans h
      exact w5_readNumber_b80 C h
    · replace h := (if_neg c39).symm.trans h
      refine sf_aload_n (pc := 42) C 0 dX5_readNumber_42 rfl ?_
      refine sf_get (pc := 43) C nk_1 sh_1 rfl fl_5_27 dX5_readNumber_43 ?_
      refine sf_iload_n (pc := 46) C 3 dX5_readNumber_46 rfl ?_
      refine sf_isub (pc := 47) C dX5_readNumber_47 ?_
      refine sf_iconst (v := 3) (pc := 48) C dX5_readNumber_48 (by decide) ?_
      refine sf_icmp_ge (tgt := 67) (pc := 49) C dX5_readNumber_49 rfl (fun c49 => ?_) (fun c49 => ?_)
      · replace h := (if_pos c49).symm.trans h
        exact w5_readNumber_b67 C hk21 h
      · replace h := (if_neg c49).symm.trans h
        refine sf_iload (pc := 52) C 4 dX5_readNumber_52 rfl ?_
        refine sf_bipush (v := 10) (pc := 54) C dX5_readNumber_54 (by decide) ?_
        refine sf_imul (pc := 56) C dX5_readNumber_56 ?_
        refine sf_aload_n (pc := 57) C 0 dX5_readNumber_57 rfl ?_
        obtain ⟨v58, e58, h⟩ := sf_ob h
        refine sf_callVi (pc := 58) C (As := []) nk_1 sh_1 rfl yk_X5_letterHere cl_5_40 (k5_letterHere e58) (by decide) rfl (Nat.le_of_ble_eq_true rfl) rfl dX5_readNumber_58 ?_
        refine sf_iadd (pc := 61) C dX5_readNumber_61 ?_
        refine sf_bipush (v := 48) (pc := 62) C dX5_readNumber_62 (by decide) ?_
        refine sf_isub (pc := 64) C dX5_readNumber_64 ?_
        refine sf_istore (lv' := [(4, .int (((x4 * (10 : Int32)) + v58) - (48 : Int32))), (0, .ref (V.2.1 1)), (1, .int x1), (2, .int x2), (3, .int x3)]) (pc := 65) C dX5_readNumber_65 (by decide) rfl ?_
        refine sf_sub [1, 2, 3, 4, 0] rfl ?_
        exact w5_readNumber_b67 C hk21 h
set_option maxHeartbeats 4000000 in
set_option maxRecDepth 100000 in
theorem w5_readNumber_L21 {X : sf_X} {V : sf_V} {r : Int32} {s' : sf_Sg} (C : sf_C X V cX5_readNumber 5 RX5 (some .int) 2) : ∀  (s : sf_Sg) (x1 : Int32) (x2 : Int32) (x3 : Int32) (x4 : Int32), f5_readNumber_L21 s x1 x2 x3 x4 = some (r, s') → sf_G X V 5 (sf_Q X V (sf_Qi V r s')) s 21 [(0, .ref (V.2.1 1)), (1, .int x1), (2, .int x2), (3, .int x3), (4, .int x4)] [] :=
  sf_it_ind (fun (k : sf_Sg → Int32 → Int32 → Int32 → Int32 → Option (Int32 × sf_Sg)) => ∀  (s : sf_Sg) (x1 : Int32) (x2 : Int32) (x3 : Int32) (x4 : Int32), k s x1 x2 x3 x4 = some (r, s') → sf_G X V 5 (sf_Q X V (sf_Qi V r s')) s 21 [(0, .ref (V.2.1 1)), (1, .int x1), (2, .int x2), (3, .int x3), (4, .int x4)] []) _ _ (fun s x1 x2 x3 x4 h => by cases h) (fun k hk s x1 x2 x3 x4 h => w5_readNumber_b21 C hk h) _
set_option maxHeartbeats 4000000 in
set_option maxRecDepth 100000 in
theorem w5_readNumber_b0 {X : sf_X} {V : sf_V} {r : Int32} {s' : sf_Sg} (C : sf_C X V cX5_readNumber 5 RX5 (some .int) 2) {s : sf_Sg} {x1 : Int32} {x2 : Int32} (h : f5_readNumber_b0 s x1 x2 = some (r, s')) : sf_G X V 5 (sf_Q X V (sf_Qi V r s')) s 0 [(0, .ref (V.2.1 1)), (1, .int x1), (2, .int x2)] [] := by
  unfold f5_readNumber_b0 at h
  refine sf_aload_n (pc := 0) C 0 dX5_readNumber_0 rfl ?_
  refine sf_get (pc := 1) C nk_1 sh_1 rfl fl_5_30 dX5_readNumber_1 ?_
  refine sf_if_eq (tgt := 9) (pc := 4) C dX5_readNumber_4 rfl (fun c4 => ?_) (fun c4 => ?_)
  · replace h := (if_pos c4).symm.trans h
    refine sf_aload_n (pc := 9) C 0 dX5_readNumber_9 rfl ?_
    obtain ⟨s10, e10, h⟩ := sf_ob h
    refine sf_callVv (pc := 10) C (As := []) nk_1 sh_1 rfl yk_X5_passBlanks cl_5_33 (k5_passBlanks e10) (by decide) rfl (Nat.le_of_ble_eq_true rfl) rfl dX5_readNumber_10 ?_
    refine sf_aload_n (pc := 13) C 0 dX5_readNumber_13 rfl ?_
    refine sf_get (pc := 14) C nk_1 sh_1 rfl fl_5_27 dX5_readNumber_14 ?_
    refine sf_istore_n (lv' := [(3, .int (s10 1 3)), (0, .ref (V.2.1 1)), (1, .int x1), (2, .int x2)]) (pc := 17) C dX5_readNumber_17 (by decide) rfl ?_
    refine sf_iconst (v := 0) (pc := 18) C dX5_readNumber_18 (by decide) ?_
    refine sf_istore (lv' := [(4, .int (0 : Int32)), (3, .int (s10 1 3)), (0, .ref (V.2.1 1)), (1, .int x1), (2, .int x2)]) (pc := 19) C dX5_readNumber_19 (by decide) rfl ?_
    refine sf_sub [2, 3, 4, 1, 0] rfl ?_
    exact w5_readNumber_L21 C _ _ _ _ _ h
  · replace h := (if_neg c4).symm.trans h
    refine sf_iload_n (pc := 7) C 1 dX5_readNumber_7 rfl ?_
    exact sf_iretW (pc := 8) C dX5_readNumber_8 h
set_option maxHeartbeats 4000000 in
set_option maxRecDepth 100000 in
theorem k5_readNumber {l : Launch} {V : sf_V} {s : sf_Sg} {x1 : Int32} {x2 : Int32} {r : Int32} {s' : sf_Sg} (h : f5_readNumber s x1 x2 = some (r, s')) : sf_M l V yX5_readNumber (.code yX5_readNumber cX5_readNumber 5 (some .int)) 2 [.ref (V.2.1 1), .int x1, .int x2] s (sf_Qi V r s') := by
  refine sf_enter (by decide) (Nat.le_of_ble_eq_true rfl) (fun X hX C => ?_)
  refine sf_sub [0, 1, 2] rfl ?_
  exact w5_readNumber_b0 (show sf_C X V cX5_readNumber 5 RX5 (some .int) 2 from C)  h
set_option maxHeartbeats 4000000 in
set_option maxRecDepth 100000 in
theorem w5_endClause_b0 {X : sf_X} {V : sf_V} {s' : sf_Sg} (C : sf_C X V cX5_endClause 1 RX5 none 2) {s : sf_Sg} (h : f5_endClause_b0 s = some s') : sf_G X V 1 (sf_Q X V (sf_Qv V s')) s 0 [(0, .ref (V.2.1 1))] [] := by
  unfold f5_endClause_b0 at h
  refine sf_aload_n (pc := 0) C 0 dX5_endClause_0 rfl ?_
  refine sf_get (pc := 1) C nk_1 sh_1 rfl fl_5_30 dX5_endClause_1 ?_
  refine sf_if_eq (tgt := 8) (pc := 4) C dX5_endClause_4 rfl (fun c4 => ?_) (fun c4 => ?_)
  · replace h := (if_pos c4).symm.trans h
    refine sf_aload_n (pc := 8) C 0 dX5_endClause_8 rfl ?_
    obtain ⟨s9, e9, h⟩ := sf_ob h
    refine sf_callVv (pc := 9) C (As := []) nk_1 sh_1 rfl yk_X5_passBlanks cl_5_33 (k5_passBlanks e9) (by decide) rfl (Nat.le_of_ble_eq_true rfl) rfl dX5_endClause_9 ?_
    refine sf_aload_n (pc := 12) C 0 dX5_endClause_12 rfl ?_
    obtain ⟨v13, e13, h⟩ := sf_ob h
    refine sf_callVi (pc := 13) C (As := []) nk_1 sh_1 rfl yk_X5_letterHere cl_5_40 (k5_letterHere e13) (by decide) rfl (Nat.le_of_ble_eq_true rfl) rfl dX5_endClause_13 ?_
    refine sf_bipush (v := 59) (pc := 16) C dX5_endClause_16 (by decide) ?_
    refine sf_icmp_ne (tgt := 34) (pc := 18) C dX5_endClause_18 rfl (fun c18 => ?_) (fun c18 => ?_)
    · replace h := (if_neg c18).symm.trans h
      refine sf_aload_n (pc := 34) C 0 dX5_endClause_34 rfl ?_
      refine sf_iconst (v := 1) (pc := 35) C dX5_endClause_35 (by decide) ?_
      refine sf_aload_n (pc := 36) C 0 dX5_endClause_36 rfl ?_
      refine sf_get (pc := 37) C nk_1 sh_1 rfl fl_5_27 dX5_endClause_37 ?_
      refine sf_callVv (pc := 40) C (As := [.int (1 : Int32), .int (s9 1 3)]) nk_1 sh_1 rfl yk_X5_blame cl_5_48 (k5_blame rfl) (by decide) rfl (Nat.le_of_ble_eq_true rfl) rfl dX5_endClause_40 ?_
      exact sf_vretW (pc := 43) C dX5_endClause_43 h
    · replace h := (if_pos c18).symm.trans h
      refine sf_aload_n (pc := 21) C 0 dX5_endClause_21 rfl ?_
      refine sf_dup (pc := 22) C dX5_endClause_22 rfl ?_
      refine sf_get (pc := 23) C nk_1 sh_1 rfl fl_5_27 dX5_endClause_23 ?_
      refine sf_iconst (v := 1) (pc := 26) C dX5_endClause_26 (by decide) ?_
      refine sf_iadd (pc := 27) C dX5_endClause_27 ?_
      refine sf_put (pc := 28) C nk_1 sh_1 rfl fw_5_27 rfl rfl dX5_endClause_28 ?_
      refine sf_goto (tgt := 43) (pc := 31) C dX5_endClause_31 rfl ?_
      exact sf_vretW (pc := 43) C dX5_endClause_43 h
  · replace h := (if_neg c4).symm.trans h
    exact sf_vretW (pc := 7) C dX5_endClause_7 h
set_option maxHeartbeats 4000000 in
set_option maxRecDepth 100000 in
theorem k5_endClause {l : Launch} {V : sf_V} {s : sf_Sg} {s' : sf_Sg} (h : f5_endClause s = some s') : sf_M l V yX5_endClause (.code yX5_endClause cX5_endClause 1 none) 2 [.ref (V.2.1 1)] s (sf_Qv V s') := by
  refine sf_enter (by decide) (Nat.le_of_ble_eq_true rfl) (fun X hX C => ?_)
  refine sf_sub [0] rfl ?_
  exact w5_endClause_b0 (show sf_C X V cX5_endClause 1 RX5 none 2 from C)  h
set_option maxHeartbeats 4000000 in
set_option maxRecDepth 100000 in
theorem w7_addBurden_b0 {X : sf_X} {V : sf_V} {c : Nat} (hc : sf_isS c) {s' : sf_Sg} (C : sf_C X V cX7_addBurden 4 RX7 none 0) {s : sf_Sg} {x1 : Int32} {x2 : Int32} {x3 : Int32} (h : f7_addBurden_b0 c s x1 x2 x3 = some s') : sf_G X V 4 (sf_Q X V (sf_Qv V s')) s 0 [(0, .ref (V.2.1 c)), (1, .int x1), (2, .int x2), (3, .int x3)] [] := by
  unfold f7_addBurden_b0 at h
  refine sf_aload_n (pc := 0) C 0 dX7_addBurden_0 rfl ?_
  refine sf_get (pc := 1) C (sf_kS0 hc) (sf_shS hc).1.1 rfl fl_7_27 dX7_addBurden_1 ?_
  refine sf_bipush (v := 6) (pc := 4) C dX7_addBurden_4 (by decide) ?_
  refine sf_icmp_ge (tgt := 49) (pc := 6) C dX7_addBurden_6 rfl (fun c6 => ?_) (fun c6 => ?_)
  · replace h := (if_pos c6).symm.trans h
    exact sf_vretW (pc := 49) C dX7_addBurden_49 h
  · replace h := (if_neg c6).symm.trans h
    refine sf_aload_n (pc := 9) C 0 dX7_addBurden_9 rfl ?_
    refine sf_getr (pc := 10) C (sf_kS0 hc) (sf_shS hc).1.1 rfl fl_7_9 dX7_addBurden_10 ?_
    refine sf_aload_n (pc := 13) C 0 dX7_addBurden_13 rfl ?_
    refine sf_get (pc := 14) C (sf_kS0 hc) (sf_shS hc).1.1 rfl fl_7_27 dX7_addBurden_14 ?_
    refine sf_iload_n (pc := 17) C 1 dX7_addBurden_17 rfl ?_
    obtain ⟨s18, e18, h⟩ := sf_ob h
    refine sf_iast (pc := 18) C (sf_kS hc 1 (by decide)) (sf_shS hc).1.2.1 e18 dX7_addBurden_18 ?_
    refine sf_aload_n (pc := 19) C 0 dX7_addBurden_19 rfl ?_
    refine sf_getr (pc := 20) C (sf_kS0 hc) (sf_shS hc).1.1 rfl fl_7_15 dX7_addBurden_20 ?_
    refine sf_aload_n (pc := 23) C 0 dX7_addBurden_23 rfl ?_
    refine sf_get (pc := 24) C (sf_kS0 hc) (sf_shS hc).1.1 rfl fl_7_27 dX7_addBurden_24 ?_
    refine sf_iload_n (pc := 27) C 2 dX7_addBurden_27 rfl ?_
    obtain ⟨s28, e28, h⟩ := sf_ob h
    refine sf_iast (pc := 28) C (sf_kS hc 2 (by decide)) (sf_shS hc).1.2.2.1 e28 dX7_addBurden_28 ?_
    refine sf_aload_n (pc := 29) C 0 dX7_addBurden_29 rfl ?_
    refine sf_getr (pc := 30) C (sf_kS0 hc) (sf_shS hc).1.1 rfl fl_7_18 dX7_addBurden_30 ?_
    refine sf_aload_n (pc := 33) C 0 dX7_addBurden_33 rfl ?_
    refine sf_get (pc := 34) C (sf_kS0 hc) (sf_shS hc).1.1 rfl fl_7_27 dX7_addBurden_34 ?_
    refine sf_iload_n (pc := 37) C 3 dX7_addBurden_37 rfl ?_
    obtain ⟨s38, e38, h⟩ := sf_ob h
    refine sf_iast (pc := 38) C (sf_kS hc 3 (by decide)) (sf_shS hc).1.2.2.2.1 e38 dX7_addBurden_38 ?_
    refine sf_aload_n (pc := 39) C 0 dX7_addBurden_39 rfl ?_
    refine sf_dup (pc := 40) C dX7_addBurden_40 rfl ?_
    refine sf_get (pc := 41) C (sf_kS0 hc) (sf_shS hc).1.1 rfl fl_7_27 dX7_addBurden_41 ?_
    refine sf_iconst (v := 1) (pc := 44) C dX7_addBurden_44 (by decide) ?_
    refine sf_iadd (pc := 45) C dX7_addBurden_45 ?_
    refine sf_put (pc := 46) C (sf_kS0 hc) (sf_shS hc).1.1 rfl fw_7_27 rfl rfl dX7_addBurden_46 ?_
    exact sf_vretW (pc := 49) C dX7_addBurden_49 h
set_option maxHeartbeats 4000000 in
set_option maxRecDepth 100000 in
theorem k7_addBurden {l : Launch} {V : sf_V} {c : Nat} (hc : sf_isS c) {s : sf_Sg} {x1 : Int32} {x2 : Int32} {x3 : Int32} {s' : sf_Sg} (h : f7_addBurden c s x1 x2 x3 = some s') : sf_M l V yX7_addBurden (.code yX7_addBurden cX7_addBurden 4 none) 0 [.ref (V.2.1 c), .int x1, .int x2, .int x3] s (sf_Qv V s') := by
  refine sf_enter (by decide) (Nat.le_of_ble_eq_true rfl) (fun X hX C => ?_)
  refine sf_sub [0, 1, 2, 3] rfl ?_
  exact w7_addBurden_b0 hc (show sf_C X V cX7_addBurden 4 RX7 none 0 from C)  h
set_option maxHeartbeats 4000000 in
set_option maxRecDepth 100000 in
theorem w7_addBack_b0 {X : sf_X} {V : sf_V} {c : Nat} (hc : sf_isS c) {s' : sf_Sg} (C : sf_C X V cX7_addBack 3 RX7 none 0) {s : sf_Sg} {x1 : Int32} {x2 : Int32} (h : f7_addBack_b0 c s x1 x2 = some s') : sf_G X V 3 (sf_Q X V (sf_Qv V s')) s 0 [(0, .ref (V.2.1 c)), (1, .int x1), (2, .int x2)] [] := by
  unfold f7_addBack_b0 at h
  refine sf_aload_n (pc := 0) C 0 dX7_addBack_0 rfl ?_
  refine sf_get (pc := 1) C (sf_kS0 hc) (sf_shS hc).1.1 rfl fl_7_31 dX7_addBack_1 ?_
  refine sf_iconst (v := 5) (pc := 4) C dX7_addBack_4 (by decide) ?_
  refine sf_icmp_ge (tgt := 38) (pc := 5) C dX7_addBack_5 rfl (fun c5 => ?_) (fun c5 => ?_)
  · replace h := (if_pos c5).symm.trans h
    exact sf_vretW (pc := 38) C dX7_addBack_38 h
  · replace h := (if_neg c5).symm.trans h
    refine sf_aload_n (pc := 8) C 0 dX7_addBack_8 rfl ?_
    refine sf_getr (pc := 9) C (sf_kS0 hc) (sf_shS hc).1.1 rfl fl_7_21 dX7_addBack_9 ?_
    refine sf_aload_n (pc := 12) C 0 dX7_addBack_12 rfl ?_
    refine sf_get (pc := 13) C (sf_kS0 hc) (sf_shS hc).1.1 rfl fl_7_31 dX7_addBack_13 ?_
    refine sf_iload_n (pc := 16) C 1 dX7_addBack_16 rfl ?_
    obtain ⟨s17, e17, h⟩ := sf_ob h
    refine sf_iast (pc := 17) C (sf_kS hc 4 (by decide)) (sf_shS hc).1.2.2.2.2.1 e17 dX7_addBack_17 ?_
    refine sf_aload_n (pc := 18) C 0 dX7_addBack_18 rfl ?_
    refine sf_getr (pc := 19) C (sf_kS0 hc) (sf_shS hc).1.1 rfl fl_7_24 dX7_addBack_19 ?_
    refine sf_aload_n (pc := 22) C 0 dX7_addBack_22 rfl ?_
    refine sf_get (pc := 23) C (sf_kS0 hc) (sf_shS hc).1.1 rfl fl_7_31 dX7_addBack_23 ?_
    refine sf_iload_n (pc := 26) C 2 dX7_addBack_26 rfl ?_
    obtain ⟨s27, e27, h⟩ := sf_ob h
    refine sf_iast (pc := 27) C (sf_kS hc 5 (by decide)) (sf_shS hc).1.2.2.2.2.2 e27 dX7_addBack_27 ?_
    refine sf_aload_n (pc := 28) C 0 dX7_addBack_28 rfl ?_
    refine sf_dup (pc := 29) C dX7_addBack_29 rfl ?_
    refine sf_get (pc := 30) C (sf_kS0 hc) (sf_shS hc).1.1 rfl fl_7_31 dX7_addBack_30 ?_
    refine sf_iconst (v := 1) (pc := 33) C dX7_addBack_33 (by decide) ?_
    refine sf_iadd (pc := 34) C dX7_addBack_34 ?_
    refine sf_put (pc := 35) C (sf_kS0 hc) (sf_shS hc).1.1 rfl fw_7_31 rfl rfl dX7_addBack_35 ?_
    exact sf_vretW (pc := 38) C dX7_addBack_38 h
set_option maxHeartbeats 4000000 in
set_option maxRecDepth 100000 in
theorem k7_addBack {l : Launch} {V : sf_V} {c : Nat} (hc : sf_isS c) {s : sf_Sg} {x1 : Int32} {x2 : Int32} {s' : sf_Sg} (h : f7_addBack c s x1 x2 = some s') : sf_M l V yX7_addBack (.code yX7_addBack cX7_addBack 3 none) 0 [.ref (V.2.1 c), .int x1, .int x2] s (sf_Qv V s') := by
  refine sf_enter (by decide) (Nat.le_of_ble_eq_true rfl) (fun X hX C => ?_)
  refine sf_sub [0, 1, 2] rfl ?_
  exact w7_addBack_b0 hc (show sf_C X V cX7_addBack 3 RX7 none 0 from C)  h
set_option maxHeartbeats 4000000 in
set_option maxRecDepth 100000 in
theorem w5_readClause_b0 {X : sf_X} {V : sf_V} {c1 : Nat} (hc1 : sf_isS c1) {s' : sf_Sg} (C : sf_C X V cX5_readClause 7 RX5 none 3) {s : sf_Sg} (h : f5_readClause_b0 c1 s = some s') : sf_G X V 7 (sf_Q X V (sf_Qv V s')) s 0 [(0, .ref (V.2.1 1)), (1, .ref (V.2.1 c1))] [] := by
  unfold f5_readClause_b0 at h
  refine sf_aload_n (pc := 0) C 0 dX5_readClause_0 rfl ?_
  obtain ⟨v1, e1, h⟩ := sf_ob h
  refine sf_callVi (pc := 1) C (As := []) nk_1 sh_1 rfl yk_X5_letterHere cl_5_40 (k5_letterHere e1) (by decide) rfl (Nat.le_of_ble_eq_true rfl) rfl dX5_readClause_1 ?_
  refine sf_istore_n (lv' := [(2, .int v1), (0, .ref (V.2.1 1)), (1, .ref (V.2.1 c1))]) (pc := 4) C dX5_readClause_4 (by decide) rfl ?_
  refine sf_aload_n (pc := 5) C 2 dX5_readClause_5 rfl ?_
  refine sf_iload_n (pc := 6) C 0 dX5_readClause_6 rfl ?_
  refine sf_callSi (pc := 7) C (As := [.ref (V.2.1 c1), .int v1]) yk_X5_faultOfWord cl_5_44 (k5_faultOfWord hc1 rfl) (by decide) rfl (Nat.le_of_ble_eq_true rfl) rfl dX5_readClause_7 ?_
  refine sf_istore_n (lv' := [(3, .int (f5_faultOfWord c1 s v1)), (2, .int v1), (0, .ref (V.2.1 1)), (1, .ref (V.2.1 c1))]) (pc := 10) C dX5_readClause_10 (by decide) rfl ?_
  refine sf_iload_n (pc := 11) C 0 dX5_readClause_11 rfl ?_
  refine sf_if_eq (tgt := 25) (pc := 12) C dX5_readClause_12 rfl (fun c12 => ?_) (fun c12 => ?_)
  · replace h := (if_pos c12).symm.trans h
    refine sf_aload_n (pc := 25) C 2 dX5_readClause_25 rfl ?_
    refine sf_dup (pc := 26) C dX5_readClause_26 rfl ?_
    refine sf_get (pc := 27) C nk_1 sh_1 rfl fl_5_27 dX5_readClause_27 ?_
    refine sf_iconst (v := 1) (pc := 30) C dX5_readClause_30 (by decide) ?_
    refine sf_iadd (pc := 31) C dX5_readClause_31 ?_
    refine sf_put (pc := 32) C nk_1 sh_1 rfl fw_5_27 rfl rfl dX5_readClause_32 ?_
    refine sf_iload_n (pc := 35) C 1 dX5_readClause_35 rfl ?_
    refine sf_bipush (v := 102) (pc := 36) C dX5_readClause_36 (by decide) ?_
    refine sf_icmp_ne (tgt := 68) (pc := 38) C dX5_readClause_38 rfl (fun c38 => ?_) (fun c38 => ?_)
    · replace h := (if_neg c38).symm.trans h
      refine sf_iload_n (pc := 68) C 1 dX5_readClause_68 rfl ?_
      refine sf_bipush (v := 98) (pc := 69) C dX5_readClause_69 (by decide) ?_
      refine sf_icmp_ne (tgt := 117) (pc := 71) C dX5_readClause_71 rfl (fun c71 => ?_) (fun c71 => ?_)
      · replace h := (if_neg c71).symm.trans h
        refine sf_aload_n (pc := 117) C 2 dX5_readClause_117 rfl ?_
        refine sf_iconst (v := 1) (pc := 118) C dX5_readClause_118 (by decide) ?_
        refine sf_bipush (v := 99) (pc := 119) C dX5_readClause_119 (by decide) ?_
        obtain ⟨q121, e121, h⟩ := sf_ob h
        refine sf_callVi (pc := 121) C (As := [.int (1 : Int32), .int (99 : Int32)]) nk_1 sh_1 rfl yk_X5_readNumber cl_5_52 (k5_readNumber e121) (by decide) rfl (Nat.le_of_ble_eq_true rfl) rfl dX5_readClause_121 ?_
        refine sf_istore (lv' := [(4, .int q121.1), (3, .int (f5_faultOfWord c1 s v1)), (2, .int v1), (0, .ref (V.2.1 1)), (1, .ref (V.2.1 c1))]) (pc := 124) C dX5_readClause_124 (by decide) rfl ?_
        refine sf_aload_n (pc := 126) C 3 dX5_readClause_126 rfl ?_
        refine sf_iconst (v := 0) (pc := 127) C dX5_readClause_127 (by decide) ?_
        refine sf_bipush (v := 9) (pc := 128) C dX5_readClause_128 (by decide) ?_
        obtain ⟨q130, e130, h⟩ := sf_ob h
        refine sf_callVi (pc := 130) C (As := [.int (0 : Int32), .int (9 : Int32)]) nk_1 sh_1 rfl yk_X5_readNumber cl_5_52 (k5_readNumber e130) (by decide) rfl (Nat.le_of_ble_eq_true rfl) rfl dX5_readClause_130 ?_
        refine sf_istore (lv' := [(5, .int q130.1), (4, .int q121.1), (3, .int (f5_faultOfWord c1 s v1)), (2, .int v1), (0, .ref (V.2.1 1)), (1, .ref (V.2.1 c1))]) (pc := 133) C dX5_readClause_133 (by decide) rfl ?_
        refine sf_aload_n (pc := 135) C 4 dX5_readClause_135 rfl ?_
        obtain ⟨s136, e136, h⟩ := sf_ob h
        refine sf_callVv (pc := 136) C (As := []) nk_1 sh_1 rfl yk_X5_endClause cl_5_56 (k5_endClause e136) (by decide) rfl (Nat.le_of_ble_eq_true rfl) rfl dX5_readClause_136 ?_
        refine sf_aload_n (pc := 139) C 5 dX5_readClause_139 rfl ?_
        refine sf_iload (pc := 140) C 1 dX5_readClause_140 rfl ?_
        refine sf_iload (pc := 142) C 0 dX5_readClause_142 rfl ?_
        obtain ⟨s144, e144, h⟩ := sf_ob h
        refine sf_callVv (pc := 144) C (As := [.int q121.1, .int q130.1]) (sf_kS0 hc1) (sf_shS hc1).1.1 rfl yk_X7_addBack cl_5_70 (k7_addBack hc1 e144) (by decide) rfl (Nat.le_of_ble_eq_true rfl) rfl dX5_readClause_144 ?_
        exact sf_vretW (pc := 147) C dX5_readClause_147 h
      · replace h := (if_pos c71).symm.trans h
        refine sf_aload_n (pc := 74) C 2 dX5_readClause_74 rfl ?_
        refine sf_iconst (v := 0) (pc := 75) C dX5_readClause_75 (by decide) ?_
        refine sf_iconst (v := 4) (pc := 76) C dX5_readClause_76 (by decide) ?_
        obtain ⟨q77, e77, h⟩ := sf_ob h
        refine sf_callVi (pc := 77) C (As := [.int (0 : Int32), .int (4 : Int32)]) nk_1 sh_1 rfl yk_X5_readNumber cl_5_52 (k5_readNumber e77) (by decide) rfl (Nat.le_of_ble_eq_true rfl) rfl dX5_readClause_77 ?_
        refine sf_istore (lv' := [(4, .int q77.1), (3, .int (f5_faultOfWord c1 s v1)), (2, .int v1), (0, .ref (V.2.1 1)), (1, .ref (V.2.1 c1))]) (pc := 80) C dX5_readClause_80 (by decide) rfl ?_
        refine sf_aload_n (pc := 82) C 3 dX5_readClause_82 rfl ?_
        refine sf_iconst (v := 1) (pc := 83) C dX5_readClause_83 (by decide) ?_
        refine sf_bipush (v := 60) (pc := 84) C dX5_readClause_84 (by decide) ?_
        obtain ⟨q86, e86, h⟩ := sf_ob h
        refine sf_callVi (pc := 86) C (As := [.int (1 : Int32), .int (60 : Int32)]) nk_1 sh_1 rfl yk_X5_readNumber cl_5_52 (k5_readNumber e86) (by decide) rfl (Nat.le_of_ble_eq_true rfl) rfl dX5_readClause_86 ?_
        refine sf_istore (lv' := [(5, .int q86.1), (4, .int q77.1), (3, .int (f5_faultOfWord c1 s v1)), (2, .int v1), (0, .ref (V.2.1 1)), (1, .ref (V.2.1 c1))]) (pc := 89) C dX5_readClause_89 (by decide) rfl ?_
        refine sf_aload_n (pc := 91) C 4 dX5_readClause_91 rfl ?_
        refine sf_iconst (v := 0) (pc := 92) C dX5_readClause_92 (by decide) ?_
        refine sf_bipush (v := 20) (pc := 93) C dX5_readClause_93 (by decide) ?_
        obtain ⟨q95, e95, h⟩ := sf_ob h
        refine sf_callVi (pc := 95) C (As := [.int (0 : Int32), .int (20 : Int32)]) nk_1 sh_1 rfl yk_X5_readNumber cl_5_52 (k5_readNumber e95) (by decide) rfl (Nat.le_of_ble_eq_true rfl) rfl dX5_readClause_95 ?_
        refine sf_istore (lv' := [(6, .int q95.1), (5, .int q86.1), (4, .int q77.1), (3, .int (f5_faultOfWord c1 s v1)), (2, .int v1), (0, .ref (V.2.1 1)), (1, .ref (V.2.1 c1))]) (pc := 98) C dX5_readClause_98 (by decide) rfl ?_
        refine sf_aload_n (pc := 100) C 5 dX5_readClause_100 rfl ?_
        obtain ⟨s101, e101, h⟩ := sf_ob h
        refine sf_callVv (pc := 101) C (As := []) nk_1 sh_1 rfl yk_X5_endClause cl_5_56 (k5_endClause e101) (by decide) rfl (Nat.le_of_ble_eq_true rfl) rfl dX5_readClause_101 ?_
        refine sf_aload_n (pc := 104) C 6 dX5_readClause_104 rfl ?_
        refine sf_iload (pc := 105) C 2 dX5_readClause_105 rfl ?_
        refine sf_iload (pc := 107) C 1 dX5_readClause_107 rfl ?_
        refine sf_iload (pc := 109) C 0 dX5_readClause_109 rfl ?_
        obtain ⟨s111, e111, h⟩ := sf_ob h
        refine sf_callVv (pc := 111) C (As := [.int q77.1, .int q86.1, .int q95.1]) (sf_kS0 hc1) (sf_shS hc1).1.1 rfl yk_X7_addBurden cl_5_66 (k7_addBurden hc1 e111) (by decide) rfl (Nat.le_of_ble_eq_true rfl) rfl dX5_readClause_111 ?_
        refine sf_goto (tgt := 147) (pc := 114) C dX5_readClause_114 rfl ?_
        exact sf_vretW (pc := 147) C dX5_readClause_147 h
    · replace h := (if_pos c38).symm.trans h
      refine sf_aload_n (pc := 41) C 2 dX5_readClause_41 rfl ?_
      refine sf_iconst (v := 0) (pc := 42) C dX5_readClause_42 (by decide) ?_
      refine sf_bipush (v := 99) (pc := 43) C dX5_readClause_43 (by decide) ?_
      obtain ⟨q45, e45, h⟩ := sf_ob h
      refine sf_callVi (pc := 45) C (As := [.int (0 : Int32), .int (99 : Int32)]) nk_1 sh_1 rfl yk_X5_readNumber cl_5_52 (k5_readNumber e45) (by decide) rfl (Nat.le_of_ble_eq_true rfl) rfl dX5_readClause_45 ?_
      refine sf_istore (lv' := [(4, .int q45.1), (3, .int (f5_faultOfWord c1 s v1)), (2, .int v1), (0, .ref (V.2.1 1)), (1, .ref (V.2.1 c1))]) (pc := 48) C dX5_readClause_48 (by decide) rfl ?_
      refine sf_aload_n (pc := 50) C 3 dX5_readClause_50 rfl ?_
      obtain ⟨s51, e51, h⟩ := sf_ob h
      refine sf_callVv (pc := 51) C (As := []) nk_1 sh_1 rfl yk_X5_endClause cl_5_56 (k5_endClause e51) (by decide) rfl (Nat.le_of_ble_eq_true rfl) rfl dX5_readClause_51 ?_
      refine sf_aload_n (pc := 54) C 4 dX5_readClause_54 rfl ?_
      refine sf_iconst (v := 1) (pc := 55) C dX5_readClause_55 (by decide) ?_
      refine sf_put (pc := 56) C (sf_kS0 hc1) (sf_shS hc1).1.1 rfl fw_5_59 rfl rfl dX5_readClause_56 ?_
      refine sf_aload_n (pc := 59) C 4 dX5_readClause_59 rfl ?_
      refine sf_iload (pc := 60) C 0 dX5_readClause_60 rfl ?_
      refine sf_put (pc := 62) C (sf_kS0 hc1) (sf_shS hc1).1.1 rfl fw_5_63 rfl rfl dX5_readClause_62 ?_
      refine sf_goto (tgt := 147) (pc := 65) C dX5_readClause_65 rfl ?_
      exact sf_vretW (pc := 147) C dX5_readClause_147 h
  · replace h := (if_neg c12).symm.trans h
    refine sf_aload_n (pc := 15) C 2 dX5_readClause_15 rfl ?_
    refine sf_iload_n (pc := 16) C 0 dX5_readClause_16 rfl ?_
    refine sf_aload_n (pc := 17) C 2 dX5_readClause_17 rfl ?_
    refine sf_get (pc := 18) C nk_1 sh_1 rfl fl_5_27 dX5_readClause_18 ?_
    refine sf_callVv (pc := 21) C (As := [.int (f5_faultOfWord c1 s v1), .int (s 1 3)]) nk_1 sh_1 rfl yk_X5_blame cl_5_48 (k5_blame rfl) (by decide) rfl (Nat.le_of_ble_eq_true rfl) rfl dX5_readClause_21 ?_
    exact sf_vretW (pc := 24) C dX5_readClause_24 h
set_option maxHeartbeats 4000000 in
set_option maxRecDepth 100000 in
theorem k5_readClause {l : Launch} {V : sf_V} {c1 : Nat} (hc1 : sf_isS c1) {s : sf_Sg} {s' : sf_Sg} (h : f5_readClause c1 s = some s') : sf_M l V yX5_readClause (.code yX5_readClause cX5_readClause 7 none) 3 [.ref (V.2.1 1), .ref (V.2.1 c1)] s (sf_Qv V s') := by
  refine sf_enter (by decide) (Nat.le_of_ble_eq_true rfl) (fun X hX C => ?_)
  refine sf_sub [0, 1] rfl ?_
  exact w5_readClause_b0 hc1 (show sf_C X V cX5_readClause 7 RX5 none 3 from C)  h
set_option maxHeartbeats 4000000 in
set_option maxRecDepth 100000 in
theorem w5_readInto_b65 {X : sf_X} {V : sf_V} {c1 : Nat} (hc1 : sf_isS c1) {r : Int32} {s' : sf_Sg} (C : sf_C X V cX5_readInto 3 RX5 (some .int) 4) {s : sf_Sg} (h : f5_readInto_b65 c1 s = some (r, s')) : sf_G X V 3 (sf_Q X V (sf_Qi V r s')) s 65 [(0, .ref (V.2.1 1))] [] := by
  unfold f5_readInto_b65 at h
  refine sf_aload_n (pc := 65) C 0 dX5_readInto_65 rfl ?_
  refine sf_iconst (v := 0) (pc := 66) C dX5_readInto_66 (by decide) ?_
  refine sf_put (pc := 67) C nk_1 sh_1 rfl fw_5_19 rfl rfl dX5_readInto_67 ?_
  refine sf_aload_n (pc := 70) C 0 dX5_readInto_70 rfl ?_
  refine sf_get (pc := 71) C nk_1 sh_1 rfl fl_5_30 dX5_readInto_71 ?_
  exact sf_iretW (pc := 74) C dX5_readInto_74 h
set_option maxHeartbeats 4000000 in
set_option maxRecDepth 100000 in
theorem w5_readInto_b25 {X : sf_X} {V : sf_V} {c1 : Nat} (hc1 : sf_isS c1) {r : Int32} {s' : sf_Sg} {k25 : sf_Sg → Int32 → Option (Int32 × sf_Sg)} (C : sf_C X V cX5_readInto 3 RX5 (some .int) 4) (hk25 : ∀  (s : sf_Sg) (x2 : Int32), k25 s x2 = some (r, s') → sf_G X V 3 (sf_Q X V (sf_Qi V r s')) s 25 [(0, .ref (V.2.1 1)), (1, .ref (V.2.1 c1)), (2, .int x2)] []) {s : sf_Sg} {x2 : Int32} (h : f5_readInto_b25 c1 k25 s x2 = some (r, s')) : sf_G X V 3 (sf_Q X V (sf_Qi V r s')) s 25 [(0, .ref (V.2.1 1)), (1, .ref (V.2.1 c1)), (2, .int x2)] [] := by
  unfold f5_readInto_b25 at h
  refine sf_iload_n (pc := 25) C 2 dX5_readInto_25 rfl ?_
  refine sf_sipush (v := 240) (pc := 26) C dX5_readInto_26 (by decide) ?_
  refine sf_icmp_ge (tgt := 65) (pc := 29) C dX5_readInto_29 rfl (fun c29 => ?_) (fun c29 => ?_)
  · replace h := (if_pos c29).symm.trans h
    refine sf_sub [0] rfl ?_
    exact w5_readInto_b65 hc1 C h
  · replace h := (if_neg c29).symm.trans h
    refine sf_aload_n (pc := 32) C 0 dX5_readInto_32 rfl ?_
    refine sf_get (pc := 33) C nk_1 sh_1 rfl fl_5_27 dX5_readInto_33 ?_
    refine sf_aload_n (pc := 36) C 0 dX5_readInto_36 rfl ?_
    refine sf_get (pc := 37) C nk_1 sh_1 rfl fl_5_19 dX5_readInto_37 ?_
    refine sf_icmp_ge (tgt := 65) (pc := 40) C dX5_readInto_40 rfl (fun c40 => ?_) (fun c40 => ?_)
    · replace h := (if_pos c40).symm.trans h
      refine sf_sub [0] rfl ?_
      exact w5_readInto_b65 hc1 C h
    · replace h := (if_neg c40).symm.trans h
      refine sf_aload_n (pc := 43) C 0 dX5_readInto_43 rfl ?_
      refine sf_get (pc := 44) C nk_1 sh_1 rfl fl_5_30 dX5_readInto_44 ?_
      refine sf_if_ne (tgt := 65) (pc := 47) C dX5_readInto_47 rfl (fun c47 => ?_) (fun c47 => ?_)
      · replace h := (if_neg c47).symm.trans h
        refine sf_sub [0] rfl ?_
        exact w5_readInto_b65 hc1 C h
      · replace h := (if_pos c47).symm.trans h
        refine sf_aload_n (pc := 50) C 0 dX5_readInto_50 rfl ?_
        refine sf_aload_n (pc := 51) C 1 dX5_readInto_51 rfl ?_
        obtain ⟨s52, e52, h⟩ := sf_ob h
        refine sf_callVv (pc := 52) C (As := [.ref (V.2.1 c1)]) nk_1 sh_1 rfl yk_X5_readClause cl_5_36 (k5_readClause hc1 e52) (by decide) rfl (Nat.le_of_ble_eq_true rfl) rfl dX5_readInto_52 ?_
        refine sf_aload_n (pc := 55) C 0 dX5_readInto_55 rfl ?_
        obtain ⟨s56, e56, h⟩ := sf_ob h
        refine sf_callVv (pc := 56) C (As := []) nk_1 sh_1 rfl yk_X5_passBlanks cl_5_33 (k5_passBlanks e56) (by decide) rfl (Nat.le_of_ble_eq_true rfl) rfl dX5_readInto_56 ?_
        refine sf_iinc (v := (x2 + 1)) (lv' := [(2, .int (x2 + 1)), (0, .ref (V.2.1 1)), (1, .ref (V.2.1 c1))]) (pc := 59) C 2 dX5_readInto_59 rfl rfl (by decide) rfl ?_
        refine sf_goto (tgt := 25) (pc := 62) C dX5_readInto_62 rfl ?_
        refine sf_sub [1, 2, 0] rfl ?_
        exact hk25 _ _ h
set_option maxHeartbeats 4000000 in
set_option maxRecDepth 100000 in
theorem w5_readInto_L25 {X : sf_X} {V : sf_V} {c1 : Nat} (hc1 : sf_isS c1) {r : Int32} {s' : sf_Sg} (C : sf_C X V cX5_readInto 3 RX5 (some .int) 4) : ∀  (s : sf_Sg) (x2 : Int32), f5_readInto_L25 c1 s x2 = some (r, s') → sf_G X V 3 (sf_Q X V (sf_Qi V r s')) s 25 [(0, .ref (V.2.1 1)), (1, .ref (V.2.1 c1)), (2, .int x2)] [] :=
  sf_it_ind (fun (k : sf_Sg → Int32 → Option (Int32 × sf_Sg)) => ∀  (s : sf_Sg) (x2 : Int32), k s x2 = some (r, s') → sf_G X V 3 (sf_Q X V (sf_Qi V r s')) s 25 [(0, .ref (V.2.1 1)), (1, .ref (V.2.1 c1)), (2, .int x2)] []) _ _ (fun s x2 h => by cases h) (fun k hk s x2 h => w5_readInto_b25 hc1 C hk h) _
set_option maxHeartbeats 4000000 in
set_option maxRecDepth 100000 in
theorem w5_readInto_b0 {X : sf_X} {V : sf_V} {c1 : Nat} (hc1 : sf_isS c1) {r : Int32} {s' : sf_Sg} (C : sf_C X V cX5_readInto 3 RX5 (some .int) 4) {s : sf_Sg} (h : f5_readInto_b0 c1 s = some (r, s')) : sf_G X V 3 (sf_Q X V (sf_Qi V r s')) s 0 [(0, .ref (V.2.1 1)), (1, .ref (V.2.1 c1))] [] := by
  unfold f5_readInto_b0 at h
  refine sf_aload_n (pc := 0) C 1 dX5_readInto_0 rfl ?_
  refine sf_callVv (pc := 1) C (As := []) (sf_kS0 hc1) (sf_shS hc1).1.1 rfl yk_X7_clear cl_5_22 (k7_clear hc1 rfl) (by decide) rfl (Nat.le_of_ble_eq_true rfl) rfl dX5_readInto_1 ?_
  refine sf_aload_n (pc := 4) C 0 dX5_readInto_4 rfl ?_
  refine sf_iconst (v := 0) (pc := 5) C dX5_readInto_5 (by decide) ?_
  refine sf_put (pc := 6) C nk_1 sh_1 rfl fw_5_27 rfl rfl dX5_readInto_6 ?_
  refine sf_aload_n (pc := 9) C 0 dX5_readInto_9 rfl ?_
  refine sf_iconst (v := 0) (pc := 10) C dX5_readInto_10 (by decide) ?_
  refine sf_put (pc := 11) C nk_1 sh_1 rfl fw_5_30 rfl rfl dX5_readInto_11 ?_
  refine sf_aload_n (pc := 14) C 0 dX5_readInto_14 rfl ?_
  refine sf_iconst (v := -1) (pc := 15) C dX5_readInto_15 (by decide) ?_
  refine sf_put (pc := 16) C nk_1 sh_1 rfl fw_5_9 rfl rfl dX5_readInto_16 ?_
  refine sf_aload_n (pc := 19) C 0 dX5_readInto_19 rfl ?_
  obtain ⟨s20, e20, h⟩ := sf_ob h
  refine sf_callVv (pc := 20) C (As := []) nk_1 sh_1 rfl yk_X5_passBlanks cl_5_33 (k5_passBlanks e20) (by decide) rfl (Nat.le_of_ble_eq_true rfl) rfl dX5_readInto_20 ?_
  refine sf_iconst (v := 0) (pc := 23) C dX5_readInto_23 (by decide) ?_
  refine sf_istore_n (lv' := [(2, .int (0 : Int32)), (0, .ref (V.2.1 1)), (1, .ref (V.2.1 c1))]) (pc := 24) C dX5_readInto_24 (by decide) rfl ?_
  refine sf_sub [1, 2, 0] rfl ?_
  exact w5_readInto_L25 hc1 C _ _ h
set_option maxHeartbeats 4000000 in
set_option maxRecDepth 100000 in
theorem k5_readInto {l : Launch} {V : sf_V} {c1 : Nat} (hc1 : sf_isS c1) {s : sf_Sg} {r : Int32} {s' : sf_Sg} (h : f5_readInto c1 s = some (r, s')) : sf_M l V yX5_readInto (.code yX5_readInto cX5_readInto 3 (some .int)) 4 [.ref (V.2.1 1), .ref (V.2.1 c1)] s (sf_Qi V r s') := by
  refine sf_enter (by decide) (Nat.le_of_ble_eq_true rfl) (fun X hX C => ?_)
  refine sf_sub [0, 1] rfl ?_
  exact w5_readInto_b0 hc1 (show sf_C X V cX5_readInto 3 RX5 (some .int) 4 from C)  h
set_option maxHeartbeats 4000000 in
set_option maxRecDepth 100000 in
theorem w7_copyFrom_b84 {X : sf_X} {V : sf_V} {c : Nat} {c1 : Nat} (hc : sf_isS c) (hc1 : sf_isS c1) {s' : sf_Sg} {k84 : sf_Sg → Int32 → Option sf_Sg} (C : sf_C X V cX7_copyFrom 3 RX7 none 0) (hk84 : ∀  (s : sf_Sg) (x2 : Int32), k84 s x2 = some s' → sf_G X V 3 (sf_Q X V (sf_Qv V s')) s 84 [(0, .ref (V.2.1 c)), (1, .ref (V.2.1 c1)), (2, .int x2)] []) {s : sf_Sg} {x2 : Int32} (h : f7_copyFrom_b84 c c1 k84 s x2 = some s') : sf_G X V 3 (sf_Q X V (sf_Qv V s')) s 84 [(0, .ref (V.2.1 c)), (1, .ref (V.2.1 c1)), (2, .int x2)] [] := by
  unfold f7_copyFrom_b84 at h
  refine sf_iload_n (pc := 84) C 2 dX7_copyFrom_84 rfl ?_
  refine sf_iconst (v := 5) (pc := 85) C dX7_copyFrom_85 (by decide) ?_
  refine sf_icmp_ge (tgt := 119) (pc := 86) C dX7_copyFrom_86 rfl (fun c86 => ?_) (fun c86 => ?_)
  · replace h := (if_pos c86).symm.trans h
    exact sf_vretW (pc := 119) C dX7_copyFrom_119 h
  · replace h := (if_neg c86).symm.trans h
    refine sf_aload_n (pc := 89) C 0 dX7_copyFrom_89 rfl ?_
    refine sf_getr (pc := 90) C (sf_kS0 hc) (sf_shS hc).1.1 rfl fl_7_21 dX7_copyFrom_90 ?_
    refine sf_iload_n (pc := 93) C 2 dX7_copyFrom_93 rfl ?_
    refine sf_aload_n (pc := 94) C 1 dX7_copyFrom_94 rfl ?_
    refine sf_getr (pc := 95) C (sf_kS0 hc1) (sf_shS hc1).1.1 rfl fl_7_21 dX7_copyFrom_95 ?_
    refine sf_iload_n (pc := 98) C 2 dX7_copyFrom_98 rfl ?_
    obtain ⟨v99, e99, h⟩ := sf_ob h
    refine sf_iald (pc := 99) C (sf_kS hc1 4 (by decide)) (sf_shS hc1).1.2.2.2.2.1 e99 dX7_copyFrom_99 ?_
    obtain ⟨s100, e100, h⟩ := sf_ob h
    refine sf_iast (pc := 100) C (sf_kS hc 4 (by decide)) (sf_shS hc).1.2.2.2.2.1 e100 dX7_copyFrom_100 ?_
    refine sf_aload_n (pc := 101) C 0 dX7_copyFrom_101 rfl ?_
    refine sf_getr (pc := 102) C (sf_kS0 hc) (sf_shS hc).1.1 rfl fl_7_24 dX7_copyFrom_102 ?_
    refine sf_iload_n (pc := 105) C 2 dX7_copyFrom_105 rfl ?_
    refine sf_aload_n (pc := 106) C 1 dX7_copyFrom_106 rfl ?_
    refine sf_getr (pc := 107) C (sf_kS0 hc1) (sf_shS hc1).1.1 rfl fl_7_24 dX7_copyFrom_107 ?_
    refine sf_iload_n (pc := 110) C 2 dX7_copyFrom_110 rfl ?_
    obtain ⟨v111, e111, h⟩ := sf_ob h
    refine sf_iald (pc := 111) C (sf_kS hc1 5 (by decide)) (sf_shS hc1).1.2.2.2.2.2 e111 dX7_copyFrom_111 ?_
    obtain ⟨s112, e112, h⟩ := sf_ob h
    refine sf_iast (pc := 112) C (sf_kS hc 5 (by decide)) (sf_shS hc).1.2.2.2.2.2 e112 dX7_copyFrom_112 ?_
    refine sf_iinc (v := (x2 + 1)) (lv' := [(2, .int (x2 + 1)), (0, .ref (V.2.1 c)), (1, .ref (V.2.1 c1))]) (pc := 113) C 2 dX7_copyFrom_113 rfl rfl (by decide) rfl ?_
    refine sf_goto (tgt := 84) (pc := 116) C dX7_copyFrom_116 rfl ?_
    refine sf_sub [1, 2, 0] rfl ?_
    exact hk84 _ _ h
set_option maxHeartbeats 4000000 in
set_option maxRecDepth 100000 in
theorem w7_copyFrom_L84 {X : sf_X} {V : sf_V} {c : Nat} {c1 : Nat} (hc : sf_isS c) (hc1 : sf_isS c1) {s' : sf_Sg} (C : sf_C X V cX7_copyFrom 3 RX7 none 0) : ∀  (s : sf_Sg) (x2 : Int32), f7_copyFrom_L84 c c1 s x2 = some s' → sf_G X V 3 (sf_Q X V (sf_Qv V s')) s 84 [(0, .ref (V.2.1 c)), (1, .ref (V.2.1 c1)), (2, .int x2)] [] :=
  sf_it_ind (fun (k : sf_Sg → Int32 → Option sf_Sg) => ∀  (s : sf_Sg) (x2 : Int32), k s x2 = some s' → sf_G X V 3 (sf_Q X V (sf_Qv V s')) s 84 [(0, .ref (V.2.1 c)), (1, .ref (V.2.1 c1)), (2, .int x2)] []) _ _ (fun s x2 h => by cases h) (fun k hk s x2 h => w7_copyFrom_b84 hc hc1 C hk h) _
set_option maxHeartbeats 4000000 in
set_option maxRecDepth 100000 in
theorem w7_copyFrom_b82 {X : sf_X} {V : sf_V} {c : Nat} {c1 : Nat} (hc : sf_isS c) (hc1 : sf_isS c1) {s' : sf_Sg} (C : sf_C X V cX7_copyFrom 3 RX7 none 0) {s : sf_Sg} (h : f7_copyFrom_b82 c c1 s = some s') : sf_G X V 3 (sf_Q X V (sf_Qv V s')) s 82 [(0, .ref (V.2.1 c)), (1, .ref (V.2.1 c1))] [] := by
  unfold f7_copyFrom_b82 at h
  refine sf_iconst (v := 0) (pc := 82) C dX7_copyFrom_82 (by decide) ?_
  refine sf_istore_n (lv' := [(2, .int (0 : Int32)), (0, .ref (V.2.1 c)), (1, .ref (V.2.1 c1))]) (pc := 83) C dX7_copyFrom_83 (by decide) rfl ?_
  refine sf_sub [1, 2, 0] rfl ?_
  exact w7_copyFrom_L84 hc hc1 C _ _ h
set_option maxHeartbeats 4000000 in
set_option maxRecDepth 100000 in
theorem w7_copyFrom_b34 {X : sf_X} {V : sf_V} {c : Nat} {c1 : Nat} (hc : sf_isS c) (hc1 : sf_isS c1) {s' : sf_Sg} {k34 : sf_Sg → Int32 → Option sf_Sg} (C : sf_C X V cX7_copyFrom 3 RX7 none 0) (hk34 : ∀  (s : sf_Sg) (x2 : Int32), k34 s x2 = some s' → sf_G X V 3 (sf_Q X V (sf_Qv V s')) s 34 [(0, .ref (V.2.1 c)), (1, .ref (V.2.1 c1)), (2, .int x2)] []) {s : sf_Sg} {x2 : Int32} (h : f7_copyFrom_b34 c c1 k34 s x2 = some s') : sf_G X V 3 (sf_Q X V (sf_Qv V s')) s 34 [(0, .ref (V.2.1 c)), (1, .ref (V.2.1 c1)), (2, .int x2)] [] := by
  unfold f7_copyFrom_b34 at h
  refine sf_iload_n (pc := 34) C 2 dX7_copyFrom_34 rfl ?_
  refine sf_bipush (v := 6) (pc := 35) C dX7_copyFrom_35 (by decide) ?_
  refine sf_icmp_ge (tgt := 82) (pc := 37) C dX7_copyFrom_37 rfl (fun c37 => ?_) (fun c37 => ?_)
  · replace h := (if_pos c37).symm.trans h
    refine sf_sub [0, 1] rfl ?_
    exact w7_copyFrom_b82 hc hc1 C h
  · replace h := (if_neg c37).symm.trans h
    refine sf_aload_n (pc := 40) C 0 dX7_copyFrom_40 rfl ?_
    refine sf_getr (pc := 41) C (sf_kS0 hc) (sf_shS hc).1.1 rfl fl_7_9 dX7_copyFrom_41 ?_
    refine sf_iload_n (pc := 44) C 2 dX7_copyFrom_44 rfl ?_
    refine sf_aload_n (pc := 45) C 1 dX7_copyFrom_45 rfl ?_
    refine sf_getr (pc := 46) C (sf_kS0 hc1) (sf_shS hc1).1.1 rfl fl_7_9 dX7_copyFrom_46 ?_
    refine sf_iload_n (pc := 49) C 2 dX7_copyFrom_49 rfl ?_
    obtain ⟨v50, e50, h⟩ := sf_ob h
    refine sf_iald (pc := 50) C (sf_kS hc1 1 (by decide)) (sf_shS hc1).1.2.1 e50 dX7_copyFrom_50 ?_
    obtain ⟨s51, e51, h⟩ := sf_ob h
    refine sf_iast (pc := 51) C (sf_kS hc 1 (by decide)) (sf_shS hc).1.2.1 e51 dX7_copyFrom_51 ?_
    refine sf_aload_n (pc := 52) C 0 dX7_copyFrom_52 rfl ?_
    refine sf_getr (pc := 53) C (sf_kS0 hc) (sf_shS hc).1.1 rfl fl_7_15 dX7_copyFrom_53 ?_
    refine sf_iload_n (pc := 56) C 2 dX7_copyFrom_56 rfl ?_
    refine sf_aload_n (pc := 57) C 1 dX7_copyFrom_57 rfl ?_
    refine sf_getr (pc := 58) C (sf_kS0 hc1) (sf_shS hc1).1.1 rfl fl_7_15 dX7_copyFrom_58 ?_
    refine sf_iload_n (pc := 61) C 2 dX7_copyFrom_61 rfl ?_
    obtain ⟨v62, e62, h⟩ := sf_ob h
    refine sf_iald (pc := 62) C (sf_kS hc1 2 (by decide)) (sf_shS hc1).1.2.2.1 e62 dX7_copyFrom_62 ?_
    obtain ⟨s63, e63, h⟩ := sf_ob h
    refine sf_iast (pc := 63) C (sf_kS hc 2 (by decide)) (sf_shS hc).1.2.2.1 e63 dX7_copyFrom_63 ?_
    refine sf_aload_n (pc := 64) C 0 dX7_copyFrom_64 rfl ?_
    refine sf_getr (pc := 65) C (sf_kS0 hc) (sf_shS hc).1.1 rfl fl_7_18 dX7_copyFrom_65 ?_
    refine sf_iload_n (pc := 68) C 2 dX7_copyFrom_68 rfl ?_
    refine sf_aload_n (pc := 69) C 1 dX7_copyFrom_69 rfl ?_
    refine sf_getr (pc := 70) C (sf_kS0 hc1) (sf_shS hc1).1.1 rfl fl_7_18 dX7_copyFrom_70 ?_
    refine sf_iload_n (pc := 73) C 2 dX7_copyFrom_73 rfl ?_
    obtain ⟨v74, e74, h⟩ := sf_ob h
    refine sf_iald (pc := 74) C (sf_kS hc1 3 (by decide)) (sf_shS hc1).1.2.2.2.1 e74 dX7_copyFrom_74 ?_
    obtain ⟨s75, e75, h⟩ := sf_ob h
    refine sf_iast (pc := 75) C (sf_kS hc 3 (by decide)) (sf_shS hc).1.2.2.2.1 e75 dX7_copyFrom_75 ?_
    refine sf_iinc (v := (x2 + 1)) (lv' := [(2, .int (x2 + 1)), (0, .ref (V.2.1 c)), (1, .ref (V.2.1 c1))]) (pc := 76) C 2 dX7_copyFrom_76 rfl rfl (by decide) rfl ?_
    refine sf_goto (tgt := 34) (pc := 79) C dX7_copyFrom_79 rfl ?_
    refine sf_sub [1, 2, 0] rfl ?_
    exact hk34 _ _ h
set_option maxHeartbeats 4000000 in
set_option maxRecDepth 100000 in
theorem w7_copyFrom_L34 {X : sf_X} {V : sf_V} {c : Nat} {c1 : Nat} (hc : sf_isS c) (hc1 : sf_isS c1) {s' : sf_Sg} (C : sf_C X V cX7_copyFrom 3 RX7 none 0) : ∀  (s : sf_Sg) (x2 : Int32), f7_copyFrom_L34 c c1 s x2 = some s' → sf_G X V 3 (sf_Q X V (sf_Qv V s')) s 34 [(0, .ref (V.2.1 c)), (1, .ref (V.2.1 c1)), (2, .int x2)] [] :=
  sf_it_ind (fun (k : sf_Sg → Int32 → Option sf_Sg) => ∀  (s : sf_Sg) (x2 : Int32), k s x2 = some s' → sf_G X V 3 (sf_Q X V (sf_Qv V s')) s 34 [(0, .ref (V.2.1 c)), (1, .ref (V.2.1 c1)), (2, .int x2)] []) _ _ (fun s x2 h => by cases h) (fun k hk s x2 h => w7_copyFrom_b34 hc hc1 C hk h) _
set_option maxHeartbeats 4000000 in
set_option maxRecDepth 100000 in
theorem w7_copyFrom_b0 {X : sf_X} {V : sf_V} {c : Nat} {c1 : Nat} (hc : sf_isS c) (hc1 : sf_isS c1) {s' : sf_Sg} (C : sf_C X V cX7_copyFrom 3 RX7 none 0) {s : sf_Sg} (h : f7_copyFrom_b0 c c1 s = some s') : sf_G X V 3 (sf_Q X V (sf_Qv V s')) s 0 [(0, .ref (V.2.1 c)), (1, .ref (V.2.1 c1))] [] := by
  unfold f7_copyFrom_b0 at h
  refine sf_aload_n (pc := 0) C 0 dX7_copyFrom_0 rfl ?_
  refine sf_aload_n (pc := 1) C 1 dX7_copyFrom_1 rfl ?_
  refine sf_get (pc := 2) C (sf_kS0 hc1) (sf_shS hc1).1.1 rfl fl_7_38 dX7_copyFrom_2 ?_
  obtain ⟨v5, e5, h⟩ := sf_ob h
  refine sf_putB (pc := 5) C (sf_kS0 hc) (sf_shS hc).1.1 rfl fw_7_38 e5 dX7_copyFrom_5 ?_
  refine sf_aload_n (pc := 8) C 0 dX7_copyFrom_8 rfl ?_
  refine sf_aload_n (pc := 9) C 1 dX7_copyFrom_9 rfl ?_
  refine sf_get (pc := 10) C (sf_kS0 hc1) (sf_shS hc1).1.1 rfl fl_7_42 dX7_copyFrom_10 ?_
  refine sf_put (pc := 13) C (sf_kS0 hc) (sf_shS hc).1.1 rfl fw_7_42 rfl rfl dX7_copyFrom_13 ?_
  refine sf_aload_n (pc := 16) C 0 dX7_copyFrom_16 rfl ?_
  refine sf_aload_n (pc := 17) C 1 dX7_copyFrom_17 rfl ?_
  refine sf_get (pc := 18) C (sf_kS0 hc1) (sf_shS hc1).1.1 rfl fl_7_27 dX7_copyFrom_18 ?_
  refine sf_put (pc := 21) C (sf_kS0 hc) (sf_shS hc).1.1 rfl fw_7_27 rfl rfl dX7_copyFrom_21 ?_
  refine sf_aload_n (pc := 24) C 0 dX7_copyFrom_24 rfl ?_
  refine sf_aload_n (pc := 25) C 1 dX7_copyFrom_25 rfl ?_
  refine sf_get (pc := 26) C (sf_kS0 hc1) (sf_shS hc1).1.1 rfl fl_7_31 dX7_copyFrom_26 ?_
  refine sf_put (pc := 29) C (sf_kS0 hc) (sf_shS hc).1.1 rfl fw_7_31 rfl rfl dX7_copyFrom_29 ?_
  refine sf_iconst (v := 0) (pc := 32) C dX7_copyFrom_32 (by decide) ?_
  refine sf_istore_n (lv' := [(2, .int (0 : Int32)), (0, .ref (V.2.1 c)), (1, .ref (V.2.1 c1))]) (pc := 33) C dX7_copyFrom_33 (by decide) rfl ?_
  refine sf_sub [1, 2, 0] rfl ?_
  exact w7_copyFrom_L34 hc hc1 C _ _ h
set_option maxHeartbeats 4000000 in
set_option maxRecDepth 100000 in
theorem k7_copyFrom {l : Launch} {V : sf_V} {c : Nat} {c1 : Nat} (hc : sf_isS c) (hc1 : sf_isS c1) {s : sf_Sg} {s' : sf_Sg} (h : f7_copyFrom c c1 s = some s') : sf_M l V yX7_copyFrom (.code yX7_copyFrom cX7_copyFrom 3 none) 0 [.ref (V.2.1 c), .ref (V.2.1 c1)] s (sf_Qv V s') := by
  refine sf_enter (by decide) (Nat.le_of_ble_eq_true rfl) (fun X hX C => ?_)
  refine sf_sub [0, 1] rfl ?_
  exact w7_copyFrom_b0 hc hc1 (show sf_C X V cX7_copyFrom 3 RX7 none 0 from C)  h
set_option maxHeartbeats 4000000 in
set_option maxRecDepth 100000 in
theorem w3_startOf_b62 {X : sf_X} {V : sf_V} {c : Nat} {c1 : Nat} (hc : sf_isL c) (hc1 : sf_isS c1) {s' : sf_Sg} {k62 : sf_Sg → Int32 → Option sf_Sg} (C : sf_C X V cX3_startOf 3 RX3 none 0) (hk62 : ∀  (s : sf_Sg) (x2 : Int32), k62 s x2 = some s' → sf_G X V 3 (sf_Q X V (sf_Qv V s')) s 62 [(0, .ref (V.2.1 c)), (2, .int x2)] []) {s : sf_Sg} {x2 : Int32} (h : f3_startOf_b62 c c1 k62 s x2 = some s') : sf_G X V 3 (sf_Q X V (sf_Qv V s')) s 62 [(0, .ref (V.2.1 c)), (2, .int x2)] [] := by
  unfold f3_startOf_b62 at h
  refine sf_iload_n (pc := 62) C 1 dX3_startOf_62 rfl ?_
  refine sf_iconst (v := 5) (pc := 63) C dX3_startOf_63 (by decide) ?_
  refine sf_icmp_ge (tgt := 80) (pc := 64) C dX3_startOf_64 rfl (fun c64 => ?_) (fun c64 => ?_)
  · replace h := (if_pos c64).symm.trans h
    exact sf_vretW (pc := 80) C dX3_startOf_80 h
  · replace h := (if_neg c64).symm.trans h
    refine sf_aload_n (pc := 67) C 0 dX3_startOf_67 rfl ?_
    refine sf_getr (pc := 68) C (sf_kL0 hc) (sf_shL hc).1.1 rfl fl_3_24 dX3_startOf_68 ?_
    refine sf_iload_n (pc := 71) C 1 dX3_startOf_71 rfl ?_
    refine sf_iconst (v := 0) (pc := 72) C dX3_startOf_72 (by decide) ?_
    obtain ⟨s73, e73, h⟩ := sf_ob h
    refine sf_iast (pc := 73) C (sf_kL hc 5 (by decide)) (sf_shL hc).1.2.2.2.2.2 e73 dX3_startOf_73 ?_
    refine sf_iinc (v := (x2 + 1)) (lv' := [(2, .int (x2 + 1)), (0, .ref (V.2.1 c))]) (pc := 74) C 1 dX3_startOf_74 rfl rfl (by decide) rfl ?_
    refine sf_goto (tgt := 62) (pc := 77) C dX3_startOf_77 rfl ?_
    refine sf_sub [1, 0] rfl ?_
    exact hk62 _ _ h
set_option maxHeartbeats 4000000 in
set_option maxRecDepth 100000 in
theorem w3_startOf_L62 {X : sf_X} {V : sf_V} {c : Nat} {c1 : Nat} (hc : sf_isL c) (hc1 : sf_isS c1) {s' : sf_Sg} (C : sf_C X V cX3_startOf 3 RX3 none 0) : ∀  (s : sf_Sg) (x2 : Int32), f3_startOf_L62 c c1 s x2 = some s' → sf_G X V 3 (sf_Q X V (sf_Qv V s')) s 62 [(0, .ref (V.2.1 c)), (2, .int x2)] [] :=
  sf_it_ind (fun (k : sf_Sg → Int32 → Option sf_Sg) => ∀  (s : sf_Sg) (x2 : Int32), k s x2 = some s' → sf_G X V 3 (sf_Q X V (sf_Qv V s')) s 62 [(0, .ref (V.2.1 c)), (2, .int x2)] []) _ _ (fun s x2 h => by cases h) (fun k hk s x2 h => w3_startOf_b62 hc hc1 C hk h) _
set_option maxHeartbeats 4000000 in
set_option maxRecDepth 100000 in
theorem w3_startOf_b60 {X : sf_X} {V : sf_V} {c : Nat} {c1 : Nat} (hc : sf_isL c) (hc1 : sf_isS c1) {s' : sf_Sg} (C : sf_C X V cX3_startOf 3 RX3 none 0) {s : sf_Sg} (h : f3_startOf_b60 c c1 s = some s') : sf_G X V 3 (sf_Q X V (sf_Qv V s')) s 60 [(0, .ref (V.2.1 c))] [] := by
  unfold f3_startOf_b60 at h
  refine sf_iconst (v := 0) (pc := 60) C dX3_startOf_60 (by decide) ?_
  refine sf_istore_n (lv' := [(2, .int (0 : Int32)), (0, .ref (V.2.1 c))]) (pc := 61) C dX3_startOf_61 (by decide) rfl ?_
  refine sf_sub [1, 0] rfl ?_
  exact w3_startOf_L62 hc hc1 C _ _ h
set_option maxHeartbeats 4000000 in
set_option maxRecDepth 100000 in
theorem w3_startOf_b15 {X : sf_X} {V : sf_V} {c : Nat} {c1 : Nat} (hc : sf_isL c) (hc1 : sf_isS c1) {s' : sf_Sg} {k15 : sf_Sg → Int32 → Option sf_Sg} (C : sf_C X V cX3_startOf 3 RX3 none 0) (hk15 : ∀  (s : sf_Sg) (x2 : Int32), k15 s x2 = some s' → sf_G X V 3 (sf_Q X V (sf_Qv V s')) s 15 [(0, .ref (V.2.1 c)), (1, .ref (V.2.1 c1)), (2, .int x2)] []) {s : sf_Sg} {x2 : Int32} (h : f3_startOf_b15 c c1 k15 s x2 = some s') : sf_G X V 3 (sf_Q X V (sf_Qv V s')) s 15 [(0, .ref (V.2.1 c)), (1, .ref (V.2.1 c1)), (2, .int x2)] [] := by
  unfold f3_startOf_b15 at h
  refine sf_iload_n (pc := 15) C 2 dX3_startOf_15 rfl ?_
  refine sf_bipush (v := 6) (pc := 16) C dX3_startOf_16 (by decide) ?_
  refine sf_icmp_ge (tgt := 60) (pc := 18) C dX3_startOf_18 rfl (fun c18 => ?_) (fun c18 => ?_)
  · replace h := (if_pos c18).symm.trans h
    refine sf_sub [0] rfl ?_
    exact w3_startOf_b60 hc hc1 C h
  · replace h := (if_neg c18).symm.trans h
    refine sf_aload_n (pc := 21) C 0 dX3_startOf_21 rfl ?_
    refine sf_getr (pc := 22) C (sf_kL0 hc) (sf_shL hc).1.1 rfl fl_3_9 dX3_startOf_22 ?_
    refine sf_iload_n (pc := 25) C 2 dX3_startOf_25 rfl ?_
    refine sf_aload_n (pc := 26) C 1 dX3_startOf_26 rfl ?_
    refine sf_getr (pc := 27) C (sf_kS0 hc1) (sf_shS hc1).1.1 rfl fl_3_39 dX3_startOf_27 ?_
    refine sf_iload_n (pc := 30) C 2 dX3_startOf_30 rfl ?_
    obtain ⟨v31, e31, h⟩ := sf_ob h
    refine sf_iald (pc := 31) C (sf_kS hc1 2 (by decide)) (sf_shS hc1).1.2.2.1 e31 dX3_startOf_31 ?_
    obtain ⟨s32, e32, h⟩ := sf_ob h
    refine sf_iast (pc := 32) C (sf_kL hc 1 (by decide)) (sf_shL hc).1.2.1 e32 dX3_startOf_32 ?_
    refine sf_aload_n (pc := 33) C 0 dX3_startOf_33 rfl ?_
    refine sf_getr (pc := 34) C (sf_kL0 hc) (sf_shL hc).1.1 rfl fl_3_15 dX3_startOf_34 ?_
    refine sf_iload_n (pc := 37) C 2 dX3_startOf_37 rfl ?_
    refine sf_iconst (v := 0) (pc := 38) C dX3_startOf_38 (by decide) ?_
    obtain ⟨s39, e39, h⟩ := sf_ob h
    refine sf_iast (pc := 39) C (sf_kL hc 2 (by decide)) (sf_shL hc).1.2.2.1 e39 dX3_startOf_39 ?_
    refine sf_aload_n (pc := 40) C 0 dX3_startOf_40 rfl ?_
    refine sf_getr (pc := 41) C (sf_kL0 hc) (sf_shL hc).1.1 rfl fl_3_18 dX3_startOf_41 ?_
    refine sf_iload_n (pc := 44) C 2 dX3_startOf_44 rfl ?_
    refine sf_iconst (v := -1) (pc := 45) C dX3_startOf_45 (by decide) ?_
    obtain ⟨s46, e46, h⟩ := sf_ob h
    refine sf_iast (pc := 46) C (sf_kL hc 3 (by decide)) (sf_shL hc).1.2.2.2.1 e46 dX3_startOf_46 ?_
    refine sf_aload_n (pc := 47) C 0 dX3_startOf_47 rfl ?_
    refine sf_getr (pc := 48) C (sf_kL0 hc) (sf_shL hc).1.1 rfl fl_3_21 dX3_startOf_48 ?_
    refine sf_iload_n (pc := 51) C 2 dX3_startOf_51 rfl ?_
    refine sf_iconst (v := -1) (pc := 52) C dX3_startOf_52 (by decide) ?_
    obtain ⟨s53, e53, h⟩ := sf_ob h
    refine sf_iast (pc := 53) C (sf_kL hc 4 (by decide)) (sf_shL hc).1.2.2.2.2.1 e53 dX3_startOf_53 ?_
    refine sf_iinc (v := (x2 + 1)) (lv' := [(2, .int (x2 + 1)), (0, .ref (V.2.1 c)), (1, .ref (V.2.1 c1))]) (pc := 54) C 2 dX3_startOf_54 rfl rfl (by decide) rfl ?_
    refine sf_goto (tgt := 15) (pc := 57) C dX3_startOf_57 rfl ?_
    refine sf_sub [1, 2, 0] rfl ?_
    exact hk15 _ _ h
set_option maxHeartbeats 4000000 in
set_option maxRecDepth 100000 in
theorem w3_startOf_L15 {X : sf_X} {V : sf_V} {c : Nat} {c1 : Nat} (hc : sf_isL c) (hc1 : sf_isS c1) {s' : sf_Sg} (C : sf_C X V cX3_startOf 3 RX3 none 0) : ∀  (s : sf_Sg) (x2 : Int32), f3_startOf_L15 c c1 s x2 = some s' → sf_G X V 3 (sf_Q X V (sf_Qv V s')) s 15 [(0, .ref (V.2.1 c)), (1, .ref (V.2.1 c1)), (2, .int x2)] [] :=
  sf_it_ind (fun (k : sf_Sg → Int32 → Option sf_Sg) => ∀  (s : sf_Sg) (x2 : Int32), k s x2 = some s' → sf_G X V 3 (sf_Q X V (sf_Qv V s')) s 15 [(0, .ref (V.2.1 c)), (1, .ref (V.2.1 c1)), (2, .int x2)] []) _ _ (fun s x2 h => by cases h) (fun k hk s x2 h => w3_startOf_b15 hc hc1 C hk h) _
set_option maxHeartbeats 4000000 in
set_option maxRecDepth 100000 in
theorem w3_startOf_b0 {X : sf_X} {V : sf_V} {c : Nat} {c1 : Nat} (hc : sf_isL c) (hc1 : sf_isS c1) {s' : sf_Sg} (C : sf_C X V cX3_startOf 3 RX3 none 0) {s : sf_Sg} (h : f3_startOf_b0 c c1 s = some s') : sf_G X V 3 (sf_Q X V (sf_Qv V s')) s 0 [(0, .ref (V.2.1 c)), (1, .ref (V.2.1 c1))] [] := by
  unfold f3_startOf_b0 at h
  refine sf_aload_n (pc := 0) C 0 dX3_startOf_0 rfl ?_
  refine sf_iconst (v := 0) (pc := 1) C dX3_startOf_1 (by decide) ?_
  refine sf_put (pc := 2) C (sf_kL0 hc) (sf_shL hc).1.1 rfl fw_3_27 rfl rfl dX3_startOf_2 ?_
  refine sf_aload_n (pc := 5) C 0 dX3_startOf_5 rfl ?_
  refine sf_aload_n (pc := 6) C 1 dX3_startOf_6 rfl ?_
  refine sf_get (pc := 7) C (sf_kS0 hc1) (sf_shS hc1).1.1 rfl fl_3_31 dX3_startOf_7 ?_
  refine sf_put (pc := 10) C (sf_kL0 hc) (sf_shL hc).1.1 rfl fw_3_36 rfl rfl dX3_startOf_10 ?_
  refine sf_iconst (v := 0) (pc := 13) C dX3_startOf_13 (by decide) ?_
  refine sf_istore_n (lv' := [(2, .int (0 : Int32)), (0, .ref (V.2.1 c)), (1, .ref (V.2.1 c1))]) (pc := 14) C dX3_startOf_14 (by decide) rfl ?_
  refine sf_sub [1, 2, 0] rfl ?_
  exact w3_startOf_L15 hc hc1 C _ _ h
set_option maxHeartbeats 4000000 in
set_option maxRecDepth 100000 in
theorem k3_startOf {l : Launch} {V : sf_V} {c : Nat} {c1 : Nat} (hc : sf_isL c) (hc1 : sf_isS c1) {s : sf_Sg} {s' : sf_Sg} (h : f3_startOf c c1 s = some s') : sf_M l V yX3_startOf (.code yX3_startOf cX3_startOf 3 none) 0 [.ref (V.2.1 c), .ref (V.2.1 c1)] s (sf_Qv V s') := by
  refine sf_enter (by decide) (Nat.le_of_ble_eq_true rfl) (fun X hX C => ?_)
  refine sf_sub [0, 1] rfl ?_
  exact w3_startOf_b0 hc hc1 (show sf_C X V cX3_startOf 3 RX3 none 0 from C)  h
set_option maxHeartbeats 4000000 in
set_option maxRecDepth 100000 in
theorem w1_clear_b0 {X : sf_X} {V : sf_V} {s' : sf_Sg} (C : sf_C X V cX1_clear 1 RX1 none 0) {s : sf_Sg} (h : f1_clear_b0 s = s') : sf_G X V 1 (sf_Q X V (sf_Qv V s')) s 0 [(0, .ref (V.2.1 125))] [] := by
  unfold f1_clear_b0 at h
  refine sf_aload_n (pc := 0) C 0 dX1_clear_0 rfl ?_
  refine sf_iconst (v := 0) (pc := 1) C dX1_clear_1 (by decide) ?_
  refine sf_put (pc := 2) C nk_125 sh_125 rfl fw_1_27 rfl rfl dX1_clear_2 ?_
  exact sf_vretU (pc := 5) C dX1_clear_5 h
set_option maxHeartbeats 4000000 in
set_option maxRecDepth 100000 in
theorem k1_clear {l : Launch} {V : sf_V} {s : sf_Sg} {s' : sf_Sg} (h : f1_clear s = s') : sf_M l V yX1_clear (.code yX1_clear cX1_clear 1 none) 0 [.ref (V.2.1 125)] s (sf_Qv V s') := by
  refine sf_enter (by decide) (Nat.le_of_ble_eq_true rfl) (fun X hX C => ?_)
  refine sf_sub [0] rfl ?_
  exact w1_clear_b0 (show sf_C X V cX1_clear 1 RX1 none 0 from C)  h
set_option maxHeartbeats 4000000 in
set_option maxRecDepth 100000 in
theorem w0_clear_b0 {X : sf_X} {V : sf_V} {s' : sf_Sg} (C : sf_C X V cX0_clear 1 RX0 none 0) {s : sf_Sg} (h : f0_clear_b0 s = s') : sf_G X V 1 (sf_Q X V (sf_Qv V s')) s 0 [(0, .ref (V.2.1 131))] [] := by
  unfold f0_clear_b0 at h
  refine sf_aload_n (pc := 0) C 0 dX0_clear_0 rfl ?_
  refine sf_iconst (v := 0) (pc := 1) C dX0_clear_1 (by decide) ?_
  refine sf_put (pc := 2) C nk_131 sh_131 rfl fw_0_18 rfl rfl dX0_clear_2 ?_
  exact sf_vretU (pc := 5) C dX0_clear_5 h
set_option maxHeartbeats 4000000 in
set_option maxRecDepth 100000 in
theorem k0_clear {l : Launch} {V : sf_V} {s : sf_Sg} {s' : sf_Sg} (h : f0_clear s = s') : sf_M l V yX0_clear (.code yX0_clear cX0_clear 1 none) 0 [.ref (V.2.1 131)] s (sf_Qv V s') := by
  refine sf_enter (by decide) (Nat.le_of_ble_eq_true rfl) (fun X hX C => ?_)
  refine sf_sub [0] rfl ?_
  exact w0_clear_b0 (show sf_C X V cX0_clear 1 RX0 none 0 from C)  h
set_option maxHeartbeats 4000000 in
set_option maxRecDepth 100000 in
theorem w4_clear_b0 {X : sf_X} {V : sf_V} {s' : sf_Sg} (C : sf_C X V cX4_clear 1 RX4 none 0) {s : sf_Sg} (h : f4_clear_b0 s = s') : sf_G X V 1 (sf_Q X V (sf_Qv V s')) s 0 [(0, .ref (V.2.1 27))] [] := by
  unfold f4_clear_b0 at h
  refine sf_aload_n (pc := 0) C 0 dX4_clear_0 rfl ?_
  refine sf_iconst (v := 0) (pc := 1) C dX4_clear_1 (by decide) ?_
  refine sf_put (pc := 2) C nk_27 sh_27 rfl fw_4_18 rfl rfl dX4_clear_2 ?_
  exact sf_vretU (pc := 5) C dX4_clear_5 h
set_option maxHeartbeats 4000000 in
set_option maxRecDepth 100000 in
theorem k4_clear {l : Launch} {V : sf_V} {s : sf_Sg} {s' : sf_Sg} (h : f4_clear s = s') : sf_M l V yX4_clear (.code yX4_clear cX4_clear 1 none) 0 [.ref (V.2.1 27)] s (sf_Qv V s') := by
  refine sf_enter (by decide) (Nat.le_of_ble_eq_true rfl) (fun X hX C => ?_)
  refine sf_sub [0] rfl ?_
  exact w4_clear_b0 (show sf_C X V cX4_clear 1 RX4 none 0 from C)  h
set_option maxHeartbeats 4000000 in
set_option maxRecDepth 100000 in
theorem w9_shop_b88 {X : sf_X} {V : sf_V} {r : Int32} {s' : sf_Sg} (C : sf_C X V cX9_shop 3 RX9 (some .int) 5) {s : sf_Sg} (h : f9_shop_b88 s = some (r, s')) : sf_G X V 3 (sf_Q X V (sf_Qi V r s')) s 88 [(0, .ref (V.2.1 0))] [] := by
  unfold f9_shop_b88 at h
  refine sf_aload_n (pc := 88) C 0 dX9_shop_88 rfl ?_
  refine sf_getr (pc := 89) C nk_0 sh_0 rfl fl_9_33 dX9_shop_89 ?_
  refine sf_get (pc := 92) C nk_10 sh_10 rfl fl_9_119 dX9_shop_92 ?_
  exact sf_iretW (pc := 95) C dX9_shop_95 h
set_option maxHeartbeats 4000000 in
set_option maxRecDepth 100000 in
theorem w9_shop_b66 {X : sf_X} {V : sf_V} {r : Int32} {s' : sf_Sg} {k66 : sf_Sg → Int32 → Option (Int32 × sf_Sg)} (C : sf_C X V cX9_shop 3 RX9 (some .int) 5) (hk66 : ∀  (s : sf_Sg) (x2 : Int32), k66 s x2 = some (r, s') → sf_G X V 3 (sf_Q X V (sf_Qi V r s')) s 66 [(0, .ref (V.2.1 0)), (2, .int x2)] []) {s : sf_Sg} {x2 : Int32} (h : f9_shop_b66 k66 s x2 = some (r, s')) : sf_G X V 3 (sf_Q X V (sf_Qi V r s')) s 66 [(0, .ref (V.2.1 0)), (2, .int x2)] [] := by
  unfold f9_shop_b66 at h
  refine sf_iload_n (pc := 66) C 1 dX9_shop_66 rfl ?_
  refine sf_aload_n (pc := 67) C 0 dX9_shop_67 rfl ?_
  refine sf_getr (pc := 68) C nk_0 sh_0 rfl fl_9_84 dX9_shop_68 ?_
  refine sf_alenZ (v := 2) (pc := 71) C nk_136 sh_136 rfl dX9_shop_71 ?_
  refine sf_icmp_ge (tgt := 88) (pc := 72) C dX9_shop_72 rfl (fun c72 => ?_) (fun c72 => ?_)
  · replace h := (if_pos c72).symm.trans h
    refine sf_sub [0] rfl ?_
    exact w9_shop_b88 C h
  · replace h := (if_neg c72).symm.trans h
    refine sf_aload_n (pc := 75) C 0 dX9_shop_75 rfl ?_
    refine sf_getr (pc := 76) C nk_0 sh_0 rfl fl_9_84 dX9_shop_76 ?_
    refine sf_iload_n (pc := 79) C 1 dX9_shop_79 rfl ?_
    refine sf_iconst (v := 0) (pc := 80) C dX9_shop_80 (by decide) ?_
    obtain ⟨s81, e81, h⟩ := sf_ob h
    refine sf_zast (pc := 81) C nk_136 sh_136 rfl e81 dX9_shop_81 ?_
    refine sf_iinc (v := (x2 + 1)) (lv' := [(2, .int (x2 + 1)), (0, .ref (V.2.1 0))]) (pc := 82) C 1 dX9_shop_82 rfl rfl (by decide) rfl ?_
    refine sf_goto (tgt := 66) (pc := 85) C dX9_shop_85 rfl ?_
    refine sf_sub [1, 0] rfl ?_
    exact hk66 _ _ h
set_option maxHeartbeats 4000000 in
set_option maxRecDepth 100000 in
theorem w9_shop_L66 {X : sf_X} {V : sf_V} {r : Int32} {s' : sf_Sg} (C : sf_C X V cX9_shop 3 RX9 (some .int) 5) : ∀  (s : sf_Sg) (x2 : Int32), f9_shop_L66 s x2 = some (r, s') → sf_G X V 3 (sf_Q X V (sf_Qi V r s')) s 66 [(0, .ref (V.2.1 0)), (2, .int x2)] [] :=
  sf_it_ind (fun (k : sf_Sg → Int32 → Option (Int32 × sf_Sg)) => ∀  (s : sf_Sg) (x2 : Int32), k s x2 = some (r, s') → sf_G X V 3 (sf_Q X V (sf_Qi V r s')) s 66 [(0, .ref (V.2.1 0)), (2, .int x2)] []) _ _ (fun s x2 h => by cases h) (fun k hk s x2 h => w9_shop_b66 C hk h) _
set_option maxHeartbeats 4000000 in
set_option maxRecDepth 100000 in
theorem w9_shop_b0 {X : sf_X} {V : sf_V} {r : Int32} {s' : sf_Sg} (C : sf_C X V cX9_shop 3 RX9 (some .int) 5) {s : sf_Sg} (h : f9_shop_b0 s = some (r, s')) : sf_G X V 3 (sf_Q X V (sf_Qi V r s')) s 0 [(0, .ref (V.2.1 0))] [] := by
  unfold f9_shop_b0 at h
  refine sf_aload_n (pc := 0) C 0 dX9_shop_0 rfl ?_
  refine sf_getr (pc := 1) C nk_0 sh_0 rfl fl_9_10 dX9_shop_1 ?_
  refine sf_aload_n (pc := 4) C 0 dX9_shop_4 rfl ?_
  refine sf_getr (pc := 5) C nk_0 sh_0 rfl fl_9_19 dX9_shop_5 ?_
  obtain ⟨q8, e8, h⟩ := sf_ob h
  refine sf_callVi (pc := 8) C (As := [.ref (V.2.1 3)]) nk_1 sh_1 rfl yk_X5_readInto cl_9_103 (k5_readInto sf_S0 e8) (by decide) rfl (Nat.le_of_ble_eq_true rfl) rfl dX9_shop_8 ?_
  refine sf_istore_n (lv' := [(1, .int q8.1), (0, .ref (V.2.1 0))]) (pc := 11) C dX9_shop_11 (by decide) rfl ?_
  refine sf_iload_n (pc := 12) C 0 dX9_shop_12 rfl ?_
  refine sf_if_eq (tgt := 21) (pc := 13) C dX9_shop_13 rfl (fun c13 => ?_) (fun c13 => ?_)
  · replace h := (if_pos c13).symm.trans h
    refine sf_aload_n (pc := 21) C 1 dX9_shop_21 rfl ?_
    refine sf_getr (pc := 22) C nk_0 sh_0 rfl fl_9_33 dX9_shop_22 ?_
    refine sf_aload_n (pc := 25) C 1 dX9_shop_25 rfl ?_
    refine sf_getr (pc := 26) C nk_0 sh_0 rfl fl_9_19 dX9_shop_26 ?_
    obtain ⟨s29, e29, h⟩ := sf_ob h
    refine sf_callVv (pc := 29) C (As := [.ref (V.2.1 3)]) nk_10 sh_10 rfl yk_X7_copyFrom cl_9_107 (k7_copyFrom sf_S1 sf_S0 e29) (by decide) rfl (Nat.le_of_ble_eq_true rfl) rfl dX9_shop_29 ?_
    refine sf_aload_n (pc := 32) C 1 dX9_shop_32 rfl ?_
    refine sf_getr (pc := 33) C nk_0 sh_0 rfl fl_9_38 dX9_shop_33 ?_
    refine sf_aload_n (pc := 36) C 1 dX9_shop_36 rfl ?_
    refine sf_getr (pc := 37) C nk_0 sh_0 rfl fl_9_33 dX9_shop_37 ?_
    obtain ⟨s40, e40, h⟩ := sf_ob h
    refine sf_callVv (pc := 40) C (As := [.ref (V.2.1 10)]) nk_16 sh_16 rfl yk_X3_startOf cl_9_111 (k3_startOf sf_L0 sf_S1 e40) (by decide) rfl (Nat.le_of_ble_eq_true rfl) rfl dX9_shop_40 ?_
    refine sf_aload_n (pc := 43) C 1 dX9_shop_43 rfl ?_
    refine sf_getr (pc := 44) C nk_0 sh_0 rfl fl_9_63 dX9_shop_44 ?_
    refine sf_callVv (pc := 47) C (As := []) nk_125 sh_125 rfl yk_X1_clear cl_9_114 (k1_clear rfl) (by decide) rfl (Nat.le_of_ble_eq_true rfl) rfl dX9_shop_47 ?_
    refine sf_aload_n (pc := 50) C 1 dX9_shop_50 rfl ?_
    refine sf_getr (pc := 51) C nk_0 sh_0 rfl fl_9_70 dX9_shop_51 ?_
    refine sf_callVv (pc := 54) C (As := []) nk_131 sh_131 rfl yk_X0_clear cl_9_117 (k0_clear rfl) (by decide) rfl (Nat.le_of_ble_eq_true rfl) rfl dX9_shop_54 ?_
    refine sf_aload_n (pc := 57) C 1 dX9_shop_57 rfl ?_
    refine sf_getr (pc := 58) C nk_0 sh_0 rfl fl_9_56 dX9_shop_58 ?_
    refine sf_callVv (pc := 61) C (As := []) nk_27 sh_27 rfl yk_X4_clear cl_9_118 (k4_clear rfl) (by decide) rfl (Nat.le_of_ble_eq_true rfl) rfl dX9_shop_61 ?_
    refine sf_iconst (v := 0) (pc := 64) C dX9_shop_64 (by decide) ?_
    refine sf_istore_n (lv' := [(2, .int (0 : Int32)), (1, .int q8.1), (0, .ref (V.2.1 0))]) (pc := 65) C dX9_shop_65 (by decide) rfl ?_
    refine sf_sub [2, 0] rfl ?_
    exact w9_shop_L66 C _ _ h
  · replace h := (if_neg c13).symm.trans h
    refine sf_bipush (v := -10) (pc := 16) C dX9_shop_16 (by decide) ?_
    refine sf_iload_n (pc := 18) C 0 dX9_shop_18 rfl ?_
    refine sf_isub (pc := 19) C dX9_shop_19 ?_
    exact sf_iretW (pc := 20) C dX9_shop_20 h
set_option maxHeartbeats 4000000 in
set_option maxRecDepth 100000 in
theorem k9_shop {l : Launch} {V : sf_V} {s : sf_Sg} {r : Int32} {s' : sf_Sg} (h : f9_shop s = some (r, s')) : sf_M l V yX9_shop (.code yX9_shop cX9_shop 3 (some .int)) 5 [.ref (V.2.1 0)] s (sf_Qi V r s') := by
  refine sf_enter (by decide) (Nat.le_of_ble_eq_true rfl) (fun X hX C => ?_)
  refine sf_sub [0] rfl ?_
  exact w9_shop_b0 (show sf_C X V cX9_shop 3 RX9 (some .int) 5 from C)  h
set_option maxHeartbeats 4000000 in
set_option maxRecDepth 100000 in
theorem w9_fault_b0 {X : sf_X} {V : sf_V} {s : sf_Sg} {r : Int32} (C : sf_C X V cX9_fault 1 RX9 (some .int) 0) (h : f9_fault_b0 s = r) : sf_G X V 1 (sf_Q X V (sf_Qi V r s)) s 0 [(0, .ref (V.2.1 0))] [] := by
  unfold f9_fault_b0 at h
  refine sf_aload_n (pc := 0) C 0 dX9_fault_0 rfl ?_
  refine sf_getr (pc := 1) C nk_0 sh_0 rfl fl_9_10 dX9_fault_1 ?_
  refine sf_get (pc := 4) C nk_1 sh_1 rfl fl_9_122 dX9_fault_4 ?_
  exact sf_iretT (pc := 7) C dX9_fault_7 h
set_option maxHeartbeats 4000000 in
set_option maxRecDepth 100000 in
theorem k9_fault {l : Launch} {V : sf_V} {s : sf_Sg} {r : Int32} (h : f9_fault s = r) : sf_M l V yX9_fault (.code yX9_fault cX9_fault 1 (some .int)) 0 [.ref (V.2.1 0)] s (sf_Qi V r s) := by
  refine sf_enter (by decide) (Nat.le_of_ble_eq_true rfl) (fun X hX C => ?_)
  refine sf_sub [0] rfl ?_
  exact w9_fault_b0 (show sf_C X V cX9_fault 1 RX9 (some .int) 0 from C)  h
set_option maxHeartbeats 4000000 in
set_option maxRecDepth 100000 in
theorem w6_galled_b35 {X : sf_X} {V : sf_V} {s : sf_Sg} {r : Int32} {k4 : Int32 → Int32 → Option Int32} (C : sf_C X V cX6_galled 3 RX6 (some .int) 0) (hk4 : ∀  (x1 : Int32) (x2 : Int32), k4 x1 x2 = some r → sf_G X V 3 (sf_Q X V (sf_Qi V r s)) s 4 [(0, .ref (V.2.1 9)), (1, .int x1), (2, .int x2)] []) {x1 : Int32} {x2 : Int32} (h : f6_galled_b35 s k4 x1 x2 = some r) : sf_G X V 3 (sf_Q X V (sf_Qi V r s)) s 35 [(0, .ref (V.2.1 9)), (1, .int x1), (2, .int x2)] [] := by
  unfold f6_galled_b35 at h
  refine sf_iinc (v := (x2 + 1)) (lv' := [(2, .int (x2 + 1)), (0, .ref (V.2.1 9)), (1, .int x1)]) (pc := 35) C 2 dX6_galled_35 rfl rfl (by decide) rfl ?_
  refine sf_goto (tgt := 4) (pc := 38) C dX6_galled_38 rfl ?_
  refine sf_sub [1, 2, 0] rfl ?_
  exact hk4 _ _ h
set_option maxHeartbeats 4000000 in
set_option maxRecDepth 100000 in
theorem w6_galled_b4 {X : sf_X} {V : sf_V} {s : sf_Sg} {r : Int32} {k4 : Int32 → Int32 → Option Int32} (C : sf_C X V cX6_galled 3 RX6 (some .int) 0) (hk4 : ∀  (x1 : Int32) (x2 : Int32), k4 x1 x2 = some r → sf_G X V 3 (sf_Q X V (sf_Qi V r s)) s 4 [(0, .ref (V.2.1 9)), (1, .int x1), (2, .int x2)] []) {x1 : Int32} {x2 : Int32} (h : f6_galled_b4 s k4 x1 x2 = some r) : sf_G X V 3 (sf_Q X V (sf_Qi V r s)) s 4 [(0, .ref (V.2.1 9)), (1, .int x1), (2, .int x2)] [] := by
  unfold f6_galled_b4 at h
  refine sf_iload_n (pc := 4) C 2 dX6_galled_4 rfl ?_
  refine sf_aload_n (pc := 5) C 0 dX6_galled_5 rfl ?_
  refine sf_getr (pc := 6) C nk_9 sh_9 rfl fl_6_12 dX6_galled_6 ?_
  refine sf_get (pc := 9) C nk_10 sh_10 rfl fl_6_58 dX6_galled_9 ?_
  refine sf_icmp_ge (tgt := 41) (pc := 12) C dX6_galled_12 rfl (fun c12 => ?_) (fun c12 => ?_)
  · replace h := (if_pos c12).symm.trans h
    refine sf_iload_n (pc := 41) C 1 dX6_galled_41 rfl ?_
    exact sf_iretR (pc := 42) C dX6_galled_42 h
  · replace h := (if_neg c12).symm.trans h
    refine sf_aload_n (pc := 15) C 0 dX6_galled_15 rfl ?_
    refine sf_getr (pc := 16) C nk_9 sh_9 rfl fl_6_21 dX6_galled_16 ?_
    refine sf_getr (pc := 19) C nk_16 sh_16 rfl fl_6_98 dX6_galled_19 ?_
    refine sf_iload_n (pc := 22) C 2 dX6_galled_22 rfl ?_
    obtain ⟨v23, e23, h⟩ := sf_ob h
    refine sf_iald (pc := 23) C nk_21 sh_21 e23 dX6_galled_23 ?_
    refine sf_bipush (v := 20) (pc := 24) C dX6_galled_24 (by decide) ?_
    refine sf_icmp_lt (tgt := 35) (pc := 26) C dX6_galled_26 rfl (fun c26 => ?_) (fun c26 => ?_)
    · replace h := (if_pos c26).symm.trans h
      exact w6_galled_b35 C hk4 h
    · replace h := (if_neg c26).symm.trans h
      refine sf_iload_n (pc := 29) C 1 dX6_galled_29 rfl ?_
      refine sf_iconst (v := 1) (pc := 30) C dX6_galled_30 (by decide) ?_
      refine sf_iload_n (pc := 31) C 2 dX6_galled_31 rfl ?_
      refine sf_ishl (pc := 32) C dX6_galled_32 ?_
      refine sf_ior (pc := 33) C dX6_galled_33 ?_
      refine sf_istore_n (lv' := [(1, .int (x1 ||| ((1 : Int32) <<< (x2 &&& 31)))), (0, .ref (V.2.1 9)), (2, .int x2)]) (pc := 34) C dX6_galled_34 (by decide) rfl ?_
      refine sf_sub [1, 0, 2] rfl ?_
      exact w6_galled_b35 C hk4 h
set_option maxHeartbeats 4000000 in
set_option maxRecDepth 100000 in
theorem w6_galled_L4 {X : sf_X} {V : sf_V} {s : sf_Sg} {r : Int32} (C : sf_C X V cX6_galled 3 RX6 (some .int) 0) : ∀  (x1 : Int32) (x2 : Int32), f6_galled_L4 s x1 x2 = some r → sf_G X V 3 (sf_Q X V (sf_Qi V r s)) s 4 [(0, .ref (V.2.1 9)), (1, .int x1), (2, .int x2)] [] :=
  sf_it_ind (fun (k : Int32 → Int32 → Option Int32) => ∀  (x1 : Int32) (x2 : Int32), k x1 x2 = some r → sf_G X V 3 (sf_Q X V (sf_Qi V r s)) s 4 [(0, .ref (V.2.1 9)), (1, .int x1), (2, .int x2)] []) _ _ (fun x1 x2 h => by cases h) (fun k hk x1 x2 h => w6_galled_b4 C hk h) _
set_option maxHeartbeats 4000000 in
set_option maxRecDepth 100000 in
theorem w6_galled_b0 {X : sf_X} {V : sf_V} {s : sf_Sg} {r : Int32} (C : sf_C X V cX6_galled 3 RX6 (some .int) 0) (h : f6_galled_b0 s = some r) : sf_G X V 3 (sf_Q X V (sf_Qi V r s)) s 0 [(0, .ref (V.2.1 9))] [] := by
  unfold f6_galled_b0 at h
  refine sf_iconst (v := 0) (pc := 0) C dX6_galled_0 (by decide) ?_
  refine sf_istore_n (lv' := [(1, .int (0 : Int32)), (0, .ref (V.2.1 9))]) (pc := 1) C dX6_galled_1 (by decide) rfl ?_
  refine sf_iconst (v := 0) (pc := 2) C dX6_galled_2 (by decide) ?_
  refine sf_istore_n (lv' := [(2, .int (0 : Int32)), (1, .int (0 : Int32)), (0, .ref (V.2.1 9))]) (pc := 3) C dX6_galled_3 (by decide) rfl ?_
  refine sf_sub [2, 1, 0] rfl ?_
  exact w6_galled_L4 C _ _ h
set_option maxHeartbeats 4000000 in
set_option maxRecDepth 100000 in
theorem k6_galled {l : Launch} {V : sf_V} {s : sf_Sg} {r : Int32} (h : f6_galled s = some r) : sf_M l V yX6_galled (.code yX6_galled cX6_galled 3 (some .int)) 0 [.ref (V.2.1 9)] s (sf_Qi V r s) := by
  refine sf_enter (by decide) (Nat.le_of_ble_eq_true rfl) (fun X hX C => ?_)
  refine sf_sub [0] rfl ?_
  exact w6_galled_b0 (show sf_C X V cX6_galled 3 RX6 (some .int) 0 from C)  h
set_option maxHeartbeats 4000000 in
set_option maxRecDepth 100000 in
theorem w3_isOn_b20 {X : sf_X} {V : sf_V} {c : Nat} (hc : sf_isL c) {s : sf_Sg} {r : Int32} (C : sf_C X V cX3_isOn 3 RX3 (some .boolean) 0) (h : f3_isOn_b20 c s = some r) : sf_G X V 3 (sf_Q X V (sf_Qi V r s)) s 20 [] [] := by
  unfold f3_isOn_b20 at h
  refine sf_iconst (v := 1) (pc := 20) C dX3_isOn_20 (by decide) ?_
  refine sf_goto (tgt := 25) (pc := 21) C dX3_isOn_21 rfl ?_
  exact sf_zretR (pc := 25) C (by first | rfl | exact sf_nb_in _ _ _) dX3_isOn_25 h
set_option maxHeartbeats 4000000 in
set_option maxRecDepth 100000 in
theorem w3_isOn_b0 {X : sf_X} {V : sf_V} {c : Nat} (hc : sf_isL c) {s : sf_Sg} {r : Int32} (C : sf_C X V cX3_isOn 3 RX3 (some .boolean) 0) {x1 : Int32} {x2 : Int32} (h : f3_isOn_b0 c s x1 x2 = some r) : sf_G X V 3 (sf_Q X V (sf_Qi V r s)) s 0 [(0, .ref (V.2.1 c)), (1, .int x1), (2, .int x2)] [] := by
  unfold f3_isOn_b0 at h
  refine sf_aload_n (pc := 0) C 0 dX3_isOn_0 rfl ?_
  refine sf_getr (pc := 1) C (sf_kL0 hc) (sf_shL hc).1.1 rfl fl_3_18 dX3_isOn_1 ?_
  refine sf_iload_n (pc := 4) C 1 dX3_isOn_4 rfl ?_
  obtain ⟨v5, e5, h⟩ := sf_ob h
  refine sf_iald (pc := 5) C (sf_kL hc 3 (by decide)) (sf_shL hc).1.2.2.2.1 e5 dX3_isOn_5 ?_
  refine sf_iload_n (pc := 6) C 2 dX3_isOn_6 rfl ?_
  refine sf_icmp_eq (tgt := 20) (pc := 7) C dX3_isOn_7 rfl (fun c7 => ?_) (fun c7 => ?_)
  · replace h := (if_pos c7).symm.trans h
    refine sf_sub [] rfl ?_
    exact w3_isOn_b20 hc C h
  · replace h := (if_neg c7).symm.trans h
    refine sf_aload_n (pc := 10) C 0 dX3_isOn_10 rfl ?_
    refine sf_getr (pc := 11) C (sf_kL0 hc) (sf_shL hc).1.1 rfl fl_3_21 dX3_isOn_11 ?_
    refine sf_iload_n (pc := 14) C 1 dX3_isOn_14 rfl ?_
    obtain ⟨v15, e15, h⟩ := sf_ob h
    refine sf_iald (pc := 15) C (sf_kL hc 4 (by decide)) (sf_shL hc).1.2.2.2.2.1 e15 dX3_isOn_15 ?_
    refine sf_iload_n (pc := 16) C 2 dX3_isOn_16 rfl ?_
    refine sf_icmp_ne (tgt := 24) (pc := 17) C dX3_isOn_17 rfl (fun c17 => ?_) (fun c17 => ?_)
    · replace h := (if_neg c17).symm.trans h
      refine sf_iconst (v := 0) (pc := 24) C dX3_isOn_24 (by decide) ?_
      exact sf_zretR (pc := 25) C (by first | rfl | exact sf_nb_in _ _ _) dX3_isOn_25 h
    · replace h := (if_pos c17).symm.trans h
      refine sf_sub [] rfl ?_
      exact w3_isOn_b20 hc C h
set_option maxHeartbeats 4000000 in
set_option maxRecDepth 100000 in
theorem k3_isOn {l : Launch} {V : sf_V} {c : Nat} (hc : sf_isL c) {s : sf_Sg} {x1 : Int32} {x2 : Int32} {r : Int32} (h : f3_isOn c s x1 x2 = some r) : sf_M l V yX3_isOn (.code yX3_isOn cX3_isOn 3 (some .boolean)) 0 [.ref (V.2.1 c), .int x1, .int x2] s (sf_Qi V r s) := by
  refine sf_enter (by decide) (Nat.le_of_ble_eq_true rfl) (fun X hX C => ?_)
  refine sf_sub [0, 1, 2] rfl ?_
  exact w3_isOn_b0 hc (show sf_C X V cX3_isOn 3 RX3 (some .boolean) 0 from C)  h
set_option maxHeartbeats 4000000 in
set_option maxRecDepth 100000 in
theorem w6_carriedBy_b33 {X : sf_X} {V : sf_V} {s : sf_Sg} {r : Int32} {k4 : Int32 → Int32 → Int32 → Option Int32} (C : sf_C X V cX6_carriedBy 4 RX6 (some .int) 1) (hk4 : ∀  (x1 : Int32) (x2 : Int32) (x3 : Int32), k4 x1 x2 x3 = some r → sf_G X V 4 (sf_Q X V (sf_Qi V r s)) s 4 [(0, .ref (V.2.1 9)), (1, .int x1), (2, .int x2), (3, .int x3)] []) {x1 : Int32} {x2 : Int32} {x3 : Int32} (h : f6_carriedBy_b33 s k4 x1 x2 x3 = some r) : sf_G X V 4 (sf_Q X V (sf_Qi V r s)) s 33 [(0, .ref (V.2.1 9)), (1, .int x1), (2, .int x2), (3, .int x3)] [] := by
  unfold f6_carriedBy_b33 at h
  refine sf_iinc (v := (x3 + 1)) (lv' := [(3, .int (x3 + 1)), (0, .ref (V.2.1 9)), (1, .int x1), (2, .int x2)]) (pc := 33) C 3 dX6_carriedBy_33 rfl rfl (by decide) rfl ?_
  refine sf_goto (tgt := 4) (pc := 36) C dX6_carriedBy_36 rfl ?_
  refine sf_sub [1, 2, 3, 0] rfl ?_
  exact hk4 _ _ _ h
set_option maxHeartbeats 4000000 in
set_option maxRecDepth 100000 in
theorem w6_carriedBy_b4 {X : sf_X} {V : sf_V} {s : sf_Sg} {r : Int32} {k4 : Int32 → Int32 → Int32 → Option Int32} (C : sf_C X V cX6_carriedBy 4 RX6 (some .int) 1) (hk4 : ∀  (x1 : Int32) (x2 : Int32) (x3 : Int32), k4 x1 x2 x3 = some r → sf_G X V 4 (sf_Q X V (sf_Qi V r s)) s 4 [(0, .ref (V.2.1 9)), (1, .int x1), (2, .int x2), (3, .int x3)] []) {x1 : Int32} {x2 : Int32} {x3 : Int32} (h : f6_carriedBy_b4 s k4 x1 x2 x3 = some r) : sf_G X V 4 (sf_Q X V (sf_Qi V r s)) s 4 [(0, .ref (V.2.1 9)), (1, .int x1), (2, .int x2), (3, .int x3)] [] := by
  unfold f6_carriedBy_b4 at h
  refine sf_iload_n (pc := 4) C 3 dX6_carriedBy_4 rfl ?_
  refine sf_aload_n (pc := 5) C 0 dX6_carriedBy_5 rfl ?_
  refine sf_getr (pc := 6) C nk_9 sh_9 rfl fl_6_12 dX6_carriedBy_6 ?_
  refine sf_get (pc := 9) C nk_10 sh_10 rfl fl_6_25 dX6_carriedBy_9 ?_
  refine sf_icmp_ge (tgt := 39) (pc := 12) C dX6_carriedBy_12 rfl (fun c12 => ?_) (fun c12 => ?_)
  · replace h := (if_pos c12).symm.trans h
    refine sf_iload_n (pc := 39) C 2 dX6_carriedBy_39 rfl ?_
    exact sf_iretR (pc := 40) C dX6_carriedBy_40 h
  · replace h := (if_neg c12).symm.trans h
    refine sf_aload_n (pc := 15) C 0 dX6_carriedBy_15 rfl ?_
    refine sf_getr (pc := 16) C nk_9 sh_9 rfl fl_6_21 dX6_carriedBy_16 ?_
    refine sf_iload_n (pc := 19) C 3 dX6_carriedBy_19 rfl ?_
    refine sf_iload_n (pc := 20) C 1 dX6_carriedBy_20 rfl ?_
    obtain ⟨v21, e21, h⟩ := sf_ob h
    refine sf_callVi (pc := 21) C (As := [.int x3, .int x1]) nk_16 sh_16 rfl yk_X3_isOn cl_6_29 (k3_isOn sf_L0 e21) (by decide) rfl (Nat.le_of_ble_eq_true rfl) rfl dX6_carriedBy_21 ?_
    refine sf_if_eq (tgt := 33) (pc := 24) C dX6_carriedBy_24 rfl (fun c24 => ?_) (fun c24 => ?_)
    · replace h := (if_pos c24).symm.trans h
      exact w6_carriedBy_b33 C hk4 h
    · replace h := (if_neg c24).symm.trans h
      refine sf_iload_n (pc := 27) C 2 dX6_carriedBy_27 rfl ?_
      refine sf_iconst (v := 1) (pc := 28) C dX6_carriedBy_28 (by decide) ?_
      refine sf_iload_n (pc := 29) C 3 dX6_carriedBy_29 rfl ?_
      refine sf_ishl (pc := 30) C dX6_carriedBy_30 ?_
      refine sf_ior (pc := 31) C dX6_carriedBy_31 ?_
      refine sf_istore_n (lv' := [(2, .int (x2 ||| ((1 : Int32) <<< (x3 &&& 31)))), (0, .ref (V.2.1 9)), (1, .int x1), (3, .int x3)]) (pc := 32) C dX6_carriedBy_32 (by decide) rfl ?_
      refine sf_sub [1, 2, 0, 3] rfl ?_
      exact w6_carriedBy_b33 C hk4 h
set_option maxHeartbeats 4000000 in
set_option maxRecDepth 100000 in
theorem w6_carriedBy_L4 {X : sf_X} {V : sf_V} {s : sf_Sg} {r : Int32} (C : sf_C X V cX6_carriedBy 4 RX6 (some .int) 1) : ∀  (x1 : Int32) (x2 : Int32) (x3 : Int32), f6_carriedBy_L4 s x1 x2 x3 = some r → sf_G X V 4 (sf_Q X V (sf_Qi V r s)) s 4 [(0, .ref (V.2.1 9)), (1, .int x1), (2, .int x2), (3, .int x3)] [] :=
  sf_it_ind (fun (k : Int32 → Int32 → Int32 → Option Int32) => ∀  (x1 : Int32) (x2 : Int32) (x3 : Int32), k x1 x2 x3 = some r → sf_G X V 4 (sf_Q X V (sf_Qi V r s)) s 4 [(0, .ref (V.2.1 9)), (1, .int x1), (2, .int x2), (3, .int x3)] []) _ _ (fun x1 x2 x3 h => by cases h) (fun k hk x1 x2 x3 h => w6_carriedBy_b4 C hk h) _
set_option maxHeartbeats 4000000 in
set_option maxRecDepth 100000 in
theorem w6_carriedBy_b0 {X : sf_X} {V : sf_V} {s : sf_Sg} {r : Int32} (C : sf_C X V cX6_carriedBy 4 RX6 (some .int) 1) {x1 : Int32} (h : f6_carriedBy_b0 s x1 = some r) : sf_G X V 4 (sf_Q X V (sf_Qi V r s)) s 0 [(0, .ref (V.2.1 9)), (1, .int x1)] [] := by
  unfold f6_carriedBy_b0 at h
  refine sf_iconst (v := 0) (pc := 0) C dX6_carriedBy_0 (by decide) ?_
  refine sf_istore_n (lv' := [(2, .int (0 : Int32)), (0, .ref (V.2.1 9)), (1, .int x1)]) (pc := 1) C dX6_carriedBy_1 (by decide) rfl ?_
  refine sf_iconst (v := 0) (pc := 2) C dX6_carriedBy_2 (by decide) ?_
  refine sf_istore_n (lv' := [(3, .int (0 : Int32)), (2, .int (0 : Int32)), (0, .ref (V.2.1 9)), (1, .int x1)]) (pc := 3) C dX6_carriedBy_3 (by decide) rfl ?_
  refine sf_sub [2, 3, 1, 0] rfl ?_
  exact w6_carriedBy_L4 C _ _ _ h
set_option maxHeartbeats 4000000 in
set_option maxRecDepth 100000 in
theorem k6_carriedBy {l : Launch} {V : sf_V} {s : sf_Sg} {x1 : Int32} {r : Int32} (h : f6_carriedBy s x1 = some r) : sf_M l V yX6_carriedBy (.code yX6_carriedBy cX6_carriedBy 4 (some .int)) 1 [.ref (V.2.1 9), .int x1] s (sf_Qi V r s) := by
  refine sf_enter (by decide) (Nat.le_of_ble_eq_true rfl) (fun X hX C => ?_)
  refine sf_sub [0, 1] rfl ?_
  exact w6_carriedBy_b0 (show sf_C X V cX6_carriedBy 4 RX6 (some .int) 1 from C)  h
set_option maxHeartbeats 4000000 in
set_option maxRecDepth 100000 in
theorem w9_has_b0 {X : sf_X} {V : sf_V} {s : sf_Sg} {r : Int32} (C : sf_C X V cX9_has 2 RX9 (some .boolean) 0) {x0 : Int32} {x1 : Int32} (h : f9_has_b0 x0 x1 = r) : sf_G X V 2 (sf_Q X V (sf_Qi V r s)) s 0 [(0, .int x0), (1, .int x1)] [] := by
  unfold f9_has_b0 at h
  refine sf_iload_n (pc := 0) C 0 dX9_has_0 rfl ?_
  refine sf_iload_n (pc := 1) C 1 dX9_has_1 rfl ?_
  refine sf_ishr (pc := 2) C dX9_has_2 ?_
  refine sf_iconst (v := 1) (pc := 3) C dX9_has_3 (by decide) ?_
  refine sf_iand (pc := 4) C dX9_has_4 ?_
  refine sf_if_eq (tgt := 12) (pc := 5) C dX9_has_5 rfl (fun c5 => ?_) (fun c5 => ?_)
  · replace h := (if_pos c5).symm.trans h
    refine sf_iconst (v := 0) (pc := 12) C dX9_has_12 (by decide) ?_
    exact sf_zretT (pc := 13) C (by first | rfl | exact sf_nb_in _ _ _) dX9_has_13 h
  · replace h := (if_neg c5).symm.trans h
    refine sf_iconst (v := 1) (pc := 8) C dX9_has_8 (by decide) ?_
    refine sf_goto (tgt := 13) (pc := 9) C dX9_has_9 rfl ?_
    exact sf_zretT (pc := 13) C (by first | rfl | exact sf_nb_in _ _ _) dX9_has_13 h
set_option maxHeartbeats 4000000 in
set_option maxRecDepth 100000 in
theorem k9_has {l : Launch} {V : sf_V} {s : sf_Sg} {x0 : Int32} {x1 : Int32} {r : Int32} (h : f9_has x0 x1 = r) : sf_M l V yX9_has (.code yX9_has cX9_has 2 (some .boolean)) 0 [.int x0, .int x1] s (sf_Qi V r s) := by
  refine sf_enter (by decide) (Nat.le_of_ble_eq_true rfl) (fun X hX C => ?_)
  refine sf_sub [0, 1] rfl ?_
  exact w9_has_b0 (show sf_C X V cX9_has 2 RX9 (some .boolean) 0 from C)  h
set_option maxHeartbeats 4000000 in
set_option maxRecDepth 100000 in
theorem w3_isShared_b0 {X : sf_X} {V : sf_V} {c : Nat} (hc : sf_isL c) {s : sf_Sg} {r : Int32} (C : sf_C X V cX3_isShared 2 RX3 (some .boolean) 0) {x1 : Int32} (h : f3_isShared_b0 c s x1 = some r) : sf_G X V 2 (sf_Q X V (sf_Qi V r s)) s 0 [(0, .ref (V.2.1 c)), (1, .int x1)] [] := by
  unfold f3_isShared_b0 at h
  refine sf_aload_n (pc := 0) C 0 dX3_isShared_0 rfl ?_
  refine sf_getr (pc := 1) C (sf_kL0 hc) (sf_shL hc).1.1 rfl fl_3_21 dX3_isShared_1 ?_
  refine sf_iload_n (pc := 4) C 1 dX3_isShared_4 rfl ?_
  obtain ⟨v5, e5, h⟩ := sf_ob h
  refine sf_iald (pc := 5) C (sf_kL hc 4 (by decide)) (sf_shL hc).1.2.2.2.2.1 e5 dX3_isShared_5 ?_
  refine sf_iconst (v := -1) (pc := 6) C dX3_isShared_6 (by decide) ?_
  refine sf_icmp_eq (tgt := 14) (pc := 7) C dX3_isShared_7 rfl (fun c7 => ?_) (fun c7 => ?_)
  · replace h := (if_pos c7).symm.trans h
    refine sf_iconst (v := 0) (pc := 14) C dX3_isShared_14 (by decide) ?_
    exact sf_zretR (pc := 15) C (by first | rfl | exact sf_nb_in _ _ _) dX3_isShared_15 h
  · replace h := (if_neg c7).symm.trans h
    refine sf_iconst (v := 1) (pc := 10) C dX3_isShared_10 (by decide) ?_
    refine sf_goto (tgt := 15) (pc := 11) C dX3_isShared_11 rfl ?_
    exact sf_zretR (pc := 15) C (by first | rfl | exact sf_nb_in _ _ _) dX3_isShared_15 h
set_option maxHeartbeats 4000000 in
set_option maxRecDepth 100000 in
theorem k3_isShared {l : Launch} {V : sf_V} {c : Nat} (hc : sf_isL c) {s : sf_Sg} {x1 : Int32} {r : Int32} (h : f3_isShared c s x1 = some r) : sf_M l V yX3_isShared (.code yX3_isShared cX3_isShared 2 (some .boolean)) 0 [.ref (V.2.1 c), .int x1] s (sf_Qi V r s) := by
  refine sf_enter (by decide) (Nat.le_of_ble_eq_true rfl) (fun X hX C => ?_)
  refine sf_sub [0, 1] rfl ?_
  exact w3_isShared_b0 hc (show sf_C X V cX3_isShared 2 RX3 (some .boolean) 0 from C)  h
set_option maxHeartbeats 4000000 in
set_option maxRecDepth 100000 in
theorem w6_partOf_b0 {X : sf_X} {V : sf_V} {s : sf_Sg} {r : Int32} (C : sf_C X V cX6_partOf 4 RX6 (some .int) 1) {x1 : Int32} {x2 : Int32} (h : f6_partOf_b0 s x1 x2 = some r) : sf_G X V 4 (sf_Q X V (sf_Qi V r s)) s 0 [(0, .ref (V.2.1 9)), (1, .int x1), (2, .int x2)] [] := by
  unfold f6_partOf_b0 at h
  refine sf_aload_n (pc := 0) C 0 dX6_partOf_0 rfl ?_
  refine sf_getr (pc := 1) C nk_9 sh_9 rfl fl_6_21 dX6_partOf_1 ?_
  refine sf_getr (pc := 4) C nk_16 sh_16 rfl fl_6_40 dX6_partOf_4 ?_
  refine sf_iload_n (pc := 7) C 1 dX6_partOf_7 rfl ?_
  obtain ⟨v8, e8, h⟩ := sf_ob h
  refine sf_iald (pc := 8) C nk_17 sh_17 e8 dX6_partOf_8 ?_
  refine sf_istore_n (lv' := [(3, .int v8), (0, .ref (V.2.1 9)), (1, .int x1), (2, .int x2)]) (pc := 9) C dX6_partOf_9 (by decide) rfl ?_
  refine sf_aload_n (pc := 10) C 1 dX6_partOf_10 rfl ?_
  refine sf_getr (pc := 11) C nk_9 sh_9 rfl fl_6_21 dX6_partOf_11 ?_
  refine sf_iload_n (pc := 14) C 2 dX6_partOf_14 rfl ?_
  obtain ⟨v15, e15, h⟩ := sf_ob h
  refine sf_callVi (pc := 15) C (As := [.int x1]) nk_16 sh_16 rfl yk_X3_isShared cl_6_37 (k3_isShared sf_L0 e15) (by decide) rfl (Nat.le_of_ble_eq_true rfl) rfl dX6_partOf_15 ?_
  refine sf_if_ne (tgt := 23) (pc := 18) C dX6_partOf_18 rfl (fun c18 => ?_) (fun c18 => ?_)
  · replace h := (if_neg c18).symm.trans h
    refine sf_aload_n (pc := 23) C 1 dX6_partOf_23 rfl ?_
    refine sf_getr (pc := 24) C nk_9 sh_9 rfl fl_6_21 dX6_partOf_24 ?_
    refine sf_getr (pc := 27) C nk_16 sh_16 rfl fl_6_44 dX6_partOf_27 ?_
    refine sf_iload_n (pc := 30) C 2 dX6_partOf_30 rfl ?_
    obtain ⟨v31, e31, h⟩ := sf_ob h
    refine sf_iald (pc := 31) C nk_19 sh_19 e31 dX6_partOf_31 ?_
    refine sf_iload_n (pc := 32) C 3 dX6_partOf_32 rfl ?_
    refine sf_icmp_ne (tgt := 44) (pc := 33) C dX6_partOf_33 rfl (fun c33 => ?_) (fun c33 => ?_)
    · replace h := (if_neg c33).symm.trans h
      refine sf_iload_n (pc := 44) C 0 dX6_partOf_44 rfl ?_
      refine sf_iconst (v := 2) (pc := 45) C dX6_partOf_45 (by decide) ?_
      refine sf_idiv (pc := 46) C dX6_partOf_46 (by decide) ?_
      exact sf_iretR (pc := 47) C dX6_partOf_47 h
    · replace h := (if_pos c33).symm.trans h
      refine sf_iload_n (pc := 36) C 0 dX6_partOf_36 rfl ?_
      refine sf_iload_n (pc := 37) C 0 dX6_partOf_37 rfl ?_
      refine sf_iconst (v := 2) (pc := 38) C dX6_partOf_38 (by decide) ?_
      refine sf_idiv (pc := 39) C dX6_partOf_39 (by decide) ?_
      refine sf_isub (pc := 40) C dX6_partOf_40 ?_
      refine sf_goto (tgt := 47) (pc := 41) C dX6_partOf_41 rfl ?_
      exact sf_iretR (pc := 47) C dX6_partOf_47 h
  · replace h := (if_pos c18).symm.trans h
    refine sf_iload_n (pc := 21) C 0 dX6_partOf_21 rfl ?_
    exact sf_iretR (pc := 22) C dX6_partOf_22 h
set_option maxHeartbeats 4000000 in
set_option maxRecDepth 100000 in
theorem k6_partOf {l : Launch} {V : sf_V} {s : sf_Sg} {x1 : Int32} {x2 : Int32} {r : Int32} (h : f6_partOf s x1 x2 = some r) : sf_M l V yX6_partOf (.code yX6_partOf cX6_partOf 4 (some .int)) 1 [.ref (V.2.1 9), .int x1, .int x2] s (sf_Qi V r s) := by
  refine sf_enter (by decide) (Nat.le_of_ble_eq_true rfl) (fun X hX C => ?_)
  refine sf_sub [0, 1, 2] rfl ?_
  exact w6_partOf_b0 (show sf_C X V cX6_partOf 4 RX6 (some .int) 1 from C)  h
set_option maxHeartbeats 4000000 in
set_option maxRecDepth 100000 in
theorem w9_isAugust_b0 {X : sf_X} {V : sf_V} {s : sf_Sg} {r : Int32} (C : sf_C X V cX9_isAugust 1 RX9 (some .boolean) 0) {x0 : Int32} (h : f9_isAugust_b0 x0 = r) : sf_G X V 1 (sf_Q X V (sf_Qi V r s)) s 0 [(0, .int x0)] [] := by
  unfold f9_isAugust_b0 at h
  refine sf_iload_n (pc := 0) C 0 dX9_isAugust_0 rfl ?_
  refine sf_bipush (v := 12) (pc := 1) C dX9_isAugust_1 (by decide) ?_
  refine sf_irem (pc := 3) C dX9_isAugust_3 (by decide) ?_
  refine sf_bipush (v := 7) (pc := 4) C dX9_isAugust_4 (by decide) ?_
  refine sf_icmp_ne (tgt := 13) (pc := 6) C dX9_isAugust_6 rfl (fun c6 => ?_) (fun c6 => ?_)
  · replace h := (if_neg c6).symm.trans h
    refine sf_iconst (v := 0) (pc := 13) C dX9_isAugust_13 (by decide) ?_
    exact sf_zretT (pc := 14) C (by first | rfl | exact sf_nb_in _ _ _) dX9_isAugust_14 h
  · replace h := (if_pos c6).symm.trans h
    refine sf_iconst (v := 1) (pc := 9) C dX9_isAugust_9 (by decide) ?_
    refine sf_goto (tgt := 14) (pc := 10) C dX9_isAugust_10 rfl ?_
    exact sf_zretT (pc := 14) C (by first | rfl | exact sf_nb_in _ _ _) dX9_isAugust_14 h
set_option maxHeartbeats 4000000 in
set_option maxRecDepth 100000 in
theorem k9_isAugust {l : Launch} {V : sf_V} {s : sf_Sg} {x0 : Int32} {r : Int32} (h : f9_isAugust x0 = r) : sf_M l V yX9_isAugust (.code yX9_isAugust cX9_isAugust 1 (some .boolean)) 0 [.int x0] s (sf_Qi V r s) := by
  refine sf_enter (by decide) (Nat.le_of_ble_eq_true rfl) (fun X hX C => ?_)
  refine sf_sub [0] rfl ?_
  exact w9_isAugust_b0 (show sf_C X V cX9_isAugust 1 RX9 (some .boolean) 0 from C)  h
set_option maxHeartbeats 4000000 in
set_option maxRecDepth 100000 in
theorem w6_rubOf_b0 {X : sf_X} {V : sf_V} {s : sf_Sg} {r : Int32} (C : sf_C X V cX6_rubOf 6 RX6 (some .int) 1) {x1 : Int32} {x2 : Int32} {x3 : Int32} {x4 : Int32} (h : f6_rubOf_b0 s x1 x2 x3 x4 = some r) : sf_G X V 6 (sf_Q X V (sf_Qi V r s)) s 0 [(0, .ref (V.2.1 9)), (1, .int x1), (2, .int x2), (3, .int x3), (4, .int x4)] [] := by
  unfold f6_rubOf_b0 at h
  refine sf_iconst (v := 0) (pc := 0) C dX6_rubOf_0 (by decide) ?_
  refine sf_aload_n (pc := 1) C 0 dX6_rubOf_1 rfl ?_
  refine sf_getr (pc := 2) C nk_9 sh_9 rfl fl_6_12 dX6_rubOf_2 ?_
  refine sf_getr (pc := 5) C nk_10 sh_10 rfl fl_6_64 dX6_rubOf_5 ?_
  refine sf_iload_n (pc := 8) C 1 dX6_rubOf_8 rfl ?_
  obtain ⟨v9, e9, h⟩ := sf_ob h
  refine sf_iald (pc := 9) C nk_13 sh_13 e9 dX6_rubOf_9 ?_
  refine sf_aload_n (pc := 10) C 0 dX6_rubOf_10 rfl ?_
  refine sf_getr (pc := 11) C nk_9 sh_9 rfl fl_6_21 dX6_rubOf_11 ?_
  refine sf_getr (pc := 14) C nk_16 sh_16 rfl fl_6_67 dX6_rubOf_14 ?_
  refine sf_iload_n (pc := 17) C 1 dX6_rubOf_17 rfl ?_
  obtain ⟨v18, e18, h⟩ := sf_ob h
  refine sf_iald (pc := 18) C nk_18 sh_18 e18 dX6_rubOf_18 ?_
  refine sf_isub (pc := 19) C dX6_rubOf_19 ?_
  refine sf_mmax (pc := 20) C jd_6_70 (by decide) (Nat.le_of_ble_eq_true rfl) dX6_rubOf_20 ?_
  refine sf_istore (lv' := [(5, .int (sf_max (0 : Int32) (v9 - v18))), (0, .ref (V.2.1 9)), (1, .int x1), (2, .int x2), (3, .int x3), (4, .int x4)]) (pc := 23) C dX6_rubOf_23 (by decide) rfl ?_
  refine sf_aload_n (pc := 25) C 1 dX6_rubOf_25 rfl ?_
  refine sf_getr (pc := 26) C nk_9 sh_9 rfl fl_6_12 dX6_rubOf_26 ?_
  refine sf_getr (pc := 29) C nk_10 sh_10 rfl fl_6_75 dX6_rubOf_29 ?_
  refine sf_iload_n (pc := 32) C 2 dX6_rubOf_32 rfl ?_
  obtain ⟨v33, e33, h⟩ := sf_ob h
  refine sf_iald (pc := 33) C nk_11 sh_11 e33 dX6_rubOf_33 ?_
  by_cases c34_1 : v33 = 1
  · replace h := (if_pos c34_1).symm.trans h
    refine sf_tabIn (off := 30) (tgt := 64) (pc := 34) C dX6_rubOf_34 (by rw [c34_1]; decide) (by rw [c34_1]; decide) (by rw [c34_1]; rfl) rfl ?_
    refine sf_iload_n (pc := 64) C 4 dX6_rubOf_64 rfl ?_
    refine sf_if_eq (tgt := 75) (pc := 65) C dX6_rubOf_65 rfl (fun c65 => ?_) (fun c65 => ?_)
    · replace h := (if_pos c65).symm.trans h
      refine sf_iload (pc := 75) C 0 dX6_rubOf_75 rfl ?_
      exact sf_iretR (pc := 77) C dX6_rubOf_77 h
    · replace h := (if_neg c65).symm.trans h
      refine sf_iload (pc := 68) C 0 dX6_rubOf_68 rfl ?_
      refine sf_iconst (v := 2) (pc := 70) C dX6_rubOf_70 (by decide) ?_
      refine sf_idiv (pc := 71) C dX6_rubOf_71 (by decide) ?_
      refine sf_goto (tgt := 77) (pc := 72) C dX6_rubOf_72 rfl ?_
      exact sf_iretR (pc := 77) C dX6_rubOf_77 h
  replace h := (if_neg c34_1).symm.trans h
  by_cases c34_2 : v33 = 2
  · replace h := (if_pos c34_2).symm.trans h
    refine sf_tabIn (off := 44) (tgt := 78) (pc := 34) C dX6_rubOf_34 (by rw [c34_2]; decide) (by rw [c34_2]; decide) (by rw [c34_2]; rfl) rfl ?_
    refine sf_iload (pc := 78) C 0 dX6_rubOf_78 rfl ?_
    refine sf_if_le (tgt := 98) (pc := 80) C dX6_rubOf_80 rfl (fun c80 => ?_) (fun c80 => ?_)
    · replace h := (if_pos c80).symm.trans h
      refine sf_iconst (v := 0) (pc := 98) C dX6_rubOf_98 (by decide) ?_
      exact sf_iretR (pc := 99) C dX6_rubOf_99 h
    · replace h := (if_neg c80).symm.trans h
      refine sf_iload (pc := 83) C 0 dX6_rubOf_83 rfl ?_
      refine sf_aload_n (pc := 85) C 1 dX6_rubOf_85 rfl ?_
      refine sf_getr (pc := 86) C nk_9 sh_9 rfl fl_6_12 dX6_rubOf_86 ?_
      refine sf_getr (pc := 89) C nk_10 sh_10 rfl fl_6_78 dX6_rubOf_89 ?_
      refine sf_iload_n (pc := 92) C 3 dX6_rubOf_92 rfl ?_
      obtain ⟨v93, e93, h⟩ := sf_ob h
      refine sf_iald (pc := 93) C nk_15 sh_15 e93 dX6_rubOf_93 ?_
      refine sf_iadd (pc := 94) C dX6_rubOf_94 ?_
      refine sf_goto (tgt := 99) (pc := 95) C dX6_rubOf_95 rfl ?_
      exact sf_iretR (pc := 99) C dX6_rubOf_99 h
  replace h := (if_neg c34_2).symm.trans h
  by_cases c34_3 : v33 = 3
  · replace h := (if_pos c34_3).symm.trans h
    refine sf_tabIn (off := 66) (tgt := 100) (pc := 34) C dX6_rubOf_34 (by rw [c34_3]; decide) (by rw [c34_3]; decide) (by rw [c34_3]; rfl) rfl ?_
    refine sf_iload (pc := 100) C 5 dX6_rubOf_100 rfl ?_
    refine sf_iconst (v := 2) (pc := 102) C dX6_rubOf_102 (by decide) ?_
    refine sf_irem (pc := 103) C dX6_rubOf_103 (by decide) ?_
    refine sf_if_eq (tgt := 114) (pc := 104) C dX6_rubOf_104 rfl (fun c104 => ?_) (fun c104 => ?_)
    · replace h := (if_pos c104).symm.trans h
      refine sf_iload (pc := 114) C 0 dX6_rubOf_114 rfl ?_
      exact sf_iretR (pc := 116) C dX6_rubOf_116 h
    · replace h := (if_neg c104).symm.trans h
      refine sf_iload (pc := 107) C 0 dX6_rubOf_107 rfl ?_
      refine sf_iconst (v := 2) (pc := 109) C dX6_rubOf_109 (by decide) ?_
      refine sf_iadd (pc := 110) C dX6_rubOf_110 ?_
      refine sf_goto (tgt := 116) (pc := 111) C dX6_rubOf_111 rfl ?_
      exact sf_iretR (pc := 116) C dX6_rubOf_116 h
  replace h := (if_neg c34_3).symm.trans h
  by_cases c34_4 : v33 = 4
  · replace h := (if_pos c34_4).symm.trans h
    refine sf_tabIn (off := 83) (tgt := 117) (pc := 34) C dX6_rubOf_34 (by rw [c34_4]; decide) (by rw [c34_4]; decide) (by rw [c34_4]; rfl) rfl ?_
    refine sf_iload (pc := 117) C 5 dX6_rubOf_117 rfl ?_
    refine sf_callNi (pc := 119) C (As := [.int x4]) yk_X9_isAugust cl_6_81 (k9_isAugust rfl) (by decide) rfl (Nat.le_of_ble_eq_true rfl) rfl dX6_rubOf_119 ?_
    refine sf_if_eq (tgt := 132) (pc := 122) C dX6_rubOf_122 rfl (fun c122 => ?_) (fun c122 => ?_)
    · replace h := (if_pos c122).symm.trans h
      refine sf_iconst (v := 0) (pc := 132) C dX6_rubOf_132 (by decide) ?_
      exact sf_iretR (pc := 133) C dX6_rubOf_133 h
    · replace h := (if_neg c122).symm.trans h
      refine sf_iconst (v := 2) (pc := 125) C dX6_rubOf_125 (by decide) ?_
      refine sf_iload (pc := 126) C 0 dX6_rubOf_126 rfl ?_
      refine sf_imul (pc := 128) C dX6_rubOf_128 ?_
      refine sf_goto (tgt := 133) (pc := 129) C dX6_rubOf_129 rfl ?_
      exact sf_iretR (pc := 133) C dX6_rubOf_133 h
  replace h := (if_neg c34_4).symm.trans h
  refine sf_tabOut (tgt := 134) (pc := 34) C dX6_rubOf_34 (by have z1 := lv_neT (a := 1) c34_1 (by decide); have z2 := lv_neT (a := 2) c34_2 (by decide); have z3 := lv_neT (a := 3) c34_3 (by decide); have z4 := lv_neT (a := 4) c34_4 (by decide); omega) rfl ?_
  refine sf_iload (pc := 134) C 0 dX6_rubOf_134 rfl ?_
  exact sf_iretR (pc := 136) C dX6_rubOf_136 h
set_option maxHeartbeats 4000000 in
set_option maxRecDepth 100000 in
theorem k6_rubOf {l : Launch} {V : sf_V} {s : sf_Sg} {x1 : Int32} {x2 : Int32} {x3 : Int32} {x4 : Int32} {r : Int32} (h : f6_rubOf s x1 x2 x3 x4 = some r) : sf_M l V yX6_rubOf (.code yX6_rubOf cX6_rubOf 6 (some .int)) 1 [.ref (V.2.1 9), .int x1, .int x2, .int x3, .int x4] s (sf_Qi V r s) := by
  refine sf_enter (by decide) (Nat.le_of_ble_eq_true rfl) (fun X hX C => ?_)
  refine sf_sub [0, 1, 2, 3, 4] rfl ?_
  exact w6_rubOf_b0 (show sf_C X V cX6_rubOf 6 RX6 (some .int) 1 from C)  h
set_option maxHeartbeats 4000000 in
set_option maxRecDepth 100000 in
theorem w6_gallingOf_b64 {X : sf_X} {V : sf_V} {s : sf_Sg} {r : Int32} {k9 : Int32 → Int32 → Int32 → Int32 → Int32 → Int32 → Option Int32} (C : sf_C X V cX6_gallingOf 7 RX6 (some .int) 2) (hk9 : ∀  (x1 : Int32) (x2 : Int32) (x3 : Int32) (x4 : Int32) (x5 : Int32) (x6 : Int32), k9 x1 x2 x3 x4 x5 x6 = some r → sf_G X V 7 (sf_Q X V (sf_Qi V r s)) s 9 [(0, .ref (V.2.1 9)), (1, .int x1), (2, .int x2), (3, .int x3), (4, .int x4), (5, .int x5), (6, .int x6)] []) {x1 : Int32} {x2 : Int32} {x3 : Int32} {x4 : Int32} {x5 : Int32} {x6 : Int32} (h : f6_gallingOf_b64 s k9 x1 x2 x3 x4 x5 x6 = some r) : sf_G X V 7 (sf_Q X V (sf_Qi V r s)) s 64 [(0, .ref (V.2.1 9)), (1, .int x1), (2, .int x2), (3, .int x3), (4, .int x4), (5, .int x5), (6, .int x6)] [] := by
  unfold f6_gallingOf_b64 at h
  refine sf_iinc (v := (x6 + 1)) (lv' := [(6, .int (x6 + 1)), (0, .ref (V.2.1 9)), (1, .int x1), (2, .int x2), (3, .int x3), (4, .int x4), (5, .int x5)]) (pc := 64) C 6 dX6_gallingOf_64 rfl rfl (by decide) rfl ?_
  refine sf_goto (tgt := 9) (pc := 67) C dX6_gallingOf_67 rfl ?_
  refine sf_sub [1, 2, 3, 4, 5, 6, 0] rfl ?_
  exact hk9 _ _ _ _ _ _ h
set_option maxHeartbeats 4000000 in
set_option maxRecDepth 100000 in
theorem w6_gallingOf_b70 {X : sf_X} {V : sf_V} {s : sf_Sg} {r : Int32} (C : sf_C X V cX6_gallingOf 7 RX6 (some .int) 2) {x1 : Int32} {x4 : Int32} {x5 : Int32} (h : f6_gallingOf_b70 s x1 x4 x5 = some r) : sf_G X V 7 (sf_Q X V (sf_Qi V r s)) s 70 [(0, .ref (V.2.1 9)), (1, .int x1), (4, .int x4), (5, .int x5)] [] := by
  unfold f6_gallingOf_b70 at h
  refine sf_iconst (v := 0) (pc := 70) C dX6_gallingOf_70 (by decide) ?_
  refine sf_iload (pc := 71) C 2 dX6_gallingOf_71 rfl ?_
  refine sf_aload_n (pc := 73) C 0 dX6_gallingOf_73 rfl ?_
  refine sf_getr (pc := 74) C nk_9 sh_9 rfl fl_6_12 dX6_gallingOf_74 ?_
  refine sf_getr (pc := 77) C nk_10 sh_10 rfl fl_6_88 dX6_gallingOf_77 ?_
  refine sf_iload_n (pc := 80) C 1 dX6_gallingOf_80 rfl ?_
  obtain ⟨v81, e81, h⟩ := sf_ob h
  refine sf_iald (pc := 81) C nk_14 sh_14 e81 dX6_gallingOf_81 ?_
  refine sf_isub (pc := 82) C dX6_gallingOf_82 ?_
  refine sf_mmax (pc := 83) C jd_6_70 (by decide) (Nat.le_of_ble_eq_true rfl) dX6_gallingOf_83 ?_
  refine sf_iload (pc := 86) C 3 dX6_gallingOf_86 rfl ?_
  refine sf_iadd (pc := 88) C dX6_gallingOf_88 ?_
  exact sf_iretR (pc := 89) C dX6_gallingOf_89 h
set_option maxHeartbeats 4000000 in
set_option maxRecDepth 100000 in
theorem w6_gallingOf_b9 {X : sf_X} {V : sf_V} {s : sf_Sg} {r : Int32} {k9 : Int32 → Int32 → Int32 → Int32 → Int32 → Int32 → Option Int32} (C : sf_C X V cX6_gallingOf 7 RX6 (some .int) 2) (hk9 : ∀  (x1 : Int32) (x2 : Int32) (x3 : Int32) (x4 : Int32) (x5 : Int32) (x6 : Int32), k9 x1 x2 x3 x4 x5 x6 = some r → sf_G X V 7 (sf_Q X V (sf_Qi V r s)) s 9 [(0, .ref (V.2.1 9)), (1, .int x1), (2, .int x2), (3, .int x3), (4, .int x4), (5, .int x5), (6, .int x6)] []) {x1 : Int32} {x2 : Int32} {x3 : Int32} {x4 : Int32} {x5 : Int32} {x6 : Int32} (h : f6_gallingOf_b9 s k9 x1 x2 x3 x4 x5 x6 = some r) : sf_G X V 7 (sf_Q X V (sf_Qi V r s)) s 9 [(0, .ref (V.2.1 9)), (1, .int x1), (2, .int x2), (3, .int x3), (4, .int x4), (5, .int x5), (6, .int x6)] [] := by
  unfold f6_gallingOf_b9 at h
  refine sf_iload (pc := 9) C 6 dX6_gallingOf_9 rfl ?_
  refine sf_aload_n (pc := 11) C 0 dX6_gallingOf_11 rfl ?_
  refine sf_getr (pc := 12) C nk_9 sh_9 rfl fl_6_12 dX6_gallingOf_12 ?_
  refine sf_get (pc := 15) C nk_10 sh_10 rfl fl_6_25 dX6_gallingOf_15 ?_
  refine sf_icmp_ge (tgt := 70) (pc := 18) C dX6_gallingOf_18 rfl (fun c18 => ?_) (fun c18 => ?_)
  · replace h := (if_pos c18).symm.trans h
    refine sf_sub [0, 1, 4, 5] rfl ?_
    exact w6_gallingOf_b70 C h
  · replace h := (if_neg c18).symm.trans h
    refine sf_iload_n (pc := 21) C 2 dX6_gallingOf_21 rfl ?_
    refine sf_iload (pc := 22) C 6 dX6_gallingOf_22 rfl ?_
    refine sf_callNi (pc := 24) C (As := [.int x2, .int x6]) yk_X9_has cl_6_51 (k9_has rfl) (by decide) rfl (Nat.le_of_ble_eq_true rfl) rfl dX6_gallingOf_24 ?_
    refine sf_if_eq (tgt := 64) (pc := 27) C dX6_gallingOf_27 rfl (fun c27 => ?_) (fun c27 => ?_)
    · replace h := (if_pos c27).symm.trans h
      exact w6_gallingOf_b64 C hk9 h
    · replace h := (if_neg c27).symm.trans h
      refine sf_iload (pc := 30) C 4 dX6_gallingOf_30 rfl ?_
      refine sf_aload_n (pc := 32) C 0 dX6_gallingOf_32 rfl ?_
      refine sf_iload (pc := 33) C 6 dX6_gallingOf_33 rfl ?_
      refine sf_iload_n (pc := 35) C 1 dX6_gallingOf_35 rfl ?_
      obtain ⟨v36, e36, h⟩ := sf_ob h
      refine sf_callVi (pc := 36) C (As := [.int x6, .int x1]) nk_9 sh_9 rfl yk_X6_partOf cl_6_54 (k6_partOf e36) (by decide) rfl (Nat.le_of_ble_eq_true rfl) rfl dX6_gallingOf_36 ?_
      refine sf_iadd (pc := 39) C dX6_gallingOf_39 ?_
      refine sf_istore (lv' := [(4, .int (x4 + v36)), (0, .ref (V.2.1 9)), (1, .int x1), (2, .int x2), (3, .int x3), (5, .int x5), (6, .int x6)]) (pc := 40) C dX6_gallingOf_40 (by decide) rfl ?_
      refine sf_iload (pc := 42) C 5 dX6_gallingOf_42 rfl ?_
      refine sf_aload_n (pc := 44) C 1 dX6_gallingOf_44 rfl ?_
      refine sf_iload (pc := 45) C 6 dX6_gallingOf_45 rfl ?_
      refine sf_iload_n (pc := 47) C 2 dX6_gallingOf_47 rfl ?_
      refine sf_aload_n (pc := 48) C 1 dX6_gallingOf_48 rfl ?_
      refine sf_getr (pc := 49) C nk_9 sh_9 rfl fl_6_21 dX6_gallingOf_49 ?_
      refine sf_iload (pc := 52) C 6 dX6_gallingOf_52 rfl ?_
      obtain ⟨v54, e54, h⟩ := sf_ob h
      refine sf_callVi (pc := 54) C (As := [.int x6]) nk_16 sh_16 rfl yk_X3_isShared cl_6_37 (k3_isShared sf_L0 e54) (by decide) rfl (Nat.le_of_ble_eq_true rfl) rfl dX6_gallingOf_54 ?_
      refine sf_iload_n (pc := 57) C 4 dX6_gallingOf_57 rfl ?_
      obtain ⟨v58, e58, h⟩ := sf_ob h
      refine sf_callVi (pc := 58) C (As := [.int x6, .int x1, .int v54, .int x3]) nk_9 sh_9 rfl yk_X6_rubOf cl_6_84 (k6_rubOf e58) (by decide) rfl (Nat.le_of_ble_eq_true rfl) rfl dX6_gallingOf_58 ?_
      refine sf_iadd (pc := 61) C dX6_gallingOf_61 ?_
      refine sf_istore (lv' := [(5, .int (x5 + v58)), (4, .int (x4 + v36)), (0, .ref (V.2.1 9)), (1, .int x1), (2, .int x2), (3, .int x3), (6, .int x6)]) (pc := 62) C dX6_gallingOf_62 (by decide) rfl ?_
      refine sf_sub [2, 3, 4, 5, 1, 0, 6] rfl ?_
      exact w6_gallingOf_b64 C hk9 h
set_option maxHeartbeats 4000000 in
set_option maxRecDepth 100000 in
theorem w6_gallingOf_L9 {X : sf_X} {V : sf_V} {s : sf_Sg} {r : Int32} (C : sf_C X V cX6_gallingOf 7 RX6 (some .int) 2) : ∀  (x1 : Int32) (x2 : Int32) (x3 : Int32) (x4 : Int32) (x5 : Int32) (x6 : Int32), f6_gallingOf_L9 s x1 x2 x3 x4 x5 x6 = some r → sf_G X V 7 (sf_Q X V (sf_Qi V r s)) s 9 [(0, .ref (V.2.1 9)), (1, .int x1), (2, .int x2), (3, .int x3), (4, .int x4), (5, .int x5), (6, .int x6)] [] :=
  sf_it_ind (fun (k : Int32 → Int32 → Int32 → Int32 → Int32 → Int32 → Option Int32) => ∀  (x1 : Int32) (x2 : Int32) (x3 : Int32) (x4 : Int32) (x5 : Int32) (x6 : Int32), k x1 x2 x3 x4 x5 x6 = some r → sf_G X V 7 (sf_Q X V (sf_Qi V r s)) s 9 [(0, .ref (V.2.1 9)), (1, .int x1), (2, .int x2), (3, .int x3), (4, .int x4), (5, .int x5), (6, .int x6)] []) _ _ (fun x1 x2 x3 x4 x5 x6 h => by cases h) (fun k hk x1 x2 x3 x4 x5 x6 h => w6_gallingOf_b9 C hk h) _
set_option maxHeartbeats 4000000 in
set_option maxRecDepth 100000 in
theorem w6_gallingOf_b0 {X : sf_X} {V : sf_V} {s : sf_Sg} {r : Int32} (C : sf_C X V cX6_gallingOf 7 RX6 (some .int) 2) {x1 : Int32} {x2 : Int32} {x3 : Int32} (h : f6_gallingOf_b0 s x1 x2 x3 = some r) : sf_G X V 7 (sf_Q X V (sf_Qi V r s)) s 0 [(0, .ref (V.2.1 9)), (1, .int x1), (2, .int x2), (3, .int x3)] [] := by
  unfold f6_gallingOf_b0 at h
  refine sf_iconst (v := 0) (pc := 0) C dX6_gallingOf_0 (by decide) ?_
  refine sf_istore (lv' := [(4, .int (0 : Int32)), (0, .ref (V.2.1 9)), (1, .int x1), (2, .int x2), (3, .int x3)]) (pc := 1) C dX6_gallingOf_1 (by decide) rfl ?_
  refine sf_iconst (v := 0) (pc := 3) C dX6_gallingOf_3 (by decide) ?_
  refine sf_istore (lv' := [(5, .int (0 : Int32)), (4, .int (0 : Int32)), (0, .ref (V.2.1 9)), (1, .int x1), (2, .int x2), (3, .int x3)]) (pc := 4) C dX6_gallingOf_4 (by decide) rfl ?_
  refine sf_iconst (v := 0) (pc := 6) C dX6_gallingOf_6 (by decide) ?_
  refine sf_istore (lv' := [(6, .int (0 : Int32)), (5, .int (0 : Int32)), (4, .int (0 : Int32)), (0, .ref (V.2.1 9)), (1, .int x1), (2, .int x2), (3, .int x3)]) (pc := 7) C dX6_gallingOf_7 (by decide) rfl ?_
  refine sf_sub [3, 4, 5, 6, 2, 1, 0] rfl ?_
  exact w6_gallingOf_L9 C _ _ _ _ _ _ h
set_option maxHeartbeats 4000000 in
set_option maxRecDepth 100000 in
theorem k6_gallingOf {l : Launch} {V : sf_V} {s : sf_Sg} {x1 : Int32} {x2 : Int32} {x3 : Int32} {r : Int32} (h : f6_gallingOf s x1 x2 x3 = some r) : sf_M l V yX6_gallingOf (.code yX6_gallingOf cX6_gallingOf 7 (some .int)) 2 [.ref (V.2.1 9), .int x1, .int x2, .int x3] s (sf_Qi V r s) := by
  refine sf_enter (by decide) (Nat.le_of_ble_eq_true rfl) (fun X hX C => ?_)
  refine sf_sub [0, 1, 2, 3] rfl ?_
  exact w6_gallingOf_b0 (show sf_C X V cX6_gallingOf 7 RX6 (some .int) 2 from C)  h
