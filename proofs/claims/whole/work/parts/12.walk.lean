set_option maxHeartbeats 4000000 in
set_option maxRecDepth 100000 in
theorem w3_putDown_b22 {X : sf_X} {V : sf_V} {c : Nat} (hc : sf_isL c) {s' : sf_Sg} (C : sf_C X V cX3_putDown 3 RX3 none 0) {s : sf_Sg} {x1 : Int32} (h : f3_putDown_b22 c s x1 = some s') : sf_G X V 3 (sf_Q X V (sf_Qv V s')) s 22 [(0, .ref (V.2.1 c)), (1, .int x1)] [] := by
  unfold f3_putDown_b22 at h
  refine sf_aload_n (pc := 22) C 0 dX3_putDown_22 rfl ?_
  refine sf_getr (pc := 23) C (sf_kL0 hc) (sf_shL hc).1.1 rfl fl_3_21 dX3_putDown_23 ?_
  refine sf_iload_n (pc := 26) C 1 dX3_putDown_26 rfl ?_
  refine sf_iconst (v := -1) (pc := 27) C dX3_putDown_27 (by decide) ?_
  obtain ⟨s28, e28, h⟩ := sf_ob h
  refine sf_iast (pc := 28) C (sf_kL hc 4 (by decide)) (sf_shL hc).1.2.2.2.2.1 e28 dX3_putDown_28 ?_
  exact sf_vretW (pc := 29) C dX3_putDown_29 h
set_option maxHeartbeats 4000000 in
set_option maxRecDepth 100000 in
theorem w3_putDown_b0 {X : sf_X} {V : sf_V} {c : Nat} (hc : sf_isL c) {s' : sf_Sg} (C : sf_C X V cX3_putDown 3 RX3 none 0) {s : sf_Sg} {x1 : Int32} {x2 : Int32} (h : f3_putDown_b0 c s x1 x2 = some s') : sf_G X V 3 (sf_Q X V (sf_Qv V s')) s 0 [(0, .ref (V.2.1 c)), (1, .int x1), (2, .int x2)] [] := by
  unfold f3_putDown_b0 at h
  refine sf_aload_n (pc := 0) C 0 dX3_putDown_0 rfl ?_
  refine sf_getr (pc := 1) C (sf_kL0 hc) (sf_shL hc).1.1 rfl fl_3_18 dX3_putDown_1 ?_
  refine sf_iload_n (pc := 4) C 1 dX3_putDown_4 rfl ?_
  obtain ⟨v5, e5, h⟩ := sf_ob h
  refine sf_iald (pc := 5) C (sf_kL hc 3 (by decide)) (sf_shL hc).1.2.2.2.1 e5 dX3_putDown_5 ?_
  refine sf_iload_n (pc := 6) C 2 dX3_putDown_6 rfl ?_
  refine sf_icmp_ne (tgt := 22) (pc := 7) C dX3_putDown_7 rfl (fun c7 => ?_) (fun c7 => ?_)
  · replace h := (if_neg c7).symm.trans h
    refine sf_sub [0, 1] rfl ?_
    exact w3_putDown_b22 hc C h
  · replace h := (if_pos c7).symm.trans h
    refine sf_aload_n (pc := 10) C 0 dX3_putDown_10 rfl ?_
    refine sf_getr (pc := 11) C (sf_kL0 hc) (sf_shL hc).1.1 rfl fl_3_18 dX3_putDown_11 ?_
    refine sf_iload_n (pc := 14) C 1 dX3_putDown_14 rfl ?_
    refine sf_aload_n (pc := 15) C 0 dX3_putDown_15 rfl ?_
    refine sf_getr (pc := 16) C (sf_kL0 hc) (sf_shL hc).1.1 rfl fl_3_21 dX3_putDown_16 ?_
    refine sf_iload_n (pc := 19) C 1 dX3_putDown_19 rfl ?_
    obtain ⟨v20, e20, h⟩ := sf_ob h
    refine sf_iald (pc := 20) C (sf_kL hc 4 (by decide)) (sf_shL hc).1.2.2.2.2.1 e20 dX3_putDown_20 ?_
    obtain ⟨s21, e21, h⟩ := sf_ob h
    refine sf_iast (pc := 21) C (sf_kL hc 3 (by decide)) (sf_shL hc).1.2.2.2.1 e21 dX3_putDown_21 ?_
    refine sf_sub [0, 1] rfl ?_
    exact w3_putDown_b22 hc C h
set_option maxHeartbeats 4000000 in
set_option maxRecDepth 100000 in
theorem k3_putDown {l : Launch} {V : sf_V} {c : Nat} (hc : sf_isL c) {s : sf_Sg} {x1 : Int32} {x2 : Int32} {s' : sf_Sg} (h : f3_putDown c s x1 x2 = some s') : sf_M l V yX3_putDown (.code yX3_putDown cX3_putDown 3 none) 0 [.ref (V.2.1 c), .int x1, .int x2] s (sf_Qv V s') := by
  refine sf_enter (by decide) (Nat.le_of_ble_eq_true rfl) (fun X hX C => ?_)
  refine sf_sub [0, 1, 2] rfl ?_
  exact w3_putDown_b0 hc (show sf_C X V cX3_putDown 3 RX3 none 0 from C)  h
set_option maxHeartbeats 4000000 in
set_option maxRecDepth 100000 in
theorem w9_down_b0 {X : sf_X} {V : sf_V} {r : Int32} {s' : sf_Sg} (C : sf_C X V cX9_down 3 RX9 (some .int) 4) {s : sf_Sg} {x1 : Int32} {x2 : Int32} (h : f9_down_b0 s x1 x2 = some (r, s')) : sf_G X V 3 (sf_Q X V (sf_Qi V r s')) s 0 [(0, .ref (V.2.1 0)), (1, .int x1), (2, .int x2)] [] := by
  unfold f9_down_b0 at h
  refine sf_aload_n (pc := 0) C 0 dX9_down_0 rfl ?_
  refine sf_getr (pc := 1) C nk_0 sh_0 rfl fl_9_33 dX9_down_1 ?_
  refine sf_iload_n (pc := 4) C 1 dX9_down_4 rfl ?_
  refine sf_callVi (pc := 5) C (As := [.int x1]) nk_10 sh_10 rfl yk_X7_hasBurden cl_9_162 (k7_hasBurden sf_S1 rfl) (by decide) rfl (Nat.le_of_ble_eq_true rfl) rfl dX9_down_5 ?_
  refine sf_if_eq (tgt := 22) (pc := 8) C dX9_down_8 rfl (fun c8 => ?_) (fun c8 => ?_)
  · replace h := (if_pos c8).symm.trans h
    refine sf_ldc (v := -1000000001) (pc := 22) C dX9_down_22 tm_501 ?_
    exact sf_iretW (pc := 24) C dX9_down_24 h
  · replace h := (if_neg c8).symm.trans h
    refine sf_aload_n (pc := 11) C 0 dX9_down_11 rfl ?_
    refine sf_getr (pc := 12) C nk_0 sh_0 rfl fl_9_33 dX9_down_12 ?_
    refine sf_iload_n (pc := 15) C 2 dX9_down_15 rfl ?_
    refine sf_callVi (pc := 16) C (As := [.int x2]) nk_10 sh_10 rfl yk_X7_hasBack cl_9_184 (k7_hasBack sf_S1 rfl) (by decide) rfl (Nat.le_of_ble_eq_true rfl) rfl dX9_down_16 ?_
    refine sf_if_ne (tgt := 25) (pc := 19) C dX9_down_19 rfl (fun c19 => ?_) (fun c19 => ?_)
    · replace h := (if_neg c19).symm.trans h
      refine sf_aload_n (pc := 25) C 0 dX9_down_25 rfl ?_
      refine sf_getr (pc := 26) C nk_0 sh_0 rfl fl_9_38 dX9_down_26 ?_
      refine sf_iload_n (pc := 29) C 1 dX9_down_29 rfl ?_
      refine sf_iload_n (pc := 30) C 2 dX9_down_30 rfl ?_
      obtain ⟨v31, e31, h⟩ := sf_ob h
      refine sf_callVi (pc := 31) C (As := [.int x1, .int x2]) nk_16 sh_16 rfl yk_X3_isOn cl_9_235 (k3_isOn sf_L0 e31) (by decide) rfl (Nat.le_of_ble_eq_true rfl) rfl dX9_down_31 ?_
      refine sf_if_ne (tgt := 40) (pc := 34) C dX9_down_34 rfl (fun c34 => ?_) (fun c34 => ?_)
      · replace h := (if_neg c34).symm.trans h
        refine sf_aload_n (pc := 40) C 0 dX9_down_40 rfl ?_
        refine sf_getr (pc := 41) C nk_0 sh_0 rfl fl_9_56 dX9_down_41 ?_
        refine sf_aload_n (pc := 44) C 0 dX9_down_44 rfl ?_
        refine sf_getr (pc := 45) C nk_0 sh_0 rfl fl_9_38 dX9_down_45 ?_
        obtain ⟨s48, e48, h⟩ := sf_ob h
        refine sf_callVv (pc := 48) C (As := [.ref (V.2.1 16)]) nk_27 sh_27 rfl yk_X4_add cl_9_214 (k4_add sf_L0 e48) (by decide) rfl (Nat.le_of_ble_eq_true rfl) rfl dX9_down_48 ?_
        refine sf_aload_n (pc := 51) C 0 dX9_down_51 rfl ?_
        refine sf_getr (pc := 52) C nk_0 sh_0 rfl fl_9_38 dX9_down_52 ?_
        refine sf_iload_n (pc := 55) C 1 dX9_down_55 rfl ?_
        refine sf_iload_n (pc := 56) C 2 dX9_down_56 rfl ?_
        obtain ⟨s57, e57, h⟩ := sf_ob h
        refine sf_callVv (pc := 57) C (As := [.int x1, .int x2]) nk_16 sh_16 rfl yk_X3_putDown cl_9_238 (k3_putDown sf_L0 e57) (by decide) rfl (Nat.le_of_ble_eq_true rfl) rfl dX9_down_57 ?_
        refine sf_aload_n (pc := 60) C 0 dX9_down_60 rfl ?_
        refine sf_getr (pc := 61) C nk_0 sh_0 rfl fl_9_26 dX9_down_61 ?_
        refine sf_iload_n (pc := 64) C 2 dX9_down_64 rfl ?_
        obtain ⟨v65, e65, h⟩ := sf_ob h
        refine sf_callVi (pc := 65) C (As := [.int x2]) nk_9 sh_9 rfl yk_X6_gallingToday cl_9_196 (k6_gallingToday e65) (by decide) rfl (Nat.le_of_ble_eq_true rfl) rfl dX9_down_65 ?_
        exact sf_iretW (pc := 68) C dX9_down_68 h
      · replace h := (if_pos c34).symm.trans h
        refine sf_ldc (v := -1000000003) (pc := 37) C dX9_down_37 tm_532 ?_
        exact sf_iretW (pc := 39) C dX9_down_39 h
    · replace h := (if_pos c19).symm.trans h
      refine sf_ldc (v := -1000000001) (pc := 22) C dX9_down_22 tm_501 ?_
      exact sf_iretW (pc := 24) C dX9_down_24 h
set_option maxHeartbeats 4000000 in
set_option maxRecDepth 100000 in
theorem k9_down {l : Launch} {V : sf_V} {s : sf_Sg} {x1 : Int32} {x2 : Int32} {r : Int32} {s' : sf_Sg} (h : f9_down s x1 x2 = some (r, s')) : sf_M l V yX9_down (.code yX9_down cX9_down 3 (some .int)) 4 [.ref (V.2.1 0), .int x1, .int x2] s (sf_Qi V r s') := by
  refine sf_enter (by decide) (Nat.le_of_ble_eq_true rfl) (fun X hX C => ?_)
  refine sf_sub [0, 1, 2] rfl ?_
  exact w9_down_b0 (show sf_C X V cX9_down 3 RX9 (some .int) 4 from C)  h
set_option maxHeartbeats 4000000 in
set_option maxRecDepth 100000 in
theorem w7_hasTwoBacks_b25 {X : sf_X} {V : sf_V} {c : Nat} (hc : sf_isS c) {s : sf_Sg} {r : Int32} (C : sf_C X V cX7_hasTwoBacks 3 RX7 (some .boolean) 1) (h : f7_hasTwoBacks_b25 c s = r) : sf_G X V 3 (sf_Q X V (sf_Qi V r s)) s 25 [] [] := by
  unfold f7_hasTwoBacks_b25 at h
  refine sf_iconst (v := 0) (pc := 25) C dX7_hasTwoBacks_25 (by decide) ?_
  exact sf_zretT (pc := 26) C (by first | rfl | exact sf_nb_in _ _ _) dX7_hasTwoBacks_26 h
set_option maxHeartbeats 4000000 in
set_option maxRecDepth 100000 in
theorem w7_hasTwoBacks_b0 {X : sf_X} {V : sf_V} {c : Nat} (hc : sf_isS c) {s : sf_Sg} {r : Int32} (C : sf_C X V cX7_hasTwoBacks 3 RX7 (some .boolean) 1) {x1 : Int32} {x2 : Int32} (h : f7_hasTwoBacks_b0 c s x1 x2 = r) : sf_G X V 3 (sf_Q X V (sf_Qi V r s)) s 0 [(0, .ref (V.2.1 c)), (1, .int x1), (2, .int x2)] [] := by
  unfold f7_hasTwoBacks_b0 at h
  refine sf_aload_n (pc := 0) C 0 dX7_hasTwoBacks_0 rfl ?_
  refine sf_iload_n (pc := 1) C 1 dX7_hasTwoBacks_1 rfl ?_
  refine sf_callVi (pc := 2) C (As := [.int x1]) (sf_kS0 hc) (sf_shS hc).1.1 rfl yk_X7_hasBack cl_7_34 (k7_hasBack hc rfl) (by decide) rfl (Nat.le_of_ble_eq_true rfl) rfl dX7_hasTwoBacks_2 ?_
  refine sf_if_eq (tgt := 25) (pc := 5) C dX7_hasTwoBacks_5 rfl (fun c5 => ?_) (fun c5 => ?_)
  · replace h := (if_pos c5).symm.trans h
    refine sf_sub [] rfl ?_
    exact w7_hasTwoBacks_b25 hc C h
  · replace h := (if_neg c5).symm.trans h
    refine sf_aload_n (pc := 8) C 0 dX7_hasTwoBacks_8 rfl ?_
    refine sf_iload_n (pc := 9) C 2 dX7_hasTwoBacks_9 rfl ?_
    refine sf_callVi (pc := 10) C (As := [.int x2]) (sf_kS0 hc) (sf_shS hc).1.1 rfl yk_X7_hasBack cl_7_34 (k7_hasBack hc rfl) (by decide) rfl (Nat.le_of_ble_eq_true rfl) rfl dX7_hasTwoBacks_10 ?_
    refine sf_if_eq (tgt := 25) (pc := 13) C dX7_hasTwoBacks_13 rfl (fun c13 => ?_) (fun c13 => ?_)
    · replace h := (if_pos c13).symm.trans h
      refine sf_sub [] rfl ?_
      exact w7_hasTwoBacks_b25 hc C h
    · replace h := (if_neg c13).symm.trans h
      refine sf_iload_n (pc := 16) C 1 dX7_hasTwoBacks_16 rfl ?_
      refine sf_iload_n (pc := 17) C 2 dX7_hasTwoBacks_17 rfl ?_
      refine sf_icmp_eq (tgt := 25) (pc := 18) C dX7_hasTwoBacks_18 rfl (fun c18 => ?_) (fun c18 => ?_)
      · replace h := (if_pos c18).symm.trans h
        refine sf_sub [] rfl ?_
        exact w7_hasTwoBacks_b25 hc C h
      · replace h := (if_neg c18).symm.trans h
        refine sf_iconst (v := 1) (pc := 21) C dX7_hasTwoBacks_21 (by decide) ?_
        refine sf_goto (tgt := 26) (pc := 22) C dX7_hasTwoBacks_22 rfl ?_
        exact sf_zretT (pc := 26) C (by first | rfl | exact sf_nb_in _ _ _) dX7_hasTwoBacks_26 h
set_option maxHeartbeats 4000000 in
set_option maxRecDepth 100000 in
theorem k7_hasTwoBacks {l : Launch} {V : sf_V} {c : Nat} (hc : sf_isS c) {s : sf_Sg} {x1 : Int32} {x2 : Int32} {r : Int32} (h : f7_hasTwoBacks c s x1 x2 = r) : sf_M l V yX7_hasTwoBacks (.code yX7_hasTwoBacks cX7_hasTwoBacks 3 (some .boolean)) 1 [.ref (V.2.1 c), .int x1, .int x2] s (sf_Qi V r s) := by
  refine sf_enter (by decide) (Nat.le_of_ble_eq_true rfl) (fun X hX C => ?_)
  refine sf_sub [0, 1, 2] rfl ?_
  exact w7_hasTwoBacks_b0 hc (show sf_C X V cX7_hasTwoBacks 3 RX7 (some .boolean) 1 from C)  h
set_option maxHeartbeats 4000000 in
set_option maxRecDepth 100000 in
theorem w3_handOn_b0 {X : sf_X} {V : sf_V} {c : Nat} (hc : sf_isL c) {s' : sf_Sg} (C : sf_C X V cX3_handOn 4 RX3 none 0) {s : sf_Sg} {x1 : Int32} {x2 : Int32} {x3 : Int32} (h : f3_handOn_b0 c s x1 x2 x3 = some s') : sf_G X V 4 (sf_Q X V (sf_Qv V s')) s 0 [(0, .ref (V.2.1 c)), (1, .int x1), (2, .int x2), (3, .int x3)] [] := by
  unfold f3_handOn_b0 at h
  refine sf_aload_n (pc := 0) C 0 dX3_handOn_0 rfl ?_
  refine sf_getr (pc := 1) C (sf_kL0 hc) (sf_shL hc).1.1 rfl fl_3_18 dX3_handOn_1 ?_
  refine sf_iload_n (pc := 4) C 1 dX3_handOn_4 rfl ?_
  obtain ⟨v5, e5, h⟩ := sf_ob h
  refine sf_iald (pc := 5) C (sf_kL hc 3 (by decide)) (sf_shL hc).1.2.2.2.1 e5 dX3_handOn_5 ?_
  refine sf_iload_n (pc := 6) C 2 dX3_handOn_6 rfl ?_
  refine sf_icmp_ne (tgt := 20) (pc := 7) C dX3_handOn_7 rfl (fun c7 => ?_) (fun c7 => ?_)
  · replace h := (if_neg c7).symm.trans h
    refine sf_aload_n (pc := 20) C 0 dX3_handOn_20 rfl ?_
    refine sf_getr (pc := 21) C (sf_kL0 hc) (sf_shL hc).1.1 rfl fl_3_21 dX3_handOn_21 ?_
    refine sf_iload_n (pc := 24) C 1 dX3_handOn_24 rfl ?_
    refine sf_iload_n (pc := 25) C 3 dX3_handOn_25 rfl ?_
    obtain ⟨s26, e26, h⟩ := sf_ob h
    refine sf_iast (pc := 26) C (sf_kL hc 4 (by decide)) (sf_shL hc).1.2.2.2.2.1 e26 dX3_handOn_26 ?_
    exact sf_vretW (pc := 27) C dX3_handOn_27 h
  · replace h := (if_pos c7).symm.trans h
    refine sf_aload_n (pc := 10) C 0 dX3_handOn_10 rfl ?_
    refine sf_getr (pc := 11) C (sf_kL0 hc) (sf_shL hc).1.1 rfl fl_3_18 dX3_handOn_11 ?_
    refine sf_iload_n (pc := 14) C 1 dX3_handOn_14 rfl ?_
    refine sf_iload_n (pc := 15) C 3 dX3_handOn_15 rfl ?_
    obtain ⟨s16, e16, h⟩ := sf_ob h
    refine sf_iast (pc := 16) C (sf_kL hc 3 (by decide)) (sf_shL hc).1.2.2.2.1 e16 dX3_handOn_16 ?_
    refine sf_goto (tgt := 27) (pc := 17) C dX3_handOn_17 rfl ?_
    exact sf_vretW (pc := 27) C dX3_handOn_27 h
set_option maxHeartbeats 4000000 in
set_option maxRecDepth 100000 in
theorem k3_handOn {l : Launch} {V : sf_V} {c : Nat} (hc : sf_isL c) {s : sf_Sg} {x1 : Int32} {x2 : Int32} {x3 : Int32} {s' : sf_Sg} (h : f3_handOn c s x1 x2 x3 = some s') : sf_M l V yX3_handOn (.code yX3_handOn cX3_handOn 4 none) 0 [.ref (V.2.1 c), .int x1, .int x2, .int x3] s (sf_Qv V s') := by
  refine sf_enter (by decide) (Nat.le_of_ble_eq_true rfl) (fun X hX C => ?_)
  refine sf_sub [0, 1, 2, 3] rfl ?_
  exact w3_handOn_b0 hc (show sf_C X V cX3_handOn 4 RX3 none 0 from C)  h
set_option maxHeartbeats 4000000 in
set_option maxRecDepth 100000 in
theorem w9_hand_b0 {X : sf_X} {V : sf_V} {r : Int32} {s' : sf_Sg} (C : sf_C X V cX9_hand 4 RX9 (some .int) 4) {s : sf_Sg} {x1 : Int32} {x2 : Int32} {x3 : Int32} (h : f9_hand_b0 s x1 x2 x3 = some (r, s')) : sf_G X V 4 (sf_Q X V (sf_Qi V r s')) s 0 [(0, .ref (V.2.1 0)), (1, .int x1), (2, .int x2), (3, .int x3)] [] := by
  unfold f9_hand_b0 at h
  refine sf_aload_n (pc := 0) C 0 dX9_hand_0 rfl ?_
  refine sf_getr (pc := 1) C nk_0 sh_0 rfl fl_9_33 dX9_hand_1 ?_
  refine sf_iload_n (pc := 4) C 1 dX9_hand_4 rfl ?_
  refine sf_callVi (pc := 5) C (As := [.int x1]) nk_10 sh_10 rfl yk_X7_hasBurden cl_9_162 (k7_hasBurden sf_S1 rfl) (by decide) rfl (Nat.le_of_ble_eq_true rfl) rfl dX9_hand_5 ?_
  refine sf_if_eq (tgt := 23) (pc := 8) C dX9_hand_8 rfl (fun c8 => ?_) (fun c8 => ?_)
  · replace h := (if_pos c8).symm.trans h
    refine sf_ldc (v := -1000000001) (pc := 23) C dX9_hand_23 tm_501 ?_
    exact sf_iretW (pc := 25) C dX9_hand_25 h
  · replace h := (if_neg c8).symm.trans h
    refine sf_aload_n (pc := 11) C 0 dX9_hand_11 rfl ?_
    refine sf_getr (pc := 12) C nk_0 sh_0 rfl fl_9_33 dX9_hand_12 ?_
    refine sf_iload_n (pc := 15) C 2 dX9_hand_15 rfl ?_
    refine sf_iload_n (pc := 16) C 3 dX9_hand_16 rfl ?_
    refine sf_callVi (pc := 17) C (As := [.int x2, .int x3]) nk_10 sh_10 rfl yk_X7_hasTwoBacks cl_9_241 (k7_hasTwoBacks sf_S1 rfl) (by decide) rfl (Nat.le_of_ble_eq_true rfl) rfl dX9_hand_17 ?_
    refine sf_if_ne (tgt := 26) (pc := 20) C dX9_hand_20 rfl (fun c20 => ?_) (fun c20 => ?_)
    · replace h := (if_neg c20).symm.trans h
      refine sf_aload_n (pc := 26) C 0 dX9_hand_26 rfl ?_
      refine sf_getr (pc := 27) C nk_0 sh_0 rfl fl_9_38 dX9_hand_27 ?_
      refine sf_iload_n (pc := 30) C 1 dX9_hand_30 rfl ?_
      refine sf_iload_n (pc := 31) C 2 dX9_hand_31 rfl ?_
      obtain ⟨v32, e32, h⟩ := sf_ob h
      refine sf_callVi (pc := 32) C (As := [.int x1, .int x2]) nk_16 sh_16 rfl yk_X3_isOn cl_9_235 (k3_isOn sf_L0 e32) (by decide) rfl (Nat.le_of_ble_eq_true rfl) rfl dX9_hand_32 ?_
      refine sf_if_eq (tgt := 50) (pc := 35) C dX9_hand_35 rfl (fun c35 => ?_) (fun c35 => ?_)
      · replace h := (if_pos c35).symm.trans h
        refine sf_ldc (v := -1000000003) (pc := 50) C dX9_hand_50 tm_532 ?_
        exact sf_iretW (pc := 52) C dX9_hand_52 h
      · replace h := (if_neg c35).symm.trans h
        refine sf_aload_n (pc := 38) C 0 dX9_hand_38 rfl ?_
        refine sf_getr (pc := 39) C nk_0 sh_0 rfl fl_9_38 dX9_hand_39 ?_
        refine sf_iload_n (pc := 42) C 1 dX9_hand_42 rfl ?_
        refine sf_iload_n (pc := 43) C 3 dX9_hand_43 rfl ?_
        obtain ⟨v44, e44, h⟩ := sf_ob h
        refine sf_callVi (pc := 44) C (As := [.int x1, .int x3]) nk_16 sh_16 rfl yk_X3_isOn cl_9_235 (k3_isOn sf_L0 e44) (by decide) rfl (Nat.le_of_ble_eq_true rfl) rfl dX9_hand_44 ?_
        refine sf_if_eq (tgt := 53) (pc := 47) C dX9_hand_47 rfl (fun c47 => ?_) (fun c47 => ?_)
        · replace h := (if_pos c47).symm.trans h
          refine sf_aload_n (pc := 53) C 0 dX9_hand_53 rfl ?_
          refine sf_getr (pc := 54) C nk_0 sh_0 rfl fl_9_56 dX9_hand_54 ?_
          refine sf_aload_n (pc := 57) C 0 dX9_hand_57 rfl ?_
          refine sf_getr (pc := 58) C nk_0 sh_0 rfl fl_9_38 dX9_hand_58 ?_
          obtain ⟨s61, e61, h⟩ := sf_ob h
          refine sf_callVv (pc := 61) C (As := [.ref (V.2.1 16)]) nk_27 sh_27 rfl yk_X4_add cl_9_214 (k4_add sf_L0 e61) (by decide) rfl (Nat.le_of_ble_eq_true rfl) rfl dX9_hand_61 ?_
          refine sf_aload_n (pc := 64) C 0 dX9_hand_64 rfl ?_
          refine sf_getr (pc := 65) C nk_0 sh_0 rfl fl_9_38 dX9_hand_65 ?_
          refine sf_iload_n (pc := 68) C 1 dX9_hand_68 rfl ?_
          refine sf_iload_n (pc := 69) C 2 dX9_hand_69 rfl ?_
          refine sf_iload_n (pc := 70) C 3 dX9_hand_70 rfl ?_
          obtain ⟨s71, e71, h⟩ := sf_ob h
          refine sf_callVv (pc := 71) C (As := [.int x1, .int x2, .int x3]) nk_16 sh_16 rfl yk_X3_handOn cl_9_244 (k3_handOn sf_L0 e71) (by decide) rfl (Nat.le_of_ble_eq_true rfl) rfl dX9_hand_71 ?_
          refine sf_aload_n (pc := 74) C 0 dX9_hand_74 rfl ?_
          refine sf_getr (pc := 75) C nk_0 sh_0 rfl fl_9_26 dX9_hand_75 ?_
          refine sf_iload_n (pc := 78) C 3 dX9_hand_78 rfl ?_
          obtain ⟨v79, e79, h⟩ := sf_ob h
          refine sf_callVi (pc := 79) C (As := [.int x3]) nk_9 sh_9 rfl yk_X6_gallingToday cl_9_196 (k6_gallingToday e79) (by decide) rfl (Nat.le_of_ble_eq_true rfl) rfl dX9_hand_79 ?_
          exact sf_iretW (pc := 82) C dX9_hand_82 h
        · replace h := (if_neg c47).symm.trans h
          refine sf_ldc (v := -1000000003) (pc := 50) C dX9_hand_50 tm_532 ?_
          exact sf_iretW (pc := 52) C dX9_hand_52 h
    · replace h := (if_pos c20).symm.trans h
      refine sf_ldc (v := -1000000001) (pc := 23) C dX9_hand_23 tm_501 ?_
      exact sf_iretW (pc := 25) C dX9_hand_25 h
set_option maxHeartbeats 4000000 in
set_option maxRecDepth 100000 in
theorem k9_hand {l : Launch} {V : sf_V} {s : sf_Sg} {x1 : Int32} {x2 : Int32} {x3 : Int32} {r : Int32} {s' : sf_Sg} (h : f9_hand s x1 x2 x3 = some (r, s')) : sf_M l V yX9_hand (.code yX9_hand cX9_hand 4 (some .int)) 4 [.ref (V.2.1 0), .int x1, .int x2, .int x3] s (sf_Qi V r s') := by
  refine sf_enter (by decide) (Nat.le_of_ble_eq_true rfl) (fun X hX C => ?_)
  refine sf_sub [0, 1, 2, 3] rfl ?_
  exact w9_hand_b0 (show sf_C X V cX9_hand 4 RX9 (some .int) 4 from C)  h
set_option maxHeartbeats 4000000 in
set_option maxRecDepth 100000 in
theorem w9_stuff_b0 {X : sf_X} {V : sf_V} {r : Int32} {s' : sf_Sg} (C : sf_C X V cX9_stuff 3 RX9 (some .int) 2) {s : sf_Sg} {x1 : Int32} {x2 : Int32} (h : f9_stuff_b0 s x1 x2 = some (r, s')) : sf_G X V 3 (sf_Q X V (sf_Qi V r s')) s 0 [(0, .ref (V.2.1 0)), (1, .int x1), (2, .int x2)] [] := by
  unfold f9_stuff_b0 at h
  refine sf_aload_n (pc := 0) C 0 dX9_stuff_0 rfl ?_
  refine sf_getr (pc := 1) C nk_0 sh_0 rfl fl_9_33 dX9_stuff_1 ?_
  refine sf_iload_n (pc := 4) C 1 dX9_stuff_4 rfl ?_
  refine sf_callVi (pc := 5) C (As := [.int x1]) nk_10 sh_10 rfl yk_X7_hasBurden cl_9_162 (k7_hasBurden sf_S1 rfl) (by decide) rfl (Nat.le_of_ble_eq_true rfl) rfl dX9_stuff_5 ?_
  refine sf_if_ne (tgt := 14) (pc := 8) C dX9_stuff_8 rfl (fun c8 => ?_) (fun c8 => ?_)
  · replace h := (if_neg c8).symm.trans h
    refine sf_iload_n (pc := 14) C 2 dX9_stuff_14 rfl ?_
    refine sf_bipush (v := -30) (pc := 15) C dX9_stuff_15 (by decide) ?_
    refine sf_bipush (v := 30) (pc := 17) C dX9_stuff_17 (by decide) ?_
    refine sf_callSi (pc := 19) C (As := [.int x2, .int (-30 : Int32), .int (30 : Int32)]) yk_X9_within cl_9_89 (k9_within rfl) (by decide) rfl (Nat.le_of_ble_eq_true rfl) rfl dX9_stuff_19 ?_
    refine sf_if_ne (tgt := 28) (pc := 22) C dX9_stuff_22 rfl (fun c22 => ?_) (fun c22 => ?_)
    · replace h := (if_neg c22).symm.trans h
      refine sf_aload_n (pc := 28) C 0 dX9_stuff_28 rfl ?_
      refine sf_getr (pc := 29) C nk_0 sh_0 rfl fl_9_38 dX9_stuff_29 ?_
      refine sf_getr (pc := 32) C nk_16 sh_16 rfl fl_9_175 dX9_stuff_32 ?_
      refine sf_iload_n (pc := 35) C 1 dX9_stuff_35 rfl ?_
      obtain ⟨v36, e36, h⟩ := sf_ob h
      refine sf_iald (pc := 36) C nk_18 sh_18 e36 dX9_stuff_36 ?_
      refine sf_iload_n (pc := 37) C 2 dX9_stuff_37 rfl ?_
      refine sf_iadd (pc := 38) C dX9_stuff_38 ?_
      refine sf_iconst (v := 0) (pc := 39) C dX9_stuff_39 (by decide) ?_
      refine sf_bipush (v := 30) (pc := 40) C dX9_stuff_40 (by decide) ?_
      refine sf_callSi (pc := 42) C (As := [.int (v36 + x2), .int (0 : Int32), .int (30 : Int32)]) yk_X9_within cl_9_89 (k9_within rfl) (by decide) rfl (Nat.le_of_ble_eq_true rfl) rfl dX9_stuff_42 ?_
      refine sf_if_eq (tgt := 59) (pc := 45) C dX9_stuff_45 rfl (fun c45 => ?_) (fun c45 => ?_)
      · replace h := (if_pos c45).symm.trans h
        refine sf_ldc (v := -1000000003) (pc := 59) C dX9_stuff_59 tm_532 ?_
        exact sf_iretW (pc := 61) C dX9_stuff_61 h
      · replace h := (if_neg c45).symm.trans h
        refine sf_aload_n (pc := 48) C 0 dX9_stuff_48 rfl ?_
        refine sf_getr (pc := 49) C nk_0 sh_0 rfl fl_9_38 dX9_stuff_49 ?_
        refine sf_get (pc := 52) C nk_16 sh_16 rfl fl_9_131 dX9_stuff_52 ?_
        refine sf_iload_n (pc := 55) C 2 dX9_stuff_55 rfl ?_
        refine sf_icmp_ge (tgt := 62) (pc := 56) C dX9_stuff_56 rfl (fun c56 => ?_) (fun c56 => ?_)
        · replace h := (if_pos c56).symm.trans h
          refine sf_aload_n (pc := 62) C 0 dX9_stuff_62 rfl ?_
          refine sf_getr (pc := 63) C nk_0 sh_0 rfl fl_9_56 dX9_stuff_63 ?_
          refine sf_aload_n (pc := 66) C 0 dX9_stuff_66 rfl ?_
          refine sf_getr (pc := 67) C nk_0 sh_0 rfl fl_9_38 dX9_stuff_67 ?_
          obtain ⟨s70, e70, h⟩ := sf_ob h
          refine sf_callVv (pc := 70) C (As := [.ref (V.2.1 16)]) nk_27 sh_27 rfl yk_X4_add cl_9_214 (k4_add sf_L0 e70) (by decide) rfl (Nat.le_of_ble_eq_true rfl) rfl dX9_stuff_70 ?_
          refine sf_aload_n (pc := 73) C 0 dX9_stuff_73 rfl ?_
          refine sf_getr (pc := 74) C nk_0 sh_0 rfl fl_9_38 dX9_stuff_74 ?_
          refine sf_getr (pc := 77) C nk_16 sh_16 rfl fl_9_175 dX9_stuff_77 ?_
          refine sf_iload_n (pc := 80) C 1 dX9_stuff_80 rfl ?_
          refine sf_dup2 (pc := 81) C dX9_stuff_81 rfl rfl ?_
          obtain ⟨v82, e82, h⟩ := sf_ob h
          refine sf_iald (pc := 82) C nk_18 sh_18 e82 dX9_stuff_82 ?_
          refine sf_iload_n (pc := 83) C 2 dX9_stuff_83 rfl ?_
          refine sf_iadd (pc := 84) C dX9_stuff_84 ?_
          obtain ⟨s85, e85, h⟩ := sf_ob h
          refine sf_iast (pc := 85) C nk_18 sh_18 e85 dX9_stuff_85 ?_
          refine sf_aload_n (pc := 86) C 0 dX9_stuff_86 rfl ?_
          refine sf_getr (pc := 87) C nk_0 sh_0 rfl fl_9_38 dX9_stuff_87 ?_
          refine sf_dup (pc := 90) C dX9_stuff_90 rfl ?_
          refine sf_get (pc := 91) C nk_16 sh_16 rfl fl_9_131 dX9_stuff_91 ?_
          refine sf_iload_n (pc := 94) C 2 dX9_stuff_94 rfl ?_
          refine sf_isub (pc := 95) C dX9_stuff_95 ?_
          refine sf_put (pc := 96) C nk_16 sh_16 rfl fw_9_131 rfl rfl dX9_stuff_96 ?_
          refine sf_aload_n (pc := 99) C 0 dX9_stuff_99 rfl ?_
          refine sf_getr (pc := 100) C nk_0 sh_0 rfl fl_9_38 dX9_stuff_100 ?_
          refine sf_getr (pc := 103) C nk_16 sh_16 rfl fl_9_175 dX9_stuff_103 ?_
          refine sf_iload_n (pc := 106) C 1 dX9_stuff_106 rfl ?_
          obtain ⟨v107, e107, h⟩ := sf_ob h
          refine sf_iald (pc := 107) C nk_18 sh_18 e107 dX9_stuff_107 ?_
          exact sf_iretW (pc := 108) C dX9_stuff_108 h
        · replace h := (if_neg c56).symm.trans h
          refine sf_ldc (v := -1000000003) (pc := 59) C dX9_stuff_59 tm_532 ?_
          exact sf_iretW (pc := 61) C dX9_stuff_61 h
    · replace h := (if_pos c22).symm.trans h
      refine sf_ldc (v := -1000000002) (pc := 25) C dX9_stuff_25 tm_334 ?_
      exact sf_iretW (pc := 27) C dX9_stuff_27 h
  · replace h := (if_pos c8).symm.trans h
    refine sf_ldc (v := -1000000001) (pc := 11) C dX9_stuff_11 tm_501 ?_
    exact sf_iretW (pc := 13) C dX9_stuff_13 h
set_option maxHeartbeats 4000000 in
set_option maxRecDepth 100000 in
theorem k9_stuff {l : Launch} {V : sf_V} {s : sf_Sg} {x1 : Int32} {x2 : Int32} {r : Int32} {s' : sf_Sg} (h : f9_stuff s x1 x2 = some (r, s')) : sf_M l V yX9_stuff (.code yX9_stuff cX9_stuff 3 (some .int)) 2 [.ref (V.2.1 0), .int x1, .int x2] s (sf_Qi V r s') := by
  refine sf_enter (by decide) (Nat.le_of_ble_eq_true rfl) (fun X hX C => ?_)
  refine sf_sub [0, 1, 2] rfl ?_
  exact w9_stuff_b0 (show sf_C X V cX9_stuff 3 RX9 (some .int) 2 from C)  h
set_option maxHeartbeats 4000000 in
set_option maxRecDepth 100000 in
theorem w9_weigh_b0 {X : sf_X} {V : sf_V} {r : Int32} {s' : sf_Sg} (C : sf_C X V cX9_weigh 4 RX9 (some .int) 2) {s : sf_Sg} {x1 : Int32} {x2 : Int32} (h : f9_weigh_b0 s x1 x2 = some (r, s')) : sf_G X V 4 (sf_Q X V (sf_Qi V r s')) s 0 [(0, .ref (V.2.1 0)), (1, .int x1), (2, .int x2)] [] := by
  unfold f9_weigh_b0 at h
  refine sf_aload_n (pc := 0) C 0 dX9_weigh_0 rfl ?_
  refine sf_getr (pc := 1) C nk_0 sh_0 rfl fl_9_33 dX9_weigh_1 ?_
  refine sf_iload_n (pc := 4) C 1 dX9_weigh_4 rfl ?_
  refine sf_callVi (pc := 5) C (As := [.int x1]) nk_10 sh_10 rfl yk_X7_hasBurden cl_9_162 (k7_hasBurden sf_S1 rfl) (by decide) rfl (Nat.le_of_ble_eq_true rfl) rfl dX9_weigh_5 ?_
  refine sf_if_ne (tgt := 14) (pc := 8) C dX9_weigh_8 rfl (fun c8 => ?_) (fun c8 => ?_)
  · replace h := (if_neg c8).symm.trans h
    refine sf_iload_n (pc := 14) C 2 dX9_weigh_14 rfl ?_
    refine sf_iconst (v := 1) (pc := 15) C dX9_weigh_15 (by decide) ?_
    refine sf_bipush (v := 60) (pc := 16) C dX9_weigh_16 (by decide) ?_
    refine sf_callSi (pc := 18) C (As := [.int x2, .int (1 : Int32), .int (60 : Int32)]) yk_X9_within cl_9_89 (k9_within rfl) (by decide) rfl (Nat.le_of_ble_eq_true rfl) rfl dX9_weigh_18 ?_
    refine sf_if_ne (tgt := 27) (pc := 21) C dX9_weigh_21 rfl (fun c21 => ?_) (fun c21 => ?_)
    · replace h := (if_neg c21).symm.trans h
      refine sf_aload_n (pc := 27) C 0 dX9_weigh_27 rfl ?_
      refine sf_getr (pc := 28) C nk_0 sh_0 rfl fl_9_56 dX9_weigh_28 ?_
      refine sf_aload_n (pc := 31) C 0 dX9_weigh_31 rfl ?_
      refine sf_getr (pc := 32) C nk_0 sh_0 rfl fl_9_38 dX9_weigh_32 ?_
      obtain ⟨s35, e35, h⟩ := sf_ob h
      refine sf_callVv (pc := 35) C (As := [.ref (V.2.1 16)]) nk_27 sh_27 rfl yk_X4_add cl_9_214 (k4_add sf_L0 e35) (by decide) rfl (Nat.le_of_ble_eq_true rfl) rfl dX9_weigh_35 ?_
      refine sf_aload_n (pc := 38) C 0 dX9_weigh_38 rfl ?_
      refine sf_getr (pc := 39) C nk_0 sh_0 rfl fl_9_38 dX9_weigh_39 ?_
      refine sf_getr (pc := 42) C nk_16 sh_16 rfl fl_9_169 dX9_weigh_42 ?_
      refine sf_iload_n (pc := 45) C 1 dX9_weigh_45 rfl ?_
      obtain ⟨v46, e46, h⟩ := sf_ob h
      refine sf_iald (pc := 46) C nk_17 sh_17 e46 dX9_weigh_46 ?_
      refine sf_istore_n (lv' := [(3, .int v46), (0, .ref (V.2.1 0)), (1, .int x1), (2, .int x2)]) (pc := 47) C dX9_weigh_47 (by decide) rfl ?_
      refine sf_aload_n (pc := 48) C 1 dX9_weigh_48 rfl ?_
      refine sf_getr (pc := 49) C nk_0 sh_0 rfl fl_9_38 dX9_weigh_49 ?_
      refine sf_getr (pc := 52) C nk_16 sh_16 rfl fl_9_169 dX9_weigh_52 ?_
      refine sf_iload_n (pc := 55) C 2 dX9_weigh_55 rfl ?_
      refine sf_iload_n (pc := 56) C 3 dX9_weigh_56 rfl ?_
      obtain ⟨s57, e57, h⟩ := sf_ob h
      refine sf_iast (pc := 57) C nk_17 sh_17 e57 dX9_weigh_57 ?_
      refine sf_iload_n (pc := 58) C 0 dX9_weigh_58 rfl ?_
      exact sf_iretW (pc := 59) C dX9_weigh_59 h
    · replace h := (if_pos c21).symm.trans h
      refine sf_ldc (v := -1000000002) (pc := 24) C dX9_weigh_24 tm_334 ?_
      exact sf_iretW (pc := 26) C dX9_weigh_26 h
  · replace h := (if_pos c8).symm.trans h
    refine sf_ldc (v := -1000000001) (pc := 11) C dX9_weigh_11 tm_501 ?_
    exact sf_iretW (pc := 13) C dX9_weigh_13 h
set_option maxHeartbeats 4000000 in
set_option maxRecDepth 100000 in
theorem k9_weigh {l : Launch} {V : sf_V} {s : sf_Sg} {x1 : Int32} {x2 : Int32} {r : Int32} {s' : sf_Sg} (h : f9_weigh s x1 x2 = some (r, s')) : sf_M l V yX9_weigh (.code yX9_weigh cX9_weigh 4 (some .int)) 2 [.ref (V.2.1 0), .int x1, .int x2] s (sf_Qi V r s') := by
  refine sf_enter (by decide) (Nat.le_of_ble_eq_true rfl) (fun X hX C => ?_)
  refine sf_sub [0, 1, 2] rfl ?_
  exact w9_weigh_b0 (show sf_C X V cX9_weigh 4 RX9 (some .int) 2 from C)  h
set_option maxHeartbeats 4000000 in
set_option maxRecDepth 100000 in
theorem w9_draw_b0 {X : sf_X} {V : sf_V} {r : Int32} {s' : sf_Sg} (C : sf_C X V cX9_draw 2 RX9 (some .int) 0) {s : sf_Sg} {x1 : Int32} (h : f9_draw_b0 s x1 = some (r, s')) : sf_G X V 2 (sf_Q X V (sf_Qi V r s')) s 0 [(0, .ref (V.2.1 0)), (1, .int x1)] [] := by
  unfold f9_draw_b0 at h
  refine sf_aload_n (pc := 0) C 0 dX9_draw_0 rfl ?_
  refine sf_aload_n (pc := 1) C 0 dX9_draw_1 rfl ?_
  refine sf_get (pc := 2) C nk_0 sh_0 rfl fl_9_325 dX9_draw_2 ?_
  refine sf_i2l (pc := 5) C dX9_draw_5 ?_
  refine sf_ldc2 (v := 1103515245) (pc := 6) C dX9_draw_6 tm_618 ?_
  refine sf_lmul (pc := 9) C dX9_draw_9 ?_
  refine sf_ldc2 (v := 12345) (pc := 10) C dX9_draw_10 tm_619 ?_
  refine sf_ladd (pc := 13) C dX9_draw_13 ?_
  refine sf_ldc2 (v := 2147483647) (pc := 14) C dX9_draw_14 tm_620 ?_
  refine sf_land (pc := 17) C dX9_draw_17 ?_
  refine sf_l2i (pc := 18) C dX9_draw_18 ?_
  refine sf_put (pc := 19) C nk_0 sh_0 rfl fw_9_325 rfl rfl dX9_draw_19 ?_
  refine sf_iload_n (pc := 22) C 1 dX9_draw_22 rfl ?_
  refine sf_iconst (v := 1) (pc := 23) C dX9_draw_23 (by decide) ?_
  refine sf_icmp_ge (tgt := 31) (pc := 24) C dX9_draw_24 rfl (fun c24 => ?_) (fun c24 => ?_)
  · replace h := (if_pos c24).symm.trans h
    refine sf_aload_n (pc := 31) C 0 dX9_draw_31 rfl ?_
    refine sf_get (pc := 32) C nk_0 sh_0 rfl fl_9_325 dX9_draw_32 ?_
    refine sf_ldcw (v := 65536) (pc := 35) C dX9_draw_35 tm_621 ?_
    refine sf_idiv (pc := 38) C dX9_draw_38 (by decide) ?_
    refine sf_iload_n (pc := 39) C 1 dX9_draw_39 rfl ?_
    obtain ⟨v40, e40, h⟩ := sf_ob h
    refine sf_iremO (pc := 40) C e40 dX9_draw_40 ?_
    exact sf_iretW (pc := 41) C dX9_draw_41 h
  · replace h := (if_neg c24).symm.trans h
    refine sf_iconst (v := 0) (pc := 27) C dX9_draw_27 (by decide) ?_
    refine sf_goto (tgt := 41) (pc := 28) C dX9_draw_28 rfl ?_
    exact sf_iretW (pc := 41) C dX9_draw_41 h
set_option maxHeartbeats 4000000 in
set_option maxRecDepth 100000 in
theorem k9_draw {l : Launch} {V : sf_V} {s : sf_Sg} {x1 : Int32} {r : Int32} {s' : sf_Sg} (h : f9_draw s x1 = some (r, s')) : sf_M l V yX9_draw (.code yX9_draw cX9_draw 2 (some .int)) 0 [.ref (V.2.1 0), .int x1] s (sf_Qi V r s') := by
  refine sf_enter (by decide) (Nat.le_of_ble_eq_true rfl) (fun X hX C => ?_)
  refine sf_sub [0, 1] rfl ?_
  exact w9_draw_b0 (show sf_C X V cX9_draw 2 RX9 (some .int) 0 from C)  h
set_option maxHeartbeats 4000000 in
set_option maxRecDepth 100000 in
theorem w9_doByDraws_b109 {X : sf_X} {V : sf_V} {s' : sf_Sg} (C : sf_C X V cX9_doByDraws 4 RX9 none 2) {s : sf_Sg} {x1 : Int32} {x2 : Int32} {x3 : Int32} (h : f9_doByDraws_b109 s x1 x2 x3 = some s') : sf_G X V 4 (sf_Q X V (sf_Qv V s')) s 109 [(0, .ref (V.2.1 0)), (1, .int x1), (2, .int x2), (3, .int x3)] [] := by
  unfold f9_doByDraws_b109 at h
  refine sf_iload_n (pc := 109) C 1 dX9_doByDraws_109 rfl ?_
  refine sf_iconst (v := 2) (pc := 110) C dX9_doByDraws_110 (by decide) ?_
  refine sf_icmp_ne (tgt := 135) (pc := 111) C dX9_doByDraws_111 rfl (fun c111 => ?_) (fun c111 => ?_)
  · replace h := (if_neg c111).symm.trans h
    exact sf_vretW (pc := 135) C dX9_doByDraws_135 h
  · replace h := (if_pos c111).symm.trans h
    refine sf_aload_n (pc := 114) C 0 dX9_doByDraws_114 rfl ?_
    refine sf_getr (pc := 115) C nk_0 sh_0 rfl fl_9_38 dX9_doByDraws_115 ?_
    refine sf_iload_n (pc := 118) C 2 dX9_doByDraws_118 rfl ?_
    refine sf_iload_n (pc := 119) C 3 dX9_doByDraws_119 rfl ?_
    obtain ⟨v120, e120, h⟩ := sf_ob h
    refine sf_callVi (pc := 120) C (As := [.int x2, .int x3]) nk_16 sh_16 rfl yk_X3_isOn cl_9_235 (k3_isOn sf_L0 e120) (by decide) rfl (Nat.le_of_ble_eq_true rfl) rfl dX9_doByDraws_120 ?_
    refine sf_if_eq (tgt := 135) (pc := 123) C dX9_doByDraws_123 rfl (fun c123 => ?_) (fun c123 => ?_)
    · replace h := (if_pos c123).symm.trans h
      exact sf_vretW (pc := 135) C dX9_doByDraws_135 h
    · replace h := (if_neg c123).symm.trans h
      refine sf_aload_n (pc := 126) C 0 dX9_doByDraws_126 rfl ?_
      refine sf_getr (pc := 127) C nk_0 sh_0 rfl fl_9_38 dX9_doByDraws_127 ?_
      refine sf_iload_n (pc := 130) C 2 dX9_doByDraws_130 rfl ?_
      refine sf_iload_n (pc := 131) C 3 dX9_doByDraws_131 rfl ?_
      obtain ⟨s132, e132, h⟩ := sf_ob h
      refine sf_callVv (pc := 132) C (As := [.int x2, .int x3]) nk_16 sh_16 rfl yk_X3_putDown cl_9_238 (k3_putDown sf_L0 e132) (by decide) rfl (Nat.le_of_ble_eq_true rfl) rfl dX9_doByDraws_132 ?_
      exact sf_vretW (pc := 135) C dX9_doByDraws_135 h
set_option maxHeartbeats 4000000 in
set_option maxRecDepth 100000 in
theorem w9_doByDraws_b80 {X : sf_X} {V : sf_V} {s' : sf_Sg} (C : sf_C X V cX9_doByDraws 4 RX9 none 2) {s : sf_Sg} {x1 : Int32} {x2 : Int32} {x3 : Int32} (h : f9_doByDraws_b80 s x1 x2 x3 = some s') : sf_G X V 4 (sf_Q X V (sf_Qv V s')) s 80 [(0, .ref (V.2.1 0)), (1, .int x1), (2, .int x2), (3, .int x3)] [] := by
  unfold f9_doByDraws_b80 at h
  refine sf_iload_n (pc := 80) C 1 dX9_doByDraws_80 rfl ?_
  refine sf_iconst (v := 1) (pc := 81) C dX9_doByDraws_81 (by decide) ?_
  refine sf_icmp_ne (tgt := 109) (pc := 82) C dX9_doByDraws_82 rfl (fun c82 => ?_) (fun c82 => ?_)
  · replace h := (if_neg c82).symm.trans h
    exact w9_doByDraws_b109 C h
  · replace h := (if_pos c82).symm.trans h
    refine sf_aload_n (pc := 85) C 0 dX9_doByDraws_85 rfl ?_
    refine sf_getr (pc := 86) C nk_0 sh_0 rfl fl_9_38 dX9_doByDraws_86 ?_
    refine sf_iload_n (pc := 89) C 2 dX9_doByDraws_89 rfl ?_
    refine sf_iload_n (pc := 90) C 3 dX9_doByDraws_90 rfl ?_
    obtain ⟨v91, e91, h⟩ := sf_ob h
    refine sf_callVi (pc := 91) C (As := [.int x2, .int x3]) nk_16 sh_16 rfl yk_X3_canJoin cl_9_228 (k3_canJoin sf_L0 e91) (by decide) rfl (Nat.le_of_ble_eq_true rfl) rfl dX9_doByDraws_91 ?_
    refine sf_if_eq (tgt := 109) (pc := 94) C dX9_doByDraws_94 rfl (fun c94 => ?_) (fun c94 => ?_)
    · replace h := (if_pos c94).symm.trans h
      exact w9_doByDraws_b109 C h
    · replace h := (if_neg c94).symm.trans h
      refine sf_aload_n (pc := 97) C 0 dX9_doByDraws_97 rfl ?_
      refine sf_getr (pc := 98) C nk_0 sh_0 rfl fl_9_38 dX9_doByDraws_98 ?_
      refine sf_iload_n (pc := 101) C 2 dX9_doByDraws_101 rfl ?_
      refine sf_iload_n (pc := 102) C 3 dX9_doByDraws_102 rfl ?_
      obtain ⟨s103, e103, h⟩ := sf_ob h
      refine sf_callVv (pc := 103) C (As := [.int x2, .int x3]) nk_16 sh_16 rfl yk_X3_join cl_9_232 (k3_join sf_L0 e103) (by decide) rfl (Nat.le_of_ble_eq_true rfl) rfl dX9_doByDraws_103 ?_
      refine sf_goto (tgt := 135) (pc := 106) C dX9_doByDraws_106 rfl ?_
      exact sf_vretW (pc := 135) C dX9_doByDraws_135 h
set_option maxHeartbeats 4000000 in
set_option maxRecDepth 100000 in
theorem w9_doByDraws_b0 {X : sf_X} {V : sf_V} {s' : sf_Sg} (C : sf_C X V cX9_doByDraws 4 RX9 none 2) {s : sf_Sg} (h : f9_doByDraws_b0 s = some s') : sf_G X V 4 (sf_Q X V (sf_Qv V s')) s 0 [(0, .ref (V.2.1 0))] [] := by
  unfold f9_doByDraws_b0 at h
  refine sf_aload_n (pc := 0) C 0 dX9_doByDraws_0 rfl ?_
  refine sf_getr (pc := 1) C nk_0 sh_0 rfl fl_9_33 dX9_doByDraws_1 ?_
  refine sf_get (pc := 4) C nk_10 sh_10 rfl fl_9_119 dX9_doByDraws_4 ?_
  refine sf_iconst (v := 1) (pc := 7) C dX9_doByDraws_7 (by decide) ?_
  refine sf_icmp_lt (tgt := 22) (pc := 8) C dX9_doByDraws_8 rfl (fun c8 => ?_) (fun c8 => ?_)
  · replace h := (if_pos c8).symm.trans h
    exact sf_vretW (pc := 22) C dX9_doByDraws_22 h
  · replace h := (if_neg c8).symm.trans h
    refine sf_aload_n (pc := 11) C 0 dX9_doByDraws_11 rfl ?_
    refine sf_getr (pc := 12) C nk_0 sh_0 rfl fl_9_33 dX9_doByDraws_12 ?_
    refine sf_get (pc := 15) C nk_10 sh_10 rfl fl_9_125 dX9_doByDraws_15 ?_
    refine sf_iconst (v := 1) (pc := 18) C dX9_doByDraws_18 (by decide) ?_
    refine sf_icmp_ge (tgt := 23) (pc := 19) C dX9_doByDraws_19 rfl (fun c19 => ?_) (fun c19 => ?_)
    · replace h := (if_pos c19).symm.trans h
      refine sf_aload_n (pc := 23) C 0 dX9_doByDraws_23 rfl ?_
      refine sf_iconst (v := 4) (pc := 24) C dX9_doByDraws_24 (by decide) ?_
      obtain ⟨q25, e25, h⟩ := sf_ob h
      refine sf_callVi (pc := 25) C (As := [.int (4 : Int32)]) nk_0 sh_0 rfl yk_X9_draw cl_9_337 (k9_draw e25) (by decide) rfl (Nat.le_of_ble_eq_true rfl) rfl dX9_doByDraws_25 ?_
      refine sf_istore_n (lv' := [(1, .int q25.1), (0, .ref (V.2.1 0))]) (pc := 28) C dX9_doByDraws_28 (by decide) rfl ?_
      refine sf_aload_n (pc := 29) C 1 dX9_doByDraws_29 rfl ?_
      refine sf_aload_n (pc := 30) C 1 dX9_doByDraws_30 rfl ?_
      refine sf_getr (pc := 31) C nk_0 sh_0 rfl fl_9_33 dX9_doByDraws_31 ?_
      refine sf_get (pc := 34) C nk_10 sh_10 rfl fl_9_119 dX9_doByDraws_34 ?_
      obtain ⟨q37, e37, h⟩ := sf_ob h
      refine sf_callVi (pc := 37) C (As := [.int (q25.2 10 2)]) nk_0 sh_0 rfl yk_X9_draw cl_9_337 (k9_draw e37) (by decide) rfl (Nat.le_of_ble_eq_true rfl) rfl dX9_doByDraws_37 ?_
      refine sf_istore_n (lv' := [(2, .int q37.1), (1, .int q25.1), (0, .ref (V.2.1 0))]) (pc := 40) C dX9_doByDraws_40 (by decide) rfl ?_
      refine sf_aload_n (pc := 41) C 2 dX9_doByDraws_41 rfl ?_
      refine sf_aload_n (pc := 42) C 2 dX9_doByDraws_42 rfl ?_
      refine sf_getr (pc := 43) C nk_0 sh_0 rfl fl_9_33 dX9_doByDraws_43 ?_
      refine sf_get (pc := 46) C nk_10 sh_10 rfl fl_9_125 dX9_doByDraws_46 ?_
      obtain ⟨q49, e49, h⟩ := sf_ob h
      refine sf_callVi (pc := 49) C (As := [.int (q37.2 10 3)]) nk_0 sh_0 rfl yk_X9_draw cl_9_337 (k9_draw e49) (by decide) rfl (Nat.le_of_ble_eq_true rfl) rfl dX9_doByDraws_49 ?_
      refine sf_istore_n (lv' := [(3, .int q49.1), (2, .int q37.1), (1, .int q25.1), (0, .ref (V.2.1 0))]) (pc := 52) C dX9_doByDraws_52 (by decide) rfl ?_
      refine sf_iload_n (pc := 53) C 2 dX9_doByDraws_53 rfl ?_
      refine sf_if_ne (tgt := 80) (pc := 54) C dX9_doByDraws_54 rfl (fun c54 => ?_) (fun c54 => ?_)
      · replace h := (if_neg c54).symm.trans h
        refine sf_sub [3, 2, 1, 0] rfl ?_
        exact w9_doByDraws_b80 C h
      · replace h := (if_pos c54).symm.trans h
        refine sf_aload_n (pc := 57) C 3 dX9_doByDraws_57 rfl ?_
        refine sf_getr (pc := 58) C nk_0 sh_0 rfl fl_9_38 dX9_doByDraws_58 ?_
        refine sf_iload_n (pc := 61) C 1 dX9_doByDraws_61 rfl ?_
        obtain ⟨v62, e62, h⟩ := sf_ob h
        refine sf_callVi (pc := 62) C (As := [.int q37.1]) nk_16 sh_16 rfl yk_X3_isCarried cl_9_220 (k3_isCarried sf_L0 e62) (by decide) rfl (Nat.le_of_ble_eq_true rfl) rfl dX9_doByDraws_62 ?_
        refine sf_if_ne (tgt := 80) (pc := 65) C dX9_doByDraws_65 rfl (fun c65 => ?_) (fun c65 => ?_)
        · replace h := (if_neg c65).symm.trans h
          refine sf_sub [3, 2, 1, 0] rfl ?_
          exact w9_doByDraws_b80 C h
        · replace h := (if_pos c65).symm.trans h
          refine sf_aload_n (pc := 68) C 3 dX9_doByDraws_68 rfl ?_
          refine sf_getr (pc := 69) C nk_0 sh_0 rfl fl_9_38 dX9_doByDraws_69 ?_
          refine sf_iload_n (pc := 72) C 1 dX9_doByDraws_72 rfl ?_
          refine sf_iload_n (pc := 73) C 0 dX9_doByDraws_73 rfl ?_
          obtain ⟨s74, e74, h⟩ := sf_ob h
          refine sf_callVv (pc := 74) C (As := [.int q37.1, .int q49.1]) nk_16 sh_16 rfl yk_X3_putOn cl_9_224 (k3_putOn sf_L0 e74) (by decide) rfl (Nat.le_of_ble_eq_true rfl) rfl dX9_doByDraws_74 ?_
          refine sf_goto (tgt := 135) (pc := 77) C dX9_doByDraws_77 rfl ?_
          exact sf_vretW (pc := 135) C dX9_doByDraws_135 h
    · replace h := (if_neg c19).symm.trans h
      exact sf_vretW (pc := 22) C dX9_doByDraws_22 h
set_option maxHeartbeats 4000000 in
set_option maxRecDepth 100000 in
theorem k9_doByDraws {l : Launch} {V : sf_V} {s : sf_Sg} {s' : sf_Sg} (h : f9_doByDraws s = some s') : sf_M l V yX9_doByDraws (.code yX9_doByDraws cX9_doByDraws 4 none) 2 [.ref (V.2.1 0)] s (sf_Qv V s') := by
  refine sf_enter (by decide) (Nat.le_of_ble_eq_true rfl) (fun X hX C => ?_)
  refine sf_sub [0] rfl ?_
  exact w9_doByDraws_b0 (show sf_C X V cX9_doByDraws 4 RX9 none 2 from C)  h
set_option maxHeartbeats 4000000 in
set_option maxRecDepth 100000 in
theorem w9_drift_b47 {X : sf_X} {V : sf_V} {r : Int32} {s' : sf_Sg} (C : sf_C X V cX9_drift 4 RX9 (some .int) 5) {s : sf_Sg} (h : f9_drift_b47 s = some (r, s')) : sf_G X V 4 (sf_Q X V (sf_Qi V r s')) s 47 [(0, .ref (V.2.1 0))] [] := by
  unfold f9_drift_b47 at h
  refine sf_aload_n (pc := 47) C 0 dX9_drift_47 rfl ?_
  refine sf_getr (pc := 48) C nk_0 sh_0 rfl fl_9_26 dX9_drift_48 ?_
  obtain ⟨v51, e51, h⟩ := sf_ob h
  refine sf_callVi (pc := 51) C (As := []) nk_9 sh_9 rfl yk_X6_galled cl_9_134 (k6_galled e51) (by decide) rfl (Nat.le_of_ble_eq_true rfl) rfl dX9_drift_51 ?_
  exact sf_iretW (pc := 54) C dX9_drift_54 h
set_option maxHeartbeats 4000000 in
set_option maxRecDepth 100000 in
theorem w9_drift_b25 {X : sf_X} {V : sf_V} {r : Int32} {s' : sf_Sg} {k25 : sf_Sg → Int32 → Int32 → Option (Int32 × sf_Sg)} (C : sf_C X V cX9_drift 4 RX9 (some .int) 5) (hk25 : ∀  (s : sf_Sg) (x1 : Int32) (x3 : Int32), k25 s x1 x3 = some (r, s') → sf_G X V 4 (sf_Q X V (sf_Qi V r s')) s 25 [(0, .ref (V.2.1 0)), (1, .int x1), (3, .int x3)] []) {s : sf_Sg} {x1 : Int32} {x3 : Int32} (h : f9_drift_b25 k25 s x1 x3 = some (r, s')) : sf_G X V 4 (sf_Q X V (sf_Qi V r s')) s 25 [(0, .ref (V.2.1 0)), (1, .int x1), (3, .int x3)] [] := by
  unfold f9_drift_b25 at h
  refine sf_iload_n (pc := 25) C 2 dX9_drift_25 rfl ?_
  refine sf_iload_n (pc := 26) C 1 dX9_drift_26 rfl ?_
  refine sf_icmp_ge (tgt := 47) (pc := 27) C dX9_drift_27 rfl (fun c27 => ?_) (fun c27 => ?_)
  · replace h := (if_pos c27).symm.trans h
    refine sf_sub [0] rfl ?_
    exact w9_drift_b47 C h
  · replace h := (if_neg c27).symm.trans h
    refine sf_aload_n (pc := 30) C 0 dX9_drift_30 rfl ?_
    obtain ⟨s31, e31, h⟩ := sf_ob h
    refine sf_callVv (pc := 31) C (As := []) nk_0 sh_0 rfl yk_X9_doByDraws cl_9_248 (k9_doByDraws e31) (by decide) rfl (Nat.le_of_ble_eq_true rfl) rfl dX9_drift_31 ?_
    refine sf_aload_n (pc := 34) C 0 dX9_drift_34 rfl ?_
    refine sf_getr (pc := 35) C nk_0 sh_0 rfl fl_9_26 dX9_drift_35 ?_
    obtain ⟨s38, e38, h⟩ := sf_ob h
    refine sf_callVv (pc := 38) C (As := []) nk_9 sh_9 rfl yk_X6_passDay cl_9_217 (k6_passDay e38) (by decide) rfl (Nat.le_of_ble_eq_true rfl) rfl dX9_drift_38 ?_
    refine sf_iinc (v := (x3 + 1)) (lv' := [(3, .int (x3 + 1)), (0, .ref (V.2.1 0)), (1, .int x1)]) (pc := 41) C 2 dX9_drift_41 rfl rfl (by decide) rfl ?_
    refine sf_goto (tgt := 25) (pc := 44) C dX9_drift_44 rfl ?_
    refine sf_sub [1, 2, 0] rfl ?_
    exact hk25 _ _ _ h
set_option maxHeartbeats 4000000 in
set_option maxRecDepth 100000 in
theorem w9_drift_L25 {X : sf_X} {V : sf_V} {r : Int32} {s' : sf_Sg} (C : sf_C X V cX9_drift 4 RX9 (some .int) 5) : ∀  (s : sf_Sg) (x1 : Int32) (x3 : Int32), f9_drift_L25 s x1 x3 = some (r, s') → sf_G X V 4 (sf_Q X V (sf_Qi V r s')) s 25 [(0, .ref (V.2.1 0)), (1, .int x1), (3, .int x3)] [] :=
  sf_it_ind (fun (k : sf_Sg → Int32 → Int32 → Option (Int32 × sf_Sg)) => ∀  (s : sf_Sg) (x1 : Int32) (x3 : Int32), k s x1 x3 = some (r, s') → sf_G X V 4 (sf_Q X V (sf_Qi V r s')) s 25 [(0, .ref (V.2.1 0)), (1, .int x1), (3, .int x3)] []) _ _ (fun s x1 x3 h => by cases h) (fun k hk s x1 x3 h => w9_drift_b25 C hk h) _
set_option maxHeartbeats 4000000 in
set_option maxRecDepth 100000 in
theorem w9_drift_b0 {X : sf_X} {V : sf_V} {r : Int32} {s' : sf_Sg} (C : sf_C X V cX9_drift 4 RX9 (some .int) 5) {s : sf_Sg} {x1 : Int32} (h : f9_drift_b0 s x1 = some (r, s')) : sf_G X V 4 (sf_Q X V (sf_Qi V r s')) s 0 [(0, .ref (V.2.1 0)), (1, .int x1)] [] := by
  unfold f9_drift_b0 at h
  refine sf_aload_n (pc := 0) C 0 dX9_drift_0 rfl ?_
  refine sf_iload_n (pc := 1) C 1 dX9_drift_1 rfl ?_
  refine sf_callVi (pc := 2) C (As := [.int x1]) nk_0 sh_0 rfl yk_X9_refusalOfDays cl_9_211 (k9_refusalOfDays rfl) (by decide) rfl (Nat.le_of_ble_eq_true rfl) rfl dX9_drift_2 ?_
  refine sf_istore_n (lv' := [(2, .int (f9_refusalOfDays s x1)), (0, .ref (V.2.1 0)), (1, .int x1)]) (pc := 5) C dX9_drift_5 (by decide) rfl ?_
  refine sf_iload_n (pc := 6) C 0 dX9_drift_6 rfl ?_
  refine sf_if_eq (tgt := 12) (pc := 7) C dX9_drift_7 rfl (fun c7 => ?_) (fun c7 => ?_)
  · replace h := (if_pos c7).symm.trans h
    refine sf_aload_n (pc := 12) C 1 dX9_drift_12 rfl ?_
    refine sf_getr (pc := 13) C nk_0 sh_0 rfl fl_9_56 dX9_drift_13 ?_
    refine sf_aload_n (pc := 16) C 1 dX9_drift_16 rfl ?_
    refine sf_getr (pc := 17) C nk_0 sh_0 rfl fl_9_38 dX9_drift_17 ?_
    obtain ⟨s20, e20, h⟩ := sf_ob h
    refine sf_callVv (pc := 20) C (As := [.ref (V.2.1 16)]) nk_27 sh_27 rfl yk_X4_add cl_9_214 (k4_add sf_L0 e20) (by decide) rfl (Nat.le_of_ble_eq_true rfl) rfl dX9_drift_20 ?_
    refine sf_iconst (v := 0) (pc := 23) C dX9_drift_23 (by decide) ?_
    refine sf_istore_n (lv' := [(3, .int (0 : Int32)), (2, .int (f9_refusalOfDays s x1)), (0, .ref (V.2.1 0)), (1, .int x1)]) (pc := 24) C dX9_drift_24 (by decide) rfl ?_
    refine sf_sub [2, 3, 0] rfl ?_
    exact w9_drift_L25 C _ _ _ h
  · replace h := (if_neg c7).symm.trans h
    refine sf_iload_n (pc := 10) C 0 dX9_drift_10 rfl ?_
    exact sf_iretW (pc := 11) C dX9_drift_11 h
set_option maxHeartbeats 4000000 in
set_option maxRecDepth 100000 in
theorem k9_drift {l : Launch} {V : sf_V} {s : sf_Sg} {x1 : Int32} {r : Int32} {s' : sf_Sg} (h : f9_drift s x1 = some (r, s')) : sf_M l V yX9_drift (.code yX9_drift cX9_drift 4 (some .int)) 5 [.ref (V.2.1 0), .int x1] s (sf_Qi V r s') := by
  refine sf_enter (by decide) (Nat.le_of_ble_eq_true rfl) (fun X hX C => ?_)
  refine sf_sub [0, 1] rfl ?_
  exact w9_drift_b0 (show sf_C X V cX9_drift 4 RX9 (some .int) 5 from C)  h
set_option maxHeartbeats 4000000 in
set_option maxRecDepth 100000 in
theorem w4_takeBackInto_b0 {X : sf_X} {V : sf_V} {c1 : Nat} (hc1 : sf_isL c1) {r : Int32} {s' : sf_Sg} (C : sf_C X V cX4_takeBackInto 2 RX4 (some .boolean) 1) {s : sf_Sg} (h : f4_takeBackInto_b0 c1 s = some (r, s')) : sf_G X V 2 (sf_Q X V (sf_Qi V r s')) s 0 [(0, .ref (V.2.1 27)), (1, .ref (V.2.1 c1))] [] := by
  unfold f4_takeBackInto_b0 at h
  refine sf_aload_n (pc := 0) C 0 dX4_takeBackInto_0 rfl ?_
  refine sf_get (pc := 1) C nk_27 sh_27 rfl fl_4_18 dX4_takeBackInto_1 ?_
  refine sf_iconst (v := 1) (pc := 4) C dX4_takeBackInto_4 (by decide) ?_
  refine sf_icmp_ge (tgt := 10) (pc := 5) C dX4_takeBackInto_5 rfl (fun c5 => ?_) (fun c5 => ?_)
  · replace h := (if_pos c5).symm.trans h
    refine sf_aload_n (pc := 10) C 0 dX4_takeBackInto_10 rfl ?_
    refine sf_aload_n (pc := 11) C 0 dX4_takeBackInto_11 rfl ?_
    refine sf_get (pc := 12) C nk_27 sh_27 rfl fl_4_22 dX4_takeBackInto_12 ?_
    refine sf_bipush (v := 16) (pc := 15) C dX4_takeBackInto_15 (by decide) ?_
    refine sf_iadd (pc := 17) C dX4_takeBackInto_17 ?_
    refine sf_iconst (v := 1) (pc := 18) C dX4_takeBackInto_18 (by decide) ?_
    refine sf_isub (pc := 19) C dX4_takeBackInto_19 ?_
    refine sf_bipush (v := 16) (pc := 20) C dX4_takeBackInto_20 (by decide) ?_
    refine sf_irem (pc := 22) C dX4_takeBackInto_22 (by decide) ?_
    refine sf_put (pc := 23) C nk_27 sh_27 rfl fw_4_22 rfl rfl dX4_takeBackInto_23 ?_
    refine sf_aload_n (pc := 26) C 1 dX4_takeBackInto_26 rfl ?_
    refine sf_aload_n (pc := 27) C 0 dX4_takeBackInto_27 rfl ?_
    refine sf_getr (pc := 28) C nk_27 sh_27 rfl fl_4_11 dX4_takeBackInto_28 ?_
    refine sf_aload_n (pc := 31) C 0 dX4_takeBackInto_31 rfl ?_
    refine sf_get (pc := 32) C nk_27 sh_27 rfl fl_4_22 dX4_takeBackInto_32 ?_
    obtain ⟨j35, e35, h⟩ := sf_ob h
    refine sf_aald (pc := 35) C nk_28 sh_28 e35 dX4_takeBackInto_35 ?_
    obtain ⟨s36, e36, h⟩ := sf_ob h
    refine sf_callVv (pc := 36) C (As := [.ref (V.2.1 (29 + 6 * j35))]) (sf_kL0 hc1) (sf_shL hc1).1.1 rfl yk_X3_copyFrom cl_4_25 (k3_copyFrom hc1 (sf_Lp (sf_ix_of e35).2.2) e36) (by decide) rfl (Nat.le_of_ble_eq_true rfl) rfl dX4_takeBackInto_36 ?_
    refine sf_aload_n (pc := 39) C 0 dX4_takeBackInto_39 rfl ?_
    refine sf_dup (pc := 40) C dX4_takeBackInto_40 rfl ?_
    refine sf_get (pc := 41) C nk_27 sh_27 rfl fl_4_18 dX4_takeBackInto_41 ?_
    refine sf_iconst (v := 1) (pc := 44) C dX4_takeBackInto_44 (by decide) ?_
    refine sf_isub (pc := 45) C dX4_takeBackInto_45 ?_
    refine sf_put (pc := 46) C nk_27 sh_27 rfl fw_4_18 rfl rfl dX4_takeBackInto_46 ?_
    refine sf_iconst (v := 1) (pc := 49) C dX4_takeBackInto_49 (by decide) ?_
    exact sf_zretW (pc := 50) C (by first | rfl | exact sf_nb_in _ _ _) dX4_takeBackInto_50 h
  · replace h := (if_neg c5).symm.trans h
    refine sf_iconst (v := 0) (pc := 8) C dX4_takeBackInto_8 (by decide) ?_
    exact sf_zretW (pc := 9) C (by first | rfl | exact sf_nb_in _ _ _) dX4_takeBackInto_9 h
set_option maxHeartbeats 4000000 in
set_option maxRecDepth 100000 in
theorem k4_takeBackInto {l : Launch} {V : sf_V} {c1 : Nat} (hc1 : sf_isL c1) {s : sf_Sg} {r : Int32} {s' : sf_Sg} (h : f4_takeBackInto c1 s = some (r, s')) : sf_M l V yX4_takeBackInto (.code yX4_takeBackInto cX4_takeBackInto 2 (some .boolean)) 1 [.ref (V.2.1 27), .ref (V.2.1 c1)] s (sf_Qi V r s') := by
  refine sf_enter (by decide) (Nat.le_of_ble_eq_true rfl) (fun X hX C => ?_)
  refine sf_sub [0, 1] rfl ?_
  exact w4_takeBackInto_b0 hc1 (show sf_C X V cX4_takeBackInto 2 RX4 (some .boolean) 1 from C)  h
set_option maxHeartbeats 4000000 in
set_option maxRecDepth 100000 in
theorem w9_undo_b0 {X : sf_X} {V : sf_V} {r : Int32} {s' : sf_Sg} (C : sf_C X V cX9_undo 1 RX9 (some .int) 2) {s : sf_Sg} (h : f9_undo_b0 s = some (r, s')) : sf_G X V 1 (sf_Q X V (sf_Qi V r s')) s 0 [(0, .ref (V.2.1 0))] [] := by
  unfold f9_undo_b0 at h
  refine sf_aload_n (pc := 0) C 0 dX9_undo_0 rfl ?_
  refine sf_getr (pc := 1) C nk_0 sh_0 rfl fl_9_56 dX9_undo_1 ?_
  refine sf_aload_n (pc := 4) C 0 dX9_undo_4 rfl ?_
  refine sf_getr (pc := 5) C nk_0 sh_0 rfl fl_9_38 dX9_undo_5 ?_
  obtain ⟨q8, e8, h⟩ := sf_ob h
  refine sf_callVi (pc := 8) C (As := [.ref (V.2.1 16)]) nk_27 sh_27 rfl yk_X4_takeBackInto cl_9_251 (k4_takeBackInto sf_L0 e8) (by decide) rfl (Nat.le_of_ble_eq_true rfl) rfl dX9_undo_8 ?_
  refine sf_if_eq (tgt := 24) (pc := 11) C dX9_undo_11 rfl (fun c11 => ?_) (fun c11 => ?_)
  · replace h := (if_pos c11).symm.trans h
    refine sf_ldc (v := -1000000003) (pc := 24) C dX9_undo_24 tm_532 ?_
    exact sf_iretW (pc := 26) C dX9_undo_26 h
  · replace h := (if_neg c11).symm.trans h
    refine sf_aload_n (pc := 14) C 0 dX9_undo_14 rfl ?_
    refine sf_getr (pc := 15) C nk_0 sh_0 rfl fl_9_56 dX9_undo_15 ?_
    refine sf_get (pc := 18) C nk_27 sh_27 rfl fl_9_158 dX9_undo_18 ?_
    refine sf_goto (tgt := 26) (pc := 21) C dX9_undo_21 rfl ?_
    exact sf_iretW (pc := 26) C dX9_undo_26 h
set_option maxHeartbeats 4000000 in
set_option maxRecDepth 100000 in
theorem k9_undo {l : Launch} {V : sf_V} {s : sf_Sg} {r : Int32} {s' : sf_Sg} (h : f9_undo s = some (r, s')) : sf_M l V yX9_undo (.code yX9_undo cX9_undo 1 (some .int)) 2 [.ref (V.2.1 0)] s (sf_Qi V r s') := by
  refine sf_enter (by decide) (Nat.le_of_ble_eq_true rfl) (fun X hX C => ?_)
  refine sf_sub [0] rfl ?_
  exact w9_undo_b0 (show sf_C X V cX9_undo 1 RX9 (some .int) 2 from C)  h
set_option maxHeartbeats 4000000 in
set_option maxRecDepth 100000 in
theorem w6_soreBehind_b20 {X : sf_X} {V : sf_V} {s : sf_Sg} {r : Int32} {k20 : Int32 → Int32 → Int32 → Int32 → Int32 → Option Int32} (C : sf_C X V cX6_soreBehind 6 RX6 (some .int) 4) (hk20 : ∀  (x1 : Int32) (x2 : Int32) (x3 : Int32) (x4 : Int32) (x5 : Int32), k20 x1 x2 x3 x4 x5 = some r → sf_G X V 6 (sf_Q X V (sf_Qi V r s)) s 20 [(0, .ref (V.2.1 9)), (1, .int x1), (2, .int x2), (3, .int x3), (4, .int x4), (5, .int x5)] []) {x1 : Int32} {x2 : Int32} {x3 : Int32} {x4 : Int32} {x5 : Int32} (h : f6_soreBehind_b20 s k20 x1 x2 x3 x4 x5 = some r) : sf_G X V 6 (sf_Q X V (sf_Qi V r s)) s 20 [(0, .ref (V.2.1 9)), (1, .int x1), (2, .int x2), (3, .int x3), (4, .int x4), (5, .int x5)] [] := by
  unfold f6_soreBehind_b20 at h
  refine sf_iload (pc := 20) C 5 dX6_soreBehind_20 rfl ?_
  refine sf_iload_n (pc := 22) C 2 dX6_soreBehind_22 rfl ?_
  refine sf_icmp_ge (tgt := 52) (pc := 23) C dX6_soreBehind_23 rfl (fun c23 => ?_) (fun c23 => ?_)
  · replace h := (if_pos c23).symm.trans h
    refine sf_iload (pc := 52) C 4 dX6_soreBehind_52 rfl ?_
    exact sf_iretR (pc := 54) C dX6_soreBehind_54 h
  · replace h := (if_neg c23).symm.trans h
    refine sf_aload_n (pc := 26) C 0 dX6_soreBehind_26 rfl ?_
    refine sf_iload_n (pc := 27) C 1 dX6_soreBehind_27 rfl ?_
    refine sf_iload (pc := 28) C 4 dX6_soreBehind_28 rfl ?_
    refine sf_iload_n (pc := 30) C 3 dX6_soreBehind_30 rfl ?_
    refine sf_aload_n (pc := 31) C 0 dX6_soreBehind_31 rfl ?_
    refine sf_getr (pc := 32) C nk_9 sh_9 rfl fl_6_21 dX6_soreBehind_32 ?_
    refine sf_get (pc := 35) C nk_16 sh_16 rfl fl_6_91 dX6_soreBehind_35 ?_
    refine sf_iload (pc := 38) C 5 dX6_soreBehind_38 rfl ?_
    refine sf_iadd (pc := 40) C dX6_soreBehind_40 ?_
    obtain ⟨v41, e41, h⟩ := sf_ob h
    refine sf_callVi (pc := 41) C (As := [.int x1, .int x4, .int x3, .int ((s 16 0) + x5)]) nk_9 sh_9 rfl yk_X6_soreBehindDay cl_6_104 (k6_soreBehindDay e41) (by decide) rfl (Nat.le_of_ble_eq_true rfl) rfl dX6_soreBehind_41 ?_
    refine sf_istore (lv' := [(4, .int v41), (0, .ref (V.2.1 9)), (1, .int x1), (2, .int x2), (3, .int x3), (5, .int x5)]) (pc := 44) C dX6_soreBehind_44 (by decide) rfl ?_
    refine sf_iinc (v := (x5 + 1)) (lv' := [(5, .int (x5 + 1)), (4, .int v41), (0, .ref (V.2.1 9)), (1, .int x1), (2, .int x2), (3, .int x3)]) (pc := 46) C 5 dX6_soreBehind_46 rfl rfl (by decide) rfl ?_
    refine sf_goto (tgt := 20) (pc := 49) C dX6_soreBehind_49 rfl ?_
    refine sf_sub [2, 3, 4, 5, 1, 0] rfl ?_
    exact hk20 _ _ _ _ _ h
set_option maxHeartbeats 4000000 in
set_option maxRecDepth 100000 in
theorem w6_soreBehind_L20 {X : sf_X} {V : sf_V} {s : sf_Sg} {r : Int32} (C : sf_C X V cX6_soreBehind 6 RX6 (some .int) 4) : ∀  (x1 : Int32) (x2 : Int32) (x3 : Int32) (x4 : Int32) (x5 : Int32), f6_soreBehind_L20 s x1 x2 x3 x4 x5 = some r → sf_G X V 6 (sf_Q X V (sf_Qi V r s)) s 20 [(0, .ref (V.2.1 9)), (1, .int x1), (2, .int x2), (3, .int x3), (4, .int x4), (5, .int x5)] [] :=
  sf_it_ind (fun (k : Int32 → Int32 → Int32 → Int32 → Int32 → Option Int32) => ∀  (x1 : Int32) (x2 : Int32) (x3 : Int32) (x4 : Int32) (x5 : Int32), k x1 x2 x3 x4 x5 = some r → sf_G X V 6 (sf_Q X V (sf_Qi V r s)) s 20 [(0, .ref (V.2.1 9)), (1, .int x1), (2, .int x2), (3, .int x3), (4, .int x4), (5, .int x5)] []) _ _ (fun x1 x2 x3 x4 x5 h => by cases h) (fun k hk x1 x2 x3 x4 x5 h => w6_soreBehind_b20 C hk h) _
set_option maxHeartbeats 4000000 in
set_option maxRecDepth 100000 in
theorem w6_soreBehind_b0 {X : sf_X} {V : sf_V} {s : sf_Sg} {r : Int32} (C : sf_C X V cX6_soreBehind 6 RX6 (some .int) 4) {x1 : Int32} {x2 : Int32} (h : f6_soreBehind_b0 s x1 x2 = some r) : sf_G X V 6 (sf_Q X V (sf_Qi V r s)) s 0 [(0, .ref (V.2.1 9)), (1, .int x1), (2, .int x2)] [] := by
  unfold f6_soreBehind_b0 at h
  refine sf_aload_n (pc := 0) C 0 dX6_soreBehind_0 rfl ?_
  refine sf_iload_n (pc := 1) C 1 dX6_soreBehind_1 rfl ?_
  obtain ⟨v2, e2, h⟩ := sf_ob h
  refine sf_callVi (pc := 2) C (As := [.int x1]) nk_9 sh_9 rfl yk_X6_carriedBy cl_6_47 (k6_carriedBy e2) (by decide) rfl (Nat.le_of_ble_eq_true rfl) rfl dX6_soreBehind_2 ?_
  refine sf_istore_n (lv' := [(3, .int v2), (0, .ref (V.2.1 9)), (1, .int x1), (2, .int x2)]) (pc := 5) C dX6_soreBehind_5 (by decide) rfl ?_
  refine sf_aload_n (pc := 6) C 1 dX6_soreBehind_6 rfl ?_
  refine sf_getr (pc := 7) C nk_9 sh_9 rfl fl_6_21 dX6_soreBehind_7 ?_
  refine sf_getr (pc := 10) C nk_16 sh_16 rfl fl_6_98 dX6_soreBehind_10 ?_
  refine sf_iload_n (pc := 13) C 2 dX6_soreBehind_13 rfl ?_
  obtain ⟨v14, e14, h⟩ := sf_ob h
  refine sf_iald (pc := 14) C nk_21 sh_21 e14 dX6_soreBehind_14 ?_
  refine sf_istore (lv' := [(4, .int v14), (3, .int v2), (0, .ref (V.2.1 9)), (1, .int x1), (2, .int x2)]) (pc := 15) C dX6_soreBehind_15 (by decide) rfl ?_
  refine sf_iconst (v := 0) (pc := 17) C dX6_soreBehind_17 (by decide) ?_
  refine sf_istore (lv' := [(5, .int (0 : Int32)), (4, .int v14), (3, .int v2), (0, .ref (V.2.1 9)), (1, .int x1), (2, .int x2)]) (pc := 18) C dX6_soreBehind_18 (by decide) rfl ?_
  refine sf_sub [3, 4, 5, 2, 1, 0] rfl ?_
  exact w6_soreBehind_L20 C _ _ _ _ _ h
set_option maxHeartbeats 4000000 in
set_option maxRecDepth 100000 in
theorem k6_soreBehind {l : Launch} {V : sf_V} {s : sf_Sg} {x1 : Int32} {x2 : Int32} {r : Int32} (h : f6_soreBehind s x1 x2 = some r) : sf_M l V yX6_soreBehind (.code yX6_soreBehind cX6_soreBehind 6 (some .int)) 4 [.ref (V.2.1 9), .int x1, .int x2] s (sf_Qi V r s) := by
  refine sf_enter (by decide) (Nat.le_of_ble_eq_true rfl) (fun X hX C => ?_)
  refine sf_sub [0, 1, 2] rfl ?_
  exact w6_soreBehind_b0 (show sf_C X V cX6_soreBehind 6 RX6 (some .int) 4 from C)  h
set_option maxHeartbeats 4000000 in
set_option maxRecDepth 100000 in
theorem w9_sore_b0 {X : sf_X} {V : sf_V} {s : sf_Sg} {r : Int32} (C : sf_C X V cX9_sore 3 RX9 (some .int) 5) {x1 : Int32} {x2 : Int32} (h : f9_sore_b0 s x1 x2 = some r) : sf_G X V 3 (sf_Q X V (sf_Qi V r s)) s 0 [(0, .ref (V.2.1 0)), (1, .int x1), (2, .int x2)] [] := by
  unfold f9_sore_b0 at h
  refine sf_aload_n (pc := 0) C 0 dX9_sore_0 rfl ?_
  refine sf_getr (pc := 1) C nk_0 sh_0 rfl fl_9_33 dX9_sore_1 ?_
  refine sf_iload_n (pc := 4) C 1 dX9_sore_4 rfl ?_
  refine sf_callVi (pc := 5) C (As := [.int x1]) nk_10 sh_10 rfl yk_X7_hasBack cl_9_184 (k7_hasBack sf_S1 rfl) (by decide) rfl (Nat.le_of_ble_eq_true rfl) rfl dX9_sore_5 ?_
  refine sf_if_ne (tgt := 14) (pc := 8) C dX9_sore_8 rfl (fun c8 => ?_) (fun c8 => ?_)
  · replace h := (if_neg c8).symm.trans h
    refine sf_iload_n (pc := 14) C 2 dX9_sore_14 rfl ?_
    refine sf_iconst (v := 0) (pc := 15) C dX9_sore_15 (by decide) ?_
    refine sf_sipush (v := 200) (pc := 16) C dX9_sore_16 (by decide) ?_
    refine sf_callSi (pc := 19) C (As := [.int x2, .int (0 : Int32), .int (200 : Int32)]) yk_X9_within cl_9_89 (k9_within rfl) (by decide) rfl (Nat.le_of_ble_eq_true rfl) rfl dX9_sore_19 ?_
    refine sf_if_ne (tgt := 28) (pc := 22) C dX9_sore_22 rfl (fun c22 => ?_) (fun c22 => ?_)
    · replace h := (if_neg c22).symm.trans h
      refine sf_aload_n (pc := 28) C 0 dX9_sore_28 rfl ?_
      refine sf_getr (pc := 29) C nk_0 sh_0 rfl fl_9_26 dX9_sore_29 ?_
      refine sf_iload_n (pc := 32) C 1 dX9_sore_32 rfl ?_
      refine sf_iload_n (pc := 33) C 2 dX9_sore_33 rfl ?_
      obtain ⟨v34, e34, h⟩ := sf_ob h
      refine sf_callVi (pc := 34) C (As := [.int x1, .int x2]) nk_9 sh_9 rfl yk_X6_soreBehind cl_9_255 (k6_soreBehind e34) (by decide) rfl (Nat.le_of_ble_eq_true rfl) rfl dX9_sore_34 ?_
      exact sf_iretR (pc := 37) C dX9_sore_37 h
    · replace h := (if_pos c22).symm.trans h
      refine sf_ldc (v := -1000000002) (pc := 25) C dX9_sore_25 tm_334 ?_
      exact sf_iretR (pc := 27) C dX9_sore_27 h
  · replace h := (if_pos c8).symm.trans h
    refine sf_ldc (v := -1000000001) (pc := 11) C dX9_sore_11 tm_501 ?_
    exact sf_iretR (pc := 13) C dX9_sore_13 h
set_option maxHeartbeats 4000000 in
set_option maxRecDepth 100000 in
theorem k9_sore {l : Launch} {V : sf_V} {s : sf_Sg} {x1 : Int32} {x2 : Int32} {r : Int32} (h : f9_sore s x1 x2 = some r) : sf_M l V yX9_sore (.code yX9_sore cX9_sore 3 (some .int)) 5 [.ref (V.2.1 0), .int x1, .int x2] s (sf_Qi V r s) := by
  refine sf_enter (by decide) (Nat.le_of_ble_eq_true rfl) (fun X hX C => ?_)
  refine sf_sub [0, 1, 2] rfl ?_
  exact w9_sore_b0 (show sf_C X V cX9_sore 3 RX9 (some .int) 5 from C)  h
set_option maxHeartbeats 4000000 in
set_option maxRecDepth 100000 in
theorem w6_firstGalledBehind_b19 {X : sf_X} {V : sf_V} {s : sf_Sg} {r : Int32} {k19 : Int32 → Int32 → Int32 → Int32 → Option Int32} (C : sf_C X V cX6_firstGalledBehind 5 RX6 (some .int) 4) (hk19 : ∀  (x1 : Int32) (x2 : Int32) (x3 : Int32) (x4 : Int32), k19 x1 x2 x3 x4 = some r → sf_G X V 5 (sf_Q X V (sf_Qi V r s)) s 19 [(0, .ref (V.2.1 9)), (1, .int x1), (2, .int x2), (3, .int x3), (4, .int x4)] []) {x1 : Int32} {x2 : Int32} {x3 : Int32} {x4 : Int32} (h : f6_firstGalledBehind_b19 s k19 x1 x2 x3 x4 = some r) : sf_G X V 5 (sf_Q X V (sf_Qi V r s)) s 19 [(0, .ref (V.2.1 9)), (1, .int x1), (2, .int x2), (3, .int x3), (4, .int x4)] [] := by
  unfold f6_firstGalledBehind_b19 at h
  refine sf_iload (pc := 19) C 4 dX6_firstGalledBehind_19 rfl ?_
  refine sf_sipush (v := 200) (pc := 21) C dX6_firstGalledBehind_21 (by decide) ?_
  refine sf_icmp_gt (tgt := 60) (pc := 24) C dX6_firstGalledBehind_24 rfl (fun c24 => ?_) (fun c24 => ?_)
  · replace h := (if_pos c24).symm.trans h
    refine sf_iconst (v := -1) (pc := 60) C dX6_firstGalledBehind_60 (by decide) ?_
    exact sf_iretR (pc := 61) C dX6_firstGalledBehind_61 h
  · replace h := (if_neg c24).symm.trans h
    refine sf_iload_n (pc := 27) C 3 dX6_firstGalledBehind_27 rfl ?_
    refine sf_bipush (v := 20) (pc := 28) C dX6_firstGalledBehind_28 (by decide) ?_
    refine sf_icmp_lt (tgt := 36) (pc := 30) C dX6_firstGalledBehind_30 rfl (fun c30 => ?_) (fun c30 => ?_)
    · replace h := (if_pos c30).symm.trans h
      refine sf_aload_n (pc := 36) C 0 dX6_firstGalledBehind_36 rfl ?_
      refine sf_iload_n (pc := 37) C 1 dX6_firstGalledBehind_37 rfl ?_
      refine sf_iload_n (pc := 38) C 3 dX6_firstGalledBehind_38 rfl ?_
      refine sf_iload_n (pc := 39) C 2 dX6_firstGalledBehind_39 rfl ?_
      refine sf_aload_n (pc := 40) C 0 dX6_firstGalledBehind_40 rfl ?_
      refine sf_getr (pc := 41) C nk_9 sh_9 rfl fl_6_21 dX6_firstGalledBehind_41 ?_
      refine sf_get (pc := 44) C nk_16 sh_16 rfl fl_6_91 dX6_firstGalledBehind_44 ?_
      refine sf_iload (pc := 47) C 4 dX6_firstGalledBehind_47 rfl ?_
      refine sf_iadd (pc := 49) C dX6_firstGalledBehind_49 ?_
      obtain ⟨v50, e50, h⟩ := sf_ob h
      refine sf_callVi (pc := 50) C (As := [.int x1, .int x3, .int x2, .int ((s 16 0) + x4)]) nk_9 sh_9 rfl yk_X6_soreBehindDay cl_6_104 (k6_soreBehindDay e50) (by decide) rfl (Nat.le_of_ble_eq_true rfl) rfl dX6_firstGalledBehind_50 ?_
      refine sf_istore_n (lv' := [(3, .int v50), (0, .ref (V.2.1 9)), (1, .int x1), (2, .int x2), (4, .int x4)]) (pc := 53) C dX6_firstGalledBehind_53 (by decide) rfl ?_
      refine sf_iinc (v := (x4 + 1)) (lv' := [(4, .int (x4 + 1)), (3, .int v50), (0, .ref (V.2.1 9)), (1, .int x1), (2, .int x2)]) (pc := 54) C 4 dX6_firstGalledBehind_54 rfl rfl (by decide) rfl ?_
      refine sf_goto (tgt := 19) (pc := 57) C dX6_firstGalledBehind_57 rfl ?_
      refine sf_sub [2, 3, 4, 1, 0] rfl ?_
      exact hk19 _ _ _ _ h
    · replace h := (if_neg c30).symm.trans h
      refine sf_iload (pc := 33) C 4 dX6_firstGalledBehind_33 rfl ?_
      exact sf_iretR (pc := 35) C dX6_firstGalledBehind_35 h
set_option maxHeartbeats 4000000 in
set_option maxRecDepth 100000 in
theorem w6_firstGalledBehind_L19 {X : sf_X} {V : sf_V} {s : sf_Sg} {r : Int32} (C : sf_C X V cX6_firstGalledBehind 5 RX6 (some .int) 4) : ∀  (x1 : Int32) (x2 : Int32) (x3 : Int32) (x4 : Int32), f6_firstGalledBehind_L19 s x1 x2 x3 x4 = some r → sf_G X V 5 (sf_Q X V (sf_Qi V r s)) s 19 [(0, .ref (V.2.1 9)), (1, .int x1), (2, .int x2), (3, .int x3), (4, .int x4)] [] :=
  sf_it_ind (fun (k : Int32 → Int32 → Int32 → Int32 → Option Int32) => ∀  (x1 : Int32) (x2 : Int32) (x3 : Int32) (x4 : Int32), k x1 x2 x3 x4 = some r → sf_G X V 5 (sf_Q X V (sf_Qi V r s)) s 19 [(0, .ref (V.2.1 9)), (1, .int x1), (2, .int x2), (3, .int x3), (4, .int x4)] []) _ _ (fun x1 x2 x3 x4 h => by cases h) (fun k hk x1 x2 x3 x4 h => w6_firstGalledBehind_b19 C hk h) _
set_option maxHeartbeats 4000000 in
set_option maxRecDepth 100000 in
theorem w6_firstGalledBehind_b0 {X : sf_X} {V : sf_V} {s : sf_Sg} {r : Int32} (C : sf_C X V cX6_firstGalledBehind 5 RX6 (some .int) 4) {x1 : Int32} (h : f6_firstGalledBehind_b0 s x1 = some r) : sf_G X V 5 (sf_Q X V (sf_Qi V r s)) s 0 [(0, .ref (V.2.1 9)), (1, .int x1)] [] := by
  unfold f6_firstGalledBehind_b0 at h
  refine sf_aload_n (pc := 0) C 0 dX6_firstGalledBehind_0 rfl ?_
  refine sf_iload_n (pc := 1) C 1 dX6_firstGalledBehind_1 rfl ?_
  obtain ⟨v2, e2, h⟩ := sf_ob h
  refine sf_callVi (pc := 2) C (As := [.int x1]) nk_9 sh_9 rfl yk_X6_carriedBy cl_6_47 (k6_carriedBy e2) (by decide) rfl (Nat.le_of_ble_eq_true rfl) rfl dX6_firstGalledBehind_2 ?_
  refine sf_istore_n (lv' := [(2, .int v2), (0, .ref (V.2.1 9)), (1, .int x1)]) (pc := 5) C dX6_firstGalledBehind_5 (by decide) rfl ?_
  refine sf_aload_n (pc := 6) C 1 dX6_firstGalledBehind_6 rfl ?_
  refine sf_getr (pc := 7) C nk_9 sh_9 rfl fl_6_21 dX6_firstGalledBehind_7 ?_
  refine sf_getr (pc := 10) C nk_16 sh_16 rfl fl_6_98 dX6_firstGalledBehind_10 ?_
  refine sf_iload_n (pc := 13) C 2 dX6_firstGalledBehind_13 rfl ?_
  obtain ⟨v14, e14, h⟩ := sf_ob h
  refine sf_iald (pc := 14) C nk_21 sh_21 e14 dX6_firstGalledBehind_14 ?_
  refine sf_istore_n (lv' := [(3, .int v14), (2, .int v2), (0, .ref (V.2.1 9)), (1, .int x1)]) (pc := 15) C dX6_firstGalledBehind_15 (by decide) rfl ?_
  refine sf_iconst (v := 0) (pc := 16) C dX6_firstGalledBehind_16 (by decide) ?_
  refine sf_istore (lv' := [(4, .int (0 : Int32)), (3, .int v14), (2, .int v2), (0, .ref (V.2.1 9)), (1, .int x1)]) (pc := 17) C dX6_firstGalledBehind_17 (by decide) rfl ?_
  refine sf_sub [3, 4, 2, 1, 0] rfl ?_
  exact w6_firstGalledBehind_L19 C _ _ _ _ h
set_option maxHeartbeats 4000000 in
set_option maxRecDepth 100000 in
theorem k6_firstGalledBehind {l : Launch} {V : sf_V} {s : sf_Sg} {x1 : Int32} {r : Int32} (h : f6_firstGalledBehind s x1 = some r) : sf_M l V yX6_firstGalledBehind (.code yX6_firstGalledBehind cX6_firstGalledBehind 5 (some .int)) 4 [.ref (V.2.1 9), .int x1] s (sf_Qi V r s) := by
  refine sf_enter (by decide) (Nat.le_of_ble_eq_true rfl) (fun X hX C => ?_)
  refine sf_sub [0, 1] rfl ?_
  exact w6_firstGalledBehind_b0 (show sf_C X V cX6_firstGalledBehind 5 RX6 (some .int) 4 from C)  h
set_option maxHeartbeats 4000000 in
set_option maxRecDepth 100000 in
theorem w9_when_b0 {X : sf_X} {V : sf_V} {s : sf_Sg} {r : Int32} (C : sf_C X V cX9_when 2 RX9 (some .int) 5) {x1 : Int32} (h : f9_when_b0 s x1 = some r) : sf_G X V 2 (sf_Q X V (sf_Qi V r s)) s 0 [(0, .ref (V.2.1 0)), (1, .int x1)] [] := by
  unfold f9_when_b0 at h
  refine sf_aload_n (pc := 0) C 0 dX9_when_0 rfl ?_
  refine sf_getr (pc := 1) C nk_0 sh_0 rfl fl_9_33 dX9_when_1 ?_
  refine sf_iload_n (pc := 4) C 1 dX9_when_4 rfl ?_
  refine sf_callVi (pc := 5) C (As := [.int x1]) nk_10 sh_10 rfl yk_X7_hasBack cl_9_184 (k7_hasBack sf_S1 rfl) (by decide) rfl (Nat.le_of_ble_eq_true rfl) rfl dX9_when_5 ?_
  refine sf_if_ne (tgt := 14) (pc := 8) C dX9_when_8 rfl (fun c8 => ?_) (fun c8 => ?_)
  · replace h := (if_neg c8).symm.trans h
    refine sf_aload_n (pc := 14) C 0 dX9_when_14 rfl ?_
    refine sf_getr (pc := 15) C nk_0 sh_0 rfl fl_9_26 dX9_when_15 ?_
    refine sf_iload_n (pc := 18) C 1 dX9_when_18 rfl ?_
    obtain ⟨v19, e19, h⟩ := sf_ob h
    refine sf_callVi (pc := 19) C (As := [.int x1]) nk_9 sh_9 rfl yk_X6_firstGalledBehind cl_9_259 (k6_firstGalledBehind e19) (by decide) rfl (Nat.le_of_ble_eq_true rfl) rfl dX9_when_19 ?_
    exact sf_iretR (pc := 22) C dX9_when_22 h
  · replace h := (if_pos c8).symm.trans h
    refine sf_ldc (v := -1000000001) (pc := 11) C dX9_when_11 tm_501 ?_
    exact sf_iretR (pc := 13) C dX9_when_13 h
set_option maxHeartbeats 4000000 in
set_option maxRecDepth 100000 in
theorem k9_when {l : Launch} {V : sf_V} {s : sf_Sg} {x1 : Int32} {r : Int32} (h : f9_when s x1 = some r) : sf_M l V yX9_when (.code yX9_when cX9_when 2 (some .int)) 5 [.ref (V.2.1 0), .int x1] s (sf_Qi V r s) := by
  refine sf_enter (by decide) (Nat.le_of_ble_eq_true rfl) (fun X hX C => ?_)
  refine sf_sub [0, 1] rfl ?_
  exact w9_when_b0 (show sf_C X V cX9_when 2 RX9 (some .int) 5 from C)  h
set_option maxHeartbeats 4000000 in
set_option maxRecDepth 100000 in
theorem w6_worstBehind_b41 {X : sf_X} {V : sf_V} {s : sf_Sg} {r : Int32} {k7 : Int32 → Int32 → Int32 → Int32 → Option Int32} (C : sf_C X V cX6_worstBehind 6 RX6 (some .int) 4) (hk7 : ∀  (x1 : Int32) (x2 : Int32) (x3 : Int32) (x4 : Int32), k7 x1 x2 x3 x4 = some r → sf_G X V 6 (sf_Q X V (sf_Qi V r s)) s 7 [(0, .ref (V.2.1 9)), (1, .int x1), (2, .int x2), (3, .int x3), (4, .int x4)] []) {x1 : Int32} {x2 : Int32} {x3 : Int32} {x4 : Int32} (h : f6_worstBehind_b41 s k7 x1 x2 x3 x4 = some r) : sf_G X V 6 (sf_Q X V (sf_Qi V r s)) s 41 [(0, .ref (V.2.1 9)), (1, .int x1), (2, .int x2), (3, .int x3), (4, .int x4)] [] := by
  unfold f6_worstBehind_b41 at h
  refine sf_iinc (v := (x4 + 1)) (lv' := [(4, .int (x4 + 1)), (0, .ref (V.2.1 9)), (1, .int x1), (2, .int x2), (3, .int x3)]) (pc := 41) C 4 dX6_worstBehind_41 rfl rfl (by decide) rfl ?_
  refine sf_goto (tgt := 7) (pc := 44) C dX6_worstBehind_44 rfl ?_
  refine sf_sub [1, 2, 3, 4, 0] rfl ?_
  exact hk7 _ _ _ _ h
set_option maxHeartbeats 4000000 in
set_option maxRecDepth 100000 in
theorem w6_worstBehind_b7 {X : sf_X} {V : sf_V} {s : sf_Sg} {r : Int32} {k7 : Int32 → Int32 → Int32 → Int32 → Option Int32} (C : sf_C X V cX6_worstBehind 6 RX6 (some .int) 4) (hk7 : ∀  (x1 : Int32) (x2 : Int32) (x3 : Int32) (x4 : Int32), k7 x1 x2 x3 x4 = some r → sf_G X V 6 (sf_Q X V (sf_Qi V r s)) s 7 [(0, .ref (V.2.1 9)), (1, .int x1), (2, .int x2), (3, .int x3), (4, .int x4)] []) {x1 : Int32} {x2 : Int32} {x3 : Int32} {x4 : Int32} (h : f6_worstBehind_b7 s k7 x1 x2 x3 x4 = some r) : sf_G X V 6 (sf_Q X V (sf_Qi V r s)) s 7 [(0, .ref (V.2.1 9)), (1, .int x1), (2, .int x2), (3, .int x3), (4, .int x4)] [] := by
  unfold f6_worstBehind_b7 at h
  refine sf_iload (pc := 7) C 4 dX6_worstBehind_7 rfl ?_
  refine sf_iload_n (pc := 9) C 1 dX6_worstBehind_9 rfl ?_
  refine sf_icmp_ge (tgt := 47) (pc := 10) C dX6_worstBehind_10 rfl (fun c10 => ?_) (fun c10 => ?_)
  · replace h := (if_pos c10).symm.trans h
    refine sf_iload_n (pc := 47) C 2 dX6_worstBehind_47 rfl ?_
    exact sf_iretR (pc := 48) C dX6_worstBehind_48 h
  · replace h := (if_neg c10).symm.trans h
    refine sf_aload_n (pc := 13) C 0 dX6_worstBehind_13 rfl ?_
    refine sf_aload_n (pc := 14) C 0 dX6_worstBehind_14 rfl ?_
    refine sf_getr (pc := 15) C nk_9 sh_9 rfl fl_6_21 dX6_worstBehind_15 ?_
    refine sf_get (pc := 18) C nk_16 sh_16 rfl fl_6_91 dX6_worstBehind_18 ?_
    refine sf_iload (pc := 21) C 4 dX6_worstBehind_21 rfl ?_
    refine sf_iadd (pc := 23) C dX6_worstBehind_23 ?_
    obtain ⟨v24, e24, h⟩ := sf_ob h
    refine sf_callVi (pc := 24) C (As := [.int ((s 16 0) + x4)]) nk_9 sh_9 rfl yk_X6_gallingOfAll cl_6_108 (k6_gallingOfAll e24) (by decide) rfl (Nat.le_of_ble_eq_true rfl) rfl dX6_worstBehind_24 ?_
    refine sf_istore (lv' := [(5, .int v24), (0, .ref (V.2.1 9)), (1, .int x1), (2, .int x2), (3, .int x3), (4, .int x4)]) (pc := 27) C dX6_worstBehind_27 (by decide) rfl ?_
    refine sf_iload (pc := 29) C 0 dX6_worstBehind_29 rfl ?_
    refine sf_iload_n (pc := 31) C 4 dX6_worstBehind_31 rfl ?_
    refine sf_icmp_le (tgt := 41) (pc := 32) C dX6_worstBehind_32 rfl (fun c32 => ?_) (fun c32 => ?_)
    · replace h := (if_pos c32).symm.trans h
      refine sf_sub [1, 2, 3, 4, 5] rfl ?_
      exact w6_worstBehind_b41 C hk7 h
    · replace h := (if_neg c32).symm.trans h
      refine sf_iload (pc := 35) C 0 dX6_worstBehind_35 rfl ?_
      refine sf_istore_n (lv' := [(3, .int v24), (5, .int v24), (0, .ref (V.2.1 9)), (1, .int x1), (2, .int x2), (4, .int x4)]) (pc := 37) C dX6_worstBehind_37 (by decide) rfl ?_
      refine sf_iload (pc := 38) C 5 dX6_worstBehind_38 rfl ?_
      refine sf_istore_n (lv' := [(2, .int x4), (3, .int v24), (5, .int v24), (0, .ref (V.2.1 9)), (1, .int x1), (4, .int x4)]) (pc := 40) C dX6_worstBehind_40 (by decide) rfl ?_
      refine sf_sub [3, 4, 0, 1, 5] rfl ?_
      exact w6_worstBehind_b41 C hk7 h
set_option maxHeartbeats 4000000 in
set_option maxRecDepth 100000 in
theorem w6_worstBehind_L7 {X : sf_X} {V : sf_V} {s : sf_Sg} {r : Int32} (C : sf_C X V cX6_worstBehind 6 RX6 (some .int) 4) : ∀  (x1 : Int32) (x2 : Int32) (x3 : Int32) (x4 : Int32), f6_worstBehind_L7 s x1 x2 x3 x4 = some r → sf_G X V 6 (sf_Q X V (sf_Qi V r s)) s 7 [(0, .ref (V.2.1 9)), (1, .int x1), (2, .int x2), (3, .int x3), (4, .int x4)] [] :=
  sf_it_ind (fun (k : Int32 → Int32 → Int32 → Int32 → Option Int32) => ∀  (x1 : Int32) (x2 : Int32) (x3 : Int32) (x4 : Int32), k x1 x2 x3 x4 = some r → sf_G X V 6 (sf_Q X V (sf_Qi V r s)) s 7 [(0, .ref (V.2.1 9)), (1, .int x1), (2, .int x2), (3, .int x3), (4, .int x4)] []) _ _ (fun x1 x2 x3 x4 h => by cases h) (fun k hk x1 x2 x3 x4 h => w6_worstBehind_b7 C hk h) _
set_option maxHeartbeats 4000000 in
set_option maxRecDepth 100000 in
theorem w6_worstBehind_b0 {X : sf_X} {V : sf_V} {s : sf_Sg} {r : Int32} (C : sf_C X V cX6_worstBehind 6 RX6 (some .int) 4) {x1 : Int32} (h : f6_worstBehind_b0 s x1 = some r) : sf_G X V 6 (sf_Q X V (sf_Qi V r s)) s 0 [(0, .ref (V.2.1 9)), (1, .int x1)] [] := by
  unfold f6_worstBehind_b0 at h
  refine sf_iconst (v := 0) (pc := 0) C dX6_worstBehind_0 (by decide) ?_
  refine sf_istore_n (lv' := [(2, .int (0 : Int32)), (0, .ref (V.2.1 9)), (1, .int x1)]) (pc := 1) C dX6_worstBehind_1 (by decide) rfl ?_
  refine sf_iconst (v := -1) (pc := 2) C dX6_worstBehind_2 (by decide) ?_
  refine sf_istore_n (lv' := [(3, .int (-1 : Int32)), (2, .int (0 : Int32)), (0, .ref (V.2.1 9)), (1, .int x1)]) (pc := 3) C dX6_worstBehind_3 (by decide) rfl ?_
  refine sf_iconst (v := 0) (pc := 4) C dX6_worstBehind_4 (by decide) ?_
  refine sf_istore (lv' := [(4, .int (0 : Int32)), (3, .int (-1 : Int32)), (2, .int (0 : Int32)), (0, .ref (V.2.1 9)), (1, .int x1)]) (pc := 5) C dX6_worstBehind_5 (by decide) rfl ?_
  refine sf_sub [3, 4, 2, 1, 0] rfl ?_
  exact w6_worstBehind_L7 C _ _ _ _ h
set_option maxHeartbeats 4000000 in
set_option maxRecDepth 100000 in
theorem k6_worstBehind {l : Launch} {V : sf_V} {s : sf_Sg} {x1 : Int32} {r : Int32} (h : f6_worstBehind s x1 = some r) : sf_M l V yX6_worstBehind (.code yX6_worstBehind cX6_worstBehind 6 (some .int)) 4 [.ref (V.2.1 9), .int x1] s (sf_Qi V r s) := by
  refine sf_enter (by decide) (Nat.le_of_ble_eq_true rfl) (fun X hX C => ?_)
  refine sf_sub [0, 1] rfl ?_
  exact w6_worstBehind_b0 (show sf_C X V cX6_worstBehind 6 RX6 (some .int) 4 from C)  h
set_option maxHeartbeats 4000000 in
set_option maxRecDepth 100000 in
theorem w9_worst_b0 {X : sf_X} {V : sf_V} {s : sf_Sg} {r : Int32} (C : sf_C X V cX9_worst 4 RX9 (some .int) 5) {x1 : Int32} {x2 : Int32} (h : f9_worst_b0 s x1 x2 = some r) : sf_G X V 4 (sf_Q X V (sf_Qi V r s)) s 0 [(0, .ref (V.2.1 0)), (1, .int x1), (2, .int x2)] [] := by
  unfold f9_worst_b0 at h
  refine sf_iload_n (pc := 0) C 1 dX9_worst_0 rfl ?_
  refine sf_iconst (v := 1) (pc := 1) C dX9_worst_1 (by decide) ?_
  refine sf_bipush (v := 60) (pc := 2) C dX9_worst_2 (by decide) ?_
  refine sf_callSi (pc := 4) C (As := [.int x1, .int (1 : Int32), .int (60 : Int32)]) yk_X9_within cl_9_89 (k9_within rfl) (by decide) rfl (Nat.le_of_ble_eq_true rfl) rfl dX9_worst_4 ?_
  refine sf_if_eq (tgt := 19) (pc := 7) C dX9_worst_7 rfl (fun c7 => ?_) (fun c7 => ?_)
  · replace h := (if_pos c7).symm.trans h
    refine sf_ldc (v := -1000000002) (pc := 19) C dX9_worst_19 tm_334 ?_
    exact sf_iretR (pc := 21) C dX9_worst_21 h
  · replace h := (if_neg c7).symm.trans h
    refine sf_iload_n (pc := 10) C 2 dX9_worst_10 rfl ?_
    refine sf_iconst (v := 0) (pc := 11) C dX9_worst_11 (by decide) ?_
    refine sf_iconst (v := 1) (pc := 12) C dX9_worst_12 (by decide) ?_
    refine sf_callSi (pc := 13) C (As := [.int x2, .int (0 : Int32), .int (1 : Int32)]) yk_X9_within cl_9_89 (k9_within rfl) (by decide) rfl (Nat.le_of_ble_eq_true rfl) rfl dX9_worst_13 ?_
    refine sf_if_ne (tgt := 22) (pc := 16) C dX9_worst_16 rfl (fun c16 => ?_) (fun c16 => ?_)
    · replace h := (if_neg c16).symm.trans h
      refine sf_aload_n (pc := 22) C 0 dX9_worst_22 rfl ?_
      refine sf_getr (pc := 23) C nk_0 sh_0 rfl fl_9_33 dX9_worst_23 ?_
      refine sf_get (pc := 26) C nk_10 sh_10 rfl fl_9_262 dX9_worst_26 ?_
      refine sf_if_ne (tgt := 35) (pc := 29) C dX9_worst_29 rfl (fun c29 => ?_) (fun c29 => ?_)
      · replace h := (if_neg c29).symm.trans h
        refine sf_aload_n (pc := 35) C 0 dX9_worst_35 rfl ?_
        refine sf_getr (pc := 36) C nk_0 sh_0 rfl fl_9_26 dX9_worst_36 ?_
        refine sf_iload_n (pc := 39) C 1 dX9_worst_39 rfl ?_
        obtain ⟨v40, e40, h⟩ := sf_ob h
        refine sf_callVi (pc := 40) C (As := [.int x1]) nk_9 sh_9 rfl yk_X6_worstBehind cl_9_266 (k6_worstBehind e40) (by decide) rfl (Nat.le_of_ble_eq_true rfl) rfl dX9_worst_40 ?_
        refine sf_istore_n (lv' := [(3, .int v40), (0, .ref (V.2.1 0)), (1, .int x1), (2, .int x2)]) (pc := 43) C dX9_worst_43 (by decide) rfl ?_
        refine sf_iload_n (pc := 44) C 3 dX9_worst_44 rfl ?_
        refine sf_if_ne (tgt := 52) (pc := 45) C dX9_worst_45 rfl (fun c45 => ?_) (fun c45 => ?_)
        · replace h := (if_neg c45).symm.trans h
          refine sf_aload_n (pc := 52) C 1 dX9_worst_52 rfl ?_
          refine sf_getr (pc := 53) C nk_0 sh_0 rfl fl_9_26 dX9_worst_53 ?_
          refine sf_aload_n (pc := 56) C 1 dX9_worst_56 rfl ?_
          refine sf_getr (pc := 57) C nk_0 sh_0 rfl fl_9_38 dX9_worst_57 ?_
          refine sf_get (pc := 60) C nk_16 sh_16 rfl fl_9_128 dX9_worst_60 ?_
          refine sf_iload_n (pc := 63) C 0 dX9_worst_63 rfl ?_
          refine sf_iadd (pc := 64) C dX9_worst_64 ?_
          obtain ⟨v65, e65, h⟩ := sf_ob h
          refine sf_callVi (pc := 65) C (As := [.int ((s 16 0) + v40)]) nk_9 sh_9 rfl yk_X6_gallingOfAll cl_9_138 (k6_gallingOfAll e65) (by decide) rfl (Nat.le_of_ble_eq_true rfl) rfl dX9_worst_65 ?_
          exact sf_iretR (pc := 68) C dX9_worst_68 h
        · replace h := (if_pos c45).symm.trans h
          refine sf_iload_n (pc := 48) C 0 dX9_worst_48 rfl ?_
          refine sf_goto (tgt := 68) (pc := 49) C dX9_worst_49 rfl ?_
          exact sf_iretR (pc := 68) C dX9_worst_68 h
      · replace h := (if_pos c29).symm.trans h
        refine sf_ldc (v := -1000000003) (pc := 32) C dX9_worst_32 tm_532 ?_
        exact sf_iretR (pc := 34) C dX9_worst_34 h
    · replace h := (if_pos c16).symm.trans h
      refine sf_ldc (v := -1000000002) (pc := 19) C dX9_worst_19 tm_334 ?_
      exact sf_iretR (pc := 21) C dX9_worst_21 h
set_option maxHeartbeats 4000000 in
set_option maxRecDepth 100000 in
theorem k9_worst {l : Launch} {V : sf_V} {s : sf_Sg} {x1 : Int32} {x2 : Int32} {r : Int32} (h : f9_worst s x1 x2 = some r) : sf_M l V yX9_worst (.code yX9_worst cX9_worst 4 (some .int)) 5 [.ref (V.2.1 0), .int x1, .int x2] s (sf_Qi V r s) := by
  refine sf_enter (by decide) (Nat.le_of_ble_eq_true rfl) (fun X hX C => ?_)
  refine sf_sub [0, 1, 2] rfl ?_
  exact w9_worst_b0 (show sf_C X V cX9_worst 4 RX9 (some .int) 5 from C)  h
set_option maxHeartbeats 4000000 in
set_option maxRecDepth 100000 in
theorem w2_begin_b18 {X : sf_X} {V : sf_V} {s' : sf_Sg} {k18 : sf_Sg → Int32 → Option sf_Sg} (C : sf_C X V cX2_begin 2 RX2 none 0) (hk18 : ∀  (s : sf_Sg) (x1 : Int32), k18 s x1 = some s' → sf_G X V 2 (sf_Q X V (sf_Qv V s')) s 18 [(0, .ref (V.2.1 22)), (1, .int x1)] []) {s : sf_Sg} {x1 : Int32} (h : f2_begin_b18 k18 s x1 = some s') : sf_G X V 2 (sf_Q X V (sf_Qv V s')) s 18 [(0, .ref (V.2.1 22)), (1, .int x1)] [] := by
  unfold f2_begin_b18 at h
  refine sf_iload_n (pc := 18) C 1 dX2_begin_18 rfl ?_
  refine sf_iconst (v := 5) (pc := 19) C dX2_begin_19 (by decide) ?_
  refine sf_icmp_ge (tgt := 36) (pc := 20) C dX2_begin_20 rfl (fun c20 => ?_) (fun c20 => ?_)
  · replace h := (if_pos c20).symm.trans h
    exact sf_vretW (pc := 36) C dX2_begin_36 h
  · replace h := (if_neg c20).symm.trans h
    refine sf_aload_n (pc := 23) C 0 dX2_begin_23 rfl ?_
    refine sf_getr (pc := 24) C nk_22 sh_22 rfl fl_2_15 dX2_begin_24 ?_
    refine sf_iload_n (pc := 27) C 1 dX2_begin_27 rfl ?_
    refine sf_iconst (v := 0) (pc := 28) C dX2_begin_28 (by decide) ?_
    obtain ⟨s29, e29, h⟩ := sf_ob h
    refine sf_iast (pc := 29) C nk_24 sh_24 e29 dX2_begin_29 ?_
    refine sf_iinc (v := (x1 + 1)) (lv' := [(1, .int (x1 + 1)), (0, .ref (V.2.1 22))]) (pc := 30) C 1 dX2_begin_30 rfl rfl (by decide) rfl ?_
    refine sf_goto (tgt := 18) (pc := 33) C dX2_begin_33 rfl ?_
    refine sf_sub [1, 0] rfl ?_
    exact hk18 _ _ h
set_option maxHeartbeats 4000000 in
set_option maxRecDepth 100000 in
theorem w2_begin_L18 {X : sf_X} {V : sf_V} {s' : sf_Sg} (C : sf_C X V cX2_begin 2 RX2 none 0) : ∀  (s : sf_Sg) (x1 : Int32), f2_begin_L18 s x1 = some s' → sf_G X V 2 (sf_Q X V (sf_Qv V s')) s 18 [(0, .ref (V.2.1 22)), (1, .int x1)] [] :=
  sf_it_ind (fun (k : sf_Sg → Int32 → Option sf_Sg) => ∀  (s : sf_Sg) (x1 : Int32), k s x1 = some s' → sf_G X V 2 (sf_Q X V (sf_Qv V s')) s 18 [(0, .ref (V.2.1 22)), (1, .int x1)] []) _ _ (fun s x1 h => by cases h) (fun k hk s x1 h => w2_begin_b18 C hk h) _
set_option maxHeartbeats 4000000 in
set_option maxRecDepth 100000 in
theorem w2_begin_b0 {X : sf_X} {V : sf_V} {s' : sf_Sg} (C : sf_C X V cX2_begin 2 RX2 none 0) {s : sf_Sg} (h : f2_begin_b0 s = some s') : sf_G X V 2 (sf_Q X V (sf_Qv V s')) s 0 [(0, .ref (V.2.1 22))] [] := by
  unfold f2_begin_b0 at h
  refine sf_aload_n (pc := 0) C 0 dX2_begin_0 rfl ?_
  refine sf_ldc (v := 2147483647) (pc := 1) C dX2_begin_1 tm_667 ?_
  refine sf_put (pc := 3) C nk_22 sh_22 rfl fw_2_64 rfl rfl dX2_begin_3 ?_
  refine sf_aload_n (pc := 6) C 0 dX2_begin_6 rfl ?_
  refine sf_iconst (v := -1) (pc := 7) C dX2_begin_7 (by decide) ?_
  refine sf_put (pc := 8) C nk_22 sh_22 rfl fw_2_67 rfl rfl dX2_begin_8 ?_
  refine sf_aload_n (pc := 11) C 0 dX2_begin_11 rfl ?_
  refine sf_iconst (v := -1) (pc := 12) C dX2_begin_12 (by decide) ?_
  refine sf_put (pc := 13) C nk_22 sh_22 rfl fw_2_52 rfl rfl dX2_begin_13 ?_
  refine sf_iconst (v := 0) (pc := 16) C dX2_begin_16 (by decide) ?_
  refine sf_istore_n (lv' := [(1, .int (0 : Int32)), (0, .ref (V.2.1 22))]) (pc := 17) C dX2_begin_17 (by decide) rfl ?_
  refine sf_sub [1, 0] rfl ?_
  exact w2_begin_L18 C _ _ h
set_option maxHeartbeats 4000000 in
set_option maxRecDepth 100000 in
theorem k2_begin {l : Launch} {V : sf_V} {s : sf_Sg} {s' : sf_Sg} (h : f2_begin s = some s') : sf_M l V yX2_begin (.code yX2_begin cX2_begin 2 none) 0 [.ref (V.2.1 22)] s (sf_Qv V s') := by
  refine sf_enter (by decide) (Nat.le_of_ble_eq_true rfl) (fun X hX C => ?_)
  refine sf_sub [0] rfl ?_
  exact w2_begin_b0 (show sf_C X V cX2_begin 2 RX2 none 0 from C)  h
set_option maxHeartbeats 4000000 in
set_option maxRecDepth 100000 in
theorem w2_putOn_b0 {X : sf_X} {V : sf_V} {r : Int32} {s' : sf_Sg} (C : sf_C X V cX2_putOn 6 RX2 (some .int) 1) {s : sf_Sg} {x2 : Int32} {x3 : Int32} (h : f2_putOn_b0 s x2 x3 = some (r, s')) : sf_G X V 6 (sf_Q X V (sf_Qi V r s')) s 0 [(0, .ref (V.2.1 22)), (1, .ref (V.2.1 9)), (2, .int x2), (3, .int x3)] [] := by
  unfold f2_putOn_b0 at h
  refine sf_aload_n (pc := 0) C 1 dX2_putOn_0 rfl ?_
  refine sf_getr (pc := 1) C nk_9 sh_9 rfl fl_2_43 dX2_putOn_1 ?_
  refine sf_getr (pc := 4) C nk_10 sh_10 rfl fl_2_70 dX2_putOn_4 ?_
  refine sf_iload_n (pc := 7) C 2 dX2_putOn_7 rfl ?_
  obtain ⟨v8, e8, h⟩ := sf_ob h
  refine sf_iald (pc := 8) C nk_14 sh_14 e8 dX2_putOn_8 ?_
  refine sf_istore (lv' := [(4, .int v8), (0, .ref (V.2.1 22)), (1, .ref (V.2.1 9)), (2, .int x2), (3, .int x3)]) (pc := 9) C dX2_putOn_9 (by decide) rfl ?_
  refine sf_iconst (v := 0) (pc := 11) C dX2_putOn_11 (by decide) ?_
  refine sf_aload_n (pc := 12) C 1 dX2_putOn_12 rfl ?_
  refine sf_getr (pc := 13) C nk_22 sh_22 rfl fl_2_15 dX2_putOn_13 ?_
  refine sf_iload_n (pc := 16) C 3 dX2_putOn_16 rfl ?_
  obtain ⟨v17, e17, h⟩ := sf_ob h
  refine sf_iald (pc := 17) C nk_24 sh_24 e17 dX2_putOn_17 ?_
  refine sf_iload (pc := 18) C 0 dX2_putOn_18 rfl ?_
  refine sf_isub (pc := 20) C dX2_putOn_20 ?_
  refine sf_mmax (pc := 21) C jd_2_73 (by decide) (Nat.le_of_ble_eq_true rfl) dX2_putOn_21 ?_
  refine sf_istore (lv' := [(5, .int (sf_max (0 : Int32) (v17 - v8))), (4, .int v8), (0, .ref (V.2.1 22)), (1, .ref (V.2.1 9)), (2, .int x2), (3, .int x3)]) (pc := 24) C dX2_putOn_24 (by decide) rfl ?_
  refine sf_aload_n (pc := 26) C 2 dX2_putOn_26 rfl ?_
  refine sf_getr (pc := 27) C nk_22 sh_22 rfl fl_2_15 dX2_putOn_27 ?_
  refine sf_iload_n (pc := 30) C 4 dX2_putOn_30 rfl ?_
  refine sf_dup2 (pc := 31) C dX2_putOn_31 rfl rfl ?_
  obtain ⟨v32, e32, h⟩ := sf_ob h
  refine sf_iald (pc := 32) C nk_24 sh_24 e32 dX2_putOn_32 ?_
  refine sf_iload_n (pc := 33) C 5 dX2_putOn_33 rfl ?_
  refine sf_iadd (pc := 34) C dX2_putOn_34 ?_
  obtain ⟨s35, e35, h⟩ := sf_ob h
  refine sf_iast (pc := 35) C nk_24 sh_24 e35 dX2_putOn_35 ?_
  refine sf_iconst (v := 0) (pc := 36) C dX2_putOn_36 (by decide) ?_
  refine sf_aload_n (pc := 37) C 2 dX2_putOn_37 rfl ?_
  refine sf_getr (pc := 38) C nk_22 sh_22 rfl fl_2_15 dX2_putOn_38 ?_
  refine sf_iload_n (pc := 41) C 4 dX2_putOn_41 rfl ?_
  obtain ⟨v42, e42, h⟩ := sf_ob h
  refine sf_iald (pc := 42) C nk_24 sh_24 e42 dX2_putOn_42 ?_
  refine sf_iload (pc := 43) C 1 dX2_putOn_43 rfl ?_
  refine sf_isub (pc := 45) C dX2_putOn_45 ?_
  refine sf_mmax (pc := 46) C jd_2_73 (by decide) (Nat.le_of_ble_eq_true rfl) dX2_putOn_46 ?_
  refine sf_iload (pc := 49) C 0 dX2_putOn_49 rfl ?_
  refine sf_isub (pc := 51) C dX2_putOn_51 ?_
  exact sf_iretW (pc := 52) C dX2_putOn_52 h
set_option maxHeartbeats 4000000 in
set_option maxRecDepth 100000 in
theorem k2_putOn {l : Launch} {V : sf_V} {s : sf_Sg} {x2 : Int32} {x3 : Int32} {r : Int32} {s' : sf_Sg} (h : f2_putOn s x2 x3 = some (r, s')) : sf_M l V yX2_putOn (.code yX2_putOn cX2_putOn 6 (some .int)) 1 [.ref (V.2.1 22), .ref (V.2.1 9), .int x2, .int x3] s (sf_Qi V r s') := by
  refine sf_enter (by decide) (Nat.le_of_ble_eq_true rfl) (fun X hX C => ?_)
  refine sf_sub [0, 1, 2, 3] rfl ?_
  exact w2_putOn_b0 (show sf_C X V cX2_putOn 6 RX2 (some .int) 1 from C)  h
set_option maxHeartbeats 4000000 in
set_option maxRecDepth 100000 in
theorem w2_lay_b87 {X : sf_X} {V : sf_V} {self : sf_Sg → Int32 → Int32 → Int32 → Option sf_Sg} {e : Nat} (hself : ∀ (s : sf_Sg) (x2 x3 x4 : Int32) (s' : sf_Sg), self s x2 x3 x4 = some s' → sf_M (sf_l X) V yX2_lay (.code yX2_lay cX2_lay 8 none) (e + 2) [.ref (V.2.1 22), .ref (V.2.1 9), .int x2, .int x3, .int x4] s (sf_Qv V s')) {s' : sf_Sg} {k87 : sf_Sg → Int32 → Int32 → Int32 → Int32 → Int32 → Option sf_Sg} (C : sf_C X V cX2_lay 8 RX2 none (e + 3)) (hk87 : ∀  (s : sf_Sg) (x2 : Int32) (x3 : Int32) (x4 : Int32) (x5 : Int32) (x6 : Int32), k87 s x2 x3 x4 x5 x6 = some s' → sf_G X V 8 (sf_Q X V (sf_Qv V s')) s 87 [(0, .ref (V.2.1 22)), (1, .ref (V.2.1 9)), (2, .int x2), (3, .int x3), (4, .int x4), (5, .int x5), (6, .int x6)] []) {s : sf_Sg} {x2 : Int32} {x3 : Int32} {x4 : Int32} {x5 : Int32} {x6 : Int32} (h : f2_lay_b87 self k87 s x2 x3 x4 x5 x6 = some s') : sf_G X V 8 (sf_Q X V (sf_Qv V s')) s 87 [(0, .ref (V.2.1 22)), (1, .ref (V.2.1 9)), (2, .int x2), (3, .int x3), (4, .int x4), (5, .int x5), (6, .int x6)] [] := by
  unfold f2_lay_b87 at h
  refine sf_iload (pc := 87) C 6 dX2_lay_87 rfl ?_
  refine sf_aload_n (pc := 89) C 1 dX2_lay_89 rfl ?_
  refine sf_getr (pc := 90) C nk_9 sh_9 rfl fl_2_43 dX2_lay_90 ?_
  refine sf_get (pc := 93) C nk_10 sh_10 rfl fl_2_47 dX2_lay_93 ?_
  refine sf_icmp_ge (tgt := 166) (pc := 96) C dX2_lay_96 rfl (fun c96 => ?_) (fun c96 => ?_)
  · replace h := (if_pos c96).symm.trans h
    exact sf_vretW (pc := 166) C dX2_lay_166 h
  · replace h := (if_neg c96).symm.trans h
    refine sf_aload_n (pc := 99) C 0 dX2_lay_99 rfl ?_
    refine sf_getr (pc := 100) C nk_22 sh_22 rfl fl_2_18 dX2_lay_100 ?_
    refine sf_iload_n (pc := 103) C 2 dX2_lay_103 rfl ?_
    refine sf_iload (pc := 104) C 6 dX2_lay_104 rfl ?_
    obtain ⟨s106, e106, h⟩ := sf_ob h
    refine sf_iast (pc := 106) C nk_25 sh_25 e106 dX2_lay_106 ?_
    refine sf_aload_n (pc := 107) C 0 dX2_lay_107 rfl ?_
    refine sf_aload_n (pc := 108) C 1 dX2_lay_108 rfl ?_
    refine sf_iload (pc := 109) C 6 dX2_lay_109 rfl ?_
    refine sf_iload (pc := 111) C 5 dX2_lay_111 rfl ?_
    obtain ⟨q113, e113, h⟩ := sf_ob h
    refine sf_callVi (pc := 113) C (As := [.ref (V.2.1 9), .int x6, .int x5]) nk_22 sh_22 rfl yk_X2_putOn cl_2_55 (k2_putOn e113) (by omega) rfl (Nat.le_of_ble_eq_true rfl) rfl dX2_lay_113 ?_
    refine sf_aload_n (pc := 116) C 1 dX2_lay_116 rfl ?_
    refine sf_iload_n (pc := 117) C 2 dX2_lay_117 rfl ?_
    refine sf_iload (pc := 118) C 6 dX2_lay_118 rfl ?_
    refine sf_iconst (v := 0) (pc := 120) C dX2_lay_120 (by decide) ?_
    refine sf_aload_n (pc := 121) C 1 dX2_lay_121 rfl ?_
    refine sf_getr (pc := 122) C nk_9 sh_9 rfl fl_2_28 dX2_lay_122 ?_
    refine sf_get (pc := 125) C nk_16 sh_16 rfl fl_2_39 dX2_lay_125 ?_
    obtain ⟨v128, e128, h⟩ := sf_ob h
    refine sf_callVi (pc := 128) C (As := [.int x2, .int x6, .int (0 : Int32), .int (q113.2 16 0)]) nk_9 sh_9 rfl yk_X6_rubOf cl_2_59 (k6_rubOf e128) (by omega) rfl (Nat.le_of_ble_eq_true rfl) rfl dX2_lay_128 ?_
    refine sf_iadd (pc := 131) C dX2_lay_131 ?_
    refine sf_istore (lv' := [(7, .int (q113.1 + v128)), (0, .ref (V.2.1 22)), (1, .ref (V.2.1 9)), (2, .int x2), (3, .int x3), (4, .int x4), (5, .int x5), (6, .int x6)]) (pc := 132) C dX2_lay_132 (by decide) rfl ?_
    refine sf_aload_n (pc := 134) C 1 dX2_lay_134 rfl ?_
    refine sf_aload_n (pc := 135) C 2 dX2_lay_135 rfl ?_
    refine sf_iload_n (pc := 136) C 3 dX2_lay_136 rfl ?_
    refine sf_iconst (v := 1) (pc := 137) C dX2_lay_137 (by decide) ?_
    refine sf_iadd (pc := 138) C dX2_lay_138 ?_
    refine sf_iload_n (pc := 139) C 4 dX2_lay_139 rfl ?_
    refine sf_iload (pc := 140) C 0 dX2_lay_140 rfl ?_
    refine sf_iadd (pc := 142) C dX2_lay_142 ?_
    refine sf_iload (pc := 143) C 5 dX2_lay_143 rfl ?_
    obtain ⟨s145, e145, h⟩ := sf_ob h
    refine sf_callVv (pc := 145) C (As := [.ref (V.2.1 9), .int (x2 + (1 : Int32)), .int (x3 + (q113.1 + v128)), .int x4]) nk_22 sh_22 rfl yk_X2_lay cl_2_24 (hself _ _ _ _ _ e145) (by omega) rfl (Nat.le_of_ble_eq_true rfl) rfl dX2_lay_145 ?_
    refine sf_aload_n (pc := 148) C 1 dX2_lay_148 rfl ?_
    refine sf_getr (pc := 149) C nk_22 sh_22 rfl fl_2_15 dX2_lay_149 ?_
    refine sf_iload (pc := 152) C 7 dX2_lay_152 rfl ?_
    refine sf_dup2 (pc := 154) C dX2_lay_154 rfl rfl ?_
    obtain ⟨v155, e155, h⟩ := sf_ob h
    refine sf_iald (pc := 155) C nk_24 sh_24 e155 dX2_lay_155 ?_
    refine sf_iload (pc := 156) C 6 dX2_lay_156 rfl ?_
    refine sf_isub (pc := 158) C dX2_lay_158 ?_
    obtain ⟨s159, e159, h⟩ := sf_ob h
    refine sf_iast (pc := 159) C nk_24 sh_24 e159 dX2_lay_159 ?_
    refine sf_iinc (v := (x6 + 1)) (lv' := [(6, .int (x6 + 1)), (7, .int (q113.1 + v128)), (0, .ref (V.2.1 22)), (1, .ref (V.2.1 9)), (2, .int x2), (3, .int x3), (4, .int x4), (5, .int x5)]) (pc := 160) C 7 dX2_lay_160 rfl rfl (by decide) rfl ?_
    refine sf_goto (tgt := 87) (pc := 163) C dX2_lay_163 rfl ?_
    refine sf_sub [2, 3, 4, 5, 6, 7, 0] rfl ?_
    exact hk87 _ _ _ _ _ _ h
set_option maxHeartbeats 4000000 in
set_option maxRecDepth 100000 in
theorem w2_lay_L87 {X : sf_X} {V : sf_V} {self : sf_Sg → Int32 → Int32 → Int32 → Option sf_Sg} {e : Nat} (hself : ∀ (s : sf_Sg) (x2 x3 x4 : Int32) (s' : sf_Sg), self s x2 x3 x4 = some s' → sf_M (sf_l X) V yX2_lay (.code yX2_lay cX2_lay 8 none) (e + 2) [.ref (V.2.1 22), .ref (V.2.1 9), .int x2, .int x3, .int x4] s (sf_Qv V s')) {s' : sf_Sg} (C : sf_C X V cX2_lay 8 RX2 none (e + 3)) : ∀  (s : sf_Sg) (x2 : Int32) (x3 : Int32) (x4 : Int32) (x5 : Int32) (x6 : Int32), f2_lay_L87 self s x2 x3 x4 x5 x6 = some s' → sf_G X V 8 (sf_Q X V (sf_Qv V s')) s 87 [(0, .ref (V.2.1 22)), (1, .ref (V.2.1 9)), (2, .int x2), (3, .int x3), (4, .int x4), (5, .int x5), (6, .int x6)] [] :=
  sf_it_ind (fun (k : sf_Sg → Int32 → Int32 → Int32 → Int32 → Int32 → Option sf_Sg) => ∀  (s : sf_Sg) (x2 : Int32) (x3 : Int32) (x4 : Int32) (x5 : Int32) (x6 : Int32), k s x2 x3 x4 x5 x6 = some s' → sf_G X V 8 (sf_Q X V (sf_Qv V s')) s 87 [(0, .ref (V.2.1 22)), (1, .ref (V.2.1 9)), (2, .int x2), (3, .int x3), (4, .int x4), (5, .int x5), (6, .int x6)] []) _ _ (fun s x2 x3 x4 x5 x6 h => by cases h) (fun k hk s x2 x3 x4 x5 x6 h => w2_lay_b87 hself C hk h) _
set_option maxHeartbeats 4000000 in
set_option maxRecDepth 100000 in
theorem w2_lay_b0 {X : sf_X} {V : sf_V} {self : sf_Sg → Int32 → Int32 → Int32 → Option sf_Sg} {e : Nat} (hself : ∀ (s : sf_Sg) (x2 x3 x4 : Int32) (s' : sf_Sg), self s x2 x3 x4 = some s' → sf_M (sf_l X) V yX2_lay (.code yX2_lay cX2_lay 8 none) (e + 2) [.ref (V.2.1 22), .ref (V.2.1 9), .int x2, .int x3, .int x4] s (sf_Qv V s')) {s' : sf_Sg} (C : sf_C X V cX2_lay 8 RX2 none (e + 3)) {s : sf_Sg} {x2 : Int32} {x3 : Int32} {x4 : Int32} (h : f2_lay_b0 self s x2 x3 x4 = some s') : sf_G X V 8 (sf_Q X V (sf_Qv V s')) s 0 [(0, .ref (V.2.1 22)), (1, .ref (V.2.1 9)), (2, .int x2), (3, .int x3), (4, .int x4)] [] := by
  unfold f2_lay_b0 at h
  refine sf_iload_n (pc := 0) C 3 dX2_lay_0 rfl ?_
  refine sf_aload_n (pc := 1) C 0 dX2_lay_1 rfl ?_
  refine sf_get (pc := 2) C nk_22 sh_22 rfl fl_2_64 dX2_lay_2 ?_
  refine sf_icmp_ge (tgt := 14) (pc := 5) C dX2_lay_5 rfl (fun c5 => ?_) (fun c5 => ?_)
  · replace h := (if_pos c5).symm.trans h
    exact sf_vretW (pc := 14) C dX2_lay_14 h
  · replace h := (if_neg c5).symm.trans h
    refine sf_iload_n (pc := 8) C 2 dX2_lay_8 rfl ?_
    refine sf_bipush (v := 6) (pc := 9) C dX2_lay_9 (by decide) ?_
    refine sf_icmp_le (tgt := 15) (pc := 11) C dX2_lay_11 rfl (fun c11 => ?_) (fun c11 => ?_)
    · replace h := (if_pos c11).symm.trans h
      refine sf_iload_n (pc := 15) C 2 dX2_lay_15 rfl ?_
      refine sf_aload_n (pc := 16) C 1 dX2_lay_16 rfl ?_
      refine sf_getr (pc := 17) C nk_9 sh_9 rfl fl_2_43 dX2_lay_17 ?_
      refine sf_get (pc := 20) C nk_10 sh_10 rfl fl_2_79 dX2_lay_20 ?_
      refine sf_icmp_lt (tgt := 55) (pc := 23) C dX2_lay_23 rfl (fun c23 => ?_) (fun c23 => ?_)
      · replace h := (if_pos c23).symm.trans h
        refine sf_iload_n (pc := 55) C 2 dX2_lay_55 rfl ?_
        refine sf_iload (pc := 56) C 4 dX2_lay_56 rfl ?_
        refine sf_icmp_ne (tgt := 73) (pc := 58) C dX2_lay_58 rfl (fun c58 => ?_) (fun c58 => ?_)
        · replace h := (if_neg c58).symm.trans h
          refine sf_aload_n (pc := 73) C 1 dX2_lay_73 rfl ?_
          refine sf_getr (pc := 74) C nk_9 sh_9 rfl fl_2_28 dX2_lay_74 ?_
          refine sf_getr (pc := 77) C nk_16 sh_16 rfl fl_2_34 dX2_lay_77 ?_
          refine sf_iload_n (pc := 80) C 2 dX2_lay_80 rfl ?_
          obtain ⟨v81, e81, h⟩ := sf_ob h
          refine sf_iald (pc := 81) C nk_17 sh_17 e81 dX2_lay_81 ?_
          refine sf_istore (lv' := [(5, .int v81), (0, .ref (V.2.1 22)), (1, .ref (V.2.1 9)), (2, .int x2), (3, .int x3), (4, .int x4)]) (pc := 82) C dX2_lay_82 (by decide) rfl ?_
          refine sf_iconst (v := 0) (pc := 84) C dX2_lay_84 (by decide) ?_
          refine sf_istore (lv' := [(6, .int (0 : Int32)), (5, .int v81), (0, .ref (V.2.1 22)), (1, .ref (V.2.1 9)), (2, .int x2), (3, .int x3), (4, .int x4)]) (pc := 85) C dX2_lay_85 (by decide) rfl ?_
          refine sf_sub [2, 3, 4, 5, 6, 1, 0] rfl ?_
          exact w2_lay_L87 hself C _ _ _ _ _ _ h
        · replace h := (if_pos c58).symm.trans h
          refine sf_aload_n (pc := 61) C 0 dX2_lay_61 rfl ?_
          refine sf_aload_n (pc := 62) C 1 dX2_lay_62 rfl ?_
          refine sf_iload_n (pc := 63) C 2 dX2_lay_63 rfl ?_
          refine sf_iconst (v := 1) (pc := 64) C dX2_lay_64 (by decide) ?_
          refine sf_iadd (pc := 65) C dX2_lay_65 ?_
          refine sf_iload_n (pc := 66) C 3 dX2_lay_66 rfl ?_
          refine sf_iload (pc := 67) C 4 dX2_lay_67 rfl ?_
          obtain ⟨s69, e69, h⟩ := sf_ob h
          refine sf_callVv (pc := 69) C (As := [.ref (V.2.1 9), .int (x2 + (1 : Int32)), .int x3, .int x4]) nk_22 sh_22 rfl yk_X2_lay cl_2_24 (hself _ _ _ _ _ e69) (by omega) rfl (Nat.le_of_ble_eq_true rfl) rfl dX2_lay_69 ?_
          exact sf_vretW (pc := 72) C dX2_lay_72 h
      · replace h := (if_neg c23).symm.trans h
        refine sf_aload_n (pc := 26) C 0 dX2_lay_26 rfl ?_
        refine sf_iload_n (pc := 27) C 3 dX2_lay_27 rfl ?_
        refine sf_put (pc := 28) C nk_22 sh_22 rfl fw_2_64 rfl rfl dX2_lay_28 ?_
        refine sf_aload_n (pc := 31) C 0 dX2_lay_31 rfl ?_
        refine sf_aload_n (pc := 32) C 0 dX2_lay_32 rfl ?_
        refine sf_get (pc := 33) C nk_22 sh_22 rfl fl_2_52 dX2_lay_33 ?_
        refine sf_put (pc := 36) C nk_22 sh_22 rfl fw_2_67 rfl rfl dX2_lay_36 ?_
        refine sf_aload_n (pc := 39) C 0 dX2_lay_39 rfl ?_
        refine sf_getr (pc := 40) C nk_22 sh_22 rfl fl_2_18 dX2_lay_40 ?_
        refine sf_iconst (v := 0) (pc := 43) C dX2_lay_43 (by decide) ?_
        refine sf_aload_n (pc := 44) C 0 dX2_lay_44 rfl ?_
        refine sf_getr (pc := 45) C nk_22 sh_22 rfl fl_2_9 dX2_lay_45 ?_
        refine sf_iconst (v := 0) (pc := 48) C dX2_lay_48 (by decide) ?_
        refine sf_bipush (v := 6) (pc := 49) C dX2_lay_49 (by decide) ?_
        refine sf_acopy (pc := 51) C nk_25 nk_23 sh_25 sh_23 (by decide) (by decide) (by decide) jd_2_82 (by omega) (Nat.le_of_ble_eq_true rfl) dX2_lay_51 ?_
        exact sf_vretW (pc := 54) C dX2_lay_54 h
    · replace h := (if_neg c11).symm.trans h
      exact sf_vretW (pc := 14) C dX2_lay_14 h
set_option maxHeartbeats 4000000 in
set_option maxRecDepth 100000 in
theorem k2_lay {l : Launch} {V : sf_V} : ∀ (n : Nat) (s : sf_Sg) (x2 x3 x4 : Int32) (s' : sf_Sg), f2_lay n s x2 x3 x4 = some s' → sf_M l V yX2_lay (.code yX2_lay cX2_lay 8 none) (n + 2) [.ref (V.2.1 22), .ref (V.2.1 9), .int x2, .int x3, .int x4] s (sf_Qv V s')
  | 0, s, x2, x3, x4, s', h => by cases h
  | n + 1, s, x2, x3, x4, s', h => by
    have ih := k2_lay (l := l) (V := V) n
    rw [show n + 1 + 2 = n + 3 by omega]
    refine sf_enter (by decide) (Nat.le_of_ble_eq_true rfl) (fun X hX C => ?_)
    subst hX
    refine sf_sub [0, 1, 2, 3, 4] rfl ?_
    exact w2_lay_b0 (e := n) ih (show sf_C X V cX2_lay 8 RX2 none _ from C) h
set_option maxHeartbeats 4000000 in
set_option maxRecDepth 100000 in
theorem w2_layAlone_b0 {X : sf_X} {V : sf_V} {s' : sf_Sg} (C : sf_C X V cX2_layAlone 2 RX2 none 12) {s : sf_Sg} (h : f2_layAlone_b0 s = some s') : sf_G X V 2 (sf_Q X V (sf_Qv V s')) s 0 [(0, .ref (V.2.1 22)), (1, .ref (V.2.1 9))] [] := by
  unfold f2_layAlone_b0 at h
  refine sf_aload_n (pc := 0) C 0 dX2_layAlone_0 rfl ?_
  obtain ⟨s1, e1, h⟩ := sf_ob h
  refine sf_callVv (pc := 1) C (As := []) nk_22 sh_22 rfl yk_X2_begin cl_2_21 (k2_begin e1) (by decide) rfl (Nat.le_of_ble_eq_true rfl) rfl dX2_layAlone_1 ?_
  refine sf_aload_n (pc := 4) C 0 dX2_layAlone_4 rfl ?_
  refine sf_aload_n (pc := 5) C 1 dX2_layAlone_5 rfl ?_
  refine sf_iconst (v := 0) (pc := 6) C dX2_layAlone_6 (by decide) ?_
  refine sf_iconst (v := 0) (pc := 7) C dX2_layAlone_7 (by decide) ?_
  refine sf_iconst (v := -1) (pc := 8) C dX2_layAlone_8 (by decide) ?_
  obtain ⟨s9, e9, h⟩ := sf_ob h
  refine sf_callVv (pc := 9) C (As := [.ref (V.2.1 9), .int (0 : Int32), .int (0 : Int32), .int (-1 : Int32)]) nk_22 sh_22 rfl yk_X2_lay cl_2_24 (k2_lay 9 _ _ _ _ _ e9) (by decide) rfl (Nat.le_of_ble_eq_true rfl) rfl dX2_layAlone_9 ?_
  exact sf_vretW (pc := 12) C dX2_layAlone_12 h
set_option maxHeartbeats 4000000 in
set_option maxRecDepth 100000 in
theorem k2_layAlone {l : Launch} {V : sf_V} {s : sf_Sg} {s' : sf_Sg} (h : f2_layAlone s = some s') : sf_M l V yX2_layAlone (.code yX2_layAlone cX2_layAlone 2 none) 12 [.ref (V.2.1 22), .ref (V.2.1 9)] s (sf_Qv V s') := by
  refine sf_enter (by decide) (Nat.le_of_ble_eq_true rfl) (fun X hX C => ?_)
  refine sf_sub [0, 1] rfl ?_
  exact w2_layAlone_b0 (show sf_C X V cX2_layAlone 2 RX2 none 12 from C)  h
set_option maxHeartbeats 4000000 in
set_option maxRecDepth 100000 in
theorem w9_fit_b19 {X : sf_X} {V : sf_V} {r : Int32} {s' : sf_Sg} (C : sf_C X V cX9_fit 2 RX9 (some .int) 13) {s : sf_Sg} {x1 : Int32} (h : f9_fit_b19 s x1 = some (r, s')) : sf_G X V 2 (sf_Q X V (sf_Qi V r s')) s 19 [(0, .ref (V.2.1 0)), (1, .int x1)] [] := by
  unfold f9_fit_b19 at h
  refine sf_aload_n (pc := 19) C 0 dX9_fit_19 rfl ?_
  refine sf_getr (pc := 20) C nk_0 sh_0 rfl fl_9_33 dX9_fit_20 ?_
  refine sf_get (pc := 23) C nk_10 sh_10 rfl fl_9_125 dX9_fit_23 ?_
  refine sf_iconst (v := 1) (pc := 26) C dX9_fit_26 (by decide) ?_
  refine sf_icmp_ge (tgt := 32) (pc := 27) C dX9_fit_27 rfl (fun c27 => ?_) (fun c27 => ?_)
  · replace h := (if_pos c27).symm.trans h
    refine sf_aload_n (pc := 32) C 0 dX9_fit_32 rfl ?_
    refine sf_getr (pc := 33) C nk_0 sh_0 rfl fl_9_42 dX9_fit_33 ?_
    refine sf_aload_n (pc := 36) C 0 dX9_fit_36 rfl ?_
    refine sf_getr (pc := 37) C nk_0 sh_0 rfl fl_9_26 dX9_fit_37 ?_
    obtain ⟨s40, e40, h⟩ := sf_ob h
    refine sf_callVv (pc := 40) C (As := [.ref (V.2.1 9)]) nk_22 sh_22 rfl yk_X2_layAlone cl_9_269 (k2_layAlone e40) (by decide) rfl (Nat.le_of_ble_eq_true rfl) rfl dX9_fit_40 ?_
    refine sf_iload_n (pc := 43) C 1 dX9_fit_43 rfl ?_
    refine sf_iconst (v := -1) (pc := 44) C dX9_fit_44 (by decide) ?_
    refine sf_icmp_ne (tgt := 58) (pc := 45) C dX9_fit_45 rfl (fun c45 => ?_) (fun c45 => ?_)
    · replace h := (if_neg c45).symm.trans h
      refine sf_aload_n (pc := 58) C 0 dX9_fit_58 rfl ?_
      refine sf_getr (pc := 59) C nk_0 sh_0 rfl fl_9_42 dX9_fit_59 ?_
      refine sf_getr (pc := 62) C nk_22 sh_22 rfl fl_9_276 dX9_fit_62 ?_
      refine sf_iload_n (pc := 65) C 1 dX9_fit_65 rfl ?_
      obtain ⟨v66, e66, h⟩ := sf_ob h
      refine sf_iald (pc := 66) C nk_23 sh_23 e66 dX9_fit_66 ?_
      exact sf_iretW (pc := 67) C dX9_fit_67 h
    · replace h := (if_pos c45).symm.trans h
      refine sf_aload_n (pc := 48) C 0 dX9_fit_48 rfl ?_
      refine sf_getr (pc := 49) C nk_0 sh_0 rfl fl_9_42 dX9_fit_49 ?_
      refine sf_get (pc := 52) C nk_22 sh_22 rfl fl_9_273 dX9_fit_52 ?_
      refine sf_goto (tgt := 67) (pc := 55) C dX9_fit_55 rfl ?_
      exact sf_iretW (pc := 67) C dX9_fit_67 h
  · replace h := (if_neg c27).symm.trans h
    refine sf_iconst (v := -1) (pc := 30) C dX9_fit_30 (by decide) ?_
    exact sf_iretW (pc := 31) C dX9_fit_31 h
set_option maxHeartbeats 4000000 in
set_option maxRecDepth 100000 in
theorem w9_fit_b0 {X : sf_X} {V : sf_V} {r : Int32} {s' : sf_Sg} (C : sf_C X V cX9_fit 2 RX9 (some .int) 13) {s : sf_Sg} {x1 : Int32} (h : f9_fit_b0 s x1 = some (r, s')) : sf_G X V 2 (sf_Q X V (sf_Qi V r s')) s 0 [(0, .ref (V.2.1 0)), (1, .int x1)] [] := by
  unfold f9_fit_b0 at h
  refine sf_iload_n (pc := 0) C 1 dX9_fit_0 rfl ?_
  refine sf_iconst (v := -1) (pc := 1) C dX9_fit_1 (by decide) ?_
  refine sf_icmp_eq (tgt := 19) (pc := 2) C dX9_fit_2 rfl (fun c2 => ?_) (fun c2 => ?_)
  · replace h := (if_pos c2).symm.trans h
    exact w9_fit_b19 C h
  · replace h := (if_neg c2).symm.trans h
    refine sf_aload_n (pc := 5) C 0 dX9_fit_5 rfl ?_
    refine sf_getr (pc := 6) C nk_0 sh_0 rfl fl_9_33 dX9_fit_6 ?_
    refine sf_iload_n (pc := 9) C 1 dX9_fit_9 rfl ?_
    refine sf_callVi (pc := 10) C (As := [.int x1]) nk_10 sh_10 rfl yk_X7_hasBurden cl_9_162 (k7_hasBurden sf_S1 rfl) (by decide) rfl (Nat.le_of_ble_eq_true rfl) rfl dX9_fit_10 ?_
    refine sf_if_ne (tgt := 19) (pc := 13) C dX9_fit_13 rfl (fun c13 => ?_) (fun c13 => ?_)
    · replace h := (if_neg c13).symm.trans h
      exact w9_fit_b19 C h
    · replace h := (if_pos c13).symm.trans h
      refine sf_ldc (v := -1000000001) (pc := 16) C dX9_fit_16 tm_501 ?_
      exact sf_iretW (pc := 18) C dX9_fit_18 h
set_option maxHeartbeats 4000000 in
set_option maxRecDepth 100000 in
theorem k9_fit {l : Launch} {V : sf_V} {s : sf_Sg} {x1 : Int32} {r : Int32} {s' : sf_Sg} (h : f9_fit s x1 = some (r, s')) : sf_M l V yX9_fit (.code yX9_fit cX9_fit 2 (some .int)) 13 [.ref (V.2.1 0), .int x1] s (sf_Qi V r s') := by
  refine sf_enter (by decide) (Nat.le_of_ble_eq_true rfl) (fun X hX C => ?_)
  refine sf_sub [0, 1] rfl ?_
  exact w9_fit_b0 (show sf_C X V cX9_fit 2 RX9 (some .int) 13 from C)  h
set_option maxHeartbeats 4000000 in
set_option maxRecDepth 100000 in
theorem w2_layByTwo_b158 {X : sf_X} {V : sf_V} {s' : sf_Sg} {k40 : sf_Sg → Int32 → Int32 → Int32 → Int32 → Int32 → Int32 → Option sf_Sg} (C : sf_C X V cX2_layByTwo 10 RX2 none 12) (hk40 : ∀  (s : sf_Sg) (x2 : Int32) (x3 : Int32) (x4 : Int32) (x5 : Int32) (x6 : Int32) (x7 : Int32), k40 s x2 x3 x4 x5 x6 x7 = some s' → sf_G X V 10 (sf_Q X V (sf_Qv V s')) s 40 [(0, .ref (V.2.1 22)), (1, .ref (V.2.1 9)), (2, .int x2), (3, .int x3), (4, .int x4), (5, .int x5), (6, .int x6), (7, .int x7)] []) {s : sf_Sg} {x2 : Int32} {x3 : Int32} {x4 : Int32} {x5 : Int32} {x6 : Int32} {x7 : Int32} (h : f2_layByTwo_b158 k40 s x2 x3 x4 x5 x6 x7 = some s') : sf_G X V 10 (sf_Q X V (sf_Qv V s')) s 158 [(0, .ref (V.2.1 22)), (1, .ref (V.2.1 9)), (2, .int x2), (3, .int x3), (4, .int x4), (5, .int x5), (6, .int x6), (7, .int x7)] [] := by
  unfold f2_layByTwo_b158 at h
  refine sf_iinc (v := (x7 + 1)) (lv' := [(7, .int (x7 + 1)), (0, .ref (V.2.1 22)), (1, .ref (V.2.1 9)), (2, .int x2), (3, .int x3), (4, .int x4), (5, .int x5), (6, .int x6)]) (pc := 158) C 7 dX2_layByTwo_158 rfl rfl (by decide) rfl ?_
  refine sf_goto (tgt := 40) (pc := 161) C dX2_layByTwo_161 rfl ?_
  refine sf_sub [1, 2, 3, 4, 5, 6, 7, 0] rfl ?_
  exact hk40 _ _ _ _ _ _ _ h
set_option maxHeartbeats 4000000 in
set_option maxRecDepth 100000 in
theorem w2_layByTwo_b53 {X : sf_X} {V : sf_V} {s' : sf_Sg} {k40 : sf_Sg → Int32 → Int32 → Int32 → Int32 → Int32 → Int32 → Option sf_Sg} {k53 : sf_Sg → Int32 → Int32 → Int32 → Int32 → Int32 → Int32 → Int32 → Option sf_Sg} (C : sf_C X V cX2_layByTwo 10 RX2 none 12) (hk40 : ∀  (s : sf_Sg) (x2 : Int32) (x3 : Int32) (x4 : Int32) (x5 : Int32) (x6 : Int32) (x7 : Int32), k40 s x2 x3 x4 x5 x6 x7 = some s' → sf_G X V 10 (sf_Q X V (sf_Qv V s')) s 40 [(0, .ref (V.2.1 22)), (1, .ref (V.2.1 9)), (2, .int x2), (3, .int x3), (4, .int x4), (5, .int x5), (6, .int x6), (7, .int x7)] []) (hk53 : ∀  (s : sf_Sg) (x2 : Int32) (x3 : Int32) (x4 : Int32) (x5 : Int32) (x6 : Int32) (x7 : Int32) (x8 : Int32), k53 s x2 x3 x4 x5 x6 x7 x8 = some s' → sf_G X V 10 (sf_Q X V (sf_Qv V s')) s 53 [(0, .ref (V.2.1 22)), (1, .ref (V.2.1 9)), (2, .int x2), (3, .int x3), (4, .int x4), (5, .int x5), (6, .int x6), (7, .int x7), (8, .int x8)] []) {s : sf_Sg} {x2 : Int32} {x3 : Int32} {x4 : Int32} {x5 : Int32} {x6 : Int32} {x7 : Int32} {x8 : Int32} (h : f2_layByTwo_b53 k40 k53 s x2 x3 x4 x5 x6 x7 x8 = some s') : sf_G X V 10 (sf_Q X V (sf_Qv V s')) s 53 [(0, .ref (V.2.1 22)), (1, .ref (V.2.1 9)), (2, .int x2), (3, .int x3), (4, .int x4), (5, .int x5), (6, .int x6), (7, .int x7), (8, .int x8)] [] := by
  unfold f2_layByTwo_b53 at h
  refine sf_iload (pc := 53) C 8 dX2_layByTwo_53 rfl ?_
  refine sf_iload (pc := 55) C 5 dX2_layByTwo_55 rfl ?_
  refine sf_icmp_ge (tgt := 158) (pc := 57) C dX2_layByTwo_57 rfl (fun c57 => ?_) (fun c57 => ?_)
  · replace h := (if_pos c57).symm.trans h
    refine sf_sub [0, 1, 2, 3, 4, 5, 6, 7] rfl ?_
    exact w2_layByTwo_b158 C hk40 h
  · replace h := (if_neg c57).symm.trans h
    refine sf_aload_n (pc := 60) C 0 dX2_layByTwo_60 rfl ?_
    refine sf_bipush (v := 10) (pc := 61) C dX2_layByTwo_61 (by decide) ?_
    refine sf_iload (pc := 63) C 7 dX2_layByTwo_63 rfl ?_
    refine sf_imul (pc := 65) C dX2_layByTwo_65 ?_
    refine sf_iload (pc := 66) C 8 dX2_layByTwo_66 rfl ?_
    refine sf_iadd (pc := 68) C dX2_layByTwo_68 ?_
    refine sf_put (pc := 69) C nk_22 sh_22 rfl fw_2_52 rfl rfl dX2_layByTwo_69 ?_
    refine sf_aload_n (pc := 72) C 0 dX2_layByTwo_72 rfl ?_
    refine sf_aload_n (pc := 73) C 1 dX2_layByTwo_73 rfl ?_
    refine sf_iload (pc := 74) C 7 dX2_layByTwo_74 rfl ?_
    refine sf_iload_n (pc := 76) C 3 dX2_layByTwo_76 rfl ?_
    refine sf_iload (pc := 77) C 6 dX2_layByTwo_77 rfl ?_
    refine sf_isub (pc := 79) C dX2_layByTwo_79 ?_
    obtain ⟨q80, e80, h⟩ := sf_ob h
    refine sf_callVi (pc := 80) C (As := [.ref (V.2.1 9), .int x7, .int (x3 - x6)]) nk_22 sh_22 rfl yk_X2_putOn cl_2_55 (k2_putOn e80) (by decide) rfl (Nat.le_of_ble_eq_true rfl) rfl dX2_layByTwo_80 ?_
    refine sf_aload_n (pc := 83) C 1 dX2_layByTwo_83 rfl ?_
    refine sf_iload_n (pc := 84) C 2 dX2_layByTwo_84 rfl ?_
    refine sf_iload (pc := 85) C 7 dX2_layByTwo_85 rfl ?_
    refine sf_iconst (v := 1) (pc := 87) C dX2_layByTwo_87 (by decide) ?_
    refine sf_iload (pc := 88) C 4 dX2_layByTwo_88 rfl ?_
    obtain ⟨v90, e90, h⟩ := sf_ob h
    refine sf_callVi (pc := 90) C (As := [.int x2, .int x7, .int (1 : Int32), .int x4]) nk_9 sh_9 rfl yk_X6_rubOf cl_2_59 (k6_rubOf e90) (by decide) rfl (Nat.le_of_ble_eq_true rfl) rfl dX2_layByTwo_90 ?_
    refine sf_iadd (pc := 93) C dX2_layByTwo_93 ?_
    refine sf_aload_n (pc := 94) C 0 dX2_layByTwo_94 rfl ?_
    refine sf_aload_n (pc := 95) C 1 dX2_layByTwo_95 rfl ?_
    refine sf_iload (pc := 96) C 8 dX2_layByTwo_96 rfl ?_
    refine sf_iload (pc := 98) C 6 dX2_layByTwo_98 rfl ?_
    obtain ⟨q100, e100, h⟩ := sf_ob h
    refine sf_callVi (pc := 100) C (As := [.ref (V.2.1 9), .int x8, .int x6]) nk_22 sh_22 rfl yk_X2_putOn cl_2_55 (k2_putOn e100) (by decide) rfl (Nat.le_of_ble_eq_true rfl) rfl dX2_layByTwo_100 ?_
    refine sf_iadd (pc := 103) C dX2_layByTwo_103 ?_
    refine sf_aload_n (pc := 104) C 1 dX2_layByTwo_104 rfl ?_
    refine sf_iload_n (pc := 105) C 2 dX2_layByTwo_105 rfl ?_
    refine sf_iload (pc := 106) C 8 dX2_layByTwo_106 rfl ?_
    refine sf_iconst (v := 1) (pc := 108) C dX2_layByTwo_108 (by decide) ?_
    refine sf_iload (pc := 109) C 4 dX2_layByTwo_109 rfl ?_
    obtain ⟨v111, e111, h⟩ := sf_ob h
    refine sf_callVi (pc := 111) C (As := [.int x2, .int x8, .int (1 : Int32), .int x4]) nk_9 sh_9 rfl yk_X6_rubOf cl_2_59 (k6_rubOf e111) (by decide) rfl (Nat.le_of_ble_eq_true rfl) rfl dX2_layByTwo_111 ?_
    refine sf_iadd (pc := 114) C dX2_layByTwo_114 ?_
    refine sf_istore (lv' := [(9, .int (((q80.1 + v90) + q100.1) + v111)), (0, .ref (V.2.1 22)), (1, .ref (V.2.1 9)), (2, .int x2), (3, .int x3), (4, .int x4), (5, .int x5), (6, .int x6), (7, .int x7), (8, .int x8)]) (pc := 115) C dX2_layByTwo_115 (by decide) rfl ?_
    refine sf_aload_n (pc := 117) C 1 dX2_layByTwo_117 rfl ?_
    refine sf_aload_n (pc := 118) C 2 dX2_layByTwo_118 rfl ?_
    refine sf_iconst (v := 0) (pc := 119) C dX2_layByTwo_119 (by decide) ?_
    refine sf_iload (pc := 120) C 0 dX2_layByTwo_120 rfl ?_
    refine sf_iload_n (pc := 122) C 3 dX2_layByTwo_122 rfl ?_
    obtain ⟨s123, e123, h⟩ := sf_ob h
    refine sf_callVv (pc := 123) C (As := [.ref (V.2.1 9), .int (0 : Int32), .int (((q80.1 + v90) + q100.1) + v111), .int x2]) nk_22 sh_22 rfl yk_X2_lay cl_2_24 (k2_lay 9 _ _ _ _ _ e123) (by decide) rfl (Nat.le_of_ble_eq_true rfl) rfl dX2_layByTwo_123 ?_
    refine sf_aload_n (pc := 126) C 1 dX2_layByTwo_126 rfl ?_
    refine sf_getr (pc := 127) C nk_22 sh_22 rfl fl_2_15 dX2_layByTwo_127 ?_
    refine sf_iload (pc := 130) C 8 dX2_layByTwo_130 rfl ?_
    refine sf_dup2 (pc := 132) C dX2_layByTwo_132 rfl rfl ?_
    obtain ⟨v133, e133, h⟩ := sf_ob h
    refine sf_iald (pc := 133) C nk_24 sh_24 e133 dX2_layByTwo_133 ?_
    refine sf_iload_n (pc := 134) C 4 dX2_layByTwo_134 rfl ?_
    refine sf_iload (pc := 135) C 7 dX2_layByTwo_135 rfl ?_
    refine sf_isub (pc := 137) C dX2_layByTwo_137 ?_
    refine sf_isub (pc := 138) C dX2_layByTwo_138 ?_
    obtain ⟨s139, e139, h⟩ := sf_ob h
    refine sf_iast (pc := 139) C nk_24 sh_24 e139 dX2_layByTwo_139 ?_
    refine sf_aload_n (pc := 140) C 1 dX2_layByTwo_140 rfl ?_
    refine sf_getr (pc := 141) C nk_22 sh_22 rfl fl_2_15 dX2_layByTwo_141 ?_
    refine sf_iload (pc := 144) C 9 dX2_layByTwo_144 rfl ?_
    refine sf_dup2 (pc := 146) C dX2_layByTwo_146 rfl rfl ?_
    obtain ⟨v147, e147, h⟩ := sf_ob h
    refine sf_iald (pc := 147) C nk_24 sh_24 e147 dX2_layByTwo_147 ?_
    refine sf_iload (pc := 148) C 7 dX2_layByTwo_148 rfl ?_
    refine sf_isub (pc := 150) C dX2_layByTwo_150 ?_
    obtain ⟨s151, e151, h⟩ := sf_ob h
    refine sf_iast (pc := 151) C nk_24 sh_24 e151 dX2_layByTwo_151 ?_
    refine sf_iinc (v := (x8 + 1)) (lv' := [(8, .int (x8 + 1)), (9, .int (((q80.1 + v90) + q100.1) + v111)), (0, .ref (V.2.1 22)), (1, .ref (V.2.1 9)), (2, .int x2), (3, .int x3), (4, .int x4), (5, .int x5), (6, .int x6), (7, .int x7)]) (pc := 152) C 9 dX2_layByTwo_152 rfl rfl (by decide) rfl ?_
    refine sf_goto (tgt := 53) (pc := 155) C dX2_layByTwo_155 rfl ?_
    refine sf_sub [2, 3, 4, 5, 6, 7, 8, 9, 0] rfl ?_
    exact hk53 _ _ _ _ _ _ _ _ h
set_option maxHeartbeats 4000000 in
set_option maxRecDepth 100000 in
theorem w2_layByTwo_L53 {X : sf_X} {V : sf_V} {s' : sf_Sg} {k40 : sf_Sg → Int32 → Int32 → Int32 → Int32 → Int32 → Int32 → Option sf_Sg} (C : sf_C X V cX2_layByTwo 10 RX2 none 12) (hk40 : ∀  (s : sf_Sg) (x2 : Int32) (x3 : Int32) (x4 : Int32) (x5 : Int32) (x6 : Int32) (x7 : Int32), k40 s x2 x3 x4 x5 x6 x7 = some s' → sf_G X V 10 (sf_Q X V (sf_Qv V s')) s 40 [(0, .ref (V.2.1 22)), (1, .ref (V.2.1 9)), (2, .int x2), (3, .int x3), (4, .int x4), (5, .int x5), (6, .int x6), (7, .int x7)] []) : ∀  (s : sf_Sg) (x2 : Int32) (x3 : Int32) (x4 : Int32) (x5 : Int32) (x6 : Int32) (x7 : Int32) (x8 : Int32), f2_layByTwo_L53 k40 s x2 x3 x4 x5 x6 x7 x8 = some s' → sf_G X V 10 (sf_Q X V (sf_Qv V s')) s 53 [(0, .ref (V.2.1 22)), (1, .ref (V.2.1 9)), (2, .int x2), (3, .int x3), (4, .int x4), (5, .int x5), (6, .int x6), (7, .int x7), (8, .int x8)] [] :=
  sf_it_ind (fun (k : sf_Sg → Int32 → Int32 → Int32 → Int32 → Int32 → Int32 → Int32 → Option sf_Sg) => ∀  (s : sf_Sg) (x2 : Int32) (x3 : Int32) (x4 : Int32) (x5 : Int32) (x6 : Int32) (x7 : Int32) (x8 : Int32), k s x2 x3 x4 x5 x6 x7 x8 = some s' → sf_G X V 10 (sf_Q X V (sf_Qv V s')) s 53 [(0, .ref (V.2.1 22)), (1, .ref (V.2.1 9)), (2, .int x2), (3, .int x3), (4, .int x4), (5, .int x5), (6, .int x6), (7, .int x7), (8, .int x8)] []) _ _ (fun s x2 x3 x4 x5 x6 x7 x8 h => by cases h) (fun k hk s x2 x3 x4 x5 x6 x7 x8 h => w2_layByTwo_b53 C hk40 hk h) _
set_option maxHeartbeats 4000000 in
set_option maxRecDepth 100000 in
theorem w2_layByTwo_b40 {X : sf_X} {V : sf_V} {s' : sf_Sg} {k40 : sf_Sg → Int32 → Int32 → Int32 → Int32 → Int32 → Int32 → Option sf_Sg} (C : sf_C X V cX2_layByTwo 10 RX2 none 12) (hk40 : ∀  (s : sf_Sg) (x2 : Int32) (x3 : Int32) (x4 : Int32) (x5 : Int32) (x6 : Int32) (x7 : Int32), k40 s x2 x3 x4 x5 x6 x7 = some s' → sf_G X V 10 (sf_Q X V (sf_Qv V s')) s 40 [(0, .ref (V.2.1 22)), (1, .ref (V.2.1 9)), (2, .int x2), (3, .int x3), (4, .int x4), (5, .int x5), (6, .int x6), (7, .int x7)] []) {s : sf_Sg} {x2 : Int32} {x3 : Int32} {x4 : Int32} {x5 : Int32} {x6 : Int32} {x7 : Int32} (h : f2_layByTwo_b40 k40 s x2 x3 x4 x5 x6 x7 = some s') : sf_G X V 10 (sf_Q X V (sf_Qv V s')) s 40 [(0, .ref (V.2.1 22)), (1, .ref (V.2.1 9)), (2, .int x2), (3, .int x3), (4, .int x4), (5, .int x5), (6, .int x6), (7, .int x7)] [] := by
  unfold f2_layByTwo_b40 at h
  refine sf_iload (pc := 40) C 7 dX2_layByTwo_40 rfl ?_
  refine sf_iload (pc := 42) C 5 dX2_layByTwo_42 rfl ?_
  refine sf_icmp_ge (tgt := 164) (pc := 44) C dX2_layByTwo_44 rfl (fun c44 => ?_) (fun c44 => ?_)
  · replace h := (if_pos c44).symm.trans h
    exact sf_vretW (pc := 164) C dX2_layByTwo_164 h
  · replace h := (if_neg c44).symm.trans h
    refine sf_iload (pc := 47) C 7 dX2_layByTwo_47 rfl ?_
    refine sf_iconst (v := 1) (pc := 49) C dX2_layByTwo_49 (by decide) ?_
    refine sf_iadd (pc := 50) C dX2_layByTwo_50 ?_
    refine sf_istore (lv' := [(8, .int (x7 + (1 : Int32))), (0, .ref (V.2.1 22)), (1, .ref (V.2.1 9)), (2, .int x2), (3, .int x3), (4, .int x4), (5, .int x5), (6, .int x6), (7, .int x7)]) (pc := 51) C dX2_layByTwo_51 (by decide) rfl ?_
    refine sf_sub [1, 2, 3, 4, 5, 6, 7, 8, 0] rfl ?_
    exact w2_layByTwo_L53 C hk40 _ _ _ _ _ _ _ _ h
set_option maxHeartbeats 4000000 in
set_option maxRecDepth 100000 in
theorem w2_layByTwo_L40 {X : sf_X} {V : sf_V} {s' : sf_Sg} (C : sf_C X V cX2_layByTwo 10 RX2 none 12) : ∀  (s : sf_Sg) (x2 : Int32) (x3 : Int32) (x4 : Int32) (x5 : Int32) (x6 : Int32) (x7 : Int32), f2_layByTwo_L40 s x2 x3 x4 x5 x6 x7 = some s' → sf_G X V 10 (sf_Q X V (sf_Qv V s')) s 40 [(0, .ref (V.2.1 22)), (1, .ref (V.2.1 9)), (2, .int x2), (3, .int x3), (4, .int x4), (5, .int x5), (6, .int x6), (7, .int x7)] [] :=
  sf_it_ind (fun (k : sf_Sg → Int32 → Int32 → Int32 → Int32 → Int32 → Int32 → Option sf_Sg) => ∀  (s : sf_Sg) (x2 : Int32) (x3 : Int32) (x4 : Int32) (x5 : Int32) (x6 : Int32) (x7 : Int32), k s x2 x3 x4 x5 x6 x7 = some s' → sf_G X V 10 (sf_Q X V (sf_Qv V s')) s 40 [(0, .ref (V.2.1 22)), (1, .ref (V.2.1 9)), (2, .int x2), (3, .int x3), (4, .int x4), (5, .int x5), (6, .int x6), (7, .int x7)] []) _ _ (fun s x2 x3 x4 x5 x6 x7 h => by cases h) (fun k hk s x2 x3 x4 x5 x6 x7 h => w2_layByTwo_b40 C hk h) _
set_option maxHeartbeats 4000000 in
set_option maxRecDepth 100000 in
theorem w2_layByTwo_b0 {X : sf_X} {V : sf_V} {s' : sf_Sg} (C : sf_C X V cX2_layByTwo 10 RX2 none 12) {s : sf_Sg} {x2 : Int32} (h : f2_layByTwo_b0 s x2 = some s') : sf_G X V 10 (sf_Q X V (sf_Qv V s')) s 0 [(0, .ref (V.2.1 22)), (1, .ref (V.2.1 9)), (2, .int x2)] [] := by
  unfold f2_layByTwo_b0 at h
  refine sf_aload_n (pc := 0) C 0 dX2_layByTwo_0 rfl ?_
  obtain ⟨s1, e1, h⟩ := sf_ob h
  refine sf_callVv (pc := 1) C (As := []) nk_22 sh_22 rfl yk_X2_begin cl_2_21 (k2_begin e1) (by decide) rfl (Nat.le_of_ble_eq_true rfl) rfl dX2_layByTwo_1 ?_
  refine sf_aload_n (pc := 4) C 1 dX2_layByTwo_4 rfl ?_
  refine sf_getr (pc := 5) C nk_9 sh_9 rfl fl_2_28 dX2_layByTwo_5 ?_
  refine sf_getr (pc := 8) C nk_16 sh_16 rfl fl_2_34 dX2_layByTwo_8 ?_
  refine sf_iload_n (pc := 11) C 2 dX2_layByTwo_11 rfl ?_
  obtain ⟨v12, e12, h⟩ := sf_ob h
  refine sf_iald (pc := 12) C nk_17 sh_17 e12 dX2_layByTwo_12 ?_
  refine sf_istore_n (lv' := [(3, .int v12), (0, .ref (V.2.1 22)), (1, .ref (V.2.1 9)), (2, .int x2)]) (pc := 13) C dX2_layByTwo_13 (by decide) rfl ?_
  refine sf_aload_n (pc := 14) C 2 dX2_layByTwo_14 rfl ?_
  refine sf_getr (pc := 15) C nk_9 sh_9 rfl fl_2_28 dX2_layByTwo_15 ?_
  refine sf_get (pc := 18) C nk_16 sh_16 rfl fl_2_39 dX2_layByTwo_18 ?_
  refine sf_istore (lv' := [(4, .int (s1 16 0)), (3, .int v12), (0, .ref (V.2.1 22)), (1, .ref (V.2.1 9)), (2, .int x2)]) (pc := 21) C dX2_layByTwo_21 (by decide) rfl ?_
  refine sf_aload_n (pc := 23) C 3 dX2_layByTwo_23 rfl ?_
  refine sf_getr (pc := 24) C nk_9 sh_9 rfl fl_2_43 dX2_layByTwo_24 ?_
  refine sf_get (pc := 27) C nk_10 sh_10 rfl fl_2_47 dX2_layByTwo_27 ?_
  refine sf_istore (lv' := [(5, .int (s1 10 3)), (4, .int (s1 16 0)), (3, .int v12), (0, .ref (V.2.1 22)), (1, .ref (V.2.1 9)), (2, .int x2)]) (pc := 30) C dX2_layByTwo_30 (by decide) rfl ?_
  refine sf_iload_n (pc := 32) C 2 dX2_layByTwo_32 rfl ?_
  refine sf_iconst (v := 2) (pc := 33) C dX2_layByTwo_33 (by decide) ?_
  refine sf_idiv (pc := 34) C dX2_layByTwo_34 (by decide) ?_
  refine sf_istore (lv' := [(6, .int (v12 / (2 : Int32))), (5, .int (s1 10 3)), (4, .int (s1 16 0)), (3, .int v12), (0, .ref (V.2.1 22)), (1, .ref (V.2.1 9)), (2, .int x2)]) (pc := 35) C dX2_layByTwo_35 (by decide) rfl ?_
  refine sf_iconst (v := 0) (pc := 37) C dX2_layByTwo_37 (by decide) ?_
  refine sf_istore (lv' := [(7, .int (0 : Int32)), (6, .int (v12 / (2 : Int32))), (5, .int (s1 10 3)), (4, .int (s1 16 0)), (3, .int v12), (0, .ref (V.2.1 22)), (1, .ref (V.2.1 9)), (2, .int x2)]) (pc := 38) C dX2_layByTwo_38 (by decide) rfl ?_
  refine sf_sub [5, 6, 7, 4, 3, 2, 1, 0] rfl ?_
  exact w2_layByTwo_L40 C _ _ _ _ _ _ _ h
set_option maxHeartbeats 4000000 in
set_option maxRecDepth 100000 in
theorem k2_layByTwo {l : Launch} {V : sf_V} {s : sf_Sg} {x2 : Int32} {s' : sf_Sg} (h : f2_layByTwo s x2 = some s') : sf_M l V yX2_layByTwo (.code yX2_layByTwo cX2_layByTwo 10 none) 12 [.ref (V.2.1 22), .ref (V.2.1 9), .int x2] s (sf_Qv V s') := by
  refine sf_enter (by decide) (Nat.le_of_ble_eq_true rfl) (fun X hX C => ?_)
  refine sf_sub [0, 1, 2] rfl ?_
  exact w2_layByTwo_b0 (show sf_C X V cX2_layByTwo 10 RX2 none 12 from C)  h
