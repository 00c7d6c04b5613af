set_option maxHeartbeats 4000000 in
set_option maxRecDepth 100000 in
theorem w9_byTwo_b0 {X : sf_X} {V : sf_V} {r : Int32} {s' : sf_Sg} (C : sf_C X V cX9_byTwo 3 RX9 (some .int) 13) {s : sf_Sg} {x1 : Int32} {x2 : Int32} (h : f9_byTwo_b0 s x1 x2 = some (r, s')) : sf_G X V 3 (sf_Q X V (sf_Qi V r s')) s 0 [(0, .ref (V.2.1 0)), (1, .int x1), (2, .int x2)] [] := by
  unfold f9_byTwo_b0 at h
  refine sf_aload_n (pc := 0) C 0 dX9_byTwo_0 rfl ?_
  refine sf_getr (pc := 1) C nk_0 sh_0 rfl fl_9_33 dX9_byTwo_1 ?_
  refine sf_iload_n (pc := 4) C 1 dX9_byTwo_4 rfl ?_
  refine sf_callVi (pc := 5) C (As := [.int x1]) nk_10 sh_10 rfl yk_X7_hasBurden cl_9_162 (k7_hasBurden sf_S1 rfl) (by decide) rfl (Nat.le_of_ble_eq_true rfl) rfl dX9_byTwo_5 ?_
  refine sf_if_ne (tgt := 14) (pc := 8) C dX9_byTwo_8 rfl (fun c8 => ?_) (fun c8 => ?_)
  · replace h := (if_neg c8).symm.trans h
    refine sf_iload_n (pc := 14) C 2 dX9_byTwo_14 rfl ?_
    refine sf_iconst (v := 0) (pc := 15) C dX9_byTwo_15 (by decide) ?_
    refine sf_iconst (v := 1) (pc := 16) C dX9_byTwo_16 (by decide) ?_
    refine sf_callSi (pc := 17) C (As := [.int x2, .int (0 : Int32), .int (1 : Int32)]) yk_X9_within cl_9_89 (k9_within rfl) (by decide) rfl (Nat.le_of_ble_eq_true rfl) rfl dX9_byTwo_17 ?_
    refine sf_if_ne (tgt := 26) (pc := 20) C dX9_byTwo_20 rfl (fun c20 => ?_) (fun c20 => ?_)
    · replace h := (if_neg c20).symm.trans h
      refine sf_aload_n (pc := 26) C 0 dX9_byTwo_26 rfl ?_
      refine sf_getr (pc := 27) C nk_0 sh_0 rfl fl_9_33 dX9_byTwo_27 ?_
      refine sf_get (pc := 30) C nk_10 sh_10 rfl fl_9_125 dX9_byTwo_30 ?_
      refine sf_iconst (v := 2) (pc := 33) C dX9_byTwo_33 (by decide) ?_
      refine sf_icmp_ge (tgt := 39) (pc := 34) C dX9_byTwo_34 rfl (fun c34 => ?_) (fun c34 => ?_)
      · replace h := (if_pos c34).symm.trans h
        refine sf_aload_n (pc := 39) C 0 dX9_byTwo_39 rfl ?_
        refine sf_getr (pc := 40) C nk_0 sh_0 rfl fl_9_42 dX9_byTwo_40 ?_
        refine sf_aload_n (pc := 43) C 0 dX9_byTwo_43 rfl ?_
        refine sf_getr (pc := 44) C nk_0 sh_0 rfl fl_9_26 dX9_byTwo_44 ?_
        refine sf_iload_n (pc := 47) C 1 dX9_byTwo_47 rfl ?_
        obtain ⟨s48, e48, h⟩ := sf_ob h
        refine sf_callVv (pc := 48) C (As := [.ref (V.2.1 9), .int x1]) nk_22 sh_22 rfl yk_X2_layByTwo cl_9_279 (k2_layByTwo e48) (by decide) rfl (Nat.le_of_ble_eq_true rfl) rfl dX9_byTwo_48 ?_
        refine sf_iload_n (pc := 51) C 2 dX9_byTwo_51 rfl ?_
        refine sf_if_ne (tgt := 65) (pc := 52) C dX9_byTwo_52 rfl (fun c52 => ?_) (fun c52 => ?_)
        · replace h := (if_neg c52).symm.trans h
          refine sf_aload_n (pc := 65) C 0 dX9_byTwo_65 rfl ?_
          refine sf_getr (pc := 66) C nk_0 sh_0 rfl fl_9_42 dX9_byTwo_66 ?_
          refine sf_get (pc := 69) C nk_22 sh_22 rfl fl_9_283 dX9_byTwo_69 ?_
          exact sf_iretW (pc := 72) C dX9_byTwo_72 h
        · replace h := (if_pos c52).symm.trans h
          refine sf_aload_n (pc := 55) C 0 dX9_byTwo_55 rfl ?_
          refine sf_getr (pc := 56) C nk_0 sh_0 rfl fl_9_42 dX9_byTwo_56 ?_
          refine sf_get (pc := 59) C nk_22 sh_22 rfl fl_9_273 dX9_byTwo_59 ?_
          refine sf_goto (tgt := 72) (pc := 62) C dX9_byTwo_62 rfl ?_
          exact sf_iretW (pc := 72) C dX9_byTwo_72 h
      · replace h := (if_neg c34).symm.trans h
        refine sf_iconst (v := -1) (pc := 37) C dX9_byTwo_37 (by decide) ?_
        exact sf_iretW (pc := 38) C dX9_byTwo_38 h
    · replace h := (if_pos c20).symm.trans h
      refine sf_ldc (v := -1000000002) (pc := 23) C dX9_byTwo_23 tm_334 ?_
      exact sf_iretW (pc := 25) C dX9_byTwo_25 h
  · replace h := (if_pos c8).symm.trans h
    refine sf_ldc (v := -1000000001) (pc := 11) C dX9_byTwo_11 tm_501 ?_
    exact sf_iretW (pc := 13) C dX9_byTwo_13 h
set_option maxHeartbeats 4000000 in
set_option maxRecDepth 100000 in
theorem k9_byTwo {l : Launch} {V : sf_V} {s : sf_Sg} {x1 : Int32} {x2 : Int32} {r : Int32} {s' : sf_Sg} (h : f9_byTwo s x1 x2 = some (r, s')) : sf_M l V yX9_byTwo (.code yX9_byTwo cX9_byTwo 3 (some .int)) 13 [.ref (V.2.1 0), .int x1, .int x2] s (sf_Qi V r s') := by
  refine sf_enter (by decide) (Nat.le_of_ble_eq_true rfl) (fun X hX C => ?_)
  refine sf_sub [0, 1, 2] rfl ?_
  exact w9_byTwo_b0 (show sf_C X V cX9_byTwo 3 RX9 (some .int) 13 from C)  h
set_option maxHeartbeats 4000000 in
set_option maxRecDepth 100000 in
theorem w8_putDownNext_b11 {X : sf_X} {V : sf_V} {self : sf_Sg → Int32 → Int32 → Int32 → Int32 → Int32 → Option sf_Sg} {e : Nat} (hself : ∀ (s : sf_Sg) (x2 x3 x4 x5 x6 : Int32) (s' : sf_Sg), self s x2 x3 x4 x5 x6 = some s' → sf_M (sf_l X) V yX8_putDownNext (.code yX8_putDownNext cX8_putDownNext 10 none) (e + 4) [.ref (V.2.1 26), .ref (V.2.1 9), .int x2, .int x3, .int x4, .int x5, .int x6] s (sf_Qv V s')) {s' : sf_Sg} (C : sf_C X V cX8_putDownNext 10 RX8 none (e + 5)) {s : sf_Sg} {x4 : Int32} {x5 : Int32} (h : f8_putDownNext_b11 self s x4 x5 = some s') : sf_G X V 10 (sf_Q X V (sf_Qv V s')) s 11 [(0, .ref (V.2.1 26)), (4, .int x4), (5, .int x5)] [] := by
  unfold f8_putDownNext_b11 at h
  refine sf_iload (pc := 11) C 1 dX8_putDownNext_11 rfl ?_
  refine sf_aload_n (pc := 13) C 0 dX8_putDownNext_13 rfl ?_
  refine sf_get (pc := 14) C nk_26 sh_26 rfl fl_8_10 dX8_putDownNext_14 ?_
  refine sf_icmp_ge (tgt := 32) (pc := 17) C dX8_putDownNext_17 rfl (fun c17 => ?_) (fun c17 => ?_)
  · replace h := (if_pos c17).symm.trans h
    exact sf_vretW (pc := 32) C dX8_putDownNext_32 h
  · replace h := (if_neg c17).symm.trans h
    refine sf_aload_n (pc := 20) C 0 dX8_putDownNext_20 rfl ?_
    refine sf_iload (pc := 21) C 1 dX8_putDownNext_21 rfl ?_
    refine sf_put (pc := 23) C nk_26 sh_26 rfl fw_8_10 rfl rfl dX8_putDownNext_23 ?_
    refine sf_aload_n (pc := 26) C 0 dX8_putDownNext_26 rfl ?_
    refine sf_iload (pc := 27) C 2 dX8_putDownNext_27 rfl ?_
    refine sf_put (pc := 29) C nk_26 sh_26 rfl fw_8_16 rfl rfl dX8_putDownNext_29 ?_
    exact sf_vretW (pc := 32) C dX8_putDownNext_32 h
set_option maxHeartbeats 4000000 in
set_option maxRecDepth 100000 in
theorem w8_putDownNext_b112 {X : sf_X} {V : sf_V} {self : sf_Sg → Int32 → Int32 → Int32 → Int32 → Int32 → Option sf_Sg} {e : Nat} (hself : ∀ (s : sf_Sg) (x2 x3 x4 x5 x6 : Int32) (s' : sf_Sg), self s x2 x3 x4 x5 x6 = some s' → sf_M (sf_l X) V yX8_putDownNext (.code yX8_putDownNext cX8_putDownNext 10 none) (e + 4) [.ref (V.2.1 26), .ref (V.2.1 9), .int x2, .int x3, .int x4, .int x5, .int x6] s (sf_Qv V s')) {s' : sf_Sg} {k36 : sf_Sg → Int32 → Int32 → Int32 → Int32 → Int32 → Int32 → Option sf_Sg} (C : sf_C X V cX8_putDownNext 10 RX8 none (e + 5)) (hk36 : ∀  (s : sf_Sg) (x2 : Int32) (x3 : Int32) (x4 : Int32) (x5 : Int32) (x6 : Int32) (x7 : Int32), k36 s x2 x3 x4 x5 x6 x7 = some s' → sf_G X V 10 (sf_Q X V (sf_Qv V s')) s 36 [(0, .ref (V.2.1 26)), (1, .ref (V.2.1 9)), (2, .int x2), (3, .int x3), (4, .int x4), (5, .int x5), (6, .int x6), (7, .int x7)] []) {s : sf_Sg} {x2 : Int32} {x3 : Int32} {x4 : Int32} {x5 : Int32} {x6 : Int32} {x7 : Int32} (h : f8_putDownNext_b112 self k36 s x2 x3 x4 x5 x6 x7 = some s') : sf_G X V 10 (sf_Q X V (sf_Qv V s')) s 112 [(0, .ref (V.2.1 26)), (1, .ref (V.2.1 9)), (2, .int x2), (3, .int x3), (4, .int x4), (5, .int x5), (6, .int x6), (7, .int x7)] [] := by
  unfold f8_putDownNext_b112 at h
  refine sf_iinc (v := (x7 + 1)) (lv' := [(7, .int (x7 + 1)), (0, .ref (V.2.1 26)), (1, .ref (V.2.1 9)), (2, .int x2), (3, .int x3), (4, .int x4), (5, .int x5), (6, .int x6)]) (pc := 112) C 7 dX8_putDownNext_112 rfl rfl (by decide) rfl ?_
  refine sf_goto (tgt := 36) (pc := 115) C dX8_putDownNext_115 rfl ?_
  refine sf_sub [1, 2, 3, 4, 5, 6, 7, 0] rfl ?_
  exact hk36 _ _ _ _ _ _ _ h
set_option maxHeartbeats 4000000 in
set_option maxRecDepth 100000 in
theorem w8_putDownNext_b36 {X : sf_X} {V : sf_V} {self : sf_Sg → Int32 → Int32 → Int32 → Int32 → Int32 → Option sf_Sg} {e : Nat} (hself : ∀ (s : sf_Sg) (x2 x3 x4 x5 x6 : Int32) (s' : sf_Sg), self s x2 x3 x4 x5 x6 = some s' → sf_M (sf_l X) V yX8_putDownNext (.code yX8_putDownNext cX8_putDownNext 10 none) (e + 4) [.ref (V.2.1 26), .ref (V.2.1 9), .int x2, .int x3, .int x4, .int x5, .int x6] s (sf_Qv V s')) {s' : sf_Sg} {k36 : sf_Sg → Int32 → Int32 → Int32 → Int32 → Int32 → Int32 → Option sf_Sg} (C : sf_C X V cX8_putDownNext 10 RX8 none (e + 5)) (hk36 : ∀  (s : sf_Sg) (x2 : Int32) (x3 : Int32) (x4 : Int32) (x5 : Int32) (x6 : Int32) (x7 : Int32), k36 s x2 x3 x4 x5 x6 x7 = some s' → sf_G X V 10 (sf_Q X V (sf_Qv V s')) s 36 [(0, .ref (V.2.1 26)), (1, .ref (V.2.1 9)), (2, .int x2), (3, .int x3), (4, .int x4), (5, .int x5), (6, .int x6), (7, .int x7)] []) {s : sf_Sg} {x2 : Int32} {x3 : Int32} {x4 : Int32} {x5 : Int32} {x6 : Int32} {x7 : Int32} (h : f8_putDownNext_b36 self k36 s x2 x3 x4 x5 x6 x7 = some s') : sf_G X V 10 (sf_Q X V (sf_Qv V s')) s 36 [(0, .ref (V.2.1 26)), (1, .ref (V.2.1 9)), (2, .int x2), (3, .int x3), (4, .int x4), (5, .int x5), (6, .int x6), (7, .int x7)] [] := by
  unfold f8_putDownNext_b36 at h
  refine sf_iload (pc := 36) C 7 dX8_putDownNext_36 rfl ?_
  refine sf_aload_n (pc := 38) C 1 dX8_putDownNext_38 rfl ?_
  refine sf_getr (pc := 39) C nk_9 sh_9 rfl fl_8_39 dX8_putDownNext_39 ?_
  refine sf_get (pc := 42) C nk_10 sh_10 rfl fl_8_43 dX8_putDownNext_42 ?_
  refine sf_icmp_ge (tgt := 118) (pc := 45) C dX8_putDownNext_45 rfl (fun c45 => ?_) (fun c45 => ?_)
  · replace h := (if_pos c45).symm.trans h
    exact sf_vretW (pc := 118) C dX8_putDownNext_118 h
  · replace h := (if_neg c45).symm.trans h
    refine sf_iload_n (pc := 48) C 3 dX8_putDownNext_48 rfl ?_
    refine sf_iload (pc := 49) C 7 dX8_putDownNext_49 rfl ?_
    refine sf_callNi (pc := 51) C (As := [.int x3, .int x7]) yk_X9_has cl_8_48 (k9_has rfl) (by omega) rfl (Nat.le_of_ble_eq_true rfl) rfl dX8_putDownNext_51 ?_
    refine sf_if_eq (tgt := 112) (pc := 54) C dX8_putDownNext_54 rfl (fun c54 => ?_) (fun c54 => ?_)
    · replace h := (if_pos c54).symm.trans h
      exact w8_putDownNext_b112 hself C hk36 h
    · replace h := (if_neg c54).symm.trans h
      refine sf_iload_n (pc := 57) C 3 dX8_putDownNext_57 rfl ?_
      refine sf_iconst (v := 1) (pc := 58) C dX8_putDownNext_58 (by decide) ?_
      refine sf_iload (pc := 59) C 7 dX8_putDownNext_59 rfl ?_
      refine sf_ishl (pc := 61) C dX8_putDownNext_61 ?_
      refine sf_iconst (v := -1) (pc := 62) C dX8_putDownNext_62 (by decide) ?_
      refine sf_ixor (pc := 63) C dX8_putDownNext_63 ?_
      refine sf_iand (pc := 64) C dX8_putDownNext_64 ?_
      refine sf_istore (lv' := [(8, .int (x3 &&& (((1 : Int32) <<< (x7 &&& 31)) ^^^ (-1 : Int32)))), (0, .ref (V.2.1 26)), (1, .ref (V.2.1 9)), (2, .int x2), (3, .int x3), (4, .int x4), (5, .int x5), (6, .int x6), (7, .int x7)]) (pc := 65) C dX8_putDownNext_65 (by decide) rfl ?_
      refine sf_aload_n (pc := 67) C 2 dX8_putDownNext_67 rfl ?_
      refine sf_iload_n (pc := 68) C 3 dX8_putDownNext_68 rfl ?_
      refine sf_iload (pc := 69) C 5 dX8_putDownNext_69 rfl ?_
      refine sf_iload (pc := 71) C 0 dX8_putDownNext_71 rfl ?_
      refine sf_aload_n (pc := 73) C 2 dX8_putDownNext_73 rfl ?_
      refine sf_getr (pc := 74) C nk_9 sh_9 rfl fl_8_25 dX8_putDownNext_74 ?_
      refine sf_get (pc := 77) C nk_16 sh_16 rfl fl_8_52 dX8_putDownNext_77 ?_
      refine sf_iload (pc := 80) C 7 dX8_putDownNext_80 rfl ?_
      refine sf_iadd (pc := 82) C dX8_putDownNext_82 ?_
      obtain ⟨v83, e83, h⟩ := sf_ob h
      refine sf_callVi (pc := 83) C (As := [.int x2, .int x4, .int (x3 &&& (((1 : Int32) <<< (x7 &&& 31)) ^^^ (-1 : Int32))), .int ((s 16 0) + x6)]) nk_9 sh_9 rfl yk_X6_soreBehindDay cl_8_55 (k6_soreBehindDay e83) (by omega) rfl (Nat.le_of_ble_eq_true rfl) rfl dX8_putDownNext_83 ?_
      refine sf_istore (lv' := [(9, .int v83), (8, .int (x3 &&& (((1 : Int32) <<< (x7 &&& 31)) ^^^ (-1 : Int32)))), (0, .ref (V.2.1 26)), (1, .ref (V.2.1 9)), (2, .int x2), (3, .int x3), (4, .int x4), (5, .int x5), (6, .int x6), (7, .int x7)]) (pc := 86) C dX8_putDownNext_86 (by decide) rfl ?_
      refine sf_aload_n (pc := 88) C 2 dX8_putDownNext_88 rfl ?_
      refine sf_aload_n (pc := 89) C 3 dX8_putDownNext_89 rfl ?_
      refine sf_iload_n (pc := 90) C 4 dX8_putDownNext_90 rfl ?_
      refine sf_iload (pc := 91) C 1 dX8_putDownNext_91 rfl ?_
      refine sf_iload (pc := 93) C 0 dX8_putDownNext_93 rfl ?_
      refine sf_iload (pc := 95) C 7 dX8_putDownNext_95 rfl ?_
      refine sf_bipush (v := 10) (pc := 97) C dX8_putDownNext_97 (by decide) ?_
      refine sf_imul (pc := 99) C dX8_putDownNext_99 ?_
      refine sf_iload (pc := 100) C 9 dX8_putDownNext_100 rfl ?_
      refine sf_iadd (pc := 102) C dX8_putDownNext_102 ?_
      refine sf_iconst (v := 1) (pc := 103) C dX8_putDownNext_103 (by decide) ?_
      refine sf_iadd (pc := 104) C dX8_putDownNext_104 ?_
      refine sf_iload (pc := 105) C 8 dX8_putDownNext_105 rfl ?_
      refine sf_iconst (v := 1) (pc := 107) C dX8_putDownNext_107 (by decide) ?_
      refine sf_iadd (pc := 108) C dX8_putDownNext_108 ?_
      obtain ⟨s109, e109, h⟩ := sf_ob h
      refine sf_callVv (pc := 109) C (As := [.ref (V.2.1 9), .int x2, .int (x3 &&& (((1 : Int32) <<< (x7 &&& 31)) ^^^ (-1 : Int32))), .int v83, .int (((x5 * (10 : Int32)) + x7) + (1 : Int32)), .int (x6 + (1 : Int32))]) nk_26 sh_26 rfl yk_X8_putDownNext cl_8_35 (hself _ _ _ _ _ _ _ e109) (by omega) rfl (Nat.le_of_ble_eq_true rfl) rfl dX8_putDownNext_109 ?_
      refine sf_sub [2, 3, 4, 5, 6, 7, 8, 9] rfl ?_
      exact w8_putDownNext_b112 hself C hk36 h
set_option maxHeartbeats 4000000 in
set_option maxRecDepth 100000 in
theorem w8_putDownNext_L36 {X : sf_X} {V : sf_V} {self : sf_Sg → Int32 → Int32 → Int32 → Int32 → Int32 → Option sf_Sg} {e : Nat} (hself : ∀ (s : sf_Sg) (x2 x3 x4 x5 x6 : Int32) (s' : sf_Sg), self s x2 x3 x4 x5 x6 = some s' → sf_M (sf_l X) V yX8_putDownNext (.code yX8_putDownNext cX8_putDownNext 10 none) (e + 4) [.ref (V.2.1 26), .ref (V.2.1 9), .int x2, .int x3, .int x4, .int x5, .int x6] s (sf_Qv V s')) {s' : sf_Sg} (C : sf_C X V cX8_putDownNext 10 RX8 none (e + 5)) : ∀  (s : sf_Sg) (x2 : Int32) (x3 : Int32) (x4 : Int32) (x5 : Int32) (x6 : Int32) (x7 : Int32), f8_putDownNext_L36 self s x2 x3 x4 x5 x6 x7 = some s' → sf_G X V 10 (sf_Q X V (sf_Qv V s')) s 36 [(0, .ref (V.2.1 26)), (1, .ref (V.2.1 9)), (2, .int x2), (3, .int x3), (4, .int x4), (5, .int x5), (6, .int x6), (7, .int x7)] [] :=
  sf_it_ind (fun (k : sf_Sg → Int32 → Int32 → Int32 → Int32 → Int32 → Int32 → Option sf_Sg) => ∀  (s : sf_Sg) (x2 : Int32) (x3 : Int32) (x4 : Int32) (x5 : Int32) (x6 : Int32) (x7 : Int32), k s x2 x3 x4 x5 x6 x7 = some s' → sf_G X V 10 (sf_Q X V (sf_Qv V s')) s 36 [(0, .ref (V.2.1 26)), (1, .ref (V.2.1 9)), (2, .int x2), (3, .int x3), (4, .int x4), (5, .int x5), (6, .int x6), (7, .int x7)] []) _ _ (fun s x2 x3 x4 x5 x6 x7 h => by cases h) (fun k hk s x2 x3 x4 x5 x6 x7 h => w8_putDownNext_b36 hself C hk h) _
set_option maxHeartbeats 4000000 in
set_option maxRecDepth 100000 in
theorem w8_putDownNext_b0 {X : sf_X} {V : sf_V} {self : sf_Sg → Int32 → Int32 → Int32 → Int32 → Int32 → Option sf_Sg} {e : Nat} (hself : ∀ (s : sf_Sg) (x2 x3 x4 x5 x6 : Int32) (s' : sf_Sg), self s x2 x3 x4 x5 x6 = some s' → sf_M (sf_l X) V yX8_putDownNext (.code yX8_putDownNext cX8_putDownNext 10 none) (e + 4) [.ref (V.2.1 26), .ref (V.2.1 9), .int x2, .int x3, .int x4, .int x5, .int x6] s (sf_Qv V s')) {s' : sf_Sg} (C : sf_C X V cX8_putDownNext 10 RX8 none (e + 5)) {s : sf_Sg} {x2 : Int32} {x3 : Int32} {x4 : Int32} {x5 : Int32} {x6 : Int32} (h : f8_putDownNext_b0 self s x2 x3 x4 x5 x6 = some s') : sf_G X V 10 (sf_Q X V (sf_Qv V s')) s 0 [(0, .ref (V.2.1 26)), (1, .ref (V.2.1 9)), (2, .int x2), (3, .int x3), (4, .int x4), (5, .int x5), (6, .int x6)] [] := by
  unfold f8_putDownNext_b0 at h
  refine sf_iload_n (pc := 0) C 3 dX8_putDownNext_0 rfl ?_
  refine sf_if_eq (tgt := 11) (pc := 1) C dX8_putDownNext_1 rfl (fun c1 => ?_) (fun c1 => ?_)
  · replace h := (if_pos c1).symm.trans h
    refine sf_sub [0, 4, 5] rfl ?_
    exact w8_putDownNext_b11 hself C h
  · replace h := (if_neg c1).symm.trans h
    refine sf_iload (pc := 4) C 6 dX8_putDownNext_4 rfl ?_
    refine sf_bipush (v := 6) (pc := 6) C dX8_putDownNext_6 (by decide) ?_
    refine sf_icmp_lt (tgt := 33) (pc := 8) C dX8_putDownNext_8 rfl (fun c8 => ?_) (fun c8 => ?_)
    · replace h := (if_pos c8).symm.trans h
      refine sf_iconst (v := 0) (pc := 33) C dX8_putDownNext_33 (by decide) ?_
      refine sf_istore (lv' := [(7, .int (0 : Int32)), (0, .ref (V.2.1 26)), (1, .ref (V.2.1 9)), (2, .int x2), (3, .int x3), (4, .int x4), (5, .int x5), (6, .int x6)]) (pc := 34) C dX8_putDownNext_34 (by decide) rfl ?_
      refine sf_sub [1, 2, 3, 4, 5, 6, 7, 0] rfl ?_
      exact w8_putDownNext_L36 hself C _ _ _ _ _ _ _ h
    · replace h := (if_neg c8).symm.trans h
      refine sf_sub [0, 4, 5] rfl ?_
      exact w8_putDownNext_b11 hself C h
set_option maxHeartbeats 4000000 in
set_option maxRecDepth 100000 in
theorem k8_putDownNext {l : Launch} {V : sf_V} : ∀ (n : Nat) (s : sf_Sg) (x2 x3 x4 x5 x6 : Int32) (s' : sf_Sg), f8_putDownNext n s x2 x3 x4 x5 x6 = some s' → sf_M l V yX8_putDownNext (.code yX8_putDownNext cX8_putDownNext 10 none) (n + 4) [.ref (V.2.1 26), .ref (V.2.1 9), .int x2, .int x3, .int x4, .int x5, .int x6] s (sf_Qv V s')
  | 0, s, x2, x3, x4, x5, x6, s', h => by cases h
  | n + 1, s, x2, x3, x4, x5, x6, s', h => by
    have ih := k8_putDownNext (l := l) (V := V) n
    rw [show n + 1 + 4 = n + 5 by omega]
    refine sf_enter (by decide) (Nat.le_of_ble_eq_true rfl) (fun X hX C => ?_)
    subst hX
    refine sf_sub [0, 1, 2, 3, 4, 5, 6] rfl ?_
    exact w8_putDownNext_b0 (e := n) ih (show sf_C X V cX8_putDownNext 10 RX8 none _ from C) h
set_option maxHeartbeats 4000000 in
set_option maxRecDepth 100000 in
theorem w8_search_b0 {X : sf_X} {V : sf_V} {s' : sf_Sg} (C : sf_C X V cX8_search 3 RX8 none 14) {s : sf_Sg} {x2 : Int32} (h : f8_search_b0 s x2 = some s') : sf_G X V 3 (sf_Q X V (sf_Qv V s')) s 0 [(0, .ref (V.2.1 26)), (1, .ref (V.2.1 9)), (2, .int x2)] [] := by
  unfold f8_search_b0 at h
  refine sf_aload_n (pc := 0) C 0 dX8_search_0 rfl ?_
  refine sf_ldc (v := 2147483647) (pc := 1) C dX8_search_1 tm_697 ?_
  refine sf_put (pc := 3) C nk_26 sh_26 rfl fw_8_10 rfl rfl dX8_search_3 ?_
  refine sf_aload_n (pc := 6) C 0 dX8_search_6 rfl ?_
  refine sf_iconst (v := 0) (pc := 7) C dX8_search_7 (by decide) ?_
  refine sf_put (pc := 8) C nk_26 sh_26 rfl fw_8_16 rfl rfl dX8_search_8 ?_
  refine sf_aload_n (pc := 11) C 0 dX8_search_11 rfl ?_
  refine sf_aload_n (pc := 12) C 1 dX8_search_12 rfl ?_
  refine sf_iload_n (pc := 13) C 2 dX8_search_13 rfl ?_
  refine sf_aload_n (pc := 14) C 1 dX8_search_14 rfl ?_
  refine sf_iload_n (pc := 15) C 2 dX8_search_15 rfl ?_
  obtain ⟨v16, e16, h⟩ := sf_ob h
  refine sf_callVi (pc := 16) C (As := [.int x2]) nk_9 sh_9 rfl yk_X6_carriedBy cl_8_19 (k6_carriedBy e16) (by decide) rfl (Nat.le_of_ble_eq_true rfl) rfl dX8_search_16 ?_
  refine sf_aload_n (pc := 19) C 1 dX8_search_19 rfl ?_
  refine sf_getr (pc := 20) C nk_9 sh_9 rfl fl_8_25 dX8_search_20 ?_
  refine sf_getr (pc := 23) C nk_16 sh_16 rfl fl_8_29 dX8_search_23 ?_
  refine sf_iload_n (pc := 26) C 2 dX8_search_26 rfl ?_
  obtain ⟨v27, e27, h⟩ := sf_ob h
  refine sf_iald (pc := 27) C nk_21 sh_21 e27 dX8_search_27 ?_
  refine sf_iconst (v := 0) (pc := 28) C dX8_search_28 (by decide) ?_
  refine sf_iconst (v := 0) (pc := 29) C dX8_search_29 (by decide) ?_
  obtain ⟨s30, e30, h⟩ := sf_ob h
  refine sf_callVv (pc := 30) C (As := [.ref (V.2.1 9), .int x2, .int v16, .int v27, .int (0 : Int32), .int (0 : Int32)]) nk_26 sh_26 rfl yk_X8_putDownNext cl_8_35 (k8_putDownNext 9 _ _ _ _ _ _ _ e30) (by decide) rfl (Nat.le_of_ble_eq_true rfl) rfl dX8_search_30 ?_
  exact sf_vretW (pc := 33) C dX8_search_33 h
set_option maxHeartbeats 4000000 in
set_option maxRecDepth 100000 in
theorem k8_search {l : Launch} {V : sf_V} {s : sf_Sg} {x2 : Int32} {s' : sf_Sg} (h : f8_search s x2 = some s') : sf_M l V yX8_search (.code yX8_search cX8_search 3 none) 14 [.ref (V.2.1 26), .ref (V.2.1 9), .int x2] s (sf_Qv V s') := by
  refine sf_enter (by decide) (Nat.le_of_ble_eq_true rfl) (fun X hX C => ?_)
  refine sf_sub [0, 1, 2] rfl ?_
  exact w8_search_b0 (show sf_C X V cX8_search 3 RX8 none 14 from C)  h
set_option maxHeartbeats 4000000 in
set_option maxRecDepth 100000 in
theorem w9_order_b0 {X : sf_X} {V : sf_V} {r : Int32} {s' : sf_Sg} (C : sf_C X V cX9_order 3 RX9 (some .int) 15) {s : sf_Sg} {x1 : Int32} {x2 : Int32} (h : f9_order_b0 s x1 x2 = some (r, s')) : sf_G X V 3 (sf_Q X V (sf_Qi V r s')) s 0 [(0, .ref (V.2.1 0)), (1, .int x1), (2, .int x2)] [] := by
  unfold f9_order_b0 at h
  refine sf_aload_n (pc := 0) C 0 dX9_order_0 rfl ?_
  refine sf_getr (pc := 1) C nk_0 sh_0 rfl fl_9_33 dX9_order_1 ?_
  refine sf_iload_n (pc := 4) C 1 dX9_order_4 rfl ?_
  refine sf_callVi (pc := 5) C (As := [.int x1]) nk_10 sh_10 rfl yk_X7_hasBack cl_9_184 (k7_hasBack sf_S1 rfl) (by decide) rfl (Nat.le_of_ble_eq_true rfl) rfl dX9_order_5 ?_
  refine sf_if_ne (tgt := 14) (pc := 8) C dX9_order_8 rfl (fun c8 => ?_) (fun c8 => ?_)
  · replace h := (if_neg c8).symm.trans h
    refine sf_iload_n (pc := 14) C 2 dX9_order_14 rfl ?_
    refine sf_iconst (v := 0) (pc := 15) C dX9_order_15 (by decide) ?_
    refine sf_iconst (v := 1) (pc := 16) C dX9_order_16 (by decide) ?_
    refine sf_callSi (pc := 17) C (As := [.int x2, .int (0 : Int32), .int (1 : Int32)]) yk_X9_within cl_9_89 (k9_within rfl) (by decide) rfl (Nat.le_of_ble_eq_true rfl) rfl dX9_order_17 ?_
    refine sf_if_ne (tgt := 26) (pc := 20) C dX9_order_20 rfl (fun c20 => ?_) (fun c20 => ?_)
    · replace h := (if_neg c20).symm.trans h
      refine sf_aload_n (pc := 26) C 0 dX9_order_26 rfl ?_
      refine sf_getr (pc := 27) C nk_0 sh_0 rfl fl_9_49 dX9_order_27 ?_
      refine sf_aload_n (pc := 30) C 0 dX9_order_30 rfl ?_
      refine sf_getr (pc := 31) C nk_0 sh_0 rfl fl_9_26 dX9_order_31 ?_
      refine sf_iload_n (pc := 34) C 1 dX9_order_34 rfl ?_
      obtain ⟨s35, e35, h⟩ := sf_ob h
      refine sf_callVv (pc := 35) C (As := [.ref (V.2.1 9), .int x1]) nk_26 sh_26 rfl yk_X8_search cl_9_286 (k8_search e35) (by decide) rfl (Nat.le_of_ble_eq_true rfl) rfl dX9_order_35 ?_
      refine sf_iload_n (pc := 38) C 2 dX9_order_38 rfl ?_
      refine sf_if_ne (tgt := 52) (pc := 39) C dX9_order_39 rfl (fun c39 => ?_) (fun c39 => ?_)
      · replace h := (if_neg c39).symm.trans h
        refine sf_aload_n (pc := 52) C 0 dX9_order_52 rfl ?_
        refine sf_getr (pc := 53) C nk_0 sh_0 rfl fl_9_49 dX9_order_53 ?_
        refine sf_get (pc := 56) C nk_26 sh_26 rfl fl_9_292 dX9_order_56 ?_
        exact sf_iretW (pc := 59) C dX9_order_59 h
      · replace h := (if_pos c39).symm.trans h
        refine sf_aload_n (pc := 42) C 0 dX9_order_42 rfl ?_
        refine sf_getr (pc := 43) C nk_0 sh_0 rfl fl_9_49 dX9_order_43 ?_
        refine sf_get (pc := 46) C nk_26 sh_26 rfl fl_9_289 dX9_order_46 ?_
        refine sf_goto (tgt := 59) (pc := 49) C dX9_order_49 rfl ?_
        exact sf_iretW (pc := 59) C dX9_order_59 h
    · replace h := (if_pos c20).symm.trans h
      refine sf_ldc (v := -1000000002) (pc := 23) C dX9_order_23 tm_334 ?_
      exact sf_iretW (pc := 25) C dX9_order_25 h
  · replace h := (if_pos c8).symm.trans h
    refine sf_ldc (v := -1000000001) (pc := 11) C dX9_order_11 tm_501 ?_
    exact sf_iretW (pc := 13) C dX9_order_13 h
set_option maxHeartbeats 4000000 in
set_option maxRecDepth 100000 in
theorem k9_order {l : Launch} {V : sf_V} {s : sf_Sg} {x1 : Int32} {x2 : Int32} {r : Int32} {s' : sf_Sg} (h : f9_order s x1 x2 = some (r, s')) : sf_M l V yX9_order (.code yX9_order cX9_order 3 (some .int)) 15 [.ref (V.2.1 0), .int x1, .int x2] s (sf_Qi V r s') := by
  refine sf_enter (by decide) (Nat.le_of_ble_eq_true rfl) (fun X hX C => ?_)
  refine sf_sub [0, 1, 2] rfl ?_
  exact w9_order_b0 (show sf_C X V cX9_order 3 RX9 (some .int) 15 from C)  h
set_option maxHeartbeats 4000000 in
set_option maxRecDepth 100000 in
theorem w6_ableToTake_b63 {X : sf_X} {V : sf_V} {s : sf_Sg} {r : Int32} {k4 : Int32 → Int32 → Int32 → Option Int32} (C : sf_C X V cX6_ableToTake 5 RX6 (some .int) 3) (hk4 : ∀  (x1 : Int32) (x2 : Int32) (x3 : Int32), k4 x1 x2 x3 = some r → sf_G X V 5 (sf_Q X V (sf_Qi V r s)) s 4 [(0, .ref (V.2.1 9)), (1, .int x1), (2, .int x2), (3, .int x3)] []) {x1 : Int32} {x2 : Int32} {x3 : Int32} (h : f6_ableToTake_b63 s k4 x1 x2 x3 = some r) : sf_G X V 5 (sf_Q X V (sf_Qi V r s)) s 63 [(0, .ref (V.2.1 9)), (1, .int x1), (2, .int x2), (3, .int x3)] [] := by
  unfold f6_ableToTake_b63 at h
  refine sf_iinc (v := (x3 + 1)) (lv' := [(3, .int (x3 + 1)), (0, .ref (V.2.1 9)), (1, .int x1), (2, .int x2)]) (pc := 63) C 3 dX6_ableToTake_63 rfl rfl (by decide) rfl ?_
  refine sf_goto (tgt := 4) (pc := 66) C dX6_ableToTake_66 rfl ?_
  refine sf_sub [1, 2, 3, 0] rfl ?_
  exact hk4 _ _ _ h
set_option maxHeartbeats 4000000 in
set_option maxRecDepth 100000 in
theorem w6_ableToTake_b4 {X : sf_X} {V : sf_V} {s : sf_Sg} {r : Int32} {k4 : Int32 → Int32 → Int32 → Option Int32} (C : sf_C X V cX6_ableToTake 5 RX6 (some .int) 3) (hk4 : ∀  (x1 : Int32) (x2 : Int32) (x3 : Int32), k4 x1 x2 x3 = some r → sf_G X V 5 (sf_Q X V (sf_Qi V r s)) s 4 [(0, .ref (V.2.1 9)), (1, .int x1), (2, .int x2), (3, .int x3)] []) {x1 : Int32} {x2 : Int32} {x3 : Int32} (h : f6_ableToTake_b4 s k4 x1 x2 x3 = some r) : sf_G X V 5 (sf_Q X V (sf_Qi V r s)) s 4 [(0, .ref (V.2.1 9)), (1, .int x1), (2, .int x2), (3, .int x3)] [] := by
  unfold f6_ableToTake_b4 at h
  refine sf_iload_n (pc := 4) C 3 dX6_ableToTake_4 rfl ?_
  refine sf_aload_n (pc := 5) C 0 dX6_ableToTake_5 rfl ?_
  refine sf_getr (pc := 6) C nk_9 sh_9 rfl fl_6_12 dX6_ableToTake_6 ?_
  refine sf_get (pc := 9) C nk_10 sh_10 rfl fl_6_58 dX6_ableToTake_9 ?_
  refine sf_icmp_ge (tgt := 69) (pc := 12) C dX6_ableToTake_12 rfl (fun c12 => ?_) (fun c12 => ?_)
  · replace h := (if_pos c12).symm.trans h
    refine sf_iload_n (pc := 69) C 2 dX6_ableToTake_69 rfl ?_
    exact sf_iretR (pc := 70) C dX6_ableToTake_70 h
  · replace h := (if_neg c12).symm.trans h
    refine sf_aload_n (pc := 15) C 0 dX6_ableToTake_15 rfl ?_
    refine sf_iload_n (pc := 16) C 3 dX6_ableToTake_16 rfl ?_
    obtain ⟨v17, e17, h⟩ := sf_ob h
    refine sf_callVi (pc := 17) C (As := [.int x3]) nk_9 sh_9 rfl yk_X6_carriedBy cl_6_47 (k6_carriedBy e17) (by decide) rfl (Nat.le_of_ble_eq_true rfl) rfl dX6_ableToTake_17 ?_
    refine sf_istore (lv' := [(4, .int v17), (0, .ref (V.2.1 9)), (1, .int x1), (2, .int x2), (3, .int x3)]) (pc := 20) C dX6_ableToTake_20 (by decide) rfl ?_
    refine sf_aload_n (pc := 22) C 1 dX6_ableToTake_22 rfl ?_
    refine sf_iload_n (pc := 23) C 4 dX6_ableToTake_23 rfl ?_
    refine sf_iload (pc := 24) C 0 dX6_ableToTake_24 rfl ?_
    refine sf_iconst (v := 1) (pc := 26) C dX6_ableToTake_26 (by decide) ?_
    refine sf_iload_n (pc := 27) C 2 dX6_ableToTake_27 rfl ?_
    refine sf_ishl (pc := 28) C dX6_ableToTake_28 ?_
    refine sf_ior (pc := 29) C dX6_ableToTake_29 ?_
    refine sf_aload_n (pc := 30) C 1 dX6_ableToTake_30 rfl ?_
    refine sf_getr (pc := 31) C nk_9 sh_9 rfl fl_6_21 dX6_ableToTake_31 ?_
    refine sf_get (pc := 34) C nk_16 sh_16 rfl fl_6_91 dX6_ableToTake_34 ?_
    obtain ⟨v37, e37, h⟩ := sf_ob h
    refine sf_callVi (pc := 37) C (As := [.int x3, .int (v17 ||| ((1 : Int32) <<< (x1 &&& 31))), .int (s 16 0)]) nk_9 sh_9 rfl yk_X6_gallingOf cl_6_94 (k6_gallingOf e37) (by decide) rfl (Nat.le_of_ble_eq_true rfl) rfl dX6_ableToTake_37 ?_
    refine sf_aload_n (pc := 40) C 1 dX6_ableToTake_40 rfl ?_
    refine sf_iload_n (pc := 41) C 4 dX6_ableToTake_41 rfl ?_
    refine sf_iload (pc := 42) C 0 dX6_ableToTake_42 rfl ?_
    refine sf_aload_n (pc := 44) C 1 dX6_ableToTake_44 rfl ?_
    refine sf_getr (pc := 45) C nk_9 sh_9 rfl fl_6_21 dX6_ableToTake_45 ?_
    refine sf_get (pc := 48) C nk_16 sh_16 rfl fl_6_91 dX6_ableToTake_48 ?_
    obtain ⟨v51, e51, h⟩ := sf_ob h
    refine sf_callVi (pc := 51) C (As := [.int x3, .int v17, .int (s 16 0)]) nk_9 sh_9 rfl yk_X6_gallingOf cl_6_94 (k6_gallingOf e51) (by decide) rfl (Nat.le_of_ble_eq_true rfl) rfl dX6_ableToTake_51 ?_
    refine sf_icmp_gt (tgt := 63) (pc := 54) C dX6_ableToTake_54 rfl (fun c54 => ?_) (fun c54 => ?_)
    · replace h := (if_pos c54).symm.trans h
      refine sf_sub [1, 2, 3, 4] rfl ?_
      exact w6_ableToTake_b63 C hk4 h
    · replace h := (if_neg c54).symm.trans h
      refine sf_iload_n (pc := 57) C 3 dX6_ableToTake_57 rfl ?_
      refine sf_iconst (v := 1) (pc := 58) C dX6_ableToTake_58 (by decide) ?_
      refine sf_iload_n (pc := 59) C 4 dX6_ableToTake_59 rfl ?_
      refine sf_ishl (pc := 60) C dX6_ableToTake_60 ?_
      refine sf_ior (pc := 61) C dX6_ableToTake_61 ?_
      refine sf_istore_n (lv' := [(2, .int (x2 ||| ((1 : Int32) <<< (x3 &&& 31)))), (4, .int v17), (0, .ref (V.2.1 9)), (1, .int x1), (3, .int x3)]) (pc := 62) C dX6_ableToTake_62 (by decide) rfl ?_
      refine sf_sub [2, 3, 0, 4] rfl ?_
      exact w6_ableToTake_b63 C hk4 h
set_option maxHeartbeats 4000000 in
set_option maxRecDepth 100000 in
theorem w6_ableToTake_L4 {X : sf_X} {V : sf_V} {s : sf_Sg} {r : Int32} (C : sf_C X V cX6_ableToTake 5 RX6 (some .int) 3) : ∀  (x1 : Int32) (x2 : Int32) (x3 : Int32), f6_ableToTake_L4 s x1 x2 x3 = some r → sf_G X V 5 (sf_Q X V (sf_Qi V r s)) s 4 [(0, .ref (V.2.1 9)), (1, .int x1), (2, .int x2), (3, .int x3)] [] :=
  sf_it_ind (fun (k : Int32 → Int32 → Int32 → Option Int32) => ∀  (x1 : Int32) (x2 : Int32) (x3 : Int32), k x1 x2 x3 = some r → sf_G X V 5 (sf_Q X V (sf_Qi V r s)) s 4 [(0, .ref (V.2.1 9)), (1, .int x1), (2, .int x2), (3, .int x3)] []) _ _ (fun x1 x2 x3 h => by cases h) (fun k hk x1 x2 x3 h => w6_ableToTake_b4 C hk h) _
set_option maxHeartbeats 4000000 in
set_option maxRecDepth 100000 in
theorem w6_ableToTake_b0 {X : sf_X} {V : sf_V} {s : sf_Sg} {r : Int32} (C : sf_C X V cX6_ableToTake 5 RX6 (some .int) 3) {x1 : Int32} (h : f6_ableToTake_b0 s x1 = some r) : sf_G X V 5 (sf_Q X V (sf_Qi V r s)) s 0 [(0, .ref (V.2.1 9)), (1, .int x1)] [] := by
  unfold f6_ableToTake_b0 at h
  refine sf_iconst (v := 0) (pc := 0) C dX6_ableToTake_0 (by decide) ?_
  refine sf_istore_n (lv' := [(2, .int (0 : Int32)), (0, .ref (V.2.1 9)), (1, .int x1)]) (pc := 1) C dX6_ableToTake_1 (by decide) rfl ?_
  refine sf_iconst (v := 0) (pc := 2) C dX6_ableToTake_2 (by decide) ?_
  refine sf_istore_n (lv' := [(3, .int (0 : Int32)), (2, .int (0 : Int32)), (0, .ref (V.2.1 9)), (1, .int x1)]) (pc := 3) C dX6_ableToTake_3 (by decide) rfl ?_
  refine sf_sub [2, 3, 1, 0] rfl ?_
  exact w6_ableToTake_L4 C _ _ _ h
set_option maxHeartbeats 4000000 in
set_option maxRecDepth 100000 in
theorem k6_ableToTake {l : Launch} {V : sf_V} {s : sf_Sg} {x1 : Int32} {r : Int32} (h : f6_ableToTake s x1 = some r) : sf_M l V yX6_ableToTake (.code yX6_ableToTake cX6_ableToTake 5 (some .int)) 3 [.ref (V.2.1 9), .int x1] s (sf_Qi V r s) := by
  refine sf_enter (by decide) (Nat.le_of_ble_eq_true rfl) (fun X hX C => ?_)
  refine sf_sub [0, 1] rfl ?_
  exact w6_ableToTake_b0 (show sf_C X V cX6_ableToTake 5 RX6 (some .int) 3 from C)  h
set_option maxHeartbeats 4000000 in
set_option maxRecDepth 100000 in
theorem w9_could_b0 {X : sf_X} {V : sf_V} {s : sf_Sg} {r : Int32} (C : sf_C X V cX9_could 2 RX9 (some .int) 4) {x1 : Int32} (h : f9_could_b0 s x1 = some r) : sf_G X V 2 (sf_Q X V (sf_Qi V r s)) s 0 [(0, .ref (V.2.1 0)), (1, .int x1)] [] := by
  unfold f9_could_b0 at h
  refine sf_aload_n (pc := 0) C 0 dX9_could_0 rfl ?_
  refine sf_getr (pc := 1) C nk_0 sh_0 rfl fl_9_33 dX9_could_1 ?_
  refine sf_iload_n (pc := 4) C 1 dX9_could_4 rfl ?_
  refine sf_callVi (pc := 5) C (As := [.int x1]) nk_10 sh_10 rfl yk_X7_hasBurden cl_9_162 (k7_hasBurden sf_S1 rfl) (by decide) rfl (Nat.le_of_ble_eq_true rfl) rfl dX9_could_5 ?_
  refine sf_if_ne (tgt := 14) (pc := 8) C dX9_could_8 rfl (fun c8 => ?_) (fun c8 => ?_)
  · replace h := (if_neg c8).symm.trans h
    refine sf_aload_n (pc := 14) C 0 dX9_could_14 rfl ?_
    refine sf_getr (pc := 15) C nk_0 sh_0 rfl fl_9_38 dX9_could_15 ?_
    refine sf_iload_n (pc := 18) C 1 dX9_could_18 rfl ?_
    obtain ⟨v19, e19, h⟩ := sf_ob h
    refine sf_callVi (pc := 19) C (As := [.int x1]) nk_16 sh_16 rfl yk_X3_isCarried cl_9_220 (k3_isCarried sf_L0 e19) (by decide) rfl (Nat.le_of_ble_eq_true rfl) rfl dX9_could_19 ?_
    refine sf_if_eq (tgt := 28) (pc := 22) C dX9_could_22 rfl (fun c22 => ?_) (fun c22 => ?_)
    · replace h := (if_pos c22).symm.trans h
      refine sf_aload_n (pc := 28) C 0 dX9_could_28 rfl ?_
      refine sf_getr (pc := 29) C nk_0 sh_0 rfl fl_9_26 dX9_could_29 ?_
      refine sf_iload_n (pc := 32) C 1 dX9_could_32 rfl ?_
      obtain ⟨v33, e33, h⟩ := sf_ob h
      refine sf_callVi (pc := 33) C (As := [.int x1]) nk_9 sh_9 rfl yk_X6_ableToTake cl_9_295 (k6_ableToTake e33) (by decide) rfl (Nat.le_of_ble_eq_true rfl) rfl dX9_could_33 ?_
      exact sf_iretR (pc := 36) C dX9_could_36 h
    · replace h := (if_neg c22).symm.trans h
      refine sf_ldc (v := -1000000003) (pc := 25) C dX9_could_25 tm_532 ?_
      exact sf_iretR (pc := 27) C dX9_could_27 h
  · replace h := (if_pos c8).symm.trans h
    refine sf_ldc (v := -1000000001) (pc := 11) C dX9_could_11 tm_501 ?_
    exact sf_iretR (pc := 13) C dX9_could_13 h
set_option maxHeartbeats 4000000 in
set_option maxRecDepth 100000 in
theorem k9_could {l : Launch} {V : sf_V} {s : sf_Sg} {x1 : Int32} {r : Int32} (h : f9_could s x1 = some r) : sf_M l V yX9_could (.code yX9_could cX9_could 2 (some .int)) 4 [.ref (V.2.1 0), .int x1] s (sf_Qi V r s) := by
  refine sf_enter (by decide) (Nat.le_of_ble_eq_true rfl) (fun X hX C => ?_)
  refine sf_sub [0, 1] rfl ?_
  exact w9_could_b0 (show sf_C X V cX9_could 2 RX9 (some .int) 4 from C)  h
set_option maxHeartbeats 4000000 in
set_option maxRecDepth 100000 in
theorem w9_shareOf_b0 {X : sf_X} {V : sf_V} {s : sf_Sg} {r : Int32} (C : sf_C X V cX9_shareOf 5 RX9 (some .int) 2) {x1 : Int32} {x2 : Int32} {x3 : Int32} (h : f9_shareOf_b0 s x1 x2 x3 = some r) : sf_G X V 5 (sf_Q X V (sf_Qi V r s)) s 0 [(0, .ref (V.2.1 0)), (1, .int x1), (2, .int x2), (3, .int x3)] [] := by
  unfold f9_shareOf_b0 at h
  refine sf_aload_n (pc := 0) C 0 dX9_shareOf_0 rfl ?_
  refine sf_getr (pc := 1) C nk_0 sh_0 rfl fl_9_33 dX9_shareOf_1 ?_
  refine sf_iload_n (pc := 4) C 1 dX9_shareOf_4 rfl ?_
  refine sf_callVi (pc := 5) C (As := [.int x1]) nk_10 sh_10 rfl yk_X7_hasBurden cl_9_162 (k7_hasBurden sf_S1 rfl) (by decide) rfl (Nat.le_of_ble_eq_true rfl) rfl dX9_shareOf_5 ?_
  refine sf_if_eq (tgt := 23) (pc := 8) C dX9_shareOf_8 rfl (fun c8 => ?_) (fun c8 => ?_)
  · replace h := (if_pos c8).symm.trans h
    refine sf_ldc (v := -1000000001) (pc := 23) C dX9_shareOf_23 tm_501 ?_
    exact sf_iretR (pc := 25) C dX9_shareOf_25 h
  · replace h := (if_neg c8).symm.trans h
    refine sf_aload_n (pc := 11) C 0 dX9_shareOf_11 rfl ?_
    refine sf_getr (pc := 12) C nk_0 sh_0 rfl fl_9_33 dX9_shareOf_12 ?_
    refine sf_iload_n (pc := 15) C 2 dX9_shareOf_15 rfl ?_
    refine sf_iload_n (pc := 16) C 3 dX9_shareOf_16 rfl ?_
    refine sf_callVi (pc := 17) C (As := [.int x2, .int x3]) nk_10 sh_10 rfl yk_X7_hasTwoBacks cl_9_241 (k7_hasTwoBacks sf_S1 rfl) (by decide) rfl (Nat.le_of_ble_eq_true rfl) rfl dX9_shareOf_17 ?_
    refine sf_if_ne (tgt := 26) (pc := 20) C dX9_shareOf_20 rfl (fun c20 => ?_) (fun c20 => ?_)
    · replace h := (if_neg c20).symm.trans h
      refine sf_aload_n (pc := 26) C 0 dX9_shareOf_26 rfl ?_
      refine sf_getr (pc := 27) C nk_0 sh_0 rfl fl_9_33 dX9_shareOf_27 ?_
      refine sf_getr (pc := 30) C nk_10 sh_10 rfl fl_9_187 dX9_shareOf_30 ?_
      refine sf_iload_n (pc := 33) C 2 dX9_shareOf_33 rfl ?_
      obtain ⟨v34, e34, h⟩ := sf_ob h
      refine sf_iald (pc := 34) C nk_14 sh_14 e34 dX9_shareOf_34 ?_
      refine sf_aload_n (pc := 35) C 0 dX9_shareOf_35 rfl ?_
      refine sf_getr (pc := 36) C nk_0 sh_0 rfl fl_9_33 dX9_shareOf_36 ?_
      refine sf_getr (pc := 39) C nk_10 sh_10 rfl fl_9_187 dX9_shareOf_39 ?_
      refine sf_iload_n (pc := 42) C 3 dX9_shareOf_42 rfl ?_
      obtain ⟨v43, e43, h⟩ := sf_ob h
      refine sf_iald (pc := 43) C nk_14 sh_14 e43 dX9_shareOf_43 ?_
      refine sf_iadd (pc := 44) C dX9_shareOf_44 ?_
      refine sf_istore (lv' := [(4, .int (v34 + v43)), (0, .ref (V.2.1 0)), (1, .int x1), (2, .int x2), (3, .int x3)]) (pc := 45) C dX9_shareOf_45 (by decide) rfl ?_
      refine sf_iload (pc := 47) C 0 dX9_shareOf_47 rfl ?_
      refine sf_iconst (v := 1) (pc := 49) C dX9_shareOf_49 (by decide) ?_
      refine sf_icmp_ge (tgt := 56) (pc := 50) C dX9_shareOf_50 rfl (fun c50 => ?_) (fun c50 => ?_)
      · replace h := (if_pos c50).symm.trans h
        refine sf_aload_n (pc := 56) C 1 dX9_shareOf_56 rfl ?_
        refine sf_getr (pc := 57) C nk_0 sh_0 rfl fl_9_38 dX9_shareOf_57 ?_
        refine sf_getr (pc := 60) C nk_16 sh_16 rfl fl_9_169 dX9_shareOf_60 ?_
        refine sf_iload_n (pc := 63) C 2 dX9_shareOf_63 rfl ?_
        obtain ⟨v64, e64, h⟩ := sf_ob h
        refine sf_iald (pc := 64) C nk_17 sh_17 e64 dX9_shareOf_64 ?_
        refine sf_aload_n (pc := 65) C 1 dX9_shareOf_65 rfl ?_
        refine sf_getr (pc := 66) C nk_0 sh_0 rfl fl_9_38 dX9_shareOf_66 ?_
        refine sf_getr (pc := 69) C nk_16 sh_16 rfl fl_9_169 dX9_shareOf_69 ?_
        refine sf_iload_n (pc := 72) C 2 dX9_shareOf_72 rfl ?_
        obtain ⟨v73, e73, h⟩ := sf_ob h
        refine sf_iald (pc := 73) C nk_17 sh_17 e73 dX9_shareOf_73 ?_
        refine sf_aload_n (pc := 74) C 1 dX9_shareOf_74 rfl ?_
        refine sf_getr (pc := 75) C nk_0 sh_0 rfl fl_9_33 dX9_shareOf_75 ?_
        refine sf_getr (pc := 78) C nk_10 sh_10 rfl fl_9_187 dX9_shareOf_78 ?_
        refine sf_iload_n (pc := 81) C 4 dX9_shareOf_81 rfl ?_
        obtain ⟨v82, e82, h⟩ := sf_ob h
        refine sf_iald (pc := 82) C nk_14 sh_14 e82 dX9_shareOf_82 ?_
        refine sf_imul (pc := 83) C dX9_shareOf_83 ?_
        refine sf_iload (pc := 84) C 0 dX9_shareOf_84 rfl ?_
        obtain ⟨v86, e86, h⟩ := sf_ob h
        refine sf_idivO (pc := 86) C e86 dX9_shareOf_86 ?_
        refine sf_isub (pc := 87) C dX9_shareOf_87 ?_
        exact sf_iretR (pc := 88) C dX9_shareOf_88 h
      · replace h := (if_neg c50).symm.trans h
        refine sf_ldc (v := -1000000001) (pc := 53) C dX9_shareOf_53 tm_501 ?_
        exact sf_iretR (pc := 55) C dX9_shareOf_55 h
    · replace h := (if_pos c20).symm.trans h
      refine sf_ldc (v := -1000000001) (pc := 23) C dX9_shareOf_23 tm_501 ?_
      exact sf_iretR (pc := 25) C dX9_shareOf_25 h
set_option maxHeartbeats 4000000 in
set_option maxRecDepth 100000 in
theorem k9_shareOf {l : Launch} {V : sf_V} {s : sf_Sg} {x1 : Int32} {x2 : Int32} {x3 : Int32} {r : Int32} (h : f9_shareOf s x1 x2 x3 = some r) : sf_M l V yX9_shareOf (.code yX9_shareOf cX9_shareOf 5 (some .int)) 2 [.ref (V.2.1 0), .int x1, .int x2, .int x3] s (sf_Qi V r s) := by
  refine sf_enter (by decide) (Nat.le_of_ble_eq_true rfl) (fun X hX C => ?_)
  refine sf_sub [0, 1, 2, 3] rfl ?_
  exact w9_shareOf_b0 (show sf_C X V cX9_shareOf 5 RX9 (some .int) 2 from C)  h
set_option maxHeartbeats 4000000 in
set_option maxRecDepth 100000 in
theorem w9_fair_b30 {X : sf_X} {V : sf_V} {s : sf_Sg} {r : Int32} {k30 : Int32 → Int32 → Int64 → Int32 → Option Int32} (C : sf_C X V cX9_fair 6 RX9 (some .int) 1) (hk30 : ∀  (x1 : Int32) (x2 : Int32) (x3 : Int64) (x5 : Int32), k30 x1 x2 x3 x5 = some r → sf_G X V 6 (sf_Q X V (sf_Qi V r s)) s 30 [(1, .int x1), (2, .int x2), (3, .long x3), (5, .int x5)] []) {x1 : Int32} {x2 : Int32} {x3 : Int64} {x5 : Int32} (h : f9_fair_b30 k30 x1 x2 x3 x5 = some r) : sf_G X V 6 (sf_Q X V (sf_Qi V r s)) s 30 [(1, .int x1), (2, .int x2), (3, .long x3), (5, .int x5)] [] := by
  unfold f9_fair_b30 at h
  refine sf_iload (pc := 30) C 3 dX9_fair_30 rfl ?_
  refine sf_iload_n (pc := 32) C 0 dX9_fair_32 rfl ?_
  refine sf_icmp_ge (tgt := 51) (pc := 33) C dX9_fair_33 rfl (fun c33 => ?_) (fun c33 => ?_)
  · replace h := (if_pos c33).symm.trans h
    refine sf_lload_n (pc := 51) C 2 dX9_fair_51 rfl ?_
    refine sf_l2i (pc := 52) C dX9_fair_52 ?_
    exact sf_iretR (pc := 53) C dX9_fair_53 h
  · replace h := (if_neg c33).symm.trans h
    refine sf_lload_n (pc := 36) C 2 dX9_fair_36 rfl ?_
    refine sf_iload_n (pc := 37) C 1 dX9_fair_37 rfl ?_
    refine sf_i2l (pc := 38) C dX9_fair_38 ?_
    refine sf_lmul (pc := 39) C dX9_fair_39 ?_
    refine sf_ldc2 (v := 100) (pc := 40) C dX9_fair_40 tm_722 ?_
    refine sf_ldiv (pc := 43) C dX9_fair_43 (by decide) ?_
    refine sf_lstore_n (lv' := [(3, .long ((x3 * x2.toInt64) / (100 : Int64))), (1, .int x1), (2, .int x2), (5, .int x5)]) (pc := 44) C dX9_fair_44 (by decide) rfl ?_
    refine sf_iinc (v := (x5 + 1)) (lv' := [(5, .int (x5 + 1)), (3, .long ((x3 * x2.toInt64) / (100 : Int64))), (1, .int x1), (2, .int x2)]) (pc := 45) C 3 dX9_fair_45 rfl rfl (by decide) rfl ?_
    refine sf_goto (tgt := 30) (pc := 48) C dX9_fair_48 rfl ?_
    refine sf_sub [2, 3, 1, 0] rfl ?_
    exact hk30 _ _ _ _ h
set_option maxHeartbeats 4000000 in
set_option maxRecDepth 100000 in
theorem w9_fair_L30 {X : sf_X} {V : sf_V} {s : sf_Sg} {r : Int32} (C : sf_C X V cX9_fair 6 RX9 (some .int) 1) : ∀  (x1 : Int32) (x2 : Int32) (x3 : Int64) (x5 : Int32), f9_fair_L30 x1 x2 x3 x5 = some r → sf_G X V 6 (sf_Q X V (sf_Qi V r s)) s 30 [(1, .int x1), (2, .int x2), (3, .long x3), (5, .int x5)] [] :=
  sf_it_ind (fun (k : Int32 → Int32 → Int64 → Int32 → Option Int32) => ∀  (x1 : Int32) (x2 : Int32) (x3 : Int64) (x5 : Int32), k x1 x2 x3 x5 = some r → sf_G X V 6 (sf_Q X V (sf_Qi V r s)) s 30 [(1, .int x1), (2, .int x2), (3, .long x3), (5, .int x5)] []) _ _ (fun x1 x2 x3 x5 h => by cases h) (fun k hk x1 x2 x3 x5 h => w9_fair_b30 C hk h) _
set_option maxHeartbeats 4000000 in
set_option maxRecDepth 100000 in
theorem w9_fair_b0 {X : sf_X} {V : sf_V} {s : sf_Sg} {r : Int32} (C : sf_C X V cX9_fair 6 RX9 (some .int) 1) {x1 : Int32} {x2 : Int32} (h : f9_fair_b0 x1 x2 = some r) : sf_G X V 6 (sf_Q X V (sf_Qi V r s)) s 0 [(1, .int x1), (2, .int x2)] [] := by
  unfold f9_fair_b0 at h
  refine sf_iload_n (pc := 0) C 0 dX9_fair_0 rfl ?_
  refine sf_iconst (v := 0) (pc := 1) C dX9_fair_1 (by decide) ?_
  refine sf_bipush (v := 60) (pc := 2) C dX9_fair_2 (by decide) ?_
  refine sf_callSi (pc := 4) C (As := [.int x1, .int (0 : Int32), .int (60 : Int32)]) yk_X9_within cl_9_89 (k9_within rfl) (by decide) rfl (Nat.le_of_ble_eq_true rfl) rfl dX9_fair_4 ?_
  refine sf_if_eq (tgt := 20) (pc := 7) C dX9_fair_7 rfl (fun c7 => ?_) (fun c7 => ?_)
  · replace h := (if_pos c7).symm.trans h
    refine sf_ldc (v := -1000000002) (pc := 20) C dX9_fair_20 tm_334 ?_
    exact sf_iretR (pc := 22) C dX9_fair_22 h
  · replace h := (if_neg c7).symm.trans h
    refine sf_iload_n (pc := 10) C 1 dX9_fair_10 rfl ?_
    refine sf_iconst (v := 0) (pc := 11) C dX9_fair_11 (by decide) ?_
    refine sf_bipush (v := 100) (pc := 12) C dX9_fair_12 (by decide) ?_
    refine sf_callSi (pc := 14) C (As := [.int x2, .int (0 : Int32), .int (100 : Int32)]) yk_X9_within cl_9_89 (k9_within rfl) (by decide) rfl (Nat.le_of_ble_eq_true rfl) rfl dX9_fair_14 ?_
    refine sf_if_ne (tgt := 23) (pc := 17) C dX9_fair_17 rfl (fun c17 => ?_) (fun c17 => ?_)
    · replace h := (if_neg c17).symm.trans h
      refine sf_ldc2 (v := 1000000000) (pc := 23) C dX9_fair_23 tm_721 ?_
      refine sf_lstore_n (lv' := [(3, .long (1000000000 : Int64)), (1, .int x1), (2, .int x2)]) (pc := 26) C dX9_fair_26 (by decide) rfl ?_
      refine sf_iconst (v := 0) (pc := 27) C dX9_fair_27 (by decide) ?_
      refine sf_istore (lv' := [(5, .int (0 : Int32)), (3, .long (1000000000 : Int64)), (1, .int x1), (2, .int x2)]) (pc := 28) C dX9_fair_28 (by decide) rfl ?_
      refine sf_sub [2, 3, 1, 0] rfl ?_
      exact w9_fair_L30 C _ _ _ _ h
    · replace h := (if_pos c17).symm.trans h
      refine sf_ldc (v := -1000000002) (pc := 20) C dX9_fair_20 tm_334 ?_
      exact sf_iretR (pc := 22) C dX9_fair_22 h
set_option maxHeartbeats 4000000 in
set_option maxRecDepth 100000 in
theorem k9_fair {l : Launch} {V : sf_V} {s : sf_Sg} {x1 : Int32} {x2 : Int32} {r : Int32} (h : f9_fair x1 x2 = some r) : sf_M l V yX9_fair (.code yX9_fair cX9_fair 6 (some .int)) 1 [.ref (V.2.1 0), .int x1, .int x2] s (sf_Qi V r s) := by
  refine sf_enter (by decide) (Nat.le_of_ble_eq_true rfl) (fun X hX C => ?_)
  refine sf_sub [1, 2] rfl ?_
  exact w9_fair_b0 (show sf_C X V cX9_fair 6 RX9 (some .int) 1 from C)  h
set_option maxHeartbeats 4000000 in
set_option maxRecDepth 100000 in
theorem w1_add_b0 {X : sf_X} {V : sf_V} {r : Int32} {s' : sf_Sg} (C : sf_C X V cX1_add 4 RX1 (some .boolean) 0) {s : sf_Sg} {x1 : Int32} {x2 : Int32} {x3 : Int32} (h : f1_add_b0 s x1 x2 x3 = some (r, s')) : sf_G X V 4 (sf_Q X V (sf_Qi V r s')) s 0 [(0, .ref (V.2.1 125)), (1, .int x1), (2, .int x2), (3, .int x3)] [] := by
  unfold f1_add_b0 at h
  refine sf_aload_n (pc := 0) C 0 dX1_add_0 rfl ?_
  refine sf_get (pc := 1) C nk_125 sh_125 rfl fl_1_27 dX1_add_1 ?_
  refine sf_bipush (v := 6) (pc := 4) C dX1_add_4 (by decide) ?_
  refine sf_icmp_lt (tgt := 11) (pc := 6) C dX1_add_6 rfl (fun c6 => ?_) (fun c6 => ?_)
  · replace h := (if_pos c6).symm.trans h
    refine sf_aload_n (pc := 11) C 0 dX1_add_11 rfl ?_
    refine sf_getr (pc := 12) C nk_125 sh_125 rfl fl_1_15 dX1_add_12 ?_
    refine sf_aload_n (pc := 15) C 0 dX1_add_15 rfl ?_
    refine sf_get (pc := 16) C nk_125 sh_125 rfl fl_1_27 dX1_add_16 ?_
    refine sf_iload_n (pc := 19) C 1 dX1_add_19 rfl ?_
    obtain ⟨s20, e20, h⟩ := sf_ob h
    refine sf_iast (pc := 20) C nk_127 sh_127 e20 dX1_add_20 ?_
    refine sf_aload_n (pc := 21) C 0 dX1_add_21 rfl ?_
    refine sf_getr (pc := 22) C nk_125 sh_125 rfl fl_1_18 dX1_add_22 ?_
    refine sf_aload_n (pc := 25) C 0 dX1_add_25 rfl ?_
    refine sf_get (pc := 26) C nk_125 sh_125 rfl fl_1_27 dX1_add_26 ?_
    refine sf_iload_n (pc := 29) C 2 dX1_add_29 rfl ?_
    obtain ⟨s30, e30, h⟩ := sf_ob h
    refine sf_iast (pc := 30) C nk_128 sh_128 e30 dX1_add_30 ?_
    refine sf_aload_n (pc := 31) C 0 dX1_add_31 rfl ?_
    refine sf_getr (pc := 32) C nk_125 sh_125 rfl fl_1_21 dX1_add_32 ?_
    refine sf_aload_n (pc := 35) C 0 dX1_add_35 rfl ?_
    refine sf_get (pc := 36) C nk_125 sh_125 rfl fl_1_27 dX1_add_36 ?_
    refine sf_iload_n (pc := 39) C 3 dX1_add_39 rfl ?_
    obtain ⟨s40, e40, h⟩ := sf_ob h
    refine sf_iast (pc := 40) C nk_129 sh_129 e40 dX1_add_40 ?_
    refine sf_aload_n (pc := 41) C 0 dX1_add_41 rfl ?_
    refine sf_dup (pc := 42) C dX1_add_42 rfl ?_
    refine sf_get (pc := 43) C nk_125 sh_125 rfl fl_1_27 dX1_add_43 ?_
    refine sf_iconst (v := 1) (pc := 46) C dX1_add_46 (by decide) ?_
    refine sf_iadd (pc := 47) C dX1_add_47 ?_
    refine sf_put (pc := 48) C nk_125 sh_125 rfl fw_1_27 rfl rfl dX1_add_48 ?_
    refine sf_iconst (v := 1) (pc := 51) C dX1_add_51 (by decide) ?_
    exact sf_zretW (pc := 52) C (by first | rfl | exact sf_nb_in _ _ _) dX1_add_52 h
  · replace h := (if_neg c6).symm.trans h
    refine sf_iconst (v := 0) (pc := 9) C dX1_add_9 (by decide) ?_
    exact sf_zretW (pc := 10) C (by first | rfl | exact sf_nb_in _ _ _) dX1_add_10 h
set_option maxHeartbeats 4000000 in
set_option maxRecDepth 100000 in
theorem k1_add {l : Launch} {V : sf_V} {s : sf_Sg} {x1 : Int32} {x2 : Int32} {x3 : Int32} {r : Int32} {s' : sf_Sg} (h : f1_add s x1 x2 x3 = some (r, s')) : sf_M l V yX1_add (.code yX1_add cX1_add 4 (some .boolean)) 0 [.ref (V.2.1 125), .int x1, .int x2, .int x3] s (sf_Qi V r s') := by
  refine sf_enter (by decide) (Nat.le_of_ble_eq_true rfl) (fun X hX C => ?_)
  refine sf_sub [0, 1, 2, 3] rfl ?_
  exact w1_add_b0 (show sf_C X V cX1_add 4 RX1 (some .boolean) 0 from C)  h
set_option maxHeartbeats 4000000 in
set_option maxRecDepth 100000 in
theorem w9_feel_b0 {X : sf_X} {V : sf_V} {r : Int32} {s' : sf_Sg} (C : sf_C X V cX9_feel 4 RX9 (some .int) 1) {s : sf_Sg} {x1 : Int32} {x2 : Int32} {x3 : Int32} (h : f9_feel_b0 s x1 x2 x3 = some (r, s')) : sf_G X V 4 (sf_Q X V (sf_Qi V r s')) s 0 [(0, .ref (V.2.1 0)), (1, .int x1), (2, .int x2), (3, .int x3)] [] := by
  unfold f9_feel_b0 at h
  refine sf_iload_n (pc := 0) C 1 dX9_feel_0 rfl ?_
  refine sf_iconst (v := 1) (pc := 1) C dX9_feel_1 (by decide) ?_
  refine sf_bipush (v := 99) (pc := 2) C dX9_feel_2 (by decide) ?_
  refine sf_callSi (pc := 4) C (As := [.int x1, .int (1 : Int32), .int (99 : Int32)]) yk_X9_within cl_9_89 (k9_within rfl) (by decide) rfl (Nat.le_of_ble_eq_true rfl) rfl dX9_feel_4 ?_
  refine sf_if_eq (tgt := 30) (pc := 7) C dX9_feel_7 rfl (fun c7 => ?_) (fun c7 => ?_)
  · replace h := (if_pos c7).symm.trans h
    refine sf_ldc (v := -1000000002) (pc := 30) C dX9_feel_30 tm_334 ?_
    exact sf_iretW (pc := 32) C dX9_feel_32 h
  · replace h := (if_neg c7).symm.trans h
    refine sf_iload_n (pc := 10) C 2 dX9_feel_10 rfl ?_
    refine sf_iconst (v := 0) (pc := 11) C dX9_feel_11 (by decide) ?_
    refine sf_bipush (v := 30) (pc := 12) C dX9_feel_12 (by decide) ?_
    refine sf_callSi (pc := 14) C (As := [.int x2, .int (0 : Int32), .int (30 : Int32)]) yk_X9_within cl_9_89 (k9_within rfl) (by decide) rfl (Nat.le_of_ble_eq_true rfl) rfl dX9_feel_14 ?_
    refine sf_if_eq (tgt := 30) (pc := 17) C dX9_feel_17 rfl (fun c17 => ?_) (fun c17 => ?_)
    · replace h := (if_pos c17).symm.trans h
      refine sf_ldc (v := -1000000002) (pc := 30) C dX9_feel_30 tm_334 ?_
      exact sf_iretW (pc := 32) C dX9_feel_32 h
    · replace h := (if_neg c17).symm.trans h
      refine sf_iload_n (pc := 20) C 3 dX9_feel_20 rfl ?_
      refine sf_iconst (v := 0) (pc := 21) C dX9_feel_21 (by decide) ?_
      refine sf_bipush (v := 99) (pc := 22) C dX9_feel_22 (by decide) ?_
      refine sf_callSi (pc := 24) C (As := [.int x3, .int (0 : Int32), .int (99 : Int32)]) yk_X9_within cl_9_89 (k9_within rfl) (by decide) rfl (Nat.le_of_ble_eq_true rfl) rfl dX9_feel_24 ?_
      refine sf_if_ne (tgt := 33) (pc := 27) C dX9_feel_27 rfl (fun c27 => ?_) (fun c27 => ?_)
      · replace h := (if_neg c27).symm.trans h
        refine sf_aload_n (pc := 33) C 0 dX9_feel_33 rfl ?_
        refine sf_getr (pc := 34) C nk_0 sh_0 rfl fl_9_63 dX9_feel_34 ?_
        refine sf_iload_n (pc := 37) C 1 dX9_feel_37 rfl ?_
        refine sf_iload_n (pc := 38) C 2 dX9_feel_38 rfl ?_
        refine sf_iload_n (pc := 39) C 3 dX9_feel_39 rfl ?_
        obtain ⟨q40, e40, h⟩ := sf_ob h
        refine sf_callVi (pc := 40) C (As := [.int x1, .int x2, .int x3]) nk_125 sh_125 rfl yk_X1_add cl_9_302 (k1_add e40) (by decide) rfl (Nat.le_of_ble_eq_true rfl) rfl dX9_feel_40 ?_
        refine sf_if_eq (tgt := 56) (pc := 43) C dX9_feel_43 rfl (fun c43 => ?_) (fun c43 => ?_)
        · replace h := (if_pos c43).symm.trans h
          refine sf_ldc (v := -1000000004) (pc := 56) C dX9_feel_56 tm_339 ?_
          exact sf_iretW (pc := 58) C dX9_feel_58 h
        · replace h := (if_neg c43).symm.trans h
          refine sf_aload_n (pc := 46) C 0 dX9_feel_46 rfl ?_
          refine sf_getr (pc := 47) C nk_0 sh_0 rfl fl_9_63 dX9_feel_47 ?_
          refine sf_get (pc := 50) C nk_125 sh_125 rfl fl_9_154 dX9_feel_50 ?_
          refine sf_goto (tgt := 58) (pc := 53) C dX9_feel_53 rfl ?_
          exact sf_iretW (pc := 58) C dX9_feel_58 h
      · replace h := (if_pos c27).symm.trans h
        refine sf_ldc (v := -1000000002) (pc := 30) C dX9_feel_30 tm_334 ?_
        exact sf_iretW (pc := 32) C dX9_feel_32 h
set_option maxHeartbeats 4000000 in
set_option maxRecDepth 100000 in
theorem k9_feel {l : Launch} {V : sf_V} {s : sf_Sg} {x1 : Int32} {x2 : Int32} {x3 : Int32} {r : Int32} {s' : sf_Sg} (h : f9_feel s x1 x2 x3 = some (r, s')) : sf_M l V yX9_feel (.code yX9_feel cX9_feel 4 (some .int)) 1 [.ref (V.2.1 0), .int x1, .int x2, .int x3] s (sf_Qi V r s') := by
  refine sf_enter (by decide) (Nat.le_of_ble_eq_true rfl) (fun X hX C => ?_)
  refine sf_sub [0, 1, 2, 3] rfl ?_
  exact w9_feel_b0 (show sf_C X V cX9_feel 4 RX9 (some .int) 1 from C)  h
set_option maxHeartbeats 4000000 in
set_option maxRecDepth 100000 in
theorem w1_agrees_b2 {X : sf_X} {V : sf_V} {s : sf_Sg} {r : Int32} {k2 : Int32 → Int32 → Int32 → Option Int32} (C : sf_C X V cX1_agrees 4 RX1 (some .boolean) 1) (hk2 : ∀  (x1 : Int32) (x2 : Int32) (x3 : Int32), k2 x1 x2 x3 = some r → sf_G X V 4 (sf_Q X V (sf_Qi V r s)) s 2 [(0, .ref (V.2.1 125)), (1, .int x1), (2, .int x2), (3, .int x3)] []) {x1 : Int32} {x2 : Int32} {x3 : Int32} (h : f1_agrees_b2 s k2 x1 x2 x3 = some r) : sf_G X V 4 (sf_Q X V (sf_Qi V r s)) s 2 [(0, .ref (V.2.1 125)), (1, .int x1), (2, .int x2), (3, .int x3)] [] := by
  unfold f1_agrees_b2 at h
  refine sf_iload_n (pc := 2) C 3 dX1_agrees_2 rfl ?_
  refine sf_aload_n (pc := 3) C 0 dX1_agrees_3 rfl ?_
  refine sf_get (pc := 4) C nk_125 sh_125 rfl fl_1_27 dX1_agrees_4 ?_
  refine sf_icmp_ge (tgt := 52) (pc := 7) C dX1_agrees_7 rfl (fun c7 => ?_) (fun c7 => ?_)
  · replace h := (if_pos c7).symm.trans h
    refine sf_iconst (v := 1) (pc := 52) C dX1_agrees_52 (by decide) ?_
    exact sf_zretR (pc := 53) C (by first | rfl | exact sf_nb_in _ _ _) dX1_agrees_53 h
  · replace h := (if_neg c7).symm.trans h
    refine sf_iconst (v := 0) (pc := 10) C dX1_agrees_10 (by decide) ?_
    refine sf_iload_n (pc := 11) C 1 dX1_agrees_11 rfl ?_
    refine sf_aload_n (pc := 12) C 0 dX1_agrees_12 rfl ?_
    refine sf_getr (pc := 13) C nk_125 sh_125 rfl fl_1_15 dX1_agrees_13 ?_
    refine sf_iload_n (pc := 16) C 3 dX1_agrees_16 rfl ?_
    obtain ⟨v17, e17, h⟩ := sf_ob h
    refine sf_iald (pc := 17) C nk_127 sh_127 e17 dX1_agrees_17 ?_
    refine sf_isub (pc := 18) C dX1_agrees_18 ?_
    refine sf_mmax (pc := 19) C jd_1_38 (by decide) (Nat.le_of_ble_eq_true rfl) dX1_agrees_19 ?_
    refine sf_iconst (v := 0) (pc := 22) C dX1_agrees_22 (by decide) ?_
    refine sf_iload_n (pc := 23) C 2 dX1_agrees_23 rfl ?_
    refine sf_aload_n (pc := 24) C 0 dX1_agrees_24 rfl ?_
    refine sf_getr (pc := 25) C nk_125 sh_125 rfl fl_1_18 dX1_agrees_25 ?_
    refine sf_iload_n (pc := 28) C 3 dX1_agrees_28 rfl ?_
    obtain ⟨v29, e29, h⟩ := sf_ob h
    refine sf_iald (pc := 29) C nk_128 sh_128 e29 dX1_agrees_29 ?_
    refine sf_isub (pc := 30) C dX1_agrees_30 ?_
    refine sf_mmax (pc := 31) C jd_1_38 (by decide) (Nat.le_of_ble_eq_true rfl) dX1_agrees_31 ?_
    refine sf_iadd (pc := 34) C dX1_agrees_34 ?_
    refine sf_aload_n (pc := 35) C 0 dX1_agrees_35 rfl ?_
    refine sf_getr (pc := 36) C nk_125 sh_125 rfl fl_1_21 dX1_agrees_36 ?_
    refine sf_iload_n (pc := 39) C 3 dX1_agrees_39 rfl ?_
    obtain ⟨v40, e40, h⟩ := sf_ob h
    refine sf_iald (pc := 40) C nk_129 sh_129 e40 dX1_agrees_40 ?_
    refine sf_icmp_eq (tgt := 46) (pc := 41) C dX1_agrees_41 rfl (fun c41 => ?_) (fun c41 => ?_)
    · replace h := (if_pos c41).symm.trans h
      refine sf_iinc (v := (x3 + 1)) (lv' := [(3, .int (x3 + 1)), (0, .ref (V.2.1 125)), (1, .int x1), (2, .int x2)]) (pc := 46) C 3 dX1_agrees_46 rfl rfl (by decide) rfl ?_
      refine sf_goto (tgt := 2) (pc := 49) C dX1_agrees_49 rfl ?_
      refine sf_sub [1, 2, 3, 0] rfl ?_
      exact hk2 _ _ _ h
    · replace h := (if_neg c41).symm.trans h
      refine sf_iconst (v := 0) (pc := 44) C dX1_agrees_44 (by decide) ?_
      exact sf_zretR (pc := 45) C (by first | rfl | exact sf_nb_in _ _ _) dX1_agrees_45 h
set_option maxHeartbeats 4000000 in
set_option maxRecDepth 100000 in
theorem w1_agrees_L2 {X : sf_X} {V : sf_V} {s : sf_Sg} {r : Int32} (C : sf_C X V cX1_agrees 4 RX1 (some .boolean) 1) : ∀  (x1 : Int32) (x2 : Int32) (x3 : Int32), f1_agrees_L2 s x1 x2 x3 = some r → sf_G X V 4 (sf_Q X V (sf_Qi V r s)) s 2 [(0, .ref (V.2.1 125)), (1, .int x1), (2, .int x2), (3, .int x3)] [] :=
  sf_it_ind (fun (k : Int32 → Int32 → Int32 → Option Int32) => ∀  (x1 : Int32) (x2 : Int32) (x3 : Int32), k x1 x2 x3 = some r → sf_G X V 4 (sf_Q X V (sf_Qi V r s)) s 2 [(0, .ref (V.2.1 125)), (1, .int x1), (2, .int x2), (3, .int x3)] []) _ _ (fun x1 x2 x3 h => by cases h) (fun k hk x1 x2 x3 h => w1_agrees_b2 C hk h) _
set_option maxHeartbeats 4000000 in
set_option maxRecDepth 100000 in
theorem w1_agrees_b0 {X : sf_X} {V : sf_V} {s : sf_Sg} {r : Int32} (C : sf_C X V cX1_agrees 4 RX1 (some .boolean) 1) {x1 : Int32} {x2 : Int32} (h : f1_agrees_b0 s x1 x2 = some r) : sf_G X V 4 (sf_Q X V (sf_Qi V r s)) s 0 [(0, .ref (V.2.1 125)), (1, .int x1), (2, .int x2)] [] := by
  unfold f1_agrees_b0 at h
  refine sf_iconst (v := 0) (pc := 0) C dX1_agrees_0 (by decide) ?_
  refine sf_istore_n (lv' := [(3, .int (0 : Int32)), (0, .ref (V.2.1 125)), (1, .int x1), (2, .int x2)]) (pc := 1) C dX1_agrees_1 (by decide) rfl ?_
  refine sf_sub [1, 2, 3, 0] rfl ?_
  exact w1_agrees_L2 C _ _ _ h
set_option maxHeartbeats 4000000 in
set_option maxRecDepth 100000 in
theorem k1_agrees {l : Launch} {V : sf_V} {s : sf_Sg} {x1 : Int32} {x2 : Int32} {r : Int32} (h : f1_agrees s x1 x2 = some r) : sf_M l V yX1_agrees (.code yX1_agrees cX1_agrees 4 (some .boolean)) 1 [.ref (V.2.1 125), .int x1, .int x2] s (sf_Qi V r s) := by
  refine sf_enter (by decide) (Nat.le_of_ble_eq_true rfl) (fun X hX C => ?_)
  refine sf_sub [0, 1, 2] rfl ?_
  exact w1_agrees_b0 (show sf_C X V cX1_agrees 4 RX1 (some .boolean) 1 from C)  h
set_option maxHeartbeats 4000000 in
set_option maxRecDepth 100000 in
theorem w1_findPairs_b48 {X : sf_X} {V : sf_V} {s' : sf_Sg} {k7 : sf_Sg → Int32 → Option sf_Sg} {k17 : sf_Sg → Int32 → Int32 → Int32 → Option sf_Sg} (C : sf_C X V cX1_findPairs 4 RX1 none 2) (hk7 : ∀  (s : sf_Sg) (x1 : Int32), k7 s x1 = some s' → sf_G X V 4 (sf_Q X V (sf_Qv V s')) s 7 [(0, .ref (V.2.1 125)), (1, .int x1)] []) (hk17 : ∀  (s : sf_Sg) (x1 : Int32) (x2 : Int32) (x3 : Int32), k17 s x1 x2 x3 = some s' → sf_G X V 4 (sf_Q X V (sf_Qv V s')) s 17 [(0, .ref (V.2.1 125)), (1, .int x1), (2, .int x2), (3, .int x3)] []) {s : sf_Sg} {x1 : Int32} {x2 : Int32} {x3 : Int32} (h : f1_findPairs_b48 k7 k17 s x1 x2 x3 = some s') : sf_G X V 4 (sf_Q X V (sf_Qv V s')) s 48 [(0, .ref (V.2.1 125)), (1, .int x1), (2, .int x2), (3, .int x3)] [] := by
  unfold f1_findPairs_b48 at h
  refine sf_iinc (v := (x3 + 1)) (lv' := [(3, .int (x3 + 1)), (0, .ref (V.2.1 125)), (1, .int x1), (2, .int x2)]) (pc := 48) C 3 dX1_findPairs_48 rfl rfl (by decide) rfl ?_
  refine sf_goto (tgt := 17) (pc := 51) C dX1_findPairs_51 rfl ?_
  refine sf_sub [1, 2, 3, 0] rfl ?_
  exact hk17 _ _ _ _ h
set_option maxHeartbeats 4000000 in
set_option maxRecDepth 100000 in
theorem w1_findPairs_b54 {X : sf_X} {V : sf_V} {s' : sf_Sg} {k7 : sf_Sg → Int32 → Option sf_Sg} (C : sf_C X V cX1_findPairs 4 RX1 none 2) (hk7 : ∀  (s : sf_Sg) (x1 : Int32), k7 s x1 = some s' → sf_G X V 4 (sf_Q X V (sf_Qv V s')) s 7 [(0, .ref (V.2.1 125)), (1, .int x1)] []) {s : sf_Sg} {x1 : Int32} {x2 : Int32} (h : f1_findPairs_b54 k7 s x1 x2 = some s') : sf_G X V 4 (sf_Q X V (sf_Qv V s')) s 54 [(0, .ref (V.2.1 125)), (1, .int x1), (2, .int x2)] [] := by
  unfold f1_findPairs_b54 at h
  refine sf_aload_n (pc := 54) C 0 dX1_findPairs_54 rfl ?_
  refine sf_getr (pc := 55) C nk_125 sh_125 rfl fl_1_9 dX1_findPairs_55 ?_
  refine sf_iload_n (pc := 58) C 1 dX1_findPairs_58 rfl ?_
  refine sf_iload_n (pc := 59) C 2 dX1_findPairs_59 rfl ?_
  obtain ⟨s60, e60, h⟩ := sf_ob h
  refine sf_iast (pc := 60) C nk_126 sh_126 e60 dX1_findPairs_60 ?_
  refine sf_iinc (v := (x1 + 1)) (lv' := [(1, .int (x1 + 1)), (0, .ref (V.2.1 125)), (2, .int x2)]) (pc := 61) C 1 dX1_findPairs_61 rfl rfl (by decide) rfl ?_
  refine sf_goto (tgt := 7) (pc := 64) C dX1_findPairs_64 rfl ?_
  refine sf_sub [1, 0] rfl ?_
  exact hk7 _ _ h
set_option maxHeartbeats 4000000 in
set_option maxRecDepth 100000 in
theorem w1_findPairs_b17 {X : sf_X} {V : sf_V} {s' : sf_Sg} {k7 : sf_Sg → Int32 → Option sf_Sg} {k17 : sf_Sg → Int32 → Int32 → Int32 → Option sf_Sg} (C : sf_C X V cX1_findPairs 4 RX1 none 2) (hk7 : ∀  (s : sf_Sg) (x1 : Int32), k7 s x1 = some s' → sf_G X V 4 (sf_Q X V (sf_Qv V s')) s 7 [(0, .ref (V.2.1 125)), (1, .int x1)] []) (hk17 : ∀  (s : sf_Sg) (x1 : Int32) (x2 : Int32) (x3 : Int32), k17 s x1 x2 x3 = some s' → sf_G X V 4 (sf_Q X V (sf_Qv V s')) s 17 [(0, .ref (V.2.1 125)), (1, .int x1), (2, .int x2), (3, .int x3)] []) {s : sf_Sg} {x1 : Int32} {x2 : Int32} {x3 : Int32} (h : f1_findPairs_b17 k7 k17 s x1 x2 x3 = some s') : sf_G X V 4 (sf_Q X V (sf_Qv V s')) s 17 [(0, .ref (V.2.1 125)), (1, .int x1), (2, .int x2), (3, .int x3)] [] := by
  unfold f1_findPairs_b17 at h
  refine sf_iload_n (pc := 17) C 3 dX1_findPairs_17 rfl ?_
  refine sf_bipush (v := 20) (pc := 18) C dX1_findPairs_18 (by decide) ?_
  refine sf_icmp_gt (tgt := 54) (pc := 20) C dX1_findPairs_20 rfl (fun c20 => ?_) (fun c20 => ?_)
  · replace h := (if_pos c20).symm.trans h
    refine sf_sub [0, 1, 2] rfl ?_
    exact w1_findPairs_b54 C hk7 h
  · replace h := (if_neg c20).symm.trans h
    refine sf_aload_n (pc := 23) C 0 dX1_findPairs_23 rfl ?_
    refine sf_iload_n (pc := 24) C 1 dX1_findPairs_24 rfl ?_
    refine sf_iload_n (pc := 25) C 3 dX1_findPairs_25 rfl ?_
    obtain ⟨v26, e26, h⟩ := sf_ob h
    refine sf_callVi (pc := 26) C (As := [.int x1, .int x3]) nk_125 sh_125 rfl yk_X1_agrees cl_1_34 (k1_agrees e26) (by decide) rfl (Nat.le_of_ble_eq_true rfl) rfl dX1_findPairs_26 ?_
    refine sf_if_eq (tgt := 48) (pc := 29) C dX1_findPairs_29 rfl (fun c29 => ?_) (fun c29 => ?_)
    · replace h := (if_pos c29).symm.trans h
      exact w1_findPairs_b48 C hk7 hk17 h
    · replace h := (if_neg c29).symm.trans h
      refine sf_iload_n (pc := 32) C 2 dX1_findPairs_32 rfl ?_
      refine sf_iconst (v := 1) (pc := 33) C dX1_findPairs_33 (by decide) ?_
      refine sf_iload_n (pc := 34) C 3 dX1_findPairs_34 rfl ?_
      refine sf_ishl (pc := 35) C dX1_findPairs_35 ?_
      refine sf_ior (pc := 36) C dX1_findPairs_36 ?_
      refine sf_istore_n (lv' := [(2, .int (x2 ||| ((1 : Int32) <<< (x3 &&& 31)))), (0, .ref (V.2.1 125)), (1, .int x1), (3, .int x3)]) (pc := 37) C dX1_findPairs_37 (by decide) rfl ?_
      refine sf_aload_n (pc := 38) C 1 dX1_findPairs_38 rfl ?_
      refine sf_dup (pc := 39) C dX1_findPairs_39 rfl ?_
      refine sf_get (pc := 40) C nk_125 sh_125 rfl fl_1_31 dX1_findPairs_40 ?_
      refine sf_iconst (v := 1) (pc := 43) C dX1_findPairs_43 (by decide) ?_
      refine sf_iadd (pc := 44) C dX1_findPairs_44 ?_
      refine sf_put (pc := 45) C nk_125 sh_125 rfl fw_1_31 rfl rfl dX1_findPairs_45 ?_
      refine sf_sub [1, 2, 0, 3] rfl ?_
      exact w1_findPairs_b48 C hk7 hk17 h
set_option maxHeartbeats 4000000 in
set_option maxRecDepth 100000 in
theorem w1_findPairs_L17 {X : sf_X} {V : sf_V} {s' : sf_Sg} {k7 : sf_Sg → Int32 → Option sf_Sg} (C : sf_C X V cX1_findPairs 4 RX1 none 2) (hk7 : ∀  (s : sf_Sg) (x1 : Int32), k7 s x1 = some s' → sf_G X V 4 (sf_Q X V (sf_Qv V s')) s 7 [(0, .ref (V.2.1 125)), (1, .int x1)] []) : ∀  (s : sf_Sg) (x1 : Int32) (x2 : Int32) (x3 : Int32), f1_findPairs_L17 k7 s x1 x2 x3 = some s' → sf_G X V 4 (sf_Q X V (sf_Qv V s')) s 17 [(0, .ref (V.2.1 125)), (1, .int x1), (2, .int x2), (3, .int x3)] [] :=
  sf_it_ind (fun (k : sf_Sg → Int32 → Int32 → Int32 → Option sf_Sg) => ∀  (s : sf_Sg) (x1 : Int32) (x2 : Int32) (x3 : Int32), k s x1 x2 x3 = some s' → sf_G X V 4 (sf_Q X V (sf_Qv V s')) s 17 [(0, .ref (V.2.1 125)), (1, .int x1), (2, .int x2), (3, .int x3)] []) _ _ (fun s x1 x2 x3 h => by cases h) (fun k hk s x1 x2 x3 h => w1_findPairs_b17 C hk7 hk h) _
set_option maxHeartbeats 4000000 in
set_option maxRecDepth 100000 in
theorem w1_findPairs_b7 {X : sf_X} {V : sf_V} {s' : sf_Sg} {k7 : sf_Sg → Int32 → Option sf_Sg} (C : sf_C X V cX1_findPairs 4 RX1 none 2) (hk7 : ∀  (s : sf_Sg) (x1 : Int32), k7 s x1 = some s' → sf_G X V 4 (sf_Q X V (sf_Qv V s')) s 7 [(0, .ref (V.2.1 125)), (1, .int x1)] []) {s : sf_Sg} {x1 : Int32} (h : f1_findPairs_b7 k7 s x1 = some s') : sf_G X V 4 (sf_Q X V (sf_Qv V s')) s 7 [(0, .ref (V.2.1 125)), (1, .int x1)] [] := by
  unfold f1_findPairs_b7 at h
  refine sf_iload_n (pc := 7) C 1 dX1_findPairs_7 rfl ?_
  refine sf_bipush (v := 60) (pc := 8) C dX1_findPairs_8 (by decide) ?_
  refine sf_icmp_gt (tgt := 67) (pc := 10) C dX1_findPairs_10 rfl (fun c10 => ?_) (fun c10 => ?_)
  · replace h := (if_pos c10).symm.trans h
    exact sf_vretW (pc := 67) C dX1_findPairs_67 h
  · replace h := (if_neg c10).symm.trans h
    refine sf_iconst (v := 0) (pc := 13) C dX1_findPairs_13 (by decide) ?_
    refine sf_istore_n (lv' := [(2, .int (0 : Int32)), (0, .ref (V.2.1 125)), (1, .int x1)]) (pc := 14) C dX1_findPairs_14 (by decide) rfl ?_
    refine sf_iconst (v := 0) (pc := 15) C dX1_findPairs_15 (by decide) ?_
    refine sf_istore_n (lv' := [(3, .int (0 : Int32)), (2, .int (0 : Int32)), (0, .ref (V.2.1 125)), (1, .int x1)]) (pc := 16) C dX1_findPairs_16 (by decide) rfl ?_
    refine sf_sub [2, 3, 1, 0] rfl ?_
    exact w1_findPairs_L17 C hk7 _ _ _ _ h
set_option maxHeartbeats 4000000 in
set_option maxRecDepth 100000 in
theorem w1_findPairs_L7 {X : sf_X} {V : sf_V} {s' : sf_Sg} (C : sf_C X V cX1_findPairs 4 RX1 none 2) : ∀  (s : sf_Sg) (x1 : Int32), f1_findPairs_L7 s x1 = some s' → sf_G X V 4 (sf_Q X V (sf_Qv V s')) s 7 [(0, .ref (V.2.1 125)), (1, .int x1)] [] :=
  sf_it_ind (fun (k : sf_Sg → Int32 → Option sf_Sg) => ∀  (s : sf_Sg) (x1 : Int32), k s x1 = some s' → sf_G X V 4 (sf_Q X V (sf_Qv V s')) s 7 [(0, .ref (V.2.1 125)), (1, .int x1)] []) _ _ (fun s x1 h => by cases h) (fun k hk s x1 h => w1_findPairs_b7 C hk h) _
set_option maxHeartbeats 4000000 in
set_option maxRecDepth 100000 in
theorem w1_findPairs_b0 {X : sf_X} {V : sf_V} {s' : sf_Sg} (C : sf_C X V cX1_findPairs 4 RX1 none 2) {s : sf_Sg} (h : f1_findPairs_b0 s = some s') : sf_G X V 4 (sf_Q X V (sf_Qv V s')) s 0 [(0, .ref (V.2.1 125))] [] := by
  unfold f1_findPairs_b0 at h
  refine sf_aload_n (pc := 0) C 0 dX1_findPairs_0 rfl ?_
  refine sf_iconst (v := 0) (pc := 1) C dX1_findPairs_1 (by decide) ?_
  refine sf_put (pc := 2) C nk_125 sh_125 rfl fw_1_31 rfl rfl dX1_findPairs_2 ?_
  refine sf_iconst (v := 1) (pc := 5) C dX1_findPairs_5 (by decide) ?_
  refine sf_istore_n (lv' := [(1, .int (1 : Int32)), (0, .ref (V.2.1 125))]) (pc := 6) C dX1_findPairs_6 (by decide) rfl ?_
  refine sf_sub [1, 0] rfl ?_
  exact w1_findPairs_L7 C _ _ h
set_option maxHeartbeats 4000000 in
set_option maxRecDepth 100000 in
theorem k1_findPairs {l : Launch} {V : sf_V} {s : sf_Sg} {s' : sf_Sg} (h : f1_findPairs s = some s') : sf_M l V yX1_findPairs (.code yX1_findPairs cX1_findPairs 4 none) 2 [.ref (V.2.1 125)] s (sf_Qv V s') := by
  refine sf_enter (by decide) (Nat.le_of_ble_eq_true rfl) (fun X hX C => ?_)
  refine sf_sub [0] rfl ?_
  exact w1_findPairs_b0 (show sf_C X V cX1_findPairs 4 RX1 none 2 from C)  h
set_option maxHeartbeats 4000000 in
set_option maxRecDepth 100000 in
theorem w1_leastWeight_b2 {X : sf_X} {V : sf_V} {s : sf_Sg} {r : Int32} {k2 : Int32 → Option Int32} (C : sf_C X V cX1_leastWeight 2 RX1 (some .int) 0) (hk2 : ∀  (x1 : Int32), k2 x1 = some r → sf_G X V 2 (sf_Q X V (sf_Qi V r s)) s 2 [(0, .ref (V.2.1 125)), (1, .int x1)] []) {x1 : Int32} (h : f1_leastWeight_b2 s k2 x1 = some r) : sf_G X V 2 (sf_Q X V (sf_Qi V r s)) s 2 [(0, .ref (V.2.1 125)), (1, .int x1)] [] := by
  unfold f1_leastWeight_b2 at h
  refine sf_iload_n (pc := 2) C 1 dX1_leastWeight_2 rfl ?_
  refine sf_bipush (v := 60) (pc := 3) C dX1_leastWeight_3 (by decide) ?_
  refine sf_icmp_gt (tgt := 25) (pc := 5) C dX1_leastWeight_5 rfl (fun c5 => ?_) (fun c5 => ?_)
  · replace h := (if_pos c5).symm.trans h
    refine sf_iconst (v := -1) (pc := 25) C dX1_leastWeight_25 (by decide) ?_
    exact sf_iretR (pc := 26) C dX1_leastWeight_26 h
  · replace h := (if_neg c5).symm.trans h
    refine sf_aload_n (pc := 8) C 0 dX1_leastWeight_8 rfl ?_
    refine sf_getr (pc := 9) C nk_125 sh_125 rfl fl_1_9 dX1_leastWeight_9 ?_
    refine sf_iload_n (pc := 12) C 1 dX1_leastWeight_12 rfl ?_
    obtain ⟨v13, e13, h⟩ := sf_ob h
    refine sf_iald (pc := 13) C nk_126 sh_126 e13 dX1_leastWeight_13 ?_
    refine sf_if_eq (tgt := 19) (pc := 14) C dX1_leastWeight_14 rfl (fun c14 => ?_) (fun c14 => ?_)
    · replace h := (if_pos c14).symm.trans h
      refine sf_iinc (v := (x1 + 1)) (lv' := [(1, .int (x1 + 1)), (0, .ref (V.2.1 125))]) (pc := 19) C 1 dX1_leastWeight_19 rfl rfl (by decide) rfl ?_
      refine sf_goto (tgt := 2) (pc := 22) C dX1_leastWeight_22 rfl ?_
      refine sf_sub [1, 0] rfl ?_
      exact hk2 _ h
    · replace h := (if_neg c14).symm.trans h
      refine sf_iload_n (pc := 17) C 1 dX1_leastWeight_17 rfl ?_
      exact sf_iretR (pc := 18) C dX1_leastWeight_18 h
set_option maxHeartbeats 4000000 in
set_option maxRecDepth 100000 in
theorem w1_leastWeight_L2 {X : sf_X} {V : sf_V} {s : sf_Sg} {r : Int32} (C : sf_C X V cX1_leastWeight 2 RX1 (some .int) 0) : ∀  (x1 : Int32), f1_leastWeight_L2 s x1 = some r → sf_G X V 2 (sf_Q X V (sf_Qi V r s)) s 2 [(0, .ref (V.2.1 125)), (1, .int x1)] [] :=
  sf_it_ind (fun (k : Int32 → Option Int32) => ∀  (x1 : Int32), k x1 = some r → sf_G X V 2 (sf_Q X V (sf_Qi V r s)) s 2 [(0, .ref (V.2.1 125)), (1, .int x1)] []) _ _ (fun x1 h => by cases h) (fun k hk x1 h => w1_leastWeight_b2 C hk h) _
set_option maxHeartbeats 4000000 in
set_option maxRecDepth 100000 in
theorem w1_leastWeight_b0 {X : sf_X} {V : sf_V} {s : sf_Sg} {r : Int32} (C : sf_C X V cX1_leastWeight 2 RX1 (some .int) 0) (h : f1_leastWeight_b0 s = some r) : sf_G X V 2 (sf_Q X V (sf_Qi V r s)) s 0 [(0, .ref (V.2.1 125))] [] := by
  unfold f1_leastWeight_b0 at h
  refine sf_iconst (v := 1) (pc := 0) C dX1_leastWeight_0 (by decide) ?_
  refine sf_istore_n (lv' := [(1, .int (1 : Int32)), (0, .ref (V.2.1 125))]) (pc := 1) C dX1_leastWeight_1 (by decide) rfl ?_
  refine sf_sub [1, 0] rfl ?_
  exact w1_leastWeight_L2 C _ h
set_option maxHeartbeats 4000000 in
set_option maxRecDepth 100000 in
theorem k1_leastWeight {l : Launch} {V : sf_V} {s : sf_Sg} {r : Int32} (h : f1_leastWeight s = some r) : sf_M l V yX1_leastWeight (.code yX1_leastWeight cX1_leastWeight 2 (some .int)) 0 [.ref (V.2.1 125)] s (sf_Qi V r s) := by
  refine sf_enter (by decide) (Nat.le_of_ble_eq_true rfl) (fun X hX C => ?_)
  refine sf_sub [0] rfl ?_
  exact w1_leastWeight_b0 (show sf_C X V cX1_leastWeight 2 RX1 (some .int) 0 from C)  h
set_option maxHeartbeats 4000000 in
set_option maxRecDepth 100000 in
theorem w1_leastEdge_b7 {X : sf_X} {V : sf_V} {s : sf_Sg} {r : Int32} {k7 : Int32 → Int32 → Option Int32} (C : sf_C X V cX1_leastEdge 3 RX1 (some .int) 1) (hk7 : ∀  (x1 : Int32) (x2 : Int32), k7 x1 x2 = some r → sf_G X V 3 (sf_Q X V (sf_Qi V r s)) s 7 [(0, .ref (V.2.1 125)), (1, .int x1), (2, .int x2)] []) {x1 : Int32} {x2 : Int32} (h : f1_leastEdge_b7 s k7 x1 x2 = some r) : sf_G X V 3 (sf_Q X V (sf_Qi V r s)) s 7 [(0, .ref (V.2.1 125)), (1, .int x1), (2, .int x2)] [] := by
  unfold f1_leastEdge_b7 at h
  refine sf_iload_n (pc := 7) C 1 dX1_leastEdge_7 rfl ?_
  refine sf_iconst (v := -1) (pc := 8) C dX1_leastEdge_8 (by decide) ?_
  refine sf_icmp_eq (tgt := 39) (pc := 9) C dX1_leastEdge_9 rfl (fun c9 => ?_) (fun c9 => ?_)
  · replace h := (if_pos c9).symm.trans h
    refine sf_iconst (v := -1) (pc := 39) C dX1_leastEdge_39 (by decide) ?_
    exact sf_iretR (pc := 40) C dX1_leastEdge_40 h
  · replace h := (if_neg c9).symm.trans h
    refine sf_iload_n (pc := 12) C 2 dX1_leastEdge_12 rfl ?_
    refine sf_bipush (v := 20) (pc := 13) C dX1_leastEdge_13 (by decide) ?_
    refine sf_icmp_gt (tgt := 39) (pc := 15) C dX1_leastEdge_15 rfl (fun c15 => ?_) (fun c15 => ?_)
    · replace h := (if_pos c15).symm.trans h
      refine sf_iconst (v := -1) (pc := 39) C dX1_leastEdge_39 (by decide) ?_
      exact sf_iretR (pc := 40) C dX1_leastEdge_40 h
    · replace h := (if_neg c15).symm.trans h
      refine sf_aload_n (pc := 18) C 0 dX1_leastEdge_18 rfl ?_
      refine sf_getr (pc := 19) C nk_125 sh_125 rfl fl_1_9 dX1_leastEdge_19 ?_
      refine sf_iload_n (pc := 22) C 1 dX1_leastEdge_22 rfl ?_
      obtain ⟨v23, e23, h⟩ := sf_ob h
      refine sf_iald (pc := 23) C nk_126 sh_126 e23 dX1_leastEdge_23 ?_
      refine sf_iload_n (pc := 24) C 2 dX1_leastEdge_24 rfl ?_
      refine sf_callNi (pc := 25) C (As := [.int v23, .int x2]) yk_X9_has cl_1_48 (k9_has rfl) (by decide) rfl (Nat.le_of_ble_eq_true rfl) rfl dX1_leastEdge_25 ?_
      refine sf_if_eq (tgt := 33) (pc := 28) C dX1_leastEdge_28 rfl (fun c28 => ?_) (fun c28 => ?_)
      · replace h := (if_pos c28).symm.trans h
        refine sf_iinc (v := (x2 + 1)) (lv' := [(2, .int (x2 + 1)), (0, .ref (V.2.1 125)), (1, .int x1)]) (pc := 33) C 2 dX1_leastEdge_33 rfl rfl (by decide) rfl ?_
        refine sf_goto (tgt := 7) (pc := 36) C dX1_leastEdge_36 rfl ?_
        refine sf_sub [1, 2, 0] rfl ?_
        exact hk7 _ _ h
      · replace h := (if_neg c28).symm.trans h
        refine sf_iload_n (pc := 31) C 2 dX1_leastEdge_31 rfl ?_
        exact sf_iretR (pc := 32) C dX1_leastEdge_32 h
set_option maxHeartbeats 4000000 in
set_option maxRecDepth 100000 in
theorem w1_leastEdge_L7 {X : sf_X} {V : sf_V} {s : sf_Sg} {r : Int32} (C : sf_C X V cX1_leastEdge 3 RX1 (some .int) 1) : ∀  (x1 : Int32) (x2 : Int32), f1_leastEdge_L7 s x1 x2 = some r → sf_G X V 3 (sf_Q X V (sf_Qi V r s)) s 7 [(0, .ref (V.2.1 125)), (1, .int x1), (2, .int x2)] [] :=
  sf_it_ind (fun (k : Int32 → Int32 → Option Int32) => ∀  (x1 : Int32) (x2 : Int32), k x1 x2 = some r → sf_G X V 3 (sf_Q X V (sf_Qi V r s)) s 7 [(0, .ref (V.2.1 125)), (1, .int x1), (2, .int x2)] []) _ _ (fun x1 x2 h => by cases h) (fun k hk x1 x2 h => w1_leastEdge_b7 C hk h) _
set_option maxHeartbeats 4000000 in
set_option maxRecDepth 100000 in
theorem w1_leastEdge_b0 {X : sf_X} {V : sf_V} {s : sf_Sg} {r : Int32} (C : sf_C X V cX1_leastEdge 3 RX1 (some .int) 1) (h : f1_leastEdge_b0 s = some r) : sf_G X V 3 (sf_Q X V (sf_Qi V r s)) s 0 [(0, .ref (V.2.1 125))] [] := by
  unfold f1_leastEdge_b0 at h
  refine sf_aload_n (pc := 0) C 0 dX1_leastEdge_0 rfl ?_
  obtain ⟨v1, e1, h⟩ := sf_ob h
  refine sf_callVi (pc := 1) C (As := []) nk_125 sh_125 rfl yk_X1_leastWeight cl_1_44 (k1_leastWeight e1) (by decide) rfl (Nat.le_of_ble_eq_true rfl) rfl dX1_leastEdge_1 ?_
  refine sf_istore_n (lv' := [(1, .int v1), (0, .ref (V.2.1 125))]) (pc := 4) C dX1_leastEdge_4 (by decide) rfl ?_
  refine sf_iconst (v := 0) (pc := 5) C dX1_leastEdge_5 (by decide) ?_
  refine sf_istore_n (lv' := [(2, .int (0 : Int32)), (1, .int v1), (0, .ref (V.2.1 125))]) (pc := 6) C dX1_leastEdge_6 (by decide) rfl ?_
  refine sf_sub [2, 1, 0] rfl ?_
  exact w1_leastEdge_L7 C _ _ h
set_option maxHeartbeats 4000000 in
set_option maxRecDepth 100000 in
theorem k1_leastEdge {l : Launch} {V : sf_V} {s : sf_Sg} {r : Int32} (h : f1_leastEdge s = some r) : sf_M l V yX1_leastEdge (.code yX1_leastEdge cX1_leastEdge 3 (some .int)) 1 [.ref (V.2.1 125)] s (sf_Qi V r s) := by
  refine sf_enter (by decide) (Nat.le_of_ble_eq_true rfl) (fun X hX C => ?_)
  refine sf_sub [0] rfl ?_
  exact w1_leastEdge_b0 (show sf_C X V cX1_leastEdge 3 RX1 (some .int) 1 from C)  h
set_option maxHeartbeats 4000000 in
set_option maxRecDepth 100000 in
theorem w9_carries_b0 {X : sf_X} {V : sf_V} {r : Int32} {s' : sf_Sg} (C : sf_C X V cX9_carries 2 RX9 (some .int) 3) {s : sf_Sg} {x1 : Int32} (h : f9_carries_b0 s x1 = some (r, s')) : sf_G X V 2 (sf_Q X V (sf_Qi V r s')) s 0 [(0, .ref (V.2.1 0)), (1, .int x1)] [] := by
  unfold f9_carries_b0 at h
  refine sf_iload_n (pc := 0) C 1 dX9_carries_0 rfl ?_
  refine sf_iconst (v := 0) (pc := 1) C dX9_carries_1 (by decide) ?_
  refine sf_iconst (v := 2) (pc := 2) C dX9_carries_2 (by decide) ?_
  refine sf_callSi (pc := 3) C (As := [.int x1, .int (0 : Int32), .int (2 : Int32)]) yk_X9_within cl_9_89 (k9_within rfl) (by decide) rfl (Nat.le_of_ble_eq_true rfl) rfl dX9_carries_3 ?_
  refine sf_if_ne (tgt := 12) (pc := 6) C dX9_carries_6 rfl (fun c6 => ?_) (fun c6 => ?_)
  · replace h := (if_neg c6).symm.trans h
    refine sf_aload_n (pc := 12) C 0 dX9_carries_12 rfl ?_
    refine sf_getr (pc := 13) C nk_0 sh_0 rfl fl_9_63 dX9_carries_13 ?_
    obtain ⟨s16, e16, h⟩ := sf_ob h
    refine sf_callVv (pc := 16) C (As := []) nk_125 sh_125 rfl yk_X1_findPairs cl_9_304 (k1_findPairs e16) (by decide) rfl (Nat.le_of_ble_eq_true rfl) rfl dX9_carries_16 ?_
    refine sf_iload_n (pc := 19) C 1 dX9_carries_19 rfl ?_
    refine sf_if_ne (tgt := 31) (pc := 20) C dX9_carries_20 rfl (fun c20 => ?_) (fun c20 => ?_)
    · replace h := (if_neg c20).symm.trans h
      refine sf_iload_n (pc := 31) C 1 dX9_carries_31 rfl ?_
      refine sf_iconst (v := 1) (pc := 32) C dX9_carries_32 (by decide) ?_
      refine sf_icmp_ne (tgt := 46) (pc := 33) C dX9_carries_33 rfl (fun c33 => ?_) (fun c33 => ?_)
      · replace h := (if_neg c33).symm.trans h
        refine sf_aload_n (pc := 46) C 0 dX9_carries_46 rfl ?_
        refine sf_getr (pc := 47) C nk_0 sh_0 rfl fl_9_63 dX9_carries_47 ?_
        obtain ⟨v50, e50, h⟩ := sf_ob h
        refine sf_callVi (pc := 50) C (As := []) nk_125 sh_125 rfl yk_X1_leastEdge cl_9_313 (k1_leastEdge e50) (by decide) rfl (Nat.le_of_ble_eq_true rfl) rfl dX9_carries_50 ?_
        exact sf_iretW (pc := 53) C dX9_carries_53 h
      · replace h := (if_pos c33).symm.trans h
        refine sf_aload_n (pc := 36) C 0 dX9_carries_36 rfl ?_
        refine sf_getr (pc := 37) C nk_0 sh_0 rfl fl_9_63 dX9_carries_37 ?_
        obtain ⟨v40, e40, h⟩ := sf_ob h
        refine sf_callVi (pc := 40) C (As := []) nk_125 sh_125 rfl yk_X1_leastWeight cl_9_310 (k1_leastWeight e40) (by decide) rfl (Nat.le_of_ble_eq_true rfl) rfl dX9_carries_40 ?_
        refine sf_goto (tgt := 53) (pc := 43) C dX9_carries_43 rfl ?_
        exact sf_iretW (pc := 53) C dX9_carries_53 h
    · replace h := (if_pos c20).symm.trans h
      refine sf_aload_n (pc := 23) C 0 dX9_carries_23 rfl ?_
      refine sf_getr (pc := 24) C nk_0 sh_0 rfl fl_9_63 dX9_carries_24 ?_
      refine sf_get (pc := 27) C nk_125 sh_125 rfl fl_9_307 dX9_carries_27 ?_
      exact sf_iretW (pc := 30) C dX9_carries_30 h
  · replace h := (if_pos c6).symm.trans h
    refine sf_ldc (v := -1000000002) (pc := 9) C dX9_carries_9 tm_334 ?_
    exact sf_iretW (pc := 11) C dX9_carries_11 h
set_option maxHeartbeats 4000000 in
set_option maxRecDepth 100000 in
theorem k9_carries {l : Launch} {V : sf_V} {s : sf_Sg} {x1 : Int32} {r : Int32} {s' : sf_Sg} (h : f9_carries s x1 = some (r, s')) : sf_M l V yX9_carries (.code yX9_carries cX9_carries 2 (some .int)) 3 [.ref (V.2.1 0), .int x1] s (sf_Qi V r s') := by
  refine sf_enter (by decide) (Nat.le_of_ble_eq_true rfl) (fun X hX C => ?_)
  refine sf_sub [0, 1] rfl ?_
  exact w9_carries_b0 (show sf_C X V cX9_carries 2 RX9 (some .int) 3 from C)  h
set_option maxHeartbeats 4000000 in
set_option maxRecDepth 100000 in
theorem w1_greatestPart_b105 {X : sf_X} {V : sf_V} {r : Int32} {s' : sf_Sg} {k29 : sf_Sg → Int32 → Int32 → Int32 → Int32 → Option (Int32 × sf_Sg)} {k54 : sf_Sg → Int32 → Int32 → Int32 → Int32 → Int32 → Int32 → Option (Int32 × sf_Sg)} (C : sf_C X V cX1_greatestPart 7 RX1 (some .int) 1) (hk29 : ∀  (s : sf_Sg) (x1 : Int32) (x2 : Int32) (x3 : Int32) (x4 : Int32), k29 s x1 x2 x3 x4 = some (r, s') → sf_G X V 7 (sf_Q X V (sf_Qi V r s')) s 29 [(0, .ref (V.2.1 125)), (1, .int x1), (2, .int x2), (3, .int x3), (4, .int x4)] []) (hk54 : ∀  (s : sf_Sg) (x1 : Int32) (x2 : Int32) (x3 : Int32) (x4 : Int32) (x5 : Int32) (x6 : Int32), k54 s x1 x2 x3 x4 x5 x6 = some (r, s') → sf_G X V 7 (sf_Q X V (sf_Qi V r s')) s 54 [(0, .ref (V.2.1 125)), (1, .int x1), (2, .int x2), (3, .int x3), (4, .int x4), (5, .int x5), (6, .int x6)] []) {s : sf_Sg} {x1 : Int32} {x2 : Int32} {x3 : Int32} {x4 : Int32} {x5 : Int32} {x6 : Int32} (h : f1_greatestPart_b105 k29 k54 s x1 x2 x3 x4 x5 x6 = some (r, s')) : sf_G X V 7 (sf_Q X V (sf_Qi V r s')) s 105 [(0, .ref (V.2.1 125)), (1, .int x1), (2, .int x2), (3, .int x3), (4, .int x4), (5, .int x5), (6, .int x6)] [] := by
  unfold f1_greatestPart_b105 at h
  refine sf_iinc (v := (x6 + 1)) (lv' := [(6, .int (x6 + 1)), (0, .ref (V.2.1 125)), (1, .int x1), (2, .int x2), (3, .int x3), (4, .int x4), (5, .int x5)]) (pc := 105) C 6 dX1_greatestPart_105 rfl rfl (by decide) rfl ?_
  refine sf_goto (tgt := 54) (pc := 108) C dX1_greatestPart_108 rfl ?_
  refine sf_sub [1, 2, 3, 4, 5, 6, 0] rfl ?_
  exact hk54 _ _ _ _ _ _ _ h
set_option maxHeartbeats 4000000 in
set_option maxRecDepth 100000 in
theorem w1_greatestPart_b111 {X : sf_X} {V : sf_V} {r : Int32} {s' : sf_Sg} {k29 : sf_Sg → Int32 → Int32 → Int32 → Int32 → Option (Int32 × sf_Sg)} (C : sf_C X V cX1_greatestPart 7 RX1 (some .int) 1) (hk29 : ∀  (s : sf_Sg) (x1 : Int32) (x2 : Int32) (x3 : Int32) (x4 : Int32), k29 s x1 x2 x3 x4 = some (r, s') → sf_G X V 7 (sf_Q X V (sf_Qi V r s')) s 29 [(0, .ref (V.2.1 125)), (1, .int x1), (2, .int x2), (3, .int x3), (4, .int x4)] []) {s : sf_Sg} {x1 : Int32} {x2 : Int32} {x3 : Int32} {x4 : Int32} (h : f1_greatestPart_b111 k29 s x1 x2 x3 x4 = some (r, s')) : sf_G X V 7 (sf_Q X V (sf_Qi V r s')) s 111 [(0, .ref (V.2.1 125)), (1, .int x1), (2, .int x2), (3, .int x3), (4, .int x4)] [] := by
  unfold f1_greatestPart_b111 at h
  refine sf_iinc (v := (x4 + 1)) (lv' := [(4, .int (x4 + 1)), (0, .ref (V.2.1 125)), (1, .int x1), (2, .int x2), (3, .int x3)]) (pc := 111) C 4 dX1_greatestPart_111 rfl rfl (by decide) rfl ?_
  refine sf_goto (tgt := 29) (pc := 114) C dX1_greatestPart_114 rfl ?_
  refine sf_sub [1, 2, 3, 4, 0] rfl ?_
  exact hk29 _ _ _ _ _ h
set_option maxHeartbeats 4000000 in
set_option maxRecDepth 100000 in
theorem w1_greatestPart_b54 {X : sf_X} {V : sf_V} {r : Int32} {s' : sf_Sg} {k29 : sf_Sg → Int32 → Int32 → Int32 → Int32 → Option (Int32 × sf_Sg)} {k54 : sf_Sg → Int32 → Int32 → Int32 → Int32 → Int32 → Int32 → Option (Int32 × sf_Sg)} (C : sf_C X V cX1_greatestPart 7 RX1 (some .int) 1) (hk29 : ∀  (s : sf_Sg) (x1 : Int32) (x2 : Int32) (x3 : Int32) (x4 : Int32), k29 s x1 x2 x3 x4 = some (r, s') → sf_G X V 7 (sf_Q X V (sf_Qi V r s')) s 29 [(0, .ref (V.2.1 125)), (1, .int x1), (2, .int x2), (3, .int x3), (4, .int x4)] []) (hk54 : ∀  (s : sf_Sg) (x1 : Int32) (x2 : Int32) (x3 : Int32) (x4 : Int32) (x5 : Int32) (x6 : Int32), k54 s x1 x2 x3 x4 x5 x6 = some (r, s') → sf_G X V 7 (sf_Q X V (sf_Qi V r s')) s 54 [(0, .ref (V.2.1 125)), (1, .int x1), (2, .int x2), (3, .int x3), (4, .int x4), (5, .int x5), (6, .int x6)] []) {s : sf_Sg} {x1 : Int32} {x2 : Int32} {x3 : Int32} {x4 : Int32} {x5 : Int32} {x6 : Int32} (h : f1_greatestPart_b54 k29 k54 s x1 x2 x3 x4 x5 x6 = some (r, s')) : sf_G X V 7 (sf_Q X V (sf_Qi V r s')) s 54 [(0, .ref (V.2.1 125)), (1, .int x1), (2, .int x2), (3, .int x3), (4, .int x4), (5, .int x5), (6, .int x6)] [] := by
  unfold f1_greatestPart_b54 at h
  refine sf_iload (pc := 54) C 6 dX1_greatestPart_54 rfl ?_
  refine sf_bipush (v := 20) (pc := 56) C dX1_greatestPart_56 (by decide) ?_
  refine sf_icmp_gt (tgt := 111) (pc := 58) C dX1_greatestPart_58 rfl (fun c58 => ?_) (fun c58 => ?_)
  · replace h := (if_pos c58).symm.trans h
    refine sf_sub [0, 1, 2, 3, 4] rfl ?_
    exact w1_greatestPart_b111 C hk29 h
  · replace h := (if_neg c58).symm.trans h
    refine sf_aload_n (pc := 61) C 0 dX1_greatestPart_61 rfl ?_
    refine sf_getr (pc := 62) C nk_125 sh_125 rfl fl_1_9 dX1_greatestPart_62 ?_
    refine sf_iload (pc := 65) C 4 dX1_greatestPart_65 rfl ?_
    obtain ⟨v67, e67, h⟩ := sf_ob h
    refine sf_iald (pc := 67) C nk_126 sh_126 e67 dX1_greatestPart_67 ?_
    refine sf_iload (pc := 68) C 6 dX1_greatestPart_68 rfl ?_
    refine sf_callNi (pc := 70) C (As := [.int v67, .int x6]) yk_X9_has cl_1_48 (k9_has rfl) (by decide) rfl (Nat.le_of_ble_eq_true rfl) rfl dX1_greatestPart_70 ?_
    refine sf_if_eq (tgt := 105) (pc := 73) C dX1_greatestPart_73 rfl (fun c73 => ?_) (fun c73 => ?_)
    · replace h := (if_pos c73).symm.trans h
      exact w1_greatestPart_b105 C hk29 hk54 h
    · replace h := (if_neg c73).symm.trans h
      refine sf_aload_n (pc := 76) C 0 dX1_greatestPart_76 rfl ?_
      refine sf_getr (pc := 77) C nk_125 sh_125 rfl fl_1_24 dX1_greatestPart_77 ?_
      refine sf_iload (pc := 80) C 5 dX1_greatestPart_80 rfl ?_
      refine sf_iload (pc := 82) C 6 dX1_greatestPart_82 rfl ?_
      refine sf_iadd (pc := 84) C dX1_greatestPart_84 ?_
      refine sf_dup2 (pc := 85) C dX1_greatestPart_85 rfl rfl ?_
      obtain ⟨v86, e86, h⟩ := sf_ob h
      refine sf_iald (pc := 86) C nk_130 sh_130 e86 dX1_greatestPart_86 ?_
      refine sf_iconst (v := 1) (pc := 87) C dX1_greatestPart_87 (by decide) ?_
      refine sf_iadd (pc := 88) C dX1_greatestPart_88 ?_
      obtain ⟨s89, e89, h⟩ := sf_ob h
      refine sf_iast (pc := 89) C nk_130 sh_130 e89 dX1_greatestPart_89 ?_
      refine sf_iload_n (pc := 90) C 3 dX1_greatestPart_90 rfl ?_
      refine sf_aload_n (pc := 91) C 0 dX1_greatestPart_91 rfl ?_
      refine sf_getr (pc := 92) C nk_125 sh_125 rfl fl_1_24 dX1_greatestPart_92 ?_
      refine sf_iload (pc := 95) C 5 dX1_greatestPart_95 rfl ?_
      refine sf_iload (pc := 97) C 6 dX1_greatestPart_97 rfl ?_
      refine sf_iadd (pc := 99) C dX1_greatestPart_99 ?_
      obtain ⟨v100, e100, h⟩ := sf_ob h
      refine sf_iald (pc := 100) C nk_130 sh_130 e100 dX1_greatestPart_100 ?_
      refine sf_mmax (pc := 101) C jd_1_38 (by decide) (Nat.le_of_ble_eq_true rfl) dX1_greatestPart_101 ?_
      refine sf_istore_n (lv' := [(3, .int (sf_max x3 v100)), (0, .ref (V.2.1 125)), (1, .int x1), (2, .int x2), (4, .int x4), (5, .int x5), (6, .int x6)]) (pc := 104) C dX1_greatestPart_104 (by decide) rfl ?_
      refine sf_sub [1, 2, 3, 0, 4, 5, 6] rfl ?_
      exact w1_greatestPart_b105 C hk29 hk54 h
set_option maxHeartbeats 4000000 in
set_option maxRecDepth 100000 in
theorem w1_greatestPart_L54 {X : sf_X} {V : sf_V} {r : Int32} {s' : sf_Sg} {k29 : sf_Sg → Int32 → Int32 → Int32 → Int32 → Option (Int32 × sf_Sg)} (C : sf_C X V cX1_greatestPart 7 RX1 (some .int) 1) (hk29 : ∀  (s : sf_Sg) (x1 : Int32) (x2 : Int32) (x3 : Int32) (x4 : Int32), k29 s x1 x2 x3 x4 = some (r, s') → sf_G X V 7 (sf_Q X V (sf_Qi V r s')) s 29 [(0, .ref (V.2.1 125)), (1, .int x1), (2, .int x2), (3, .int x3), (4, .int x4)] []) : ∀  (s : sf_Sg) (x1 : Int32) (x2 : Int32) (x3 : Int32) (x4 : Int32) (x5 : Int32) (x6 : Int32), f1_greatestPart_L54 k29 s x1 x2 x3 x4 x5 x6 = some (r, s') → sf_G X V 7 (sf_Q X V (sf_Qi V r s')) s 54 [(0, .ref (V.2.1 125)), (1, .int x1), (2, .int x2), (3, .int x3), (4, .int x4), (5, .int x5), (6, .int x6)] [] :=
  sf_it_ind (fun (k : sf_Sg → Int32 → Int32 → Int32 → Int32 → Int32 → Int32 → Option (Int32 × sf_Sg)) => ∀  (s : sf_Sg) (x1 : Int32) (x2 : Int32) (x3 : Int32) (x4 : Int32) (x5 : Int32) (x6 : Int32), k s x1 x2 x3 x4 x5 x6 = some (r, s') → sf_G X V 7 (sf_Q X V (sf_Qi V r s')) s 54 [(0, .ref (V.2.1 125)), (1, .int x1), (2, .int x2), (3, .int x3), (4, .int x4), (5, .int x5), (6, .int x6)] []) _ _ (fun s x1 x2 x3 x4 x5 x6 h => by cases h) (fun k hk s x1 x2 x3 x4 x5 x6 h => w1_greatestPart_b54 C hk29 hk h) _
set_option maxHeartbeats 4000000 in
set_option maxRecDepth 100000 in
theorem w1_greatestPart_b29 {X : sf_X} {V : sf_V} {r : Int32} {s' : sf_Sg} {k29 : sf_Sg → Int32 → Int32 → Int32 → Int32 → Option (Int32 × sf_Sg)} (C : sf_C X V cX1_greatestPart 7 RX1 (some .int) 1) (hk29 : ∀  (s : sf_Sg) (x1 : Int32) (x2 : Int32) (x3 : Int32) (x4 : Int32), k29 s x1 x2 x3 x4 = some (r, s') → sf_G X V 7 (sf_Q X V (sf_Qi V r s')) s 29 [(0, .ref (V.2.1 125)), (1, .int x1), (2, .int x2), (3, .int x3), (4, .int x4)] []) {s : sf_Sg} {x1 : Int32} {x2 : Int32} {x3 : Int32} {x4 : Int32} (h : f1_greatestPart_b29 k29 s x1 x2 x3 x4 = some (r, s')) : sf_G X V 7 (sf_Q X V (sf_Qi V r s')) s 29 [(0, .ref (V.2.1 125)), (1, .int x1), (2, .int x2), (3, .int x3), (4, .int x4)] [] := by
  unfold f1_greatestPart_b29 at h
  refine sf_iload (pc := 29) C 4 dX1_greatestPart_29 rfl ?_
  refine sf_bipush (v := 60) (pc := 31) C dX1_greatestPart_31 (by decide) ?_
  refine sf_icmp_gt (tgt := 117) (pc := 33) C dX1_greatestPart_33 rfl (fun c33 => ?_) (fun c33 => ?_)
  · replace h := (if_pos c33).symm.trans h
    refine sf_iload_n (pc := 117) C 3 dX1_greatestPart_117 rfl ?_
    exact sf_iretW (pc := 118) C dX1_greatestPart_118 h
  · replace h := (if_neg c33).symm.trans h
    refine sf_iload_n (pc := 36) C 3 dX1_greatestPart_36 rfl ?_
    refine sf_iload_n (pc := 37) C 2 dX1_greatestPart_37 rfl ?_
    refine sf_icmp_ge (tgt := 117) (pc := 38) C dX1_greatestPart_38 rfl (fun c38 => ?_) (fun c38 => ?_)
    · replace h := (if_pos c38).symm.trans h
      refine sf_iload_n (pc := 117) C 3 dX1_greatestPart_117 rfl ?_
      exact sf_iretW (pc := 118) C dX1_greatestPart_118 h
    · replace h := (if_neg c38).symm.trans h
      refine sf_iconst (v := 0) (pc := 41) C dX1_greatestPart_41 (by decide) ?_
      refine sf_iload (pc := 42) C 4 dX1_greatestPart_42 rfl ?_
      refine sf_iload_n (pc := 44) C 1 dX1_greatestPart_44 rfl ?_
      refine sf_isub (pc := 45) C dX1_greatestPart_45 ?_
      refine sf_mmax (pc := 46) C jd_1_38 (by decide) (Nat.le_of_ble_eq_true rfl) dX1_greatestPart_46 ?_
      refine sf_istore (lv' := [(5, .int (sf_max (0 : Int32) (x4 - x1))), (0, .ref (V.2.1 125)), (1, .int x1), (2, .int x2), (3, .int x3), (4, .int x4)]) (pc := 49) C dX1_greatestPart_49 (by decide) rfl ?_
      refine sf_iconst (v := 0) (pc := 51) C dX1_greatestPart_51 (by decide) ?_
      refine sf_istore (lv' := [(6, .int (0 : Int32)), (5, .int (sf_max (0 : Int32) (x4 - x1))), (0, .ref (V.2.1 125)), (1, .int x1), (2, .int x2), (3, .int x3), (4, .int x4)]) (pc := 52) C dX1_greatestPart_52 (by decide) rfl ?_
      refine sf_sub [2, 3, 4, 5, 6, 1, 0] rfl ?_
      exact w1_greatestPart_L54 C hk29 _ _ _ _ _ _ _ h
set_option maxHeartbeats 4000000 in
set_option maxRecDepth 100000 in
theorem w1_greatestPart_L29 {X : sf_X} {V : sf_V} {r : Int32} {s' : sf_Sg} (C : sf_C X V cX1_greatestPart 7 RX1 (some .int) 1) : ∀  (s : sf_Sg) (x1 : Int32) (x2 : Int32) (x3 : Int32) (x4 : Int32), f1_greatestPart_L29 s x1 x2 x3 x4 = some (r, s') → sf_G X V 7 (sf_Q X V (sf_Qi V r s')) s 29 [(0, .ref (V.2.1 125)), (1, .int x1), (2, .int x2), (3, .int x3), (4, .int x4)] [] :=
  sf_it_ind (fun (k : sf_Sg → Int32 → Int32 → Int32 → Int32 → Option (Int32 × sf_Sg)) => ∀  (s : sf_Sg) (x1 : Int32) (x2 : Int32) (x3 : Int32) (x4 : Int32), k s x1 x2 x3 x4 = some (r, s') → sf_G X V 7 (sf_Q X V (sf_Qi V r s')) s 29 [(0, .ref (V.2.1 125)), (1, .int x1), (2, .int x2), (3, .int x3), (4, .int x4)] []) _ _ (fun s x1 x2 x3 x4 h => by cases h) (fun k hk s x1 x2 x3 x4 h => w1_greatestPart_b29 C hk h) _
set_option maxHeartbeats 4000000 in
set_option maxRecDepth 100000 in
theorem w1_greatestPart_b24 {X : sf_X} {V : sf_V} {r : Int32} {s' : sf_Sg} (C : sf_C X V cX1_greatestPart 7 RX1 (some .int) 1) {s : sf_Sg} {x1 : Int32} {x2 : Int32} (h : f1_greatestPart_b24 s x1 x2 = some (r, s')) : sf_G X V 7 (sf_Q X V (sf_Qi V r s')) s 24 [(0, .ref (V.2.1 125)), (1, .int x1), (2, .int x2)] [] := by
  unfold f1_greatestPart_b24 at h
  refine sf_iconst (v := 0) (pc := 24) C dX1_greatestPart_24 (by decide) ?_
  refine sf_istore_n (lv' := [(3, .int (0 : Int32)), (0, .ref (V.2.1 125)), (1, .int x1), (2, .int x2)]) (pc := 25) C dX1_greatestPart_25 (by decide) rfl ?_
  refine sf_iconst (v := 1) (pc := 26) C dX1_greatestPart_26 (by decide) ?_
  refine sf_istore (lv' := [(4, .int (1 : Int32)), (3, .int (0 : Int32)), (0, .ref (V.2.1 125)), (1, .int x1), (2, .int x2)]) (pc := 27) C dX1_greatestPart_27 (by decide) rfl ?_
  refine sf_sub [2, 3, 4, 1, 0] rfl ?_
  exact w1_greatestPart_L29 C _ _ _ _ _ h
set_option maxHeartbeats 4000000 in
set_option maxRecDepth 100000 in
theorem w1_greatestPart_b2 {X : sf_X} {V : sf_V} {r : Int32} {s' : sf_Sg} {k2 : sf_Sg → Int32 → Int32 → Int32 → Option (Int32 × sf_Sg)} (C : sf_C X V cX1_greatestPart 7 RX1 (some .int) 1) (hk2 : ∀  (s : sf_Sg) (x1 : Int32) (x2 : Int32) (x3 : Int32), k2 s x1 x2 x3 = some (r, s') → sf_G X V 7 (sf_Q X V (sf_Qi V r s')) s 2 [(0, .ref (V.2.1 125)), (1, .int x1), (2, .int x2), (3, .int x3)] []) {s : sf_Sg} {x1 : Int32} {x2 : Int32} {x3 : Int32} (h : f1_greatestPart_b2 k2 s x1 x2 x3 = some (r, s')) : sf_G X V 7 (sf_Q X V (sf_Qi V r s')) s 2 [(0, .ref (V.2.1 125)), (1, .int x1), (2, .int x2), (3, .int x3)] [] := by
  unfold f1_greatestPart_b2 at h
  refine sf_iload_n (pc := 2) C 3 dX1_greatestPart_2 rfl ?_
  refine sf_aload_n (pc := 3) C 0 dX1_greatestPart_3 rfl ?_
  refine sf_getr (pc := 4) C nk_125 sh_125 rfl fl_1_24 dX1_greatestPart_4 ?_
  refine sf_alenI (v := 81) (pc := 7) C nk_130 sh_130 rfl dX1_greatestPart_7 ?_
  refine sf_icmp_ge (tgt := 24) (pc := 8) C dX1_greatestPart_8 rfl (fun c8 => ?_) (fun c8 => ?_)
  · replace h := (if_pos c8).symm.trans h
    refine sf_sub [0, 1, 2] rfl ?_
    exact w1_greatestPart_b24 C h
  · replace h := (if_neg c8).symm.trans h
    refine sf_aload_n (pc := 11) C 0 dX1_greatestPart_11 rfl ?_
    refine sf_getr (pc := 12) C nk_125 sh_125 rfl fl_1_24 dX1_greatestPart_12 ?_
    refine sf_iload_n (pc := 15) C 3 dX1_greatestPart_15 rfl ?_
    refine sf_iconst (v := 0) (pc := 16) C dX1_greatestPart_16 (by decide) ?_
    obtain ⟨s17, e17, h⟩ := sf_ob h
    refine sf_iast (pc := 17) C nk_130 sh_130 e17 dX1_greatestPart_17 ?_
    refine sf_iinc (v := (x3 + 1)) (lv' := [(3, .int (x3 + 1)), (0, .ref (V.2.1 125)), (1, .int x1), (2, .int x2)]) (pc := 18) C 3 dX1_greatestPart_18 rfl rfl (by decide) rfl ?_
    refine sf_goto (tgt := 2) (pc := 21) C dX1_greatestPart_21 rfl ?_
    refine sf_sub [1, 2, 3, 0] rfl ?_
    exact hk2 _ _ _ _ h
set_option maxHeartbeats 4000000 in
set_option maxRecDepth 100000 in
theorem w1_greatestPart_L2 {X : sf_X} {V : sf_V} {r : Int32} {s' : sf_Sg} (C : sf_C X V cX1_greatestPart 7 RX1 (some .int) 1) : ∀  (s : sf_Sg) (x1 : Int32) (x2 : Int32) (x3 : Int32), f1_greatestPart_L2 s x1 x2 x3 = some (r, s') → sf_G X V 7 (sf_Q X V (sf_Qi V r s')) s 2 [(0, .ref (V.2.1 125)), (1, .int x1), (2, .int x2), (3, .int x3)] [] :=
  sf_it_ind (fun (k : sf_Sg → Int32 → Int32 → Int32 → Option (Int32 × sf_Sg)) => ∀  (s : sf_Sg) (x1 : Int32) (x2 : Int32) (x3 : Int32), k s x1 x2 x3 = some (r, s') → sf_G X V 7 (sf_Q X V (sf_Qi V r s')) s 2 [(0, .ref (V.2.1 125)), (1, .int x1), (2, .int x2), (3, .int x3)] []) _ _ (fun s x1 x2 x3 h => by cases h) (fun k hk s x1 x2 x3 h => w1_greatestPart_b2 C hk h) _
set_option maxHeartbeats 4000000 in
set_option maxRecDepth 100000 in
theorem w1_greatestPart_b0 {X : sf_X} {V : sf_V} {r : Int32} {s' : sf_Sg} (C : sf_C X V cX1_greatestPart 7 RX1 (some .int) 1) {s : sf_Sg} {x1 : Int32} {x2 : Int32} (h : f1_greatestPart_b0 s x1 x2 = some (r, s')) : sf_G X V 7 (sf_Q X V (sf_Qi V r s')) s 0 [(0, .ref (V.2.1 125)), (1, .int x1), (2, .int x2)] [] := by
  unfold f1_greatestPart_b0 at h
  refine sf_iconst (v := 0) (pc := 0) C dX1_greatestPart_0 (by decide) ?_
  refine sf_istore_n (lv' := [(3, .int (0 : Int32)), (0, .ref (V.2.1 125)), (1, .int x1), (2, .int x2)]) (pc := 1) C dX1_greatestPart_1 (by decide) rfl ?_
  refine sf_sub [1, 2, 3, 0] rfl ?_
  exact w1_greatestPart_L2 C _ _ _ _ h
set_option maxHeartbeats 4000000 in
set_option maxRecDepth 100000 in
theorem k1_greatestPart {l : Launch} {V : sf_V} {s : sf_Sg} {x1 : Int32} {x2 : Int32} {r : Int32} {s' : sf_Sg} (h : f1_greatestPart s x1 x2 = some (r, s')) : sf_M l V yX1_greatestPart (.code yX1_greatestPart cX1_greatestPart 7 (some .int)) 1 [.ref (V.2.1 125), .int x1, .int x2] s (sf_Qi V r s') := by
  refine sf_enter (by decide) (Nat.le_of_ble_eq_true rfl) (fun X hX C => ?_)
  refine sf_sub [0, 1, 2] rfl ?_
  exact w1_greatestPart_b0 (show sf_C X V cX1_greatestPart 7 RX1 (some .int) 1 from C)  h
set_option maxHeartbeats 4000000 in
set_option maxRecDepth 100000 in
theorem w1_bestStrength_b34 {X : sf_X} {V : sf_V} {r : Int32} {s' : sf_Sg} {k9 : sf_Sg → Int32 → Int32 → Int32 → Option (Int32 × sf_Sg)} (C : sf_C X V cX1_bestStrength 5 RX1 (some .int) 2) (hk9 : ∀  (s : sf_Sg) (x1 : Int32) (x2 : Int32) (x3 : Int32), k9 s x1 x2 x3 = some (r, s') → sf_G X V 5 (sf_Q X V (sf_Qi V r s')) s 9 [(0, .ref (V.2.1 125)), (1, .int x1), (2, .int x2), (3, .int x3)] []) {s : sf_Sg} {x1 : Int32} {x2 : Int32} {x3 : Int32} (h : f1_bestStrength_b34 k9 s x1 x2 x3 = some (r, s')) : sf_G X V 5 (sf_Q X V (sf_Qi V r s')) s 34 [(0, .ref (V.2.1 125)), (1, .int x1), (2, .int x2), (3, .int x3)] [] := by
  unfold f1_bestStrength_b34 at h
  refine sf_iinc (v := (x3 + 1)) (lv' := [(3, .int (x3 + 1)), (0, .ref (V.2.1 125)), (1, .int x1), (2, .int x2)]) (pc := 34) C 3 dX1_bestStrength_34 rfl rfl (by decide) rfl ?_
  refine sf_goto (tgt := 9) (pc := 37) C dX1_bestStrength_37 rfl ?_
  refine sf_sub [1, 2, 3, 0] rfl ?_
  exact hk9 _ _ _ _ h
set_option maxHeartbeats 4000000 in
set_option maxRecDepth 100000 in
theorem w1_bestStrength_b9 {X : sf_X} {V : sf_V} {r : Int32} {s' : sf_Sg} {k9 : sf_Sg → Int32 → Int32 → Int32 → Option (Int32 × sf_Sg)} (C : sf_C X V cX1_bestStrength 5 RX1 (some .int) 2) (hk9 : ∀  (s : sf_Sg) (x1 : Int32) (x2 : Int32) (x3 : Int32), k9 s x1 x2 x3 = some (r, s') → sf_G X V 5 (sf_Q X V (sf_Qi V r s')) s 9 [(0, .ref (V.2.1 125)), (1, .int x1), (2, .int x2), (3, .int x3)] []) {s : sf_Sg} {x1 : Int32} {x2 : Int32} {x3 : Int32} (h : f1_bestStrength_b9 k9 s x1 x2 x3 = some (r, s')) : sf_G X V 5 (sf_Q X V (sf_Qi V r s')) s 9 [(0, .ref (V.2.1 125)), (1, .int x1), (2, .int x2), (3, .int x3)] [] := by
  unfold f1_bestStrength_b9 at h
  refine sf_iload_n (pc := 9) C 3 dX1_bestStrength_9 rfl ?_
  refine sf_bipush (v := 60) (pc := 10) C dX1_bestStrength_10 (by decide) ?_
  refine sf_icmp_gt (tgt := 40) (pc := 12) C dX1_bestStrength_12 rfl (fun c12 => ?_) (fun c12 => ?_)
  · replace h := (if_pos c12).symm.trans h
    refine sf_iload_n (pc := 40) C 1 dX1_bestStrength_40 rfl ?_
    exact sf_iretW (pc := 41) C dX1_bestStrength_41 h
  · replace h := (if_neg c12).symm.trans h
    refine sf_aload_n (pc := 15) C 0 dX1_bestStrength_15 rfl ?_
    refine sf_iload_n (pc := 16) C 3 dX1_bestStrength_16 rfl ?_
    refine sf_iload_n (pc := 17) C 2 dX1_bestStrength_17 rfl ?_
    obtain ⟨q18, e18, h⟩ := sf_ob h
    refine sf_callVi (pc := 18) C (As := [.int x3, .int x2]) nk_125 sh_125 rfl yk_X1_greatestPart cl_1_51 (k1_greatestPart e18) (by decide) rfl (Nat.le_of_ble_eq_true rfl) rfl dX1_bestStrength_18 ?_
    refine sf_istore (lv' := [(4, .int q18.1), (0, .ref (V.2.1 125)), (1, .int x1), (2, .int x2), (3, .int x3)]) (pc := 21) C dX1_bestStrength_21 (by decide) rfl ?_
    refine sf_iload (pc := 23) C 0 dX1_bestStrength_23 rfl ?_
    refine sf_iload_n (pc := 25) C 3 dX1_bestStrength_25 rfl ?_
    refine sf_icmp_ge (tgt := 34) (pc := 26) C dX1_bestStrength_26 rfl (fun c26 => ?_) (fun c26 => ?_)
    · replace h := (if_pos c26).symm.trans h
      refine sf_sub [1, 2, 3, 4] rfl ?_
      exact w1_bestStrength_b34 C hk9 h
    · replace h := (if_neg c26).symm.trans h
      refine sf_iload (pc := 29) C 0 dX1_bestStrength_29 rfl ?_
      refine sf_istore_n (lv' := [(2, .int q18.1), (4, .int q18.1), (0, .ref (V.2.1 125)), (1, .int x1), (3, .int x3)]) (pc := 31) C dX1_bestStrength_31 (by decide) rfl ?_
      refine sf_iload_n (pc := 32) C 4 dX1_bestStrength_32 rfl ?_
      refine sf_istore_n (lv' := [(1, .int x3), (2, .int q18.1), (4, .int q18.1), (0, .ref (V.2.1 125)), (3, .int x3)]) (pc := 33) C dX1_bestStrength_33 (by decide) rfl ?_
      refine sf_sub [3, 0, 1, 4] rfl ?_
      exact w1_bestStrength_b34 C hk9 h
set_option maxHeartbeats 4000000 in
set_option maxRecDepth 100000 in
theorem w1_bestStrength_L9 {X : sf_X} {V : sf_V} {r : Int32} {s' : sf_Sg} (C : sf_C X V cX1_bestStrength 5 RX1 (some .int) 2) : ∀  (s : sf_Sg) (x1 : Int32) (x2 : Int32) (x3 : Int32), f1_bestStrength_L9 s x1 x2 x3 = some (r, s') → sf_G X V 5 (sf_Q X V (sf_Qi V r s')) s 9 [(0, .ref (V.2.1 125)), (1, .int x1), (2, .int x2), (3, .int x3)] [] :=
  sf_it_ind (fun (k : sf_Sg → Int32 → Int32 → Int32 → Option (Int32 × sf_Sg)) => ∀  (s : sf_Sg) (x1 : Int32) (x2 : Int32) (x3 : Int32), k s x1 x2 x3 = some (r, s') → sf_G X V 5 (sf_Q X V (sf_Qi V r s')) s 9 [(0, .ref (V.2.1 125)), (1, .int x1), (2, .int x2), (3, .int x3)] []) _ _ (fun s x1 x2 x3 h => by cases h) (fun k hk s x1 x2 x3 h => w1_bestStrength_b9 C hk h) _
set_option maxHeartbeats 4000000 in
set_option maxRecDepth 100000 in
theorem w1_bestStrength_b0 {X : sf_X} {V : sf_V} {r : Int32} {s' : sf_Sg} (C : sf_C X V cX1_bestStrength 5 RX1 (some .int) 2) {s : sf_Sg} (h : f1_bestStrength_b0 s = some (r, s')) : sf_G X V 5 (sf_Q X V (sf_Qi V r s')) s 0 [(0, .ref (V.2.1 125))] [] := by
  unfold f1_bestStrength_b0 at h
  refine sf_iconst (v := -1) (pc := 0) C dX1_bestStrength_0 (by decide) ?_
  refine sf_istore_n (lv' := [(1, .int (-1 : Int32)), (0, .ref (V.2.1 125))]) (pc := 1) C dX1_bestStrength_1 (by decide) rfl ?_
  refine sf_aload_n (pc := 2) C 1 dX1_bestStrength_2 rfl ?_
  refine sf_get (pc := 3) C nk_125 sh_125 rfl fl_1_31 dX1_bestStrength_3 ?_
  refine sf_istore_n (lv' := [(2, .int (s 125 1)), (1, .int (-1 : Int32)), (0, .ref (V.2.1 125))]) (pc := 6) C dX1_bestStrength_6 (by decide) rfl ?_
  refine sf_iconst (v := 1) (pc := 7) C dX1_bestStrength_7 (by decide) ?_
  refine sf_istore_n (lv' := [(3, .int (1 : Int32)), (2, .int (s 125 1)), (1, .int (-1 : Int32)), (0, .ref (V.2.1 125))]) (pc := 8) C dX1_bestStrength_8 (by decide) rfl ?_
  refine sf_sub [3, 2, 1, 0] rfl ?_
  exact w1_bestStrength_L9 C _ _ _ _ h
set_option maxHeartbeats 4000000 in
set_option maxRecDepth 100000 in
theorem k1_bestStrength {l : Launch} {V : sf_V} {s : sf_Sg} {r : Int32} {s' : sf_Sg} (h : f1_bestStrength s = some (r, s')) : sf_M l V yX1_bestStrength (.code yX1_bestStrength cX1_bestStrength 5 (some .int)) 2 [.ref (V.2.1 125)] s (sf_Qi V r s') := by
  refine sf_enter (by decide) (Nat.le_of_ble_eq_true rfl) (fun X hX C => ?_)
  refine sf_sub [0] rfl ?_
  exact w1_bestStrength_b0 (show sf_C X V cX1_bestStrength 5 RX1 (some .int) 2 from C)  h
set_option maxHeartbeats 4000000 in
set_option maxRecDepth 100000 in
theorem w9_tryNext_b0 {X : sf_X} {V : sf_V} {r : Int32} {s' : sf_Sg} (C : sf_C X V cX9_tryNext 1 RX9 (some .int) 3) {s : sf_Sg} (h : f9_tryNext_b0 s = some (r, s')) : sf_G X V 1 (sf_Q X V (sf_Qi V r s')) s 0 [(0, .ref (V.2.1 0))] [] := by
  unfold f9_tryNext_b0 at h
  refine sf_aload_n (pc := 0) C 0 dX9_tryNext_0 rfl ?_
  refine sf_getr (pc := 1) C nk_0 sh_0 rfl fl_9_63 dX9_tryNext_1 ?_
  obtain ⟨s4, e4, h⟩ := sf_ob h
  refine sf_callVv (pc := 4) C (As := []) nk_125 sh_125 rfl yk_X1_findPairs cl_9_304 (k1_findPairs e4) (by decide) rfl (Nat.le_of_ble_eq_true rfl) rfl dX9_tryNext_4 ?_
  refine sf_aload_n (pc := 7) C 0 dX9_tryNext_7 rfl ?_
  refine sf_getr (pc := 8) C nk_0 sh_0 rfl fl_9_63 dX9_tryNext_8 ?_
  obtain ⟨q11, e11, h⟩ := sf_ob h
  refine sf_callVi (pc := 11) C (As := []) nk_125 sh_125 rfl yk_X1_bestStrength cl_9_316 (k1_bestStrength e11) (by decide) rfl (Nat.le_of_ble_eq_true rfl) rfl dX9_tryNext_11 ?_
  exact sf_iretW (pc := 14) C dX9_tryNext_14 h
set_option maxHeartbeats 4000000 in
set_option maxRecDepth 100000 in
theorem k9_tryNext {l : Launch} {V : sf_V} {s : sf_Sg} {r : Int32} {s' : sf_Sg} (h : f9_tryNext s = some (r, s')) : sf_M l V yX9_tryNext (.code yX9_tryNext cX9_tryNext 1 (some .int)) 3 [.ref (V.2.1 0)] s (sf_Qi V r s') := by
  refine sf_enter (by decide) (Nat.le_of_ble_eq_true rfl) (fun X hX C => ?_)
  refine sf_sub [0] rfl ?_
  exact w9_tryNext_b0 (show sf_C X V cX9_tryNext 1 RX9 (some .int) 3 from C)  h
set_option maxHeartbeats 4000000 in
set_option maxRecDepth 100000 in
theorem w0_add_b0 {X : sf_X} {V : sf_V} {r : Int32} {s' : sf_Sg} (C : sf_C X V cX0_add 3 RX0 (some .boolean) 0) {s : sf_Sg} {x1 : Int32} {x2 : Int32} (h : f0_add_b0 s x1 x2 = some (r, s')) : sf_G X V 3 (sf_Q X V (sf_Qi V r s')) s 0 [(0, .ref (V.2.1 131)), (1, .int x1), (2, .int x2)] [] := by
  unfold f0_add_b0 at h
  refine sf_aload_n (pc := 0) C 0 dX0_add_0 rfl ?_
  refine sf_get (pc := 1) C nk_131 sh_131 rfl fl_0_18 dX0_add_1 ?_
  refine sf_bipush (v := 15) (pc := 4) C dX0_add_4 (by decide) ?_
  refine sf_icmp_lt (tgt := 11) (pc := 6) C dX0_add_6 rfl (fun c6 => ?_) (fun c6 => ?_)
  · replace h := (if_pos c6).symm.trans h
    refine sf_aload_n (pc := 11) C 0 dX0_add_11 rfl ?_
    refine sf_getr (pc := 12) C nk_131 sh_131 rfl fl_0_9 dX0_add_12 ?_
    refine sf_aload_n (pc := 15) C 0 dX0_add_15 rfl ?_
    refine sf_get (pc := 16) C nk_131 sh_131 rfl fl_0_18 dX0_add_16 ?_
    refine sf_iload_n (pc := 19) C 1 dX0_add_19 rfl ?_
    obtain ⟨s20, e20, h⟩ := sf_ob h
    refine sf_iast (pc := 20) C nk_132 sh_132 e20 dX0_add_20 ?_
    refine sf_aload_n (pc := 21) C 0 dX0_add_21 rfl ?_
    refine sf_getr (pc := 22) C nk_131 sh_131 rfl fl_0_15 dX0_add_22 ?_
    refine sf_aload_n (pc := 25) C 0 dX0_add_25 rfl ?_
    refine sf_get (pc := 26) C nk_131 sh_131 rfl fl_0_18 dX0_add_26 ?_
    refine sf_iload_n (pc := 29) C 2 dX0_add_29 rfl ?_
    obtain ⟨s30, e30, h⟩ := sf_ob h
    refine sf_iast (pc := 30) C nk_133 sh_133 e30 dX0_add_30 ?_
    refine sf_aload_n (pc := 31) C 0 dX0_add_31 rfl ?_
    refine sf_dup (pc := 32) C dX0_add_32 rfl ?_
    refine sf_get (pc := 33) C nk_131 sh_131 rfl fl_0_18 dX0_add_33 ?_
    refine sf_iconst (v := 1) (pc := 36) C dX0_add_36 (by decide) ?_
    refine sf_iadd (pc := 37) C dX0_add_37 ?_
    refine sf_put (pc := 38) C nk_131 sh_131 rfl fw_0_18 rfl rfl dX0_add_38 ?_
    refine sf_iconst (v := 1) (pc := 41) C dX0_add_41 (by decide) ?_
    exact sf_zretW (pc := 42) C (by first | rfl | exact sf_nb_in _ _ _) dX0_add_42 h
  · replace h := (if_neg c6).symm.trans h
    refine sf_iconst (v := 0) (pc := 9) C dX0_add_9 (by decide) ?_
    exact sf_zretW (pc := 10) C (by first | rfl | exact sf_nb_in _ _ _) dX0_add_10 h
set_option maxHeartbeats 4000000 in
set_option maxRecDepth 100000 in
theorem k0_add {l : Launch} {V : sf_V} {s : sf_Sg} {x1 : Int32} {x2 : Int32} {r : Int32} {s' : sf_Sg} (h : f0_add s x1 x2 = some (r, s')) : sf_M l V yX0_add (.code yX0_add cX0_add 3 (some .boolean)) 0 [.ref (V.2.1 131), .int x1, .int x2] s (sf_Qi V r s') := by
  refine sf_enter (by decide) (Nat.le_of_ble_eq_true rfl) (fun X hX C => ?_)
  refine sf_sub [0, 1, 2] rfl ?_
  exact w0_add_b0 (show sf_C X V cX0_add 3 RX0 (some .boolean) 0 from C)  h
set_option maxHeartbeats 4000000 in
set_option maxRecDepth 100000 in
theorem w9_write_b0 {X : sf_X} {V : sf_V} {r : Int32} {s' : sf_Sg} (C : sf_C X V cX9_write 3 RX9 (some .int) 1) {s : sf_Sg} {x1 : Int32} {x2 : Int32} (h : f9_write_b0 s x1 x2 = some (r, s')) : sf_G X V 3 (sf_Q X V (sf_Qi V r s')) s 0 [(0, .ref (V.2.1 0)), (1, .int x1), (2, .int x2)] [] := by
  unfold f9_write_b0 at h
  refine sf_aload_n (pc := 0) C 0 dX9_write_0 rfl ?_
  refine sf_getr (pc := 1) C nk_0 sh_0 rfl fl_9_33 dX9_write_1 ?_
  refine sf_iload_n (pc := 4) C 1 dX9_write_4 rfl ?_
  refine sf_callVi (pc := 5) C (As := [.int x1]) nk_10 sh_10 rfl yk_X7_hasBack cl_9_184 (k7_hasBack sf_S1 rfl) (by decide) rfl (Nat.le_of_ble_eq_true rfl) rfl dX9_write_5 ?_
  refine sf_if_ne (tgt := 14) (pc := 8) C dX9_write_8 rfl (fun c8 => ?_) (fun c8 => ?_)
  · replace h := (if_neg c8).symm.trans h
    refine sf_iload_n (pc := 14) C 2 dX9_write_14 rfl ?_
    refine sf_iconst (v := 0) (pc := 15) C dX9_write_15 (by decide) ?_
    refine sf_sipush (v := 9999) (pc := 16) C dX9_write_16 (by decide) ?_
    refine sf_callSi (pc := 19) C (As := [.int x2, .int (0 : Int32), .int (9999 : Int32)]) yk_X9_within cl_9_89 (k9_within rfl) (by decide) rfl (Nat.le_of_ble_eq_true rfl) rfl dX9_write_19 ?_
    refine sf_if_ne (tgt := 28) (pc := 22) C dX9_write_22 rfl (fun c22 => ?_) (fun c22 => ?_)
    · replace h := (if_neg c22).symm.trans h
      refine sf_aload_n (pc := 28) C 0 dX9_write_28 rfl ?_
      refine sf_getr (pc := 29) C nk_0 sh_0 rfl fl_9_70 dX9_write_29 ?_
      refine sf_iload_n (pc := 32) C 1 dX9_write_32 rfl ?_
      refine sf_iload_n (pc := 33) C 2 dX9_write_33 rfl ?_
      obtain ⟨q34, e34, h⟩ := sf_ob h
      refine sf_callVi (pc := 34) C (As := [.int x1, .int x2]) nk_131 sh_131 rfl yk_X0_add cl_9_319 (k0_add e34) (by decide) rfl (Nat.le_of_ble_eq_true rfl) rfl dX9_write_34 ?_
      refine sf_if_eq (tgt := 50) (pc := 37) C dX9_write_37 rfl (fun c37 => ?_) (fun c37 => ?_)
      · replace h := (if_pos c37).symm.trans h
        refine sf_ldc (v := -1000000004) (pc := 50) C dX9_write_50 tm_339 ?_
        exact sf_iretW (pc := 52) C dX9_write_52 h
      · replace h := (if_neg c37).symm.trans h
        refine sf_aload_n (pc := 40) C 0 dX9_write_40 rfl ?_
        refine sf_getr (pc := 41) C nk_0 sh_0 rfl fl_9_70 dX9_write_41 ?_
        refine sf_get (pc := 44) C nk_131 sh_131 rfl fl_9_157 dX9_write_44 ?_
        refine sf_goto (tgt := 52) (pc := 47) C dX9_write_47 rfl ?_
        exact sf_iretW (pc := 52) C dX9_write_52 h
    · replace h := (if_pos c22).symm.trans h
      refine sf_ldc (v := -1000000002) (pc := 25) C dX9_write_25 tm_334 ?_
      exact sf_iretW (pc := 27) C dX9_write_27 h
  · replace h := (if_pos c8).symm.trans h
    refine sf_ldc (v := -1000000001) (pc := 11) C dX9_write_11 tm_501 ?_
    exact sf_iretW (pc := 13) C dX9_write_13 h
set_option maxHeartbeats 4000000 in
set_option maxRecDepth 100000 in
theorem k9_write {l : Launch} {V : sf_V} {s : sf_Sg} {x1 : Int32} {x2 : Int32} {r : Int32} {s' : sf_Sg} (h : f9_write s x1 x2 = some (r, s')) : sf_M l V yX9_write (.code yX9_write cX9_write 3 (some .int)) 1 [.ref (V.2.1 0), .int x1, .int x2] s (sf_Qi V r s') := by
  refine sf_enter (by decide) (Nat.le_of_ble_eq_true rfl) (fun X hX C => ?_)
  refine sf_sub [0, 1, 2] rfl ?_
  exact w9_write_b0 (show sf_C X V cX9_write 3 RX9 (some .int) 1 from C)  h
set_option maxHeartbeats 4000000 in
set_option maxRecDepth 100000 in
theorem w9_tear_b0 {X : sf_X} {V : sf_V} {r : Int32} {s' : sf_Sg} (C : sf_C X V cX9_tear 2 RX9 (some .int) 1) {s : sf_Sg} (h : f9_tear_b0 s = (r, s')) : sf_G X V 2 (sf_Q X V (sf_Qi V r s')) s 0 [(0, .ref (V.2.1 0))] [] := by
  unfold f9_tear_b0 at h
  refine sf_aload_n (pc := 0) C 0 dX9_tear_0 rfl ?_
  refine sf_getr (pc := 1) C nk_0 sh_0 rfl fl_9_63 dX9_tear_1 ?_
  refine sf_get (pc := 4) C nk_125 sh_125 rfl fl_9_154 dX9_tear_4 ?_
  refine sf_aload_n (pc := 7) C 0 dX9_tear_7 rfl ?_
  refine sf_getr (pc := 8) C nk_0 sh_0 rfl fl_9_70 dX9_tear_8 ?_
  refine sf_get (pc := 11) C nk_131 sh_131 rfl fl_9_157 dX9_tear_11 ?_
  refine sf_iadd (pc := 14) C dX9_tear_14 ?_
  refine sf_istore_n (lv' := [(1, .int ((s 125 0) + (s 131 0))), (0, .ref (V.2.1 0))]) (pc := 15) C dX9_tear_15 (by decide) rfl ?_
  refine sf_aload_n (pc := 16) C 1 dX9_tear_16 rfl ?_
  refine sf_getr (pc := 17) C nk_0 sh_0 rfl fl_9_63 dX9_tear_17 ?_
  refine sf_callVv (pc := 20) C (As := []) nk_125 sh_125 rfl yk_X1_clear cl_9_114 (k1_clear rfl) (by decide) rfl (Nat.le_of_ble_eq_true rfl) rfl dX9_tear_20 ?_
  refine sf_aload_n (pc := 23) C 1 dX9_tear_23 rfl ?_
  refine sf_getr (pc := 24) C nk_0 sh_0 rfl fl_9_70 dX9_tear_24 ?_
  refine sf_callVv (pc := 27) C (As := []) nk_131 sh_131 rfl yk_X0_clear cl_9_117 (k0_clear rfl) (by decide) rfl (Nat.le_of_ble_eq_true rfl) rfl dX9_tear_27 ?_
  refine sf_iload_n (pc := 30) C 0 dX9_tear_30 rfl ?_
  exact sf_iretU (pc := 31) C dX9_tear_31 h
set_option maxHeartbeats 4000000 in
set_option maxRecDepth 100000 in
theorem k9_tear {l : Launch} {V : sf_V} {s : sf_Sg} {r : Int32} {s' : sf_Sg} (h : f9_tear s = (r, s')) : sf_M l V yX9_tear (.code yX9_tear cX9_tear 2 (some .int)) 1 [.ref (V.2.1 0)] s (sf_Qi V r s') := by
  refine sf_enter (by decide) (Nat.le_of_ble_eq_true rfl) (fun X hX C => ?_)
  refine sf_sub [0] rfl ?_
  exact w9_tear_b0 (show sf_C X V cX9_tear 2 RX9 (some .int) 1 from C)  h
set_option maxHeartbeats 4000000 in
set_option maxRecDepth 100000 in
theorem w0_firstWrong_b2 {X : sf_X} {V : sf_V} {c1 : Nat} (hc1 : sf_isL c1) {s : sf_Sg} {r : Int32} {k2 : Int32 → Option Int32} (C : sf_C X V cX0_firstWrong 3 RX0 (some .int) 0) (hk2 : ∀  (x2 : Int32), k2 x2 = some r → sf_G X V 3 (sf_Q X V (sf_Qi V r s)) s 2 [(0, .ref (V.2.1 131)), (1, .ref (V.2.1 c1)), (2, .int x2)] []) {x2 : Int32} (h : f0_firstWrong_b2 c1 s k2 x2 = some r) : sf_G X V 3 (sf_Q X V (sf_Qi V r s)) s 2 [(0, .ref (V.2.1 131)), (1, .ref (V.2.1 c1)), (2, .int x2)] [] := by
  unfold f0_firstWrong_b2 at h
  refine sf_iload_n (pc := 2) C 2 dX0_firstWrong_2 rfl ?_
  refine sf_aload_n (pc := 3) C 0 dX0_firstWrong_3 rfl ?_
  refine sf_get (pc := 4) C nk_131 sh_131 rfl fl_0_18 dX0_firstWrong_4 ?_
  refine sf_icmp_ge (tgt := 38) (pc := 7) C dX0_firstWrong_7 rfl (fun c7 => ?_) (fun c7 => ?_)
  · replace h := (if_pos c7).symm.trans h
    refine sf_iconst (v := -1) (pc := 38) C dX0_firstWrong_38 (by decide) ?_
    exact sf_iretR (pc := 39) C dX0_firstWrong_39 h
  · replace h := (if_neg c7).symm.trans h
    refine sf_aload_n (pc := 10) C 1 dX0_firstWrong_10 rfl ?_
    refine sf_getr (pc := 11) C (sf_kL0 hc1) (sf_shL hc1).1.1 rfl fl_0_22 dX0_firstWrong_11 ?_
    refine sf_aload_n (pc := 14) C 0 dX0_firstWrong_14 rfl ?_
    refine sf_getr (pc := 15) C nk_131 sh_131 rfl fl_0_9 dX0_firstWrong_15 ?_
    refine sf_iload_n (pc := 18) C 2 dX0_firstWrong_18 rfl ?_
    obtain ⟨v19, e19, h⟩ := sf_ob h
    refine sf_iald (pc := 19) C nk_132 sh_132 e19 dX0_firstWrong_19 ?_
    obtain ⟨v20, e20, h⟩ := sf_ob h
    refine sf_iald (pc := 20) C (sf_kL hc1 5 (by decide)) (sf_shL hc1).1.2.2.2.2.2 e20 dX0_firstWrong_20 ?_
    refine sf_aload_n (pc := 21) C 0 dX0_firstWrong_21 rfl ?_
    refine sf_getr (pc := 22) C nk_131 sh_131 rfl fl_0_15 dX0_firstWrong_22 ?_
    refine sf_iload_n (pc := 25) C 2 dX0_firstWrong_25 rfl ?_
    obtain ⟨v26, e26, h⟩ := sf_ob h
    refine sf_iald (pc := 26) C nk_133 sh_133 e26 dX0_firstWrong_26 ?_
    refine sf_icmp_eq (tgt := 32) (pc := 27) C dX0_firstWrong_27 rfl (fun c27 => ?_) (fun c27 => ?_)
    · replace h := (if_pos c27).symm.trans h
      refine sf_iinc (v := (x2 + 1)) (lv' := [(2, .int (x2 + 1)), (0, .ref (V.2.1 131)), (1, .ref (V.2.1 c1))]) (pc := 32) C 2 dX0_firstWrong_32 rfl rfl (by decide) rfl ?_
      refine sf_goto (tgt := 2) (pc := 35) C dX0_firstWrong_35 rfl ?_
      refine sf_sub [1, 2, 0] rfl ?_
      exact hk2 _ h
    · replace h := (if_neg c27).symm.trans h
      refine sf_iload_n (pc := 30) C 2 dX0_firstWrong_30 rfl ?_
      exact sf_iretR (pc := 31) C dX0_firstWrong_31 h
set_option maxHeartbeats 4000000 in
set_option maxRecDepth 100000 in
theorem w0_firstWrong_L2 {X : sf_X} {V : sf_V} {c1 : Nat} (hc1 : sf_isL c1) {s : sf_Sg} {r : Int32} (C : sf_C X V cX0_firstWrong 3 RX0 (some .int) 0) : ∀  (x2 : Int32), f0_firstWrong_L2 c1 s x2 = some r → sf_G X V 3 (sf_Q X V (sf_Qi V r s)) s 2 [(0, .ref (V.2.1 131)), (1, .ref (V.2.1 c1)), (2, .int x2)] [] :=
  sf_it_ind (fun (k : Int32 → Option Int32) => ∀  (x2 : Int32), k x2 = some r → sf_G X V 3 (sf_Q X V (sf_Qi V r s)) s 2 [(0, .ref (V.2.1 131)), (1, .ref (V.2.1 c1)), (2, .int x2)] []) _ _ (fun x2 h => by cases h) (fun k hk x2 h => w0_firstWrong_b2 hc1 C hk h) _
set_option maxHeartbeats 4000000 in
set_option maxRecDepth 100000 in
theorem w0_firstWrong_b0 {X : sf_X} {V : sf_V} {c1 : Nat} (hc1 : sf_isL c1) {s : sf_Sg} {r : Int32} (C : sf_C X V cX0_firstWrong 3 RX0 (some .int) 0) (h : f0_firstWrong_b0 c1 s = some r) : sf_G X V 3 (sf_Q X V (sf_Qi V r s)) s 0 [(0, .ref (V.2.1 131)), (1, .ref (V.2.1 c1))] [] := by
  unfold f0_firstWrong_b0 at h
  refine sf_iconst (v := 0) (pc := 0) C dX0_firstWrong_0 (by decide) ?_
  refine sf_istore_n (lv' := [(2, .int (0 : Int32)), (0, .ref (V.2.1 131)), (1, .ref (V.2.1 c1))]) (pc := 1) C dX0_firstWrong_1 (by decide) rfl ?_
  refine sf_sub [1, 2, 0] rfl ?_
  exact w0_firstWrong_L2 hc1 C _ h
set_option maxHeartbeats 4000000 in
set_option maxRecDepth 100000 in
theorem k0_firstWrong {l : Launch} {V : sf_V} {c1 : Nat} (hc1 : sf_isL c1) {s : sf_Sg} {r : Int32} (h : f0_firstWrong c1 s = some r) : sf_M l V yX0_firstWrong (.code yX0_firstWrong cX0_firstWrong 3 (some .int)) 0 [.ref (V.2.1 131), .ref (V.2.1 c1)] s (sf_Qi V r s) := by
  refine sf_enter (by decide) (Nat.le_of_ble_eq_true rfl) (fun X hX C => ?_)
  refine sf_sub [0, 1] rfl ?_
  exact w0_firstWrong_b0 hc1 (show sf_C X V cX0_firstWrong 3 RX0 (some .int) 0 from C)  h
set_option maxHeartbeats 4000000 in
set_option maxRecDepth 100000 in
theorem w9_judge_b0 {X : sf_X} {V : sf_V} {s : sf_Sg} {r : Int32} (C : sf_C X V cX9_judge 1 RX9 (some .int) 1) (h : f9_judge_b0 s = some r) : sf_G X V 1 (sf_Q X V (sf_Qi V r s)) s 0 [(0, .ref (V.2.1 0))] [] := by
  unfold f9_judge_b0 at h
  refine sf_aload_n (pc := 0) C 0 dX9_judge_0 rfl ?_
  refine sf_getr (pc := 1) C nk_0 sh_0 rfl fl_9_70 dX9_judge_1 ?_
  refine sf_aload_n (pc := 4) C 0 dX9_judge_4 rfl ?_
  refine sf_getr (pc := 5) C nk_0 sh_0 rfl fl_9_38 dX9_judge_5 ?_
  obtain ⟨v8, e8, h⟩ := sf_ob h
  refine sf_callVi (pc := 8) C (As := [.ref (V.2.1 16)]) nk_131 sh_131 rfl yk_X0_firstWrong cl_9_321 (k0_firstWrong sf_L0 e8) (by decide) rfl (Nat.le_of_ble_eq_true rfl) rfl dX9_judge_8 ?_
  exact sf_iretR (pc := 11) C dX9_judge_11 h
set_option maxHeartbeats 4000000 in
set_option maxRecDepth 100000 in
theorem k9_judge {l : Launch} {V : sf_V} {s : sf_Sg} {r : Int32} (h : f9_judge s = some r) : sf_M l V yX9_judge (.code yX9_judge cX9_judge 1 (some .int)) 1 [.ref (V.2.1 0)] s (sf_Qi V r s) := by
  refine sf_enter (by decide) (Nat.le_of_ble_eq_true rfl) (fun X hX C => ?_)
  refine sf_sub [0] rfl ?_
  exact w9_judge_b0 (show sf_C X V cX9_judge 1 RX9 (some .int) 1 from C)  h
set_option maxHeartbeats 4000000 in
set_option maxRecDepth 100000 in
theorem w9_seed_b0 {X : sf_X} {V : sf_V} {r : Int32} {s' : sf_Sg} (C : sf_C X V cX9_seed 3 RX9 (some .int) 0) {s : sf_Sg} {x1 : Int32} (h : f9_seed_b0 s x1 = (r, s')) : sf_G X V 3 (sf_Q X V (sf_Qi V r s')) s 0 [(0, .ref (V.2.1 0)), (1, .int x1)] [] := by
  unfold f9_seed_b0 at h
  refine sf_iload_n (pc := 0) C 1 dX9_seed_0 rfl ?_
  refine sf_if_ge (tgt := 7) (pc := 1) C dX9_seed_1 rfl (fun c1 => ?_) (fun c1 => ?_)
  · replace h := (if_pos c1).symm.trans h
    refine sf_aload_n (pc := 7) C 0 dX9_seed_7 rfl ?_
    refine sf_get (pc := 8) C nk_0 sh_0 rfl fl_9_325 dX9_seed_8 ?_
    refine sf_istore_n (lv' := [(2, .int (s 0 13)), (0, .ref (V.2.1 0)), (1, .int x1)]) (pc := 11) C dX9_seed_11 (by decide) rfl ?_
    refine sf_aload_n (pc := 12) C 1 dX9_seed_12 rfl ?_
    refine sf_iload_n (pc := 13) C 2 dX9_seed_13 rfl ?_
    refine sf_put (pc := 14) C nk_0 sh_0 rfl fw_9_325 rfl rfl dX9_seed_14 ?_
    refine sf_iload_n (pc := 17) C 0 dX9_seed_17 rfl ?_
    exact sf_iretU (pc := 18) C dX9_seed_18 h
  · replace h := (if_neg c1).symm.trans h
    refine sf_ldc (v := -1000000002) (pc := 4) C dX9_seed_4 tm_334 ?_
    exact sf_iretU (pc := 6) C dX9_seed_6 h
set_option maxHeartbeats 4000000 in
set_option maxRecDepth 100000 in
theorem k9_seed {l : Launch} {V : sf_V} {s : sf_Sg} {x1 : Int32} {r : Int32} {s' : sf_Sg} (h : f9_seed s x1 = (r, s')) : sf_M l V yX9_seed (.code yX9_seed cX9_seed 3 (some .int)) 0 [.ref (V.2.1 0), .int x1] s (sf_Qi V r s') := by
  refine sf_enter (by decide) (Nat.le_of_ble_eq_true rfl) (fun X hX C => ?_)
  refine sf_sub [0, 1] rfl ?_
  exact w9_seed_b0 (show sf_C X V cX9_seed 3 RX9 (some .int) 0 from C)  h
set_option maxHeartbeats 4000000 in
set_option maxRecDepth 100000 in
theorem w9_keep_b0 {X : sf_X} {V : sf_V} {r : Int32} {s' : sf_Sg} (C : sf_C X V cX9_keep 2 RX9 (some .int) 1) {s : sf_Sg} {x1 : Int32} (h : f9_keep_b0 s x1 = some (r, s')) : sf_G X V 2 (sf_Q X V (sf_Qi V r s')) s 0 [(0, .ref (V.2.1 0)), (1, .int x1)] [] := by
  unfold f9_keep_b0 at h
  refine sf_iload_n (pc := 0) C 1 dX9_keep_0 rfl ?_
  refine sf_iconst (v := 0) (pc := 1) C dX9_keep_1 (by decide) ?_
  refine sf_iconst (v := 1) (pc := 2) C dX9_keep_2 (by decide) ?_
  refine sf_callSi (pc := 3) C (As := [.int x1, .int (0 : Int32), .int (1 : Int32)]) yk_X9_within cl_9_89 (k9_within rfl) (by decide) rfl (Nat.le_of_ble_eq_true rfl) rfl dX9_keep_3 ?_
  refine sf_if_ne (tgt := 12) (pc := 6) C dX9_keep_6 rfl (fun c6 => ?_) (fun c6 => ?_)
  · replace h := (if_neg c6).symm.trans h
    refine sf_aload_n (pc := 12) C 0 dX9_keep_12 rfl ?_
    refine sf_getr (pc := 13) C nk_0 sh_0 rfl fl_9_76 dX9_keep_13 ?_
    refine sf_iload_n (pc := 16) C 1 dX9_keep_16 rfl ?_
    obtain ⟨j17, e17, h⟩ := sf_ob h
    refine sf_aald (pc := 17) C nk_134 sh_134 e17 dX9_keep_17 ?_
    refine sf_aload_n (pc := 18) C 0 dX9_keep_18 rfl ?_
    refine sf_getr (pc := 19) C nk_0 sh_0 rfl fl_9_38 dX9_keep_19 ?_
    obtain ⟨s22, e22, h⟩ := sf_ob h
    refine sf_callVv (pc := 22) C (As := [.ref (V.2.1 16)]) (sf_kL0 (sf_Li (sf_ix_of e17).2.2)) (sf_shL (sf_Li (sf_ix_of e17).2.2)).1.1 rfl yk_X3_copyFrom cl_9_328 (k3_copyFrom (sf_Li (sf_ix_of e17).2.2) sf_L0 e22) (by decide) rfl (Nat.le_of_ble_eq_true rfl) rfl dX9_keep_22 ?_
    refine sf_aload_n (pc := 25) C 0 dX9_keep_25 rfl ?_
    refine sf_getr (pc := 26) C nk_0 sh_0 rfl fl_9_80 dX9_keep_26 ?_
    refine sf_iload_n (pc := 29) C 1 dX9_keep_29 rfl ?_
    refine sf_aload_n (pc := 30) C 0 dX9_keep_30 rfl ?_
    refine sf_get (pc := 31) C nk_0 sh_0 rfl fl_9_325 dX9_keep_31 ?_
    obtain ⟨s34, e34, h⟩ := sf_ob h
    refine sf_iast (pc := 34) C nk_135 sh_135 e34 dX9_keep_34 ?_
    refine sf_aload_n (pc := 35) C 0 dX9_keep_35 rfl ?_
    refine sf_getr (pc := 36) C nk_0 sh_0 rfl fl_9_84 dX9_keep_36 ?_
    refine sf_iload_n (pc := 39) C 1 dX9_keep_39 rfl ?_
    refine sf_iconst (v := 1) (pc := 40) C dX9_keep_40 (by decide) ?_
    obtain ⟨s41, e41, h⟩ := sf_ob h
    refine sf_zast (pc := 41) C nk_136 sh_136 rfl e41 dX9_keep_41 ?_
    refine sf_aload_n (pc := 42) C 0 dX9_keep_42 rfl ?_
    refine sf_getr (pc := 43) C nk_0 sh_0 rfl fl_9_56 dX9_keep_43 ?_
    refine sf_callVv (pc := 46) C (As := []) nk_27 sh_27 rfl yk_X4_clear cl_9_118 (k4_clear rfl) (by decide) rfl (Nat.le_of_ble_eq_true rfl) rfl dX9_keep_46 ?_
    refine sf_iconst (v := 1) (pc := 49) C dX9_keep_49 (by decide) ?_
    exact sf_iretW (pc := 50) C dX9_keep_50 h
  · replace h := (if_pos c6).symm.trans h
    refine sf_ldc (v := -1000000001) (pc := 9) C dX9_keep_9 tm_501 ?_
    exact sf_iretW (pc := 11) C dX9_keep_11 h
set_option maxHeartbeats 4000000 in
set_option maxRecDepth 100000 in
theorem k9_keep {l : Launch} {V : sf_V} {s : sf_Sg} {x1 : Int32} {r : Int32} {s' : sf_Sg} (h : f9_keep s x1 = some (r, s')) : sf_M l V yX9_keep (.code yX9_keep cX9_keep 2 (some .int)) 1 [.ref (V.2.1 0), .int x1] s (sf_Qi V r s') := by
  refine sf_enter (by decide) (Nat.le_of_ble_eq_true rfl) (fun X hX C => ?_)
  refine sf_sub [0, 1] rfl ?_
  exact w9_keep_b0 (show sf_C X V cX9_keep 2 RX9 (some .int) 1 from C)  h
set_option maxHeartbeats 4000000 in
set_option maxRecDepth 100000 in
theorem w9_goBack_b0 {X : sf_X} {V : sf_V} {r : Int32} {s' : sf_Sg} (C : sf_C X V cX9_goBack 2 RX9 (some .int) 1) {s : sf_Sg} {x1 : Int32} (h : f9_goBack_b0 s x1 = some (r, s')) : sf_G X V 2 (sf_Q X V (sf_Qi V r s')) s 0 [(0, .ref (V.2.1 0)), (1, .int x1)] [] := by
  unfold f9_goBack_b0 at h
  refine sf_iload_n (pc := 0) C 1 dX9_goBack_0 rfl ?_
  refine sf_iconst (v := 0) (pc := 1) C dX9_goBack_1 (by decide) ?_
  refine sf_iconst (v := 1) (pc := 2) C dX9_goBack_2 (by decide) ?_
  refine sf_callSi (pc := 3) C (As := [.int x1, .int (0 : Int32), .int (1 : Int32)]) yk_X9_within cl_9_89 (k9_within rfl) (by decide) rfl (Nat.le_of_ble_eq_true rfl) rfl dX9_goBack_3 ?_
  refine sf_if_ne (tgt := 12) (pc := 6) C dX9_goBack_6 rfl (fun c6 => ?_) (fun c6 => ?_)
  · replace h := (if_neg c6).symm.trans h
    refine sf_aload_n (pc := 12) C 0 dX9_goBack_12 rfl ?_
    refine sf_getr (pc := 13) C nk_0 sh_0 rfl fl_9_84 dX9_goBack_13 ?_
    refine sf_iload_n (pc := 16) C 1 dX9_goBack_16 rfl ?_
    obtain ⟨v17, e17, h⟩ := sf_ob h
    refine sf_zald (pc := 17) C nk_136 sh_136 e17 dX9_goBack_17 ?_
    refine sf_if_ne (tgt := 24) (pc := 18) C dX9_goBack_18 rfl (fun c18 => ?_) (fun c18 => ?_)
    · replace h := (if_neg c18).symm.trans h
      refine sf_aload_n (pc := 24) C 0 dX9_goBack_24 rfl ?_
      refine sf_getr (pc := 25) C nk_0 sh_0 rfl fl_9_38 dX9_goBack_25 ?_
      refine sf_aload_n (pc := 28) C 0 dX9_goBack_28 rfl ?_
      refine sf_getr (pc := 29) C nk_0 sh_0 rfl fl_9_76 dX9_goBack_29 ?_
      refine sf_iload_n (pc := 32) C 1 dX9_goBack_32 rfl ?_
      obtain ⟨j33, e33, h⟩ := sf_ob h
      refine sf_aald (pc := 33) C nk_134 sh_134 e33 dX9_goBack_33 ?_
      obtain ⟨s34, e34, h⟩ := sf_ob h
      refine sf_callVv (pc := 34) C (As := [.ref (V.2.1 (137 + 6 * j33))]) nk_16 sh_16 rfl yk_X3_copyFrom cl_9_328 (k3_copyFrom sf_L0 (sf_Li (sf_ix_of e33).2.2) e34) (by decide) rfl (Nat.le_of_ble_eq_true rfl) rfl dX9_goBack_34 ?_
      refine sf_aload_n (pc := 37) C 0 dX9_goBack_37 rfl ?_
      refine sf_aload_n (pc := 38) C 0 dX9_goBack_38 rfl ?_
      refine sf_getr (pc := 39) C nk_0 sh_0 rfl fl_9_80 dX9_goBack_39 ?_
      refine sf_iload_n (pc := 42) C 1 dX9_goBack_42 rfl ?_
      obtain ⟨v43, e43, h⟩ := sf_ob h
      refine sf_iald (pc := 43) C nk_135 sh_135 e43 dX9_goBack_43 ?_
      refine sf_put (pc := 44) C nk_0 sh_0 rfl fw_9_325 rfl rfl dX9_goBack_44 ?_
      refine sf_aload_n (pc := 47) C 0 dX9_goBack_47 rfl ?_
      refine sf_getr (pc := 48) C nk_0 sh_0 rfl fl_9_56 dX9_goBack_48 ?_
      refine sf_callVv (pc := 51) C (As := []) nk_27 sh_27 rfl yk_X4_clear cl_9_118 (k4_clear rfl) (by decide) rfl (Nat.le_of_ble_eq_true rfl) rfl dX9_goBack_51 ?_
      refine sf_iconst (v := 1) (pc := 54) C dX9_goBack_54 (by decide) ?_
      exact sf_iretW (pc := 55) C dX9_goBack_55 h
    · replace h := (if_pos c18).symm.trans h
      refine sf_ldc (v := -1000000003) (pc := 21) C dX9_goBack_21 tm_532 ?_
      exact sf_iretW (pc := 23) C dX9_goBack_23 h
  · replace h := (if_pos c6).symm.trans h
    refine sf_ldc (v := -1000000001) (pc := 9) C dX9_goBack_9 tm_501 ?_
    exact sf_iretW (pc := 11) C dX9_goBack_11 h
set_option maxHeartbeats 4000000 in
set_option maxRecDepth 100000 in
theorem k9_goBack {l : Launch} {V : sf_V} {s : sf_Sg} {x1 : Int32} {r : Int32} {s' : sf_Sg} (h : f9_goBack s x1 = some (r, s')) : sf_M l V yX9_goBack (.code yX9_goBack cX9_goBack 2 (some .int)) 1 [.ref (V.2.1 0), .int x1] s (sf_Qi V r s') := by
  refine sf_enter (by decide) (Nat.le_of_ble_eq_true rfl) (fun X hX C => ?_)
  refine sf_sub [0, 1] rfl ?_
  exact w9_goBack_b0 (show sf_C X V cX9_goBack 2 RX9 (some .int) 1 from C)  h
set_option maxHeartbeats 4000000 in
set_option maxRecDepth 100000 in
theorem w10_in_b17 {X : sf_X} {V : sf_V} {s : sf_Sg} {r : Int32} (C : sf_C X V cX10_in 6 RX10 (some .boolean) 0) (h : f10_in_b17 = r) : sf_G X V 6 (sf_Q X V (sf_Qi V r s)) s 17 [] [] := by
  unfold f10_in_b17 at h
  refine sf_iconst (v := 0) (pc := 17) C dX10_in_17 (by decide) ?_
  exact sf_zretT (pc := 18) C (by first | rfl | exact sf_nb_in _ _ _) dX10_in_18 h
set_option maxHeartbeats 4000000 in
set_option maxRecDepth 100000 in
theorem w10_in_b0 {X : sf_X} {V : sf_V} {s : sf_Sg} {r : Int32} (C : sf_C X V cX10_in 6 RX10 (some .boolean) 0) {x0 : Int64} {x2 : Int64} {x4 : Int64} (h : f10_in_b0 x0 x2 x4 = r) : sf_G X V 6 (sf_Q X V (sf_Qi V r s)) s 0 [(0, .long x0), (2, .long x2), (4, .long x4)] [] := by
  unfold f10_in_b0 at h
  refine sf_lload_n (pc := 0) C 0 dX10_in_0 rfl ?_
  refine sf_lload_n (pc := 1) C 1 dX10_in_1 rfl ?_
  refine sf_lcmp (pc := 2) C dX10_in_2 ?_
  refine sf_if_lt (tgt := 17) (pc := 3) C dX10_in_3 rfl (fun c3 => ?_) (fun c3 => ?_)
  · replace h := (if_pos c3).symm.trans h
    refine sf_sub [] rfl ?_
    exact w10_in_b17 C h
  · replace h := (if_neg c3).symm.trans h
    refine sf_lload_n (pc := 6) C 0 dX10_in_6 rfl ?_
    refine sf_lload (pc := 7) C 2 dX10_in_7 rfl ?_
    refine sf_lcmp (pc := 9) C dX10_in_9 ?_
    refine sf_if_gt (tgt := 17) (pc := 10) C dX10_in_10 rfl (fun c10 => ?_) (fun c10 => ?_)
    · replace h := (if_pos c10).symm.trans h
      refine sf_sub [] rfl ?_
      exact w10_in_b17 C h
    · replace h := (if_neg c10).symm.trans h
      refine sf_iconst (v := 1) (pc := 13) C dX10_in_13 (by decide) ?_
      refine sf_goto (tgt := 18) (pc := 14) C dX10_in_14 rfl ?_
      exact sf_zretT (pc := 18) C (by first | rfl | exact sf_nb_in _ _ _) dX10_in_18 h
set_option maxHeartbeats 4000000 in
set_option maxRecDepth 100000 in
theorem k10_in {l : Launch} {V : sf_V} {s : sf_Sg} {x0 : Int64} {x2 : Int64} {x4 : Int64} {r : Int32} (h : f10_in x0 x2 x4 = r) : sf_M l V yX10_in (.code yX10_in cX10_in 6 (some .boolean)) 0 [.long x0, .long x2, .long x4] s (sf_Qi V r s) := by
  refine sf_enter (by decide) (Nat.le_of_ble_eq_true rfl) (fun X hX C => ?_)
  refine sf_sub [0, 1, 2] rfl ?_
  exact w10_in_b0 (show sf_C X V cX10_in 6 RX10 (some .boolean) 0 from C)  h
set_option maxHeartbeats 4000000 in
set_option maxRecDepth 100000 in
theorem w10_isBurden_b0 {X : sf_X} {V : sf_V} {s : sf_Sg} {r : Int32} (C : sf_C X V cX10_isBurden 2 RX10 (some .boolean) 1) {x1 : Int32} (h : f10_isBurden_b0 s x1 = r) : sf_G X V 2 (sf_Q X V (sf_Qi V r s)) s 0 [(0, .ref (V.2.1 149)), (1, .int x1)] [] := by
  unfold f10_isBurden_b0 at h
  refine sf_iload_n (pc := 0) C 1 dX10_isBurden_0 rfl ?_
  refine sf_i2l (pc := 1) C dX10_isBurden_1 ?_
  refine sf_lconst (v := 0) (pc := 2) C dX10_isBurden_2 (by decide) ?_
  refine sf_aload_n (pc := 3) C 0 dX10_isBurden_3 rfl ?_
  refine sf_get (pc := 4) C nk_149 sh_149 rfl fl_10_88 dX10_isBurden_4 ?_
  refine sf_iconst (v := 1) (pc := 7) C dX10_isBurden_7 (by decide) ?_
  refine sf_isub (pc := 8) C dX10_isBurden_8 ?_
  refine sf_i2l (pc := 9) C dX10_isBurden_9 ?_
  refine sf_callSi (pc := 10) C (As := [.long x1.toInt64, .long (0 : Int64), .long ((s 149 2) - (1 : Int32)).toInt64]) yk_X10_in cl_10_91 (k10_in rfl) (by decide) rfl (Nat.le_of_ble_eq_true rfl) rfl dX10_isBurden_10 ?_
  exact sf_zretT (pc := 13) C (by first | rfl | exact sf_nb_in _ _ _) dX10_isBurden_13 h
set_option maxHeartbeats 4000000 in
set_option maxRecDepth 100000 in
theorem k10_isBurden {l : Launch} {V : sf_V} {s : sf_Sg} {x1 : Int32} {r : Int32} (h : f10_isBurden s x1 = r) : sf_M l V yX10_isBurden (.code yX10_isBurden cX10_isBurden 2 (some .boolean)) 1 [.ref (V.2.1 149), .int x1] s (sf_Qi V r s) := by
  refine sf_enter (by decide) (Nat.le_of_ble_eq_true rfl) (fun X hX C => ?_)
  refine sf_sub [0, 1] rfl ?_
  exact w10_isBurden_b0 (show sf_C X V cX10_isBurden 2 RX10 (some .boolean) 1 from C)  h
set_option maxHeartbeats 4000000 in
set_option maxRecDepth 100000 in
theorem w10_isBack_b0 {X : sf_X} {V : sf_V} {s : sf_Sg} {r : Int32} (C : sf_C X V cX10_isBack 2 RX10 (some .boolean) 1) {x1 : Int32} (h : f10_isBack_b0 s x1 = r) : sf_G X V 2 (sf_Q X V (sf_Qi V r s)) s 0 [(0, .ref (V.2.1 149)), (1, .int x1)] [] := by
  unfold f10_isBack_b0 at h
  refine sf_iload_n (pc := 0) C 1 dX10_isBack_0 rfl ?_
  refine sf_i2l (pc := 1) C dX10_isBack_1 ?_
  refine sf_lconst (v := 0) (pc := 2) C dX10_isBack_2 (by decide) ?_
  refine sf_aload_n (pc := 3) C 0 dX10_isBack_3 rfl ?_
  refine sf_get (pc := 4) C nk_149 sh_149 rfl fl_10_95 dX10_isBack_4 ?_
  refine sf_iconst (v := 1) (pc := 7) C dX10_isBack_7 (by decide) ?_
  refine sf_isub (pc := 8) C dX10_isBack_8 ?_
  refine sf_i2l (pc := 9) C dX10_isBack_9 ?_
  refine sf_callSi (pc := 10) C (As := [.long x1.toInt64, .long (0 : Int64), .long ((s 149 6) - (1 : Int32)).toInt64]) yk_X10_in cl_10_91 (k10_in rfl) (by decide) rfl (Nat.le_of_ble_eq_true rfl) rfl dX10_isBack_10 ?_
  exact sf_zretT (pc := 13) C (by first | rfl | exact sf_nb_in _ _ _) dX10_isBack_13 h
set_option maxHeartbeats 4000000 in
set_option maxRecDepth 100000 in
theorem k10_isBack {l : Launch} {V : sf_V} {s : sf_Sg} {x1 : Int32} {r : Int32} (h : f10_isBack s x1 = r) : sf_M l V yX10_isBack (.code yX10_isBack cX10_isBack 2 (some .boolean)) 1 [.ref (V.2.1 149), .int x1] s (sf_Qi V r s) := by
  refine sf_enter (by decide) (Nat.le_of_ble_eq_true rfl) (fun X hX C => ?_)
  refine sf_sub [0, 1] rfl ?_
  exact w10_isBack_b0 (show sf_C X V cX10_isBack 2 RX10 (some .boolean) 1 from C)  h
