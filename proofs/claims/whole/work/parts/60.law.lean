-- the law's own loop, over the flat world
def lz_C (X : sf_X) (V : sf_V) (b L : Nat) (xs : Nat → Int32) : Prop :=
  (sf_p X).tables.exec = Jvm.exec ∧ (sf_c X).code = code ∧ (sf_c X).maxLocals = 4 ∧ (sf_s X).vm.findClass RL = some (sf_m X).cls ∧ (∀ w ∈ sf_tbl, w.before (sf_a X) (sf_s X) = true) ∧ sf_K V (sf_s X) ∧ sf_I V ∧ va_X b L xs (sf_s X) (sf_s X).heap ∧ b < (sf_s X).heap.size ∧ (∀ k, V.2.1 k = (sf_s X).heap.size + k) ∧ sf_R X = room_1
def lz_G (X : sf_X) (V : sf_V) (Q : State → Prop) (σ : sf_Sg) (pc : Nat) (lv : List (Nat × Value)) (st : List Value) : Prop :=
  ∀ (H : Heap) (locs : List Loc) (ls : Array Slot), va_P V.1 vwCl (sf_wd V σ) H → va_S (sq_A (sf_s X).heap.size) (sf_s X).heap H locs → lv_has ls 4 lv → W (sf_p X) (sf_l X) (sf_e X) (sf_R X) (sf_s X) (sf_m X) (sf_a X) (sf_b X) (sf_h X) (sf_c X) H locs 173 2365 Q (F0 (sf_m X) pc ls st)
section LZR
variable {X : sf_X} {V : sf_V} {b L : Nat} {xs : Nat → Int32} {Q : State → Prop} {σ : sf_Sg} {pc : Nat} {lv : List (Nat × Value)} {st : List Value}
theorem lz_iconst (C : lz_C X V b L xs) {n : Int} {v : Int32} (hd : decode code pc = .ok (.iconst n, 1)) (hv : Int32.ofInt n = v) (k : lz_G X V Q σ (pc + 1) lv (.int v :: st)) : lz_G X V Q σ pc lv st :=
  fun H locs ls hP hS hl => lv_iconst C.1 C.2.1 hd hv (k H locs ls hP hS hl)
theorem lz_bipush (C : lz_C X V b L xs) {n : Int} {v : Int32} (hd : decode code pc = .ok (.bipush n, 2)) (hv : (Int8.ofInt n).toInt32 = v) (k : lz_G X V Q σ (pc + 2) lv (.int v :: st)) : lz_G X V Q σ pc lv st :=
  fun H locs ls hP hS hl => lv_bipush C.1 C.2.1 hd hv (k H locs ls hP hS hl)
theorem lz_aload_n (C : lz_C X V b L xs) {n : Fin 4} {x : Nat} (j : Nat) (hd : decode code pc = .ok (.aload_n n, 1)) (hj : lv[j]? = some ((n : Nat), .ref x)) (k : lz_G X V Q σ (pc + 1) lv (.ref x :: st)) : lz_G X V Q σ pc lv st :=
  fun H locs ls hP hS hl => lv_aload_n C.1 C.2.1 hd rfl (lv_at hl j hj) (k H locs ls hP hS hl)
theorem lz_iload_n (C : lz_C X V b L xs) {n : Fin 4} {x : Int32} (j : Nat) (hd : decode code pc = .ok (.iload_n n, 1)) (hj : lv[j]? = some ((n : Nat), .int x)) (k : lz_G X V Q σ (pc + 1) lv (.int x :: st)) : lz_G X V Q σ pc lv st :=
  fun H locs ls hP hS hl => lv_iload_n C.1 C.2.1 hd rfl (lv_at hl j hj) (k H locs ls hP hS hl)
theorem lz_iadd (C : lz_C X V b L xs) {x y : Int32} (hd : decode code pc = .ok (.iadd, 1)) (k : lz_G X V Q σ (pc + 1) lv (.int (x + y) :: st)) : lz_G X V Q σ pc lv (.int y :: .int x :: st) :=
  fun H locs ls hP hS hl => lv_iadd C.1 C.2.1 hd (k H locs ls hP hS hl)
theorem lz_isub (C : lz_C X V b L xs) {x y : Int32} (hd : decode code pc = .ok (.isub, 1)) (k : lz_G X V Q σ (pc + 1) lv (.int (x - y) :: st)) : lz_G X V Q σ pc lv (.int y :: .int x :: st) :=
  fun H locs ls hP hS hl => lv_isub C.1 C.2.1 hd (k H locs ls hP hS hl)
theorem lz_iand (C : lz_C X V b L xs) {x y : Int32} (hd : decode code pc = .ok (.iand, 1)) (k : lz_G X V Q σ (pc + 1) lv (.int (x &&& y) :: st)) : lz_G X V Q σ pc lv (.int y :: .int x :: st) :=
  fun H locs ls hP hS hl => lv_iand C.1 C.2.1 hd (k H locs ls hP hS hl)
theorem lz_sld (C : lz_C X V b L xs) {i v : Int32} {j : Nat} (hi : i = nI j) (hj : j < L) (hL : L ≤ 256) (hv : xs j = v) (hd : decode code pc = .ok (.iaload, 1)) (k : lz_G X V Q σ (pc + 1) lv (.int v :: st)) : lz_G X V Q σ pc lv (.int i :: .ref b :: st) := by
  intro H locs ls hP hS hl
  subst hi
  refine va_sld C.1 C.2.1 C.2.2.2.2.2.2.2.1 C.2.2.2.2.2.2.2.2.1 (Nat.not_le.mpr C.2.2.2.2.2.2.2.2.1) hS (vp_in_nI hj (by omega)) hd ?_
  rw [nI_clamp (by omega), hv]
  exact k H locs ls hP hS hl
theorem lz_slen (C : lz_C X V b L xs) (hd : decode code pc = .ok (.arraylength, 1)) (k : lz_G X V Q σ (pc + 1) lv (.int (nI L) :: st)) : lz_G X V Q σ pc lv (.ref b :: st) :=
  fun H locs ls hP hS hl => va_slen C.1 C.2.1 C.2.2.2.2.2.2.2.1 C.2.2.2.2.2.2.2.2.1 (Nat.not_le.mpr C.2.2.2.2.2.2.2.2.1) hS hd (k H locs ls hP hS hl)
theorem lz_gt (C : lz_C X V b L xs) {x y : Int32} {off : Int} {tgt : Nat} (hd : decode code pc = .ok (.if_icmp .gt off, 3)) (ht : (pc : Int) + off = (tgt : Int)) (kt : y < x → lz_G X V Q σ tgt lv st) (kf : ¬ y < x → lz_G X V Q σ (pc + 3) lv st) : lz_G X V Q σ pc lv (.int y :: .int x :: st) :=
  fun H locs ls hP hS hl => lv_icmp_gt C.1 C.2.1 hd ht (fun q => kt q H locs ls hP hS hl) (fun q => kf q H locs ls hP hS hl)
theorem lz_eq (C : lz_C X V b L xs) {x y : Int32} {off : Int} {tgt : Nat} (hd : decode code pc = .ok (.if_icmp .eq off, 3)) (ht : (pc : Int) + off = (tgt : Int)) (h : x = y) (kt : lz_G X V Q σ tgt lv st) : lz_G X V Q σ pc lv (.int y :: .int x :: st) :=
  fun H locs ls hP hS hl => lv_icmp_eq C.1 C.2.1 hd ht (fun _ => kt H locs ls hP hS hl) (fun q => absurd h q)
theorem lz_goto (C : lz_C X V b L xs) {off : Int} {tgt : Nat} (hd : decode code pc = .ok (.goto off, 3)) (ht : (pc : Int) + off = (tgt : Int)) (k : lz_G X V Q σ tgt lv st) : lz_G X V Q σ pc lv st :=
  fun H locs ls hP hS hl => lv_goto C.1 C.2.1 hd ht (k H locs ls hP hS hl)
theorem lz_iinc (C : lz_C X V b L xs) {i : Nat} {n : Int} {x v : Int32} {lv' : List (Nat × Value)} (j : Nat) (hd : decode code pc = .ok (.iinc i n, 3)) (hj : lv[j]? = some (i, .int x)) (hv : x + Int32.ofInt n = v) (hn : i < 4) (hl2 : (i, Value.int v) :: lv.filter (fun q => !(q.1 == i) && !(q.1 + 1 == i && q.2.category == 2)) = lv') (k : lz_G X V Q σ (pc + 3) lv' st) : lz_G X V Q σ pc lv st :=
  fun H locs ls hP hS hl => lv_iinc C.1 C.2.1 hd hl hj hv hn hl2 (fun ls' hl' => k H locs ls' hP hS hl')
theorem lz_lvs (js : List Nat) {lv' : List (Nat × Value)} (hs : lv_pick lv js = lv') (k : lz_G X V Q σ pc lv' st) : lz_G X V Q σ pc lv st :=
  fun H locs ls hP hS hl => k H locs ls hP hS (lv_sub hl js hs)
theorem lz_tabIn (C : lz_C X V b L xs) {dflt lo hi : Int} {offs : Array Int} {len : Nat} {x : Int32} {off : Int} {tgt : Nat} (hd : decode code pc = .ok (.tableswitch dflt lo hi offs, len)) (h1 : ¬ x.toInt < lo) (h2 : ¬ hi < x.toInt) (ho : offs[(x.toInt - lo).toNat]? = some off) (ht : (pc : Int) + off = (tgt : Int)) (k : lz_G X V Q σ tgt lv st) : lz_G X V Q σ pc lv (.int x :: st) :=
  fun H locs ls hP hS hl => lv_tableIn C.1 C.2.1 hd h1 h2 ho ht (k H locs ls hP hS hl)
theorem lz_tabOut (C : lz_C X V b L xs) {dflt lo hi : Int} {offs : Array Int} {len : Nat} {x : Int32} {tgt : Nat} (hd : decode code pc = .ok (.tableswitch dflt lo hi offs, len)) (h : x.toInt < lo ∨ hi < x.toInt) (ht : (pc : Int) + dflt = (tgt : Int)) (k : lz_G X V Q σ tgt lv st) : lz_G X V Q σ pc lv (.int x :: st) :=
  fun H locs ls hP hS hl => lv_tableOut C.1 C.2.1 hd h ht (k H locs ls hP hS hl)
theorem lz_call (C : lz_C X V b L xs) {y : MethodName} {bytes : ByteArray} {maxL n idx d' : Nat} {t : Option FieldType} {As stk : List Value} {r : Int32} {σ' : sf_Sg} {k ci : Nat} {sp : List (Option Nat)} {T : u_T} {N : Nat} (hk : k < sf_NC) (hs : sf_shp k = .inr (.inl (ci, sp))) (hc : vwCl[ci]? = some (y.cls, T, N)) (hY : sf_Y y bytes maxL t n) (hw : Cond.methodLink RL idx y ∈ sf_tbl ∧ Cond.instanceMethod y ∈ sf_tbl ∧ Cond.selects y.cls y y ∈ sf_tbl) (hM : sf_M (sf_l X) V y (.code y bytes maxL t) d' (.ref (V.2.1 k) :: As) σ (sf_Qi V r σ')) (hdd : d' ≤ 100) (hn : As.length = n) (hst : (st.map fun v => v.category).sum ≤ 8) (he : stk = As.reverse ++ (.ref (V.2.1 k) :: st)) (hd : decode code pc = .ok (.invokevirtual idx, 3)) (kk : lz_G X V Q σ' (pc + 3) lv (.int r :: st)) : lz_G X V Q σ pc lv stk := by
  intro H locs ls hP hS hl
  have hex := sf_wd_at (V := V) (σ := σ) hk
  rw [hs] at hex
  have hA : ∀ q, sf_A V q → sq_A (sf_s X).heap.size q := by
    rintro q ⟨j, -, rfl⟩
    rw [C.2.2.2.2.2.2.2.2.2.1 j]
    exact Nat.le_add_right _ _
  have hR : sf_R X = room_1 := C.2.2.2.2.2.2.2.2.2.2
  have hrun : va_Run (sf_p X) (sf_l X) (sf_e X) (sf_R X) (sf_s X) (sf_m X) (sf_a X) (sf_b X) (sf_h X) (sf_c X) H locs 173 2365 0 0 (F0 (sf_m X) pc ls stk) st (sf_Qi V r σ' (Value.ref (V.2.1 k) :: As).toArray) (sf_A V) := by
    refine va_runV (As := As) (rest := st) (C := y.cls) ⟨C.1, C.2.1, C.2.2.1, C.2.2.2.1, C.2.2.2.2.1⟩ (hM C.2.2.2.2.2.2.1) (cwV n C.2.2.2.2.1 (ws' := sf_tbl) ?_ rfl rfl rfl ⟨rfl, hY.2.2.1⟩ ?_) ⟨sf_blind, va_recv C.2.2.2.2.2.1.1 hP hc hex, fun U hU hW => ⟨rfl, by rw [hU]; exact hP, va_K.moved hW.alike C.2.2.2.2.2.1.1, sf_N.warm hW C.2.2.2.2.2.1.2⟩⟩ rfl hn hl.1 he (lv_room hst) hd (by rw [hR]; decide)
    · intro w hwm
      unfold wsV at hwm
      rcases List.mem_append.mp hwm with h | h
      · have hm : w ∈ sf_tbl := by
          simp only [List.mem_cons, List.not_mem_nil, or_false] at h
          rcases h with rfl | rfl | rfl | rfl
          · exact hw.1
          · exact hw.2.1
          · exact hw.2.2
          · exact hY.2.1
        exact ⟨hm, good_of_word (List.mem_filter.mp hm).2⟩
      · exact sf_goodIn hY.1 w h
    · rw [hR]
      have := hY.2.2.2
      show d' + 1 ≤ 2048 ∧ 8 + (maxL + 11) + 40 * d' ≤ 84000
      omega
  refine va_calli hrun hS (fun q _ h => hA q h) hA (fun v u t2 H1 locs1 ht hvm hp hB hz hq hS1 => ?_)
  subst hp
  rw [ht] at hB
  exact kk H1 locs1 ls hB hS1 hl
end LZR
theorem tm_327 : (Jvm.Cond.methodLink "SaddleFitLaw" (13 : Nat) ({ cls := "SaddleFit", name := "feed", desc := "(I)I" } : Jvm.MethodName)) ∈ sf_tbl := sf_in (List.mem_append_right _ (List.mem_of_getElem? (i := 327) (by decide +kernel))) rfl
theorem tm_328 : (Jvm.Cond.instanceMethod ({ cls := "SaddleFit", name := "feed", desc := "(I)I" } : Jvm.MethodName)) ∈ sf_tbl := sf_in (List.mem_append_right _ (List.mem_of_getElem? (i := 328) (by decide +kernel))) rfl
theorem tm_329 : (Jvm.Cond.selects "SaddleFit" ({ cls := "SaddleFit", name := "feed", desc := "(I)I" } : Jvm.MethodName) ({ cls := "SaddleFit", name := "feed", desc := "(I)I" } : Jvm.MethodName)) ∈ sf_tbl := sf_in (List.mem_append_right _ (List.mem_of_getElem? (i := 329) (by decide +kernel))) rfl
set_option maxRecDepth 100000 in
theorem tm_330 : (Jvm.Cond.code ({ cls := "SaddleFit", name := "feed", desc := "(I)I" } : Jvm.MethodName) prog_1_method_2_code (2 : Nat) (Option.some Jvm.ClassFile.FieldType.int)) ∈ sf_tbl := sf_in (List.mem_append_right _ (List.mem_of_getElem? (i := 330) rfl)) rfl
theorem tm_932 : (Jvm.Cond.methodLink "SaddleFitLaw" (17 : Nat) ({ cls := "SaddleFitModel", name := "feed", desc := "(I)I" } : Jvm.MethodName)) ∈ sf_tbl := sf_in (List.mem_append_right _ (List.mem_of_getElem? (i := 932) (by decide +kernel))) rfl
theorem tm_933 : (Jvm.Cond.instanceMethod ({ cls := "SaddleFitModel", name := "feed", desc := "(I)I" } : Jvm.MethodName)) ∈ sf_tbl := sf_in (List.mem_append_right _ (List.mem_of_getElem? (i := 933) (by decide +kernel))) rfl
theorem tm_934 : (Jvm.Cond.selects "SaddleFitModel" ({ cls := "SaddleFitModel", name := "feed", desc := "(I)I" } : Jvm.MethodName) ({ cls := "SaddleFitModel", name := "feed", desc := "(I)I" } : Jvm.MethodName)) ∈ sf_tbl := sf_in (List.mem_append_right _ (List.mem_of_getElem? (i := 934) (by decide +kernel))) rfl
set_option maxRecDepth 100000 in
theorem tm_935 : (Jvm.Cond.code ({ cls := "SaddleFitModel", name := "feed", desc := "(I)I" } : Jvm.MethodName) prog_12_method_6_code (2 : Nat) (Option.some Jvm.ClassFile.FieldType.int)) ∈ sf_tbl := sf_in (List.mem_append_right _ (List.mem_of_getElem? (i := 935) rfl)) rfl
theorem tm_340 : (Jvm.Cond.methodLink "SaddleFitLaw" (18 : Nat) ({ cls := "SaddleFit", name := "shop", desc := "()I" } : Jvm.MethodName)) ∈ sf_tbl := sf_in (List.mem_append_right _ (List.mem_of_getElem? (i := 340) (by decide +kernel))) rfl
theorem tm_341 : (Jvm.Cond.instanceMethod ({ cls := "SaddleFit", name := "shop", desc := "()I" } : Jvm.MethodName)) ∈ sf_tbl := sf_in (List.mem_append_right _ (List.mem_of_getElem? (i := 341) (by decide +kernel))) rfl
theorem tm_342 : (Jvm.Cond.selects "SaddleFit" ({ cls := "SaddleFit", name := "shop", desc := "()I" } : Jvm.MethodName) ({ cls := "SaddleFit", name := "shop", desc := "()I" } : Jvm.MethodName)) ∈ sf_tbl := sf_in (List.mem_append_right _ (List.mem_of_getElem? (i := 342) (by decide +kernel))) rfl
set_option maxRecDepth 100000 in
theorem tm_343 : (Jvm.Cond.code ({ cls := "SaddleFit", name := "shop", desc := "()I" } : Jvm.MethodName) prog_1_method_3_code (3 : Nat) (Option.some Jvm.ClassFile.FieldType.int)) ∈ sf_tbl := sf_in (List.mem_append_right _ (List.mem_of_getElem? (i := 343) rfl)) rfl
theorem tm_942 : (Jvm.Cond.methodLink "SaddleFitLaw" (22 : Nat) ({ cls := "SaddleFitModel", name := "shop", desc := "()I" } : Jvm.MethodName)) ∈ sf_tbl := sf_in (List.mem_append_right _ (List.mem_of_getElem? (i := 942) (by decide +kernel))) rfl
theorem tm_943 : (Jvm.Cond.instanceMethod ({ cls := "SaddleFitModel", name := "shop", desc := "()I" } : Jvm.MethodName)) ∈ sf_tbl := sf_in (List.mem_append_right _ (List.mem_of_getElem? (i := 943) (by decide +kernel))) rfl
theorem tm_944 : (Jvm.Cond.selects "SaddleFitModel" ({ cls := "SaddleFitModel", name := "shop", desc := "()I" } : Jvm.MethodName) ({ cls := "SaddleFitModel", name := "shop", desc := "()I" } : Jvm.MethodName)) ∈ sf_tbl := sf_in (List.mem_append_right _ (List.mem_of_getElem? (i := 944) (by decide +kernel))) rfl
set_option maxRecDepth 100000 in
theorem tm_945 : (Jvm.Cond.code ({ cls := "SaddleFitModel", name := "shop", desc := "()I" } : Jvm.MethodName) prog_12_method_17_code (2 : Nat) (Option.some Jvm.ClassFile.FieldType.int)) ∈ sf_tbl := sf_in (List.mem_append_right _ (List.mem_of_getElem? (i := 945) rfl)) rfl
theorem tm_411 : (Jvm.Cond.methodLink "SaddleFitLaw" (23 : Nat) ({ cls := "SaddleFit", name := "fault", desc := "()I" } : Jvm.MethodName)) ∈ sf_tbl := sf_in (List.mem_append_right _ (List.mem_of_getElem? (i := 411) (by decide +kernel))) rfl
theorem tm_412 : (Jvm.Cond.instanceMethod ({ cls := "SaddleFit", name := "fault", desc := "()I" } : Jvm.MethodName)) ∈ sf_tbl := sf_in (List.mem_append_right _ (List.mem_of_getElem? (i := 412) (by decide +kernel))) rfl
theorem tm_413 : (Jvm.Cond.selects "SaddleFit" ({ cls := "SaddleFit", name := "fault", desc := "()I" } : Jvm.MethodName) ({ cls := "SaddleFit", name := "fault", desc := "()I" } : Jvm.MethodName)) ∈ sf_tbl := sf_in (List.mem_append_right _ (List.mem_of_getElem? (i := 413) (by decide +kernel))) rfl
set_option maxRecDepth 100000 in
theorem tm_414 : (Jvm.Cond.code ({ cls := "SaddleFit", name := "fault", desc := "()I" } : Jvm.MethodName) prog_1_method_4_code (1 : Nat) (Option.some Jvm.ClassFile.FieldType.int)) ∈ sf_tbl := sf_in (List.mem_append_right _ (List.mem_of_getElem? (i := 414) rfl)) rfl
theorem tm_989 : (Jvm.Cond.methodLink "SaddleFitLaw" (26 : Nat) ({ cls := "SaddleFitModel", name := "fault", desc := "()I" } : Jvm.MethodName)) ∈ sf_tbl := sf_in (List.mem_append_right _ (List.mem_of_getElem? (i := 989) (by decide +kernel))) rfl
theorem tm_990 : (Jvm.Cond.instanceMethod ({ cls := "SaddleFitModel", name := "fault", desc := "()I" } : Jvm.MethodName)) ∈ sf_tbl := sf_in (List.mem_append_right _ (List.mem_of_getElem? (i := 990) (by decide +kernel))) rfl
theorem tm_991 : (Jvm.Cond.selects "SaddleFitModel" ({ cls := "SaddleFitModel", name := "fault", desc := "()I" } : Jvm.MethodName) ({ cls := "SaddleFitModel", name := "fault", desc := "()I" } : Jvm.MethodName)) ∈ sf_tbl := sf_in (List.mem_append_right _ (List.mem_of_getElem? (i := 991) (by decide +kernel))) rfl
set_option maxRecDepth 100000 in
theorem tm_992 : (Jvm.Cond.code ({ cls := "SaddleFitModel", name := "fault", desc := "()I" } : Jvm.MethodName) prog_12_method_18_code (1 : Nat) (Option.some Jvm.ClassFile.FieldType.int)) ∈ sf_tbl := sf_in (List.mem_append_right _ (List.mem_of_getElem? (i := 992) rfl)) rfl
theorem tm_415 : (Jvm.Cond.methodLink "SaddleFitLaw" (27 : Nat) ({ cls := "SaddleFit", name := "told", desc := "(I)I" } : Jvm.MethodName)) ∈ sf_tbl := sf_in (List.mem_append_right _ (List.mem_of_getElem? (i := 415) (by decide +kernel))) rfl
theorem tm_416 : (Jvm.Cond.instanceMethod ({ cls := "SaddleFit", name := "told", desc := "(I)I" } : Jvm.MethodName)) ∈ sf_tbl := sf_in (List.mem_append_right _ (List.mem_of_getElem? (i := 416) (by decide +kernel))) rfl
theorem tm_417 : (Jvm.Cond.selects "SaddleFit" ({ cls := "SaddleFit", name := "told", desc := "(I)I" } : Jvm.MethodName) ({ cls := "SaddleFit", name := "told", desc := "(I)I" } : Jvm.MethodName)) ∈ sf_tbl := sf_in (List.mem_append_right _ (List.mem_of_getElem? (i := 417) (by decide +kernel))) rfl
set_option maxRecDepth 100000 in
theorem tm_418 : (Jvm.Cond.code ({ cls := "SaddleFit", name := "told", desc := "(I)I" } : Jvm.MethodName) prog_1_method_5_code (2 : Nat) (Option.some Jvm.ClassFile.FieldType.int)) ∈ sf_tbl := sf_in (List.mem_append_right _ (List.mem_of_getElem? (i := 418) rfl)) rfl
theorem tm_993 : (Jvm.Cond.methodLink "SaddleFitLaw" (30 : Nat) ({ cls := "SaddleFitModel", name := "told", desc := "(I)I" } : Jvm.MethodName)) ∈ sf_tbl := sf_in (List.mem_append_right _ (List.mem_of_getElem? (i := 993) (by decide +kernel))) rfl
theorem tm_994 : (Jvm.Cond.instanceMethod ({ cls := "SaddleFitModel", name := "told", desc := "(I)I" } : Jvm.MethodName)) ∈ sf_tbl := sf_in (List.mem_append_right _ (List.mem_of_getElem? (i := 994) (by decide +kernel))) rfl
theorem tm_995 : (Jvm.Cond.selects "SaddleFitModel" ({ cls := "SaddleFitModel", name := "told", desc := "(I)I" } : Jvm.MethodName) ({ cls := "SaddleFitModel", name := "told", desc := "(I)I" } : Jvm.MethodName)) ∈ sf_tbl := sf_in (List.mem_append_right _ (List.mem_of_getElem? (i := 995) (by decide +kernel))) rfl
set_option maxRecDepth 100000 in
theorem tm_996 : (Jvm.Cond.code ({ cls := "SaddleFitModel", name := "told", desc := "(I)I" } : Jvm.MethodName) prog_12_method_38_code (2 : Nat) (Option.some Jvm.ClassFile.FieldType.int)) ∈ sf_tbl := sf_in (List.mem_append_right _ (List.mem_of_getElem? (i := 996) rfl)) rfl
theorem tm_493 : (Jvm.Cond.methodLink "SaddleFitLaw" (31 : Nat) ({ cls := "SaddleFit", name := "burden", desc := "(II)I" } : Jvm.MethodName)) ∈ sf_tbl := sf_in (List.mem_append_right _ (List.mem_of_getElem? (i := 493) (by decide +kernel))) rfl
theorem tm_494 : (Jvm.Cond.instanceMethod ({ cls := "SaddleFit", name := "burden", desc := "(II)I" } : Jvm.MethodName)) ∈ sf_tbl := sf_in (List.mem_append_right _ (List.mem_of_getElem? (i := 494) (by decide +kernel))) rfl
theorem tm_495 : (Jvm.Cond.selects "SaddleFit" ({ cls := "SaddleFit", name := "burden", desc := "(II)I" } : Jvm.MethodName) ({ cls := "SaddleFit", name := "burden", desc := "(II)I" } : Jvm.MethodName)) ∈ sf_tbl := sf_in (List.mem_append_right _ (List.mem_of_getElem? (i := 495) (by decide +kernel))) rfl
set_option maxRecDepth 100000 in
theorem tm_496 : (Jvm.Cond.code ({ cls := "SaddleFit", name := "burden", desc := "(II)I" } : Jvm.MethodName) prog_1_method_6_code (3 : Nat) (Option.some Jvm.ClassFile.FieldType.int)) ∈ sf_tbl := sf_in (List.mem_append_right _ (List.mem_of_getElem? (i := 496) rfl)) rfl
theorem tm_1061 : (Jvm.Cond.methodLink "SaddleFitLaw" (35 : Nat) ({ cls := "SaddleFitModel", name := "burden", desc := "(II)I" } : Jvm.MethodName)) ∈ sf_tbl := sf_in (List.mem_append_right _ (List.mem_of_getElem? (i := 1061) (by decide +kernel))) rfl
theorem tm_1062 : (Jvm.Cond.instanceMethod ({ cls := "SaddleFitModel", name := "burden", desc := "(II)I" } : Jvm.MethodName)) ∈ sf_tbl := sf_in (List.mem_append_right _ (List.mem_of_getElem? (i := 1062) (by decide +kernel))) rfl
theorem tm_1063 : (Jvm.Cond.selects "SaddleFitModel" ({ cls := "SaddleFitModel", name := "burden", desc := "(II)I" } : Jvm.MethodName) ({ cls := "SaddleFitModel", name := "burden", desc := "(II)I" } : Jvm.MethodName)) ∈ sf_tbl := sf_in (List.mem_append_right _ (List.mem_of_getElem? (i := 1063) (by decide +kernel))) rfl
set_option maxRecDepth 100000 in
theorem tm_1064 : (Jvm.Cond.code ({ cls := "SaddleFitModel", name := "burden", desc := "(II)I" } : Jvm.MethodName) prog_12_method_39_code (3 : Nat) (Option.some Jvm.ClassFile.FieldType.int)) ∈ sf_tbl := sf_in (List.mem_append_right _ (List.mem_of_getElem? (i := 1064) rfl)) rfl
theorem tm_502 : (Jvm.Cond.methodLink "SaddleFitLaw" (36 : Nat) ({ cls := "SaddleFit", name := "back", desc := "(II)I" } : Jvm.MethodName)) ∈ sf_tbl := sf_in (List.mem_append_right _ (List.mem_of_getElem? (i := 502) (by decide +kernel))) rfl
theorem tm_503 : (Jvm.Cond.instanceMethod ({ cls := "SaddleFit", name := "back", desc := "(II)I" } : Jvm.MethodName)) ∈ sf_tbl := sf_in (List.mem_append_right _ (List.mem_of_getElem? (i := 503) (by decide +kernel))) rfl
theorem tm_504 : (Jvm.Cond.selects "SaddleFit" ({ cls := "SaddleFit", name := "back", desc := "(II)I" } : Jvm.MethodName) ({ cls := "SaddleFit", name := "back", desc := "(II)I" } : Jvm.MethodName)) ∈ sf_tbl := sf_in (List.mem_append_right _ (List.mem_of_getElem? (i := 504) (by decide +kernel))) rfl
set_option maxRecDepth 100000 in
theorem tm_505 : (Jvm.Cond.code ({ cls := "SaddleFit", name := "back", desc := "(II)I" } : Jvm.MethodName) prog_1_method_7_code (3 : Nat) (Option.some Jvm.ClassFile.FieldType.int)) ∈ sf_tbl := sf_in (List.mem_append_right _ (List.mem_of_getElem? (i := 505) rfl)) rfl
theorem tm_1070 : (Jvm.Cond.methodLink "SaddleFitLaw" (39 : Nat) ({ cls := "SaddleFitModel", name := "back", desc := "(II)I" } : Jvm.MethodName)) ∈ sf_tbl := sf_in (List.mem_append_right _ (List.mem_of_getElem? (i := 1070) (by decide +kernel))) rfl
theorem tm_1071 : (Jvm.Cond.instanceMethod ({ cls := "SaddleFitModel", name := "back", desc := "(II)I" } : Jvm.MethodName)) ∈ sf_tbl := sf_in (List.mem_append_right _ (List.mem_of_getElem? (i := 1071) (by decide +kernel))) rfl
theorem tm_1072 : (Jvm.Cond.selects "SaddleFitModel" ({ cls := "SaddleFitModel", name := "back", desc := "(II)I" } : Jvm.MethodName) ({ cls := "SaddleFitModel", name := "back", desc := "(II)I" } : Jvm.MethodName)) ∈ sf_tbl := sf_in (List.mem_append_right _ (List.mem_of_getElem? (i := 1072) (by decide +kernel))) rfl
set_option maxRecDepth 100000 in
theorem tm_1073 : (Jvm.Cond.code ({ cls := "SaddleFitModel", name := "back", desc := "(II)I" } : Jvm.MethodName) prog_12_method_40_code (3 : Nat) (Option.some Jvm.ClassFile.FieldType.int)) ∈ sf_tbl := sf_in (List.mem_append_right _ (List.mem_of_getElem? (i := 1073) rfl)) rfl
theorem tm_524 : (Jvm.Cond.methodLink "SaddleFitLaw" (40 : Nat) ({ cls := "SaddleFit", name := "day", desc := "(I)I" } : Jvm.MethodName)) ∈ sf_tbl := sf_in (List.mem_append_right _ (List.mem_of_getElem? (i := 524) (by decide +kernel))) rfl
theorem tm_525 : (Jvm.Cond.instanceMethod ({ cls := "SaddleFit", name := "day", desc := "(I)I" } : Jvm.MethodName)) ∈ sf_tbl := sf_in (List.mem_append_right _ (List.mem_of_getElem? (i := 525) (by decide +kernel))) rfl
theorem tm_526 : (Jvm.Cond.selects "SaddleFit" ({ cls := "SaddleFit", name := "day", desc := "(I)I" } : Jvm.MethodName) ({ cls := "SaddleFit", name := "day", desc := "(I)I" } : Jvm.MethodName)) ∈ sf_tbl := sf_in (List.mem_append_right _ (List.mem_of_getElem? (i := 526) (by decide +kernel))) rfl
set_option maxRecDepth 100000 in
theorem tm_527 : (Jvm.Cond.code ({ cls := "SaddleFit", name := "day", desc := "(I)I" } : Jvm.MethodName) prog_1_method_8_code (4 : Nat) (Option.some Jvm.ClassFile.FieldType.int)) ∈ sf_tbl := sf_in (List.mem_append_right _ (List.mem_of_getElem? (i := 527) rfl)) rfl
theorem tm_1090 : (Jvm.Cond.methodLink "SaddleFitLaw" (43 : Nat) ({ cls := "SaddleFitModel", name := "day", desc := "(I)I" } : Jvm.MethodName)) ∈ sf_tbl := sf_in (List.mem_append_right _ (List.mem_of_getElem? (i := 1090) (by decide +kernel))) rfl
theorem tm_1091 : (Jvm.Cond.instanceMethod ({ cls := "SaddleFitModel", name := "day", desc := "(I)I" } : Jvm.MethodName)) ∈ sf_tbl := sf_in (List.mem_append_right _ (List.mem_of_getElem? (i := 1091) (by decide +kernel))) rfl
theorem tm_1092 : (Jvm.Cond.selects "SaddleFitModel" ({ cls := "SaddleFitModel", name := "day", desc := "(I)I" } : Jvm.MethodName) ({ cls := "SaddleFitModel", name := "day", desc := "(I)I" } : Jvm.MethodName)) ∈ sf_tbl := sf_in (List.mem_append_right _ (List.mem_of_getElem? (i := 1092) (by decide +kernel))) rfl
set_option maxRecDepth 100000 in
theorem tm_1093 : (Jvm.Cond.code ({ cls := "SaddleFitModel", name := "day", desc := "(I)I" } : Jvm.MethodName) prog_12_method_44_code (4 : Nat) (Option.some Jvm.ClassFile.FieldType.int)) ∈ sf_tbl := sf_in (List.mem_append_right _ (List.mem_of_getElem? (i := 1093) rfl)) rfl
theorem tm_553 : (Jvm.Cond.methodLink "SaddleFitLaw" (44 : Nat) ({ cls := "SaddleFit", name := "take", desc := "(II)I" } : Jvm.MethodName)) ∈ sf_tbl := sf_in (List.mem_append_right _ (List.mem_of_getElem? (i := 553) (by decide +kernel))) rfl
theorem tm_554 : (Jvm.Cond.instanceMethod ({ cls := "SaddleFit", name := "take", desc := "(II)I" } : Jvm.MethodName)) ∈ sf_tbl := sf_in (List.mem_append_right _ (List.mem_of_getElem? (i := 554) (by decide +kernel))) rfl
theorem tm_555 : (Jvm.Cond.selects "SaddleFit" ({ cls := "SaddleFit", name := "take", desc := "(II)I" } : Jvm.MethodName) ({ cls := "SaddleFit", name := "take", desc := "(II)I" } : Jvm.MethodName)) ∈ sf_tbl := sf_in (List.mem_append_right _ (List.mem_of_getElem? (i := 555) (by decide +kernel))) rfl
set_option maxRecDepth 100000 in
theorem tm_556 : (Jvm.Cond.code ({ cls := "SaddleFit", name := "take", desc := "(II)I" } : Jvm.MethodName) prog_1_method_9_code (3 : Nat) (Option.some Jvm.ClassFile.FieldType.int)) ∈ sf_tbl := sf_in (List.mem_append_right _ (List.mem_of_getElem? (i := 556) rfl)) rfl
theorem tm_1108 : (Jvm.Cond.methodLink "SaddleFitLaw" (47 : Nat) ({ cls := "SaddleFitModel", name := "take", desc := "(II)I" } : Jvm.MethodName)) ∈ sf_tbl := sf_in (List.mem_append_right _ (List.mem_of_getElem? (i := 1108) (by decide +kernel))) rfl
theorem tm_1109 : (Jvm.Cond.instanceMethod ({ cls := "SaddleFitModel", name := "take", desc := "(II)I" } : Jvm.MethodName)) ∈ sf_tbl := sf_in (List.mem_append_right _ (List.mem_of_getElem? (i := 1109) (by decide +kernel))) rfl
theorem tm_1110 : (Jvm.Cond.selects "SaddleFitModel" ({ cls := "SaddleFitModel", name := "take", desc := "(II)I" } : Jvm.MethodName) ({ cls := "SaddleFitModel", name := "take", desc := "(II)I" } : Jvm.MethodName)) ∈ sf_tbl := sf_in (List.mem_append_right _ (List.mem_of_getElem? (i := 1110) (by decide +kernel))) rfl
set_option maxRecDepth 100000 in
theorem tm_1111 : (Jvm.Cond.code ({ cls := "SaddleFitModel", name := "take", desc := "(II)I" } : Jvm.MethodName) prog_12_method_45_code (3 : Nat) (Option.some Jvm.ClassFile.FieldType.int)) ∈ sf_tbl := sf_in (List.mem_append_right _ (List.mem_of_getElem? (i := 1111) rfl)) rfl
theorem tm_562 : (Jvm.Cond.methodLink "SaddleFitLaw" (48 : Nat) ({ cls := "SaddleFit", name := "share", desc := "(II)I" } : Jvm.MethodName)) ∈ sf_tbl := sf_in (List.mem_append_right _ (List.mem_of_getElem? (i := 562) (by decide +kernel))) rfl
theorem tm_563 : (Jvm.Cond.instanceMethod ({ cls := "SaddleFit", name := "share", desc := "(II)I" } : Jvm.MethodName)) ∈ sf_tbl := sf_in (List.mem_append_right _ (List.mem_of_getElem? (i := 563) (by decide +kernel))) rfl
theorem tm_564 : (Jvm.Cond.selects "SaddleFit" ({ cls := "SaddleFit", name := "share", desc := "(II)I" } : Jvm.MethodName) ({ cls := "SaddleFit", name := "share", desc := "(II)I" } : Jvm.MethodName)) ∈ sf_tbl := sf_in (List.mem_append_right _ (List.mem_of_getElem? (i := 564) (by decide +kernel))) rfl
set_option maxRecDepth 100000 in
theorem tm_565 : (Jvm.Cond.code ({ cls := "SaddleFit", name := "share", desc := "(II)I" } : Jvm.MethodName) prog_1_method_10_code (3 : Nat) (Option.some Jvm.ClassFile.FieldType.int)) ∈ sf_tbl := sf_in (List.mem_append_right _ (List.mem_of_getElem? (i := 565) rfl)) rfl
theorem tm_1112 : (Jvm.Cond.methodLink "SaddleFitLaw" (51 : Nat) ({ cls := "SaddleFitModel", name := "share", desc := "(II)I" } : Jvm.MethodName)) ∈ sf_tbl := sf_in (List.mem_append_right _ (List.mem_of_getElem? (i := 1112) (by decide +kernel))) rfl
theorem tm_1113 : (Jvm.Cond.instanceMethod ({ cls := "SaddleFitModel", name := "share", desc := "(II)I" } : Jvm.MethodName)) ∈ sf_tbl := sf_in (List.mem_append_right _ (List.mem_of_getElem? (i := 1113) (by decide +kernel))) rfl
theorem tm_1114 : (Jvm.Cond.selects "SaddleFitModel" ({ cls := "SaddleFitModel", name := "share", desc := "(II)I" } : Jvm.MethodName) ({ cls := "SaddleFitModel", name := "share", desc := "(II)I" } : Jvm.MethodName)) ∈ sf_tbl := sf_in (List.mem_append_right _ (List.mem_of_getElem? (i := 1114) (by decide +kernel))) rfl
set_option maxRecDepth 100000 in
theorem tm_1115 : (Jvm.Cond.code ({ cls := "SaddleFitModel", name := "share", desc := "(II)I" } : Jvm.MethodName) prog_12_method_47_code (3 : Nat) (Option.some Jvm.ClassFile.FieldType.int)) ∈ sf_tbl := sf_in (List.mem_append_right _ (List.mem_of_getElem? (i := 1115) rfl)) rfl
theorem tm_576 : (Jvm.Cond.methodLink "SaddleFitLaw" (52 : Nat) ({ cls := "SaddleFit", name := "down", desc := "(II)I" } : Jvm.MethodName)) ∈ sf_tbl := sf_in (List.mem_append_right _ (List.mem_of_getElem? (i := 576) (by decide +kernel))) rfl
theorem tm_577 : (Jvm.Cond.instanceMethod ({ cls := "SaddleFit", name := "down", desc := "(II)I" } : Jvm.MethodName)) ∈ sf_tbl := sf_in (List.mem_append_right _ (List.mem_of_getElem? (i := 577) (by decide +kernel))) rfl
theorem tm_578 : (Jvm.Cond.selects "SaddleFit" ({ cls := "SaddleFit", name := "down", desc := "(II)I" } : Jvm.MethodName) ({ cls := "SaddleFit", name := "down", desc := "(II)I" } : Jvm.MethodName)) ∈ sf_tbl := sf_in (List.mem_append_right _ (List.mem_of_getElem? (i := 578) (by decide +kernel))) rfl
set_option maxRecDepth 100000 in
theorem tm_579 : (Jvm.Cond.code ({ cls := "SaddleFit", name := "down", desc := "(II)I" } : Jvm.MethodName) prog_1_method_11_code (3 : Nat) (Option.some Jvm.ClassFile.FieldType.int)) ∈ sf_tbl := sf_in (List.mem_append_right _ (List.mem_of_getElem? (i := 579) rfl)) rfl
theorem tm_1120 : (Jvm.Cond.methodLink "SaddleFitLaw" (55 : Nat) ({ cls := "SaddleFitModel", name := "down", desc := "(II)I" } : Jvm.MethodName)) ∈ sf_tbl := sf_in (List.mem_append_right _ (List.mem_of_getElem? (i := 1120) (by decide +kernel))) rfl
theorem tm_1121 : (Jvm.Cond.instanceMethod ({ cls := "SaddleFitModel", name := "down", desc := "(II)I" } : Jvm.MethodName)) ∈ sf_tbl := sf_in (List.mem_append_right _ (List.mem_of_getElem? (i := 1121) (by decide +kernel))) rfl
theorem tm_1122 : (Jvm.Cond.selects "SaddleFitModel" ({ cls := "SaddleFitModel", name := "down", desc := "(II)I" } : Jvm.MethodName) ({ cls := "SaddleFitModel", name := "down", desc := "(II)I" } : Jvm.MethodName)) ∈ sf_tbl := sf_in (List.mem_append_right _ (List.mem_of_getElem? (i := 1122) (by decide +kernel))) rfl
set_option maxRecDepth 100000 in
theorem tm_1123 : (Jvm.Cond.code ({ cls := "SaddleFitModel", name := "down", desc := "(II)I" } : Jvm.MethodName) prog_12_method_49_code (3 : Nat) (Option.some Jvm.ClassFile.FieldType.int)) ∈ sf_tbl := sf_in (List.mem_append_right _ (List.mem_of_getElem? (i := 1123) rfl)) rfl
theorem tm_585 : (Jvm.Cond.methodLink "SaddleFitLaw" (56 : Nat) ({ cls := "SaddleFit", name := "hand", desc := "(III)I" } : Jvm.MethodName)) ∈ sf_tbl := sf_in (List.mem_append_right _ (List.mem_of_getElem? (i := 585) (by decide +kernel))) rfl
theorem tm_586 : (Jvm.Cond.instanceMethod ({ cls := "SaddleFit", name := "hand", desc := "(III)I" } : Jvm.MethodName)) ∈ sf_tbl := sf_in (List.mem_append_right _ (List.mem_of_getElem? (i := 586) (by decide +kernel))) rfl
theorem tm_587 : (Jvm.Cond.selects "SaddleFit" ({ cls := "SaddleFit", name := "hand", desc := "(III)I" } : Jvm.MethodName) ({ cls := "SaddleFit", name := "hand", desc := "(III)I" } : Jvm.MethodName)) ∈ sf_tbl := sf_in (List.mem_append_right _ (List.mem_of_getElem? (i := 587) (by decide +kernel))) rfl
set_option maxRecDepth 100000 in
theorem tm_588 : (Jvm.Cond.code ({ cls := "SaddleFit", name := "hand", desc := "(III)I" } : Jvm.MethodName) prog_1_method_12_code (4 : Nat) (Option.some Jvm.ClassFile.FieldType.int)) ∈ sf_tbl := sf_in (List.mem_append_right _ (List.mem_of_getElem? (i := 588) rfl)) rfl
theorem tm_1128 : (Jvm.Cond.methodLink "SaddleFitLaw" (60 : Nat) ({ cls := "SaddleFitModel", name := "hand", desc := "(III)I" } : Jvm.MethodName)) ∈ sf_tbl := sf_in (List.mem_append_right _ (List.mem_of_getElem? (i := 1128) (by decide +kernel))) rfl
theorem tm_1129 : (Jvm.Cond.instanceMethod ({ cls := "SaddleFitModel", name := "hand", desc := "(III)I" } : Jvm.MethodName)) ∈ sf_tbl := sf_in (List.mem_append_right _ (List.mem_of_getElem? (i := 1129) (by decide +kernel))) rfl
theorem tm_1130 : (Jvm.Cond.selects "SaddleFitModel" ({ cls := "SaddleFitModel", name := "hand", desc := "(III)I" } : Jvm.MethodName) ({ cls := "SaddleFitModel", name := "hand", desc := "(III)I" } : Jvm.MethodName)) ∈ sf_tbl := sf_in (List.mem_append_right _ (List.mem_of_getElem? (i := 1130) (by decide +kernel))) rfl
set_option maxRecDepth 100000 in
theorem tm_1131 : (Jvm.Cond.code ({ cls := "SaddleFitModel", name := "hand", desc := "(III)I" } : Jvm.MethodName) prog_12_method_50_code (4 : Nat) (Option.some Jvm.ClassFile.FieldType.int)) ∈ sf_tbl := sf_in (List.mem_append_right _ (List.mem_of_getElem? (i := 1131) rfl)) rfl
theorem tm_598 : (Jvm.Cond.methodLink "SaddleFitLaw" (61 : Nat) ({ cls := "SaddleFit", name := "stuff", desc := "(II)I" } : Jvm.MethodName)) ∈ sf_tbl := sf_in (List.mem_append_right _ (List.mem_of_getElem? (i := 598) (by decide +kernel))) rfl
theorem tm_599 : (Jvm.Cond.instanceMethod ({ cls := "SaddleFit", name := "stuff", desc := "(II)I" } : Jvm.MethodName)) ∈ sf_tbl := sf_in (List.mem_append_right _ (List.mem_of_getElem? (i := 599) (by decide +kernel))) rfl
theorem tm_600 : (Jvm.Cond.selects "SaddleFit" ({ cls := "SaddleFit", name := "stuff", desc := "(II)I" } : Jvm.MethodName) ({ cls := "SaddleFit", name := "stuff", desc := "(II)I" } : Jvm.MethodName)) ∈ sf_tbl := sf_in (List.mem_append_right _ (List.mem_of_getElem? (i := 600) (by decide +kernel))) rfl
set_option maxRecDepth 100000 in
theorem tm_601 : (Jvm.Cond.code ({ cls := "SaddleFit", name := "stuff", desc := "(II)I" } : Jvm.MethodName) prog_1_method_13_code (3 : Nat) (Option.some Jvm.ClassFile.FieldType.int)) ∈ sf_tbl := sf_in (List.mem_append_right _ (List.mem_of_getElem? (i := 601) rfl)) rfl
theorem tm_1132 : (Jvm.Cond.methodLink "SaddleFitLaw" (64 : Nat) ({ cls := "SaddleFitModel", name := "stuff", desc := "(II)I" } : Jvm.MethodName)) ∈ sf_tbl := sf_in (List.mem_append_right _ (List.mem_of_getElem? (i := 1132) (by decide +kernel))) rfl
theorem tm_1133 : (Jvm.Cond.instanceMethod ({ cls := "SaddleFitModel", name := "stuff", desc := "(II)I" } : Jvm.MethodName)) ∈ sf_tbl := sf_in (List.mem_append_right _ (List.mem_of_getElem? (i := 1133) (by decide +kernel))) rfl
theorem tm_1134 : (Jvm.Cond.selects "SaddleFitModel" ({ cls := "SaddleFitModel", name := "stuff", desc := "(II)I" } : Jvm.MethodName) ({ cls := "SaddleFitModel", name := "stuff", desc := "(II)I" } : Jvm.MethodName)) ∈ sf_tbl := sf_in (List.mem_append_right _ (List.mem_of_getElem? (i := 1134) (by decide +kernel))) rfl
set_option maxRecDepth 100000 in
theorem tm_1135 : (Jvm.Cond.code ({ cls := "SaddleFitModel", name := "stuff", desc := "(II)I" } : Jvm.MethodName) prog_12_method_51_code (3 : Nat) (Option.some Jvm.ClassFile.FieldType.int)) ∈ sf_tbl := sf_in (List.mem_append_right _ (List.mem_of_getElem? (i := 1135) rfl)) rfl
theorem tm_602 : (Jvm.Cond.methodLink "SaddleFitLaw" (65 : Nat) ({ cls := "SaddleFit", name := "weigh", desc := "(II)I" } : Jvm.MethodName)) ∈ sf_tbl := sf_in (List.mem_append_right _ (List.mem_of_getElem? (i := 602) (by decide +kernel))) rfl
theorem tm_603 : (Jvm.Cond.instanceMethod ({ cls := "SaddleFit", name := "weigh", desc := "(II)I" } : Jvm.MethodName)) ∈ sf_tbl := sf_in (List.mem_append_right _ (List.mem_of_getElem? (i := 603) (by decide +kernel))) rfl
theorem tm_604 : (Jvm.Cond.selects "SaddleFit" ({ cls := "SaddleFit", name := "weigh", desc := "(II)I" } : Jvm.MethodName) ({ cls := "SaddleFit", name := "weigh", desc := "(II)I" } : Jvm.MethodName)) ∈ sf_tbl := sf_in (List.mem_append_right _ (List.mem_of_getElem? (i := 604) (by decide +kernel))) rfl
set_option maxRecDepth 100000 in
theorem tm_605 : (Jvm.Cond.code ({ cls := "SaddleFit", name := "weigh", desc := "(II)I" } : Jvm.MethodName) prog_1_method_14_code (4 : Nat) (Option.some Jvm.ClassFile.FieldType.int)) ∈ sf_tbl := sf_in (List.mem_append_right _ (List.mem_of_getElem? (i := 605) rfl)) rfl
theorem tm_1138 : (Jvm.Cond.methodLink "SaddleFitLaw" (68 : Nat) ({ cls := "SaddleFitModel", name := "weigh", desc := "(II)I" } : Jvm.MethodName)) ∈ sf_tbl := sf_in (List.mem_append_right _ (List.mem_of_getElem? (i := 1138) (by decide +kernel))) rfl
theorem tm_1139 : (Jvm.Cond.instanceMethod ({ cls := "SaddleFitModel", name := "weigh", desc := "(II)I" } : Jvm.MethodName)) ∈ sf_tbl := sf_in (List.mem_append_right _ (List.mem_of_getElem? (i := 1139) (by decide +kernel))) rfl
theorem tm_1140 : (Jvm.Cond.selects "SaddleFitModel" ({ cls := "SaddleFitModel", name := "weigh", desc := "(II)I" } : Jvm.MethodName) ({ cls := "SaddleFitModel", name := "weigh", desc := "(II)I" } : Jvm.MethodName)) ∈ sf_tbl := sf_in (List.mem_append_right _ (List.mem_of_getElem? (i := 1140) (by decide +kernel))) rfl
set_option maxRecDepth 100000 in
theorem tm_1141 : (Jvm.Cond.code ({ cls := "SaddleFitModel", name := "weigh", desc := "(II)I" } : Jvm.MethodName) prog_12_method_52_code (4 : Nat) (Option.some Jvm.ClassFile.FieldType.int)) ∈ sf_tbl := sf_in (List.mem_append_right _ (List.mem_of_getElem? (i := 1141) rfl)) rfl
theorem tm_606 : (Jvm.Cond.methodLink "SaddleFitLaw" (69 : Nat) ({ cls := "SaddleFit", name := "drift", desc := "(I)I" } : Jvm.MethodName)) ∈ sf_tbl := sf_in (List.mem_append_right _ (List.mem_of_getElem? (i := 606) (by decide +kernel))) rfl
theorem tm_607 : (Jvm.Cond.instanceMethod ({ cls := "SaddleFit", name := "drift", desc := "(I)I" } : Jvm.MethodName)) ∈ sf_tbl := sf_in (List.mem_append_right _ (List.mem_of_getElem? (i := 607) (by decide +kernel))) rfl
theorem tm_608 : (Jvm.Cond.selects "SaddleFit" ({ cls := "SaddleFit", name := "drift", desc := "(I)I" } : Jvm.MethodName) ({ cls := "SaddleFit", name := "drift", desc := "(I)I" } : Jvm.MethodName)) ∈ sf_tbl := sf_in (List.mem_append_right _ (List.mem_of_getElem? (i := 608) (by decide +kernel))) rfl
set_option maxRecDepth 100000 in
theorem tm_609 : (Jvm.Cond.code ({ cls := "SaddleFit", name := "drift", desc := "(I)I" } : Jvm.MethodName) prog_1_method_15_code (4 : Nat) (Option.some Jvm.ClassFile.FieldType.int)) ∈ sf_tbl := sf_in (List.mem_append_right _ (List.mem_of_getElem? (i := 609) rfl)) rfl
theorem tm_1142 : (Jvm.Cond.methodLink "SaddleFitLaw" (72 : Nat) ({ cls := "SaddleFitModel", name := "drift", desc := "(I)I" } : Jvm.MethodName)) ∈ sf_tbl := sf_in (List.mem_append_right _ (List.mem_of_getElem? (i := 1142) (by decide +kernel))) rfl
theorem tm_1143 : (Jvm.Cond.instanceMethod ({ cls := "SaddleFitModel", name := "drift", desc := "(I)I" } : Jvm.MethodName)) ∈ sf_tbl := sf_in (List.mem_append_right _ (List.mem_of_getElem? (i := 1143) (by decide +kernel))) rfl
theorem tm_1144 : (Jvm.Cond.selects "SaddleFitModel" ({ cls := "SaddleFitModel", name := "drift", desc := "(I)I" } : Jvm.MethodName) ({ cls := "SaddleFitModel", name := "drift", desc := "(I)I" } : Jvm.MethodName)) ∈ sf_tbl := sf_in (List.mem_append_right _ (List.mem_of_getElem? (i := 1144) (by decide +kernel))) rfl
set_option maxRecDepth 100000 in
theorem tm_1145 : (Jvm.Cond.code ({ cls := "SaddleFitModel", name := "drift", desc := "(I)I" } : Jvm.MethodName) prog_12_method_55_code (4 : Nat) (Option.some Jvm.ClassFile.FieldType.int)) ∈ sf_tbl := sf_in (List.mem_append_right _ (List.mem_of_getElem? (i := 1145) rfl)) rfl
theorem tm_622 : (Jvm.Cond.methodLink "SaddleFitLaw" (73 : Nat) ({ cls := "SaddleFit", name := "undo", desc := "()I" } : Jvm.MethodName)) ∈ sf_tbl := sf_in (List.mem_append_right _ (List.mem_of_getElem? (i := 622) (by decide +kernel))) rfl
theorem tm_623 : (Jvm.Cond.instanceMethod ({ cls := "SaddleFit", name := "undo", desc := "()I" } : Jvm.MethodName)) ∈ sf_tbl := sf_in (List.mem_append_right _ (List.mem_of_getElem? (i := 623) (by decide +kernel))) rfl
theorem tm_624 : (Jvm.Cond.selects "SaddleFit" ({ cls := "SaddleFit", name := "undo", desc := "()I" } : Jvm.MethodName) ({ cls := "SaddleFit", name := "undo", desc := "()I" } : Jvm.MethodName)) ∈ sf_tbl := sf_in (List.mem_append_right _ (List.mem_of_getElem? (i := 624) (by decide +kernel))) rfl
set_option maxRecDepth 100000 in
theorem tm_625 : (Jvm.Cond.code ({ cls := "SaddleFit", name := "undo", desc := "()I" } : Jvm.MethodName) prog_1_method_16_code (1 : Nat) (Option.some Jvm.ClassFile.FieldType.int)) ∈ sf_tbl := sf_in (List.mem_append_right _ (List.mem_of_getElem? (i := 625) rfl)) rfl
theorem tm_1158 : (Jvm.Cond.methodLink "SaddleFitLaw" (76 : Nat) ({ cls := "SaddleFitModel", name := "undo", desc := "()I" } : Jvm.MethodName)) ∈ sf_tbl := sf_in (List.mem_append_right _ (List.mem_of_getElem? (i := 1158) (by decide +kernel))) rfl
theorem tm_1159 : (Jvm.Cond.instanceMethod ({ cls := "SaddleFitModel", name := "undo", desc := "()I" } : Jvm.MethodName)) ∈ sf_tbl := sf_in (List.mem_append_right _ (List.mem_of_getElem? (i := 1159) (by decide +kernel))) rfl
theorem tm_1160 : (Jvm.Cond.selects "SaddleFitModel" ({ cls := "SaddleFitModel", name := "undo", desc := "()I" } : Jvm.MethodName) ({ cls := "SaddleFitModel", name := "undo", desc := "()I" } : Jvm.MethodName)) ∈ sf_tbl := sf_in (List.mem_append_right _ (List.mem_of_getElem? (i := 1160) (by decide +kernel))) rfl
set_option maxRecDepth 100000 in
theorem tm_1161 : (Jvm.Cond.code ({ cls := "SaddleFitModel", name := "undo", desc := "()I" } : Jvm.MethodName) prog_12_method_56_code (2 : Nat) (Option.some Jvm.ClassFile.FieldType.int)) ∈ sf_tbl := sf_in (List.mem_append_right _ (List.mem_of_getElem? (i := 1161) rfl)) rfl
theorem tm_630 : (Jvm.Cond.methodLink "SaddleFitLaw" (77 : Nat) ({ cls := "SaddleFit", name := "sore", desc := "(II)I" } : Jvm.MethodName)) ∈ sf_tbl := sf_in (List.mem_append_right _ (List.mem_of_getElem? (i := 630) (by decide +kernel))) rfl
theorem tm_631 : (Jvm.Cond.instanceMethod ({ cls := "SaddleFit", name := "sore", desc := "(II)I" } : Jvm.MethodName)) ∈ sf_tbl := sf_in (List.mem_append_right _ (List.mem_of_getElem? (i := 631) (by decide +kernel))) rfl
theorem tm_632 : (Jvm.Cond.selects "SaddleFit" ({ cls := "SaddleFit", name := "sore", desc := "(II)I" } : Jvm.MethodName) ({ cls := "SaddleFit", name := "sore", desc := "(II)I" } : Jvm.MethodName)) ∈ sf_tbl := sf_in (List.mem_append_right _ (List.mem_of_getElem? (i := 632) (by decide +kernel))) rfl
set_option maxRecDepth 100000 in
theorem tm_633 : (Jvm.Cond.code ({ cls := "SaddleFit", name := "sore", desc := "(II)I" } : Jvm.MethodName) prog_1_method_17_code (3 : Nat) (Option.some Jvm.ClassFile.FieldType.int)) ∈ sf_tbl := sf_in (List.mem_append_right _ (List.mem_of_getElem? (i := 633) rfl)) rfl
theorem tm_1162 : (Jvm.Cond.methodLink "SaddleFitLaw" (80 : Nat) ({ cls := "SaddleFitModel", name := "sore", desc := "(II)I" } : Jvm.MethodName)) ∈ sf_tbl := sf_in (List.mem_append_right _ (List.mem_of_getElem? (i := 1162) (by decide +kernel))) rfl
theorem tm_1163 : (Jvm.Cond.instanceMethod ({ cls := "SaddleFitModel", name := "sore", desc := "(II)I" } : Jvm.MethodName)) ∈ sf_tbl := sf_in (List.mem_append_right _ (List.mem_of_getElem? (i := 1163) (by decide +kernel))) rfl
theorem tm_1164 : (Jvm.Cond.selects "SaddleFitModel" ({ cls := "SaddleFitModel", name := "sore", desc := "(II)I" } : Jvm.MethodName) ({ cls := "SaddleFitModel", name := "sore", desc := "(II)I" } : Jvm.MethodName)) ∈ sf_tbl := sf_in (List.mem_append_right _ (List.mem_of_getElem? (i := 1164) (by decide +kernel))) rfl
set_option maxRecDepth 100000 in
theorem tm_1165 : (Jvm.Cond.code ({ cls := "SaddleFitModel", name := "sore", desc := "(II)I" } : Jvm.MethodName) prog_12_method_57_code (4 : Nat) (Option.some Jvm.ClassFile.FieldType.int)) ∈ sf_tbl := sf_in (List.mem_append_right _ (List.mem_of_getElem? (i := 1165) rfl)) rfl
theorem tm_638 : (Jvm.Cond.methodLink "SaddleFitLaw" (81 : Nat) ({ cls := "SaddleFit", name := "when", desc := "(I)I" } : Jvm.MethodName)) ∈ sf_tbl := sf_in (List.mem_append_right _ (List.mem_of_getElem? (i := 638) (by decide +kernel))) rfl
theorem tm_639 : (Jvm.Cond.instanceMethod ({ cls := "SaddleFit", name := "when", desc := "(I)I" } : Jvm.MethodName)) ∈ sf_tbl := sf_in (List.mem_append_right _ (List.mem_of_getElem? (i := 639) (by decide +kernel))) rfl
theorem tm_640 : (Jvm.Cond.selects "SaddleFit" ({ cls := "SaddleFit", name := "when", desc := "(I)I" } : Jvm.MethodName) ({ cls := "SaddleFit", name := "when", desc := "(I)I" } : Jvm.MethodName)) ∈ sf_tbl := sf_in (List.mem_append_right _ (List.mem_of_getElem? (i := 640) (by decide +kernel))) rfl
set_option maxRecDepth 100000 in
theorem tm_641 : (Jvm.Cond.code ({ cls := "SaddleFit", name := "when", desc := "(I)I" } : Jvm.MethodName) prog_1_method_18_code (2 : Nat) (Option.some Jvm.ClassFile.FieldType.int)) ∈ sf_tbl := sf_in (List.mem_append_right _ (List.mem_of_getElem? (i := 641) rfl)) rfl
theorem tm_1167 : (Jvm.Cond.methodLink "SaddleFitLaw" (84 : Nat) ({ cls := "SaddleFitModel", name := "when", desc := "(I)I" } : Jvm.MethodName)) ∈ sf_tbl := sf_in (List.mem_append_right _ (List.mem_of_getElem? (i := 1167) (by decide +kernel))) rfl
theorem tm_1168 : (Jvm.Cond.instanceMethod ({ cls := "SaddleFitModel", name := "when", desc := "(I)I" } : Jvm.MethodName)) ∈ sf_tbl := sf_in (List.mem_append_right _ (List.mem_of_getElem? (i := 1168) (by decide +kernel))) rfl
theorem tm_1169 : (Jvm.Cond.selects "SaddleFitModel" ({ cls := "SaddleFitModel", name := "when", desc := "(I)I" } : Jvm.MethodName) ({ cls := "SaddleFitModel", name := "when", desc := "(I)I" } : Jvm.MethodName)) ∈ sf_tbl := sf_in (List.mem_append_right _ (List.mem_of_getElem? (i := 1169) (by decide +kernel))) rfl
set_option maxRecDepth 100000 in
theorem tm_1170 : (Jvm.Cond.code ({ cls := "SaddleFitModel", name := "when", desc := "(I)I" } : Jvm.MethodName) prog_12_method_58_code (4 : Nat) (Option.some Jvm.ClassFile.FieldType.int)) ∈ sf_tbl := sf_in (List.mem_append_right _ (List.mem_of_getElem? (i := 1170) rfl)) rfl
theorem tm_646 : (Jvm.Cond.methodLink "SaddleFitLaw" (85 : Nat) ({ cls := "SaddleFit", name := "worst", desc := "(II)I" } : Jvm.MethodName)) ∈ sf_tbl := sf_in (List.mem_append_right _ (List.mem_of_getElem? (i := 646) (by decide +kernel))) rfl
theorem tm_647 : (Jvm.Cond.instanceMethod ({ cls := "SaddleFit", name := "worst", desc := "(II)I" } : Jvm.MethodName)) ∈ sf_tbl := sf_in (List.mem_append_right _ (List.mem_of_getElem? (i := 647) (by decide +kernel))) rfl
theorem tm_648 : (Jvm.Cond.selects "SaddleFit" ({ cls := "SaddleFit", name := "worst", desc := "(II)I" } : Jvm.MethodName) ({ cls := "SaddleFit", name := "worst", desc := "(II)I" } : Jvm.MethodName)) ∈ sf_tbl := sf_in (List.mem_append_right _ (List.mem_of_getElem? (i := 648) (by decide +kernel))) rfl
set_option maxRecDepth 100000 in
theorem tm_649 : (Jvm.Cond.code ({ cls := "SaddleFit", name := "worst", desc := "(II)I" } : Jvm.MethodName) prog_1_method_19_code (4 : Nat) (Option.some Jvm.ClassFile.FieldType.int)) ∈ sf_tbl := sf_in (List.mem_append_right _ (List.mem_of_getElem? (i := 649) rfl)) rfl
theorem tm_1171 : (Jvm.Cond.methodLink "SaddleFitLaw" (88 : Nat) ({ cls := "SaddleFitModel", name := "worst", desc := "(II)I" } : Jvm.MethodName)) ∈ sf_tbl := sf_in (List.mem_append_right _ (List.mem_of_getElem? (i := 1171) (by decide +kernel))) rfl
theorem tm_1172 : (Jvm.Cond.instanceMethod ({ cls := "SaddleFitModel", name := "worst", desc := "(II)I" } : Jvm.MethodName)) ∈ sf_tbl := sf_in (List.mem_append_right _ (List.mem_of_getElem? (i := 1172) (by decide +kernel))) rfl
theorem tm_1173 : (Jvm.Cond.selects "SaddleFitModel" ({ cls := "SaddleFitModel", name := "worst", desc := "(II)I" } : Jvm.MethodName) ({ cls := "SaddleFitModel", name := "worst", desc := "(II)I" } : Jvm.MethodName)) ∈ sf_tbl := sf_in (List.mem_append_right _ (List.mem_of_getElem? (i := 1173) (by decide +kernel))) rfl
set_option maxRecDepth 100000 in
theorem tm_1174 : (Jvm.Cond.code ({ cls := "SaddleFitModel", name := "worst", desc := "(II)I" } : Jvm.MethodName) prog_12_method_59_code (7 : Nat) (Option.some Jvm.ClassFile.FieldType.int)) ∈ sf_tbl := sf_in (List.mem_append_right _ (List.mem_of_getElem? (i := 1174) rfl)) rfl
theorem tm_655 : (Jvm.Cond.methodLink "SaddleFitLaw" (89 : Nat) ({ cls := "SaddleFit", name := "fit", desc := "(I)I" } : Jvm.MethodName)) ∈ sf_tbl := sf_in (List.mem_append_right _ (List.mem_of_getElem? (i := 655) (by decide +kernel))) rfl
theorem tm_656 : (Jvm.Cond.instanceMethod ({ cls := "SaddleFit", name := "fit", desc := "(I)I" } : Jvm.MethodName)) ∈ sf_tbl := sf_in (List.mem_append_right _ (List.mem_of_getElem? (i := 656) (by decide +kernel))) rfl
theorem tm_657 : (Jvm.Cond.selects "SaddleFit" ({ cls := "SaddleFit", name := "fit", desc := "(I)I" } : Jvm.MethodName) ({ cls := "SaddleFit", name := "fit", desc := "(I)I" } : Jvm.MethodName)) ∈ sf_tbl := sf_in (List.mem_append_right _ (List.mem_of_getElem? (i := 657) (by decide +kernel))) rfl
set_option maxRecDepth 100000 in
theorem tm_658 : (Jvm.Cond.code ({ cls := "SaddleFit", name := "fit", desc := "(I)I" } : Jvm.MethodName) prog_1_method_20_code (2 : Nat) (Option.some Jvm.ClassFile.FieldType.int)) ∈ sf_tbl := sf_in (List.mem_append_right _ (List.mem_of_getElem? (i := 658) rfl)) rfl
theorem tm_1175 : (Jvm.Cond.methodLink "SaddleFitLaw" (92 : Nat) ({ cls := "SaddleFitModel", name := "fit", desc := "(I)I" } : Jvm.MethodName)) ∈ sf_tbl := sf_in (List.mem_append_right _ (List.mem_of_getElem? (i := 1175) (by decide +kernel))) rfl
theorem tm_1176 : (Jvm.Cond.instanceMethod ({ cls := "SaddleFitModel", name := "fit", desc := "(I)I" } : Jvm.MethodName)) ∈ sf_tbl := sf_in (List.mem_append_right _ (List.mem_of_getElem? (i := 1176) (by decide +kernel))) rfl
theorem tm_1177 : (Jvm.Cond.selects "SaddleFitModel" ({ cls := "SaddleFitModel", name := "fit", desc := "(I)I" } : Jvm.MethodName) ({ cls := "SaddleFitModel", name := "fit", desc := "(I)I" } : Jvm.MethodName)) ∈ sf_tbl := sf_in (List.mem_append_right _ (List.mem_of_getElem? (i := 1177) (by decide +kernel))) rfl
set_option maxRecDepth 100000 in
theorem tm_1178 : (Jvm.Cond.code ({ cls := "SaddleFitModel", name := "fit", desc := "(I)I" } : Jvm.MethodName) prog_12_method_63_code (2 : Nat) (Option.some Jvm.ClassFile.FieldType.int)) ∈ sf_tbl := sf_in (List.mem_append_right _ (List.mem_of_getElem? (i := 1178) rfl)) rfl
theorem tm_681 : (Jvm.Cond.methodLink "SaddleFitLaw" (93 : Nat) ({ cls := "SaddleFit", name := "byTwo", desc := "(II)I" } : Jvm.MethodName)) ∈ sf_tbl := sf_in (List.mem_append_right _ (List.mem_of_getElem? (i := 681) (by decide +kernel))) rfl
theorem tm_682 : (Jvm.Cond.instanceMethod ({ cls := "SaddleFit", name := "byTwo", desc := "(II)I" } : Jvm.MethodName)) ∈ sf_tbl := sf_in (List.mem_append_right _ (List.mem_of_getElem? (i := 682) (by decide +kernel))) rfl
theorem tm_683 : (Jvm.Cond.selects "SaddleFit" ({ cls := "SaddleFit", name := "byTwo", desc := "(II)I" } : Jvm.MethodName) ({ cls := "SaddleFit", name := "byTwo", desc := "(II)I" } : Jvm.MethodName)) ∈ sf_tbl := sf_in (List.mem_append_right _ (List.mem_of_getElem? (i := 683) (by decide +kernel))) rfl
set_option maxRecDepth 100000 in
theorem tm_684 : (Jvm.Cond.code ({ cls := "SaddleFit", name := "byTwo", desc := "(II)I" } : Jvm.MethodName) prog_1_method_21_code (3 : Nat) (Option.some Jvm.ClassFile.FieldType.int)) ∈ sf_tbl := sf_in (List.mem_append_right _ (List.mem_of_getElem? (i := 684) rfl)) rfl
theorem tm_1191 : (Jvm.Cond.methodLink "SaddleFitLaw" (96 : Nat) ({ cls := "SaddleFitModel", name := "byTwo", desc := "(II)I" } : Jvm.MethodName)) ∈ sf_tbl := sf_in (List.mem_append_right _ (List.mem_of_getElem? (i := 1191) (by decide +kernel))) rfl
theorem tm_1192 : (Jvm.Cond.instanceMethod ({ cls := "SaddleFitModel", name := "byTwo", desc := "(II)I" } : Jvm.MethodName)) ∈ sf_tbl := sf_in (List.mem_append_right _ (List.mem_of_getElem? (i := 1192) (by decide +kernel))) rfl
theorem tm_1193 : (Jvm.Cond.selects "SaddleFitModel" ({ cls := "SaddleFitModel", name := "byTwo", desc := "(II)I" } : Jvm.MethodName) ({ cls := "SaddleFitModel", name := "byTwo", desc := "(II)I" } : Jvm.MethodName)) ∈ sf_tbl := sf_in (List.mem_append_right _ (List.mem_of_getElem? (i := 1193) (by decide +kernel))) rfl
set_option maxRecDepth 100000 in
theorem tm_1194 : (Jvm.Cond.code ({ cls := "SaddleFitModel", name := "byTwo", desc := "(II)I" } : Jvm.MethodName) prog_12_method_64_code (10 : Nat) (Option.some Jvm.ClassFile.FieldType.int)) ∈ sf_tbl := sf_in (List.mem_append_right _ (List.mem_of_getElem? (i := 1194) rfl)) rfl
theorem tm_689 : (Jvm.Cond.methodLink "SaddleFitLaw" (97 : Nat) ({ cls := "SaddleFit", name := "order", desc := "(II)I" } : Jvm.MethodName)) ∈ sf_tbl := sf_in (List.mem_append_right _ (List.mem_of_getElem? (i := 689) (by decide +kernel))) rfl
theorem tm_690 : (Jvm.Cond.instanceMethod ({ cls := "SaddleFit", name := "order", desc := "(II)I" } : Jvm.MethodName)) ∈ sf_tbl := sf_in (List.mem_append_right _ (List.mem_of_getElem? (i := 690) (by decide +kernel))) rfl
theorem tm_691 : (Jvm.Cond.selects "SaddleFit" ({ cls := "SaddleFit", name := "order", desc := "(II)I" } : Jvm.MethodName) ({ cls := "SaddleFit", name := "order", desc := "(II)I" } : Jvm.MethodName)) ∈ sf_tbl := sf_in (List.mem_append_right _ (List.mem_of_getElem? (i := 691) (by decide +kernel))) rfl
set_option maxRecDepth 100000 in
theorem tm_692 : (Jvm.Cond.code ({ cls := "SaddleFit", name := "order", desc := "(II)I" } : Jvm.MethodName) prog_1_method_22_code (3 : Nat) (Option.some Jvm.ClassFile.FieldType.int)) ∈ sf_tbl := sf_in (List.mem_append_right _ (List.mem_of_getElem? (i := 692) rfl)) rfl
theorem tm_1195 : (Jvm.Cond.methodLink "SaddleFitLaw" (100 : Nat) ({ cls := "SaddleFitModel", name := "order", desc := "(II)I" } : Jvm.MethodName)) ∈ sf_tbl := sf_in (List.mem_append_right _ (List.mem_of_getElem? (i := 1195) (by decide +kernel))) rfl
theorem tm_1196 : (Jvm.Cond.instanceMethod ({ cls := "SaddleFitModel", name := "order", desc := "(II)I" } : Jvm.MethodName)) ∈ sf_tbl := sf_in (List.mem_append_right _ (List.mem_of_getElem? (i := 1196) (by decide +kernel))) rfl
theorem tm_1197 : (Jvm.Cond.selects "SaddleFitModel" ({ cls := "SaddleFitModel", name := "order", desc := "(II)I" } : Jvm.MethodName) ({ cls := "SaddleFitModel", name := "order", desc := "(II)I" } : Jvm.MethodName)) ∈ sf_tbl := sf_in (List.mem_append_right _ (List.mem_of_getElem? (i := 1197) (by decide +kernel))) rfl
set_option maxRecDepth 100000 in
theorem tm_1198 : (Jvm.Cond.code ({ cls := "SaddleFitModel", name := "order", desc := "(II)I" } : Jvm.MethodName) prog_12_method_66_code (10 : Nat) (Option.some Jvm.ClassFile.FieldType.int)) ∈ sf_tbl := sf_in (List.mem_append_right _ (List.mem_of_getElem? (i := 1198) rfl)) rfl
theorem tm_705 : (Jvm.Cond.methodLink "SaddleFitLaw" (101 : Nat) ({ cls := "SaddleFit", name := "could", desc := "(I)I" } : Jvm.MethodName)) ∈ sf_tbl := sf_in (List.mem_append_right _ (List.mem_of_getElem? (i := 705) (by decide +kernel))) rfl
theorem tm_706 : (Jvm.Cond.instanceMethod ({ cls := "SaddleFit", name := "could", desc := "(I)I" } : Jvm.MethodName)) ∈ sf_tbl := sf_in (List.mem_append_right _ (List.mem_of_getElem? (i := 706) (by decide +kernel))) rfl
theorem tm_707 : (Jvm.Cond.selects "SaddleFit" ({ cls := "SaddleFit", name := "could", desc := "(I)I" } : Jvm.MethodName) ({ cls := "SaddleFit", name := "could", desc := "(I)I" } : Jvm.MethodName)) ∈ sf_tbl := sf_in (List.mem_append_right _ (List.mem_of_getElem? (i := 707) (by decide +kernel))) rfl
set_option maxRecDepth 100000 in
theorem tm_708 : (Jvm.Cond.code ({ cls := "SaddleFit", name := "could", desc := "(I)I" } : Jvm.MethodName) prog_1_method_23_code (2 : Nat) (Option.some Jvm.ClassFile.FieldType.int)) ∈ sf_tbl := sf_in (List.mem_append_right _ (List.mem_of_getElem? (i := 708) rfl)) rfl
theorem tm_1203 : (Jvm.Cond.methodLink "SaddleFitLaw" (104 : Nat) ({ cls := "SaddleFitModel", name := "could", desc := "(I)I" } : Jvm.MethodName)) ∈ sf_tbl := sf_in (List.mem_append_right _ (List.mem_of_getElem? (i := 1203) (by decide +kernel))) rfl
theorem tm_1204 : (Jvm.Cond.instanceMethod ({ cls := "SaddleFitModel", name := "could", desc := "(I)I" } : Jvm.MethodName)) ∈ sf_tbl := sf_in (List.mem_append_right _ (List.mem_of_getElem? (i := 1204) (by decide +kernel))) rfl
theorem tm_1205 : (Jvm.Cond.selects "SaddleFitModel" ({ cls := "SaddleFitModel", name := "could", desc := "(I)I" } : Jvm.MethodName) ({ cls := "SaddleFitModel", name := "could", desc := "(I)I" } : Jvm.MethodName)) ∈ sf_tbl := sf_in (List.mem_append_right _ (List.mem_of_getElem? (i := 1205) (by decide +kernel))) rfl
set_option maxRecDepth 100000 in
theorem tm_1206 : (Jvm.Cond.code ({ cls := "SaddleFitModel", name := "could", desc := "(I)I" } : Jvm.MethodName) prog_12_method_67_code (5 : Nat) (Option.some Jvm.ClassFile.FieldType.int)) ∈ sf_tbl := sf_in (List.mem_append_right _ (List.mem_of_getElem? (i := 1206) rfl)) rfl
theorem tm_713 : (Jvm.Cond.methodLink "SaddleFitLaw" (105 : Nat) ({ cls := "SaddleFit", name := "shareOf", desc := "(III)I" } : Jvm.MethodName)) ∈ sf_tbl := sf_in (List.mem_append_right _ (List.mem_of_getElem? (i := 713) (by decide +kernel))) rfl
theorem tm_714 : (Jvm.Cond.instanceMethod ({ cls := "SaddleFit", name := "shareOf", desc := "(III)I" } : Jvm.MethodName)) ∈ sf_tbl := sf_in (List.mem_append_right _ (List.mem_of_getElem? (i := 714) (by decide +kernel))) rfl
theorem tm_715 : (Jvm.Cond.selects "SaddleFit" ({ cls := "SaddleFit", name := "shareOf", desc := "(III)I" } : Jvm.MethodName) ({ cls := "SaddleFit", name := "shareOf", desc := "(III)I" } : Jvm.MethodName)) ∈ sf_tbl := sf_in (List.mem_append_right _ (List.mem_of_getElem? (i := 715) (by decide +kernel))) rfl
set_option maxRecDepth 100000 in
theorem tm_716 : (Jvm.Cond.code ({ cls := "SaddleFit", name := "shareOf", desc := "(III)I" } : Jvm.MethodName) prog_1_method_24_code (5 : Nat) (Option.some Jvm.ClassFile.FieldType.int)) ∈ sf_tbl := sf_in (List.mem_append_right _ (List.mem_of_getElem? (i := 716) rfl)) rfl
theorem tm_1207 : (Jvm.Cond.methodLink "SaddleFitLaw" (108 : Nat) ({ cls := "SaddleFitModel", name := "shareOf", desc := "(III)I" } : Jvm.MethodName)) ∈ sf_tbl := sf_in (List.mem_append_right _ (List.mem_of_getElem? (i := 1207) (by decide +kernel))) rfl
theorem tm_1208 : (Jvm.Cond.instanceMethod ({ cls := "SaddleFitModel", name := "shareOf", desc := "(III)I" } : Jvm.MethodName)) ∈ sf_tbl := sf_in (List.mem_append_right _ (List.mem_of_getElem? (i := 1208) (by decide +kernel))) rfl
theorem tm_1209 : (Jvm.Cond.selects "SaddleFitModel" ({ cls := "SaddleFitModel", name := "shareOf", desc := "(III)I" } : Jvm.MethodName) ({ cls := "SaddleFitModel", name := "shareOf", desc := "(III)I" } : Jvm.MethodName)) ∈ sf_tbl := sf_in (List.mem_append_right _ (List.mem_of_getElem? (i := 1209) (by decide +kernel))) rfl
set_option maxRecDepth 100000 in
theorem tm_1210 : (Jvm.Cond.code ({ cls := "SaddleFitModel", name := "shareOf", desc := "(III)I" } : Jvm.MethodName) prog_12_method_68_code (4 : Nat) (Option.some Jvm.ClassFile.FieldType.int)) ∈ sf_tbl := sf_in (List.mem_append_right _ (List.mem_of_getElem? (i := 1210) rfl)) rfl
theorem tm_717 : (Jvm.Cond.methodLink "SaddleFitLaw" (109 : Nat) ({ cls := "SaddleFit", name := "fair", desc := "(II)I" } : Jvm.MethodName)) ∈ sf_tbl := sf_in (List.mem_append_right _ (List.mem_of_getElem? (i := 717) (by decide +kernel))) rfl
theorem tm_718 : (Jvm.Cond.instanceMethod ({ cls := "SaddleFit", name := "fair", desc := "(II)I" } : Jvm.MethodName)) ∈ sf_tbl := sf_in (List.mem_append_right _ (List.mem_of_getElem? (i := 718) (by decide +kernel))) rfl
theorem tm_719 : (Jvm.Cond.selects "SaddleFit" ({ cls := "SaddleFit", name := "fair", desc := "(II)I" } : Jvm.MethodName) ({ cls := "SaddleFit", name := "fair", desc := "(II)I" } : Jvm.MethodName)) ∈ sf_tbl := sf_in (List.mem_append_right _ (List.mem_of_getElem? (i := 719) (by decide +kernel))) rfl
set_option maxRecDepth 100000 in
theorem tm_720 : (Jvm.Cond.code ({ cls := "SaddleFit", name := "fair", desc := "(II)I" } : Jvm.MethodName) prog_1_method_25_code (6 : Nat) (Option.some Jvm.ClassFile.FieldType.int)) ∈ sf_tbl := sf_in (List.mem_append_right _ (List.mem_of_getElem? (i := 720) rfl)) rfl
theorem tm_1211 : (Jvm.Cond.methodLink "SaddleFitLaw" (112 : Nat) ({ cls := "SaddleFitModel", name := "fair", desc := "(II)I" } : Jvm.MethodName)) ∈ sf_tbl := sf_in (List.mem_append_right _ (List.mem_of_getElem? (i := 1211) (by decide +kernel))) rfl
theorem tm_1212 : (Jvm.Cond.instanceMethod ({ cls := "SaddleFitModel", name := "fair", desc := "(II)I" } : Jvm.MethodName)) ∈ sf_tbl := sf_in (List.mem_append_right _ (List.mem_of_getElem? (i := 1212) (by decide +kernel))) rfl
theorem tm_1213 : (Jvm.Cond.selects "SaddleFitModel" ({ cls := "SaddleFitModel", name := "fair", desc := "(II)I" } : Jvm.MethodName) ({ cls := "SaddleFitModel", name := "fair", desc := "(II)I" } : Jvm.MethodName)) ∈ sf_tbl := sf_in (List.mem_append_right _ (List.mem_of_getElem? (i := 1213) (by decide +kernel))) rfl
set_option maxRecDepth 100000 in
theorem tm_1214 : (Jvm.Cond.code ({ cls := "SaddleFitModel", name := "fair", desc := "(II)I" } : Jvm.MethodName) prog_12_method_69_code (6 : Nat) (Option.some Jvm.ClassFile.FieldType.int)) ∈ sf_tbl := sf_in (List.mem_append_right _ (List.mem_of_getElem? (i := 1214) rfl)) rfl
theorem tm_723 : (Jvm.Cond.methodLink "SaddleFitLaw" (113 : Nat) ({ cls := "SaddleFit", name := "feel", desc := "(III)I" } : Jvm.MethodName)) ∈ sf_tbl := sf_in (List.mem_append_right _ (List.mem_of_getElem? (i := 723) (by decide +kernel))) rfl
theorem tm_724 : (Jvm.Cond.instanceMethod ({ cls := "SaddleFit", name := "feel", desc := "(III)I" } : Jvm.MethodName)) ∈ sf_tbl := sf_in (List.mem_append_right _ (List.mem_of_getElem? (i := 724) (by decide +kernel))) rfl
theorem tm_725 : (Jvm.Cond.selects "SaddleFit" ({ cls := "SaddleFit", name := "feel", desc := "(III)I" } : Jvm.MethodName) ({ cls := "SaddleFit", name := "feel", desc := "(III)I" } : Jvm.MethodName)) ∈ sf_tbl := sf_in (List.mem_append_right _ (List.mem_of_getElem? (i := 725) (by decide +kernel))) rfl
set_option maxRecDepth 100000 in
theorem tm_726 : (Jvm.Cond.code ({ cls := "SaddleFit", name := "feel", desc := "(III)I" } : Jvm.MethodName) prog_1_method_26_code (4 : Nat) (Option.some Jvm.ClassFile.FieldType.int)) ∈ sf_tbl := sf_in (List.mem_append_right _ (List.mem_of_getElem? (i := 726) rfl)) rfl
theorem tm_1217 : (Jvm.Cond.methodLink "SaddleFitLaw" (116 : Nat) ({ cls := "SaddleFitModel", name := "feel", desc := "(III)I" } : Jvm.MethodName)) ∈ sf_tbl := sf_in (List.mem_append_right _ (List.mem_of_getElem? (i := 1217) (by decide +kernel))) rfl
theorem tm_1218 : (Jvm.Cond.instanceMethod ({ cls := "SaddleFitModel", name := "feel", desc := "(III)I" } : Jvm.MethodName)) ∈ sf_tbl := sf_in (List.mem_append_right _ (List.mem_of_getElem? (i := 1218) (by decide +kernel))) rfl
theorem tm_1219 : (Jvm.Cond.selects "SaddleFitModel" ({ cls := "SaddleFitModel", name := "feel", desc := "(III)I" } : Jvm.MethodName) ({ cls := "SaddleFitModel", name := "feel", desc := "(III)I" } : Jvm.MethodName)) ∈ sf_tbl := sf_in (List.mem_append_right _ (List.mem_of_getElem? (i := 1219) (by decide +kernel))) rfl
set_option maxRecDepth 100000 in
theorem tm_1220 : (Jvm.Cond.code ({ cls := "SaddleFitModel", name := "feel", desc := "(III)I" } : Jvm.MethodName) prog_12_method_70_code (4 : Nat) (Option.some Jvm.ClassFile.FieldType.int)) ∈ sf_tbl := sf_in (List.mem_append_right _ (List.mem_of_getElem? (i := 1220) rfl)) rfl
theorem tm_731 : (Jvm.Cond.methodLink "SaddleFitLaw" (117 : Nat) ({ cls := "SaddleFit", name := "carries", desc := "(I)I" } : Jvm.MethodName)) ∈ sf_tbl := sf_in (List.mem_append_right _ (List.mem_of_getElem? (i := 731) (by decide +kernel))) rfl
theorem tm_732 : (Jvm.Cond.instanceMethod ({ cls := "SaddleFit", name := "carries", desc := "(I)I" } : Jvm.MethodName)) ∈ sf_tbl := sf_in (List.mem_append_right _ (List.mem_of_getElem? (i := 732) (by decide +kernel))) rfl
theorem tm_733 : (Jvm.Cond.selects "SaddleFit" ({ cls := "SaddleFit", name := "carries", desc := "(I)I" } : Jvm.MethodName) ({ cls := "SaddleFit", name := "carries", desc := "(I)I" } : Jvm.MethodName)) ∈ sf_tbl := sf_in (List.mem_append_right _ (List.mem_of_getElem? (i := 733) (by decide +kernel))) rfl
set_option maxRecDepth 100000 in
theorem tm_734 : (Jvm.Cond.code ({ cls := "SaddleFit", name := "carries", desc := "(I)I" } : Jvm.MethodName) prog_1_method_27_code (2 : Nat) (Option.some Jvm.ClassFile.FieldType.int)) ∈ sf_tbl := sf_in (List.mem_append_right _ (List.mem_of_getElem? (i := 734) rfl)) rfl
theorem tm_1222 : (Jvm.Cond.methodLink "SaddleFitLaw" (120 : Nat) ({ cls := "SaddleFitModel", name := "carries", desc := "(I)I" } : Jvm.MethodName)) ∈ sf_tbl := sf_in (List.mem_append_right _ (List.mem_of_getElem? (i := 1222) (by decide +kernel))) rfl
theorem tm_754 : (Jvm.Cond.methodLink "SaddleFitLaw" (121 : Nat) ({ cls := "SaddleFit", name := "tryNext", desc := "()I" } : Jvm.MethodName)) ∈ sf_tbl := sf_in (List.mem_append_right _ (List.mem_of_getElem? (i := 754) (by decide +kernel))) rfl
theorem tm_755 : (Jvm.Cond.instanceMethod ({ cls := "SaddleFit", name := "tryNext", desc := "()I" } : Jvm.MethodName)) ∈ sf_tbl := sf_in (List.mem_append_right _ (List.mem_of_getElem? (i := 755) (by decide +kernel))) rfl
theorem tm_756 : (Jvm.Cond.selects "SaddleFit" ({ cls := "SaddleFit", name := "tryNext", desc := "()I" } : Jvm.MethodName) ({ cls := "SaddleFit", name := "tryNext", desc := "()I" } : Jvm.MethodName)) ∈ sf_tbl := sf_in (List.mem_append_right _ (List.mem_of_getElem? (i := 756) (by decide +kernel))) rfl
set_option maxRecDepth 100000 in
theorem tm_757 : (Jvm.Cond.code ({ cls := "SaddleFit", name := "tryNext", desc := "()I" } : Jvm.MethodName) prog_1_method_28_code (1 : Nat) (Option.some Jvm.ClassFile.FieldType.int)) ∈ sf_tbl := sf_in (List.mem_append_right _ (List.mem_of_getElem? (i := 757) rfl)) rfl
theorem tm_1234 : (Jvm.Cond.methodLink "SaddleFitLaw" (124 : Nat) ({ cls := "SaddleFitModel", name := "tryNext", desc := "()I" } : Jvm.MethodName)) ∈ sf_tbl := sf_in (List.mem_append_right _ (List.mem_of_getElem? (i := 1234) (by decide +kernel))) rfl
theorem tm_1235 : (Jvm.Cond.instanceMethod ({ cls := "SaddleFitModel", name := "tryNext", desc := "()I" } : Jvm.MethodName)) ∈ sf_tbl := sf_in (List.mem_append_right _ (List.mem_of_getElem? (i := 1235) (by decide +kernel))) rfl
theorem tm_1236 : (Jvm.Cond.selects "SaddleFitModel" ({ cls := "SaddleFitModel", name := "tryNext", desc := "()I" } : Jvm.MethodName) ({ cls := "SaddleFitModel", name := "tryNext", desc := "()I" } : Jvm.MethodName)) ∈ sf_tbl := sf_in (List.mem_append_right _ (List.mem_of_getElem? (i := 1236) (by decide +kernel))) rfl
set_option maxRecDepth 100000 in
theorem tm_1237 : (Jvm.Cond.code ({ cls := "SaddleFitModel", name := "tryNext", desc := "()I" } : Jvm.MethodName) prog_12_method_75_code (5 : Nat) (Option.some Jvm.ClassFile.FieldType.int)) ∈ sf_tbl := sf_in (List.mem_append_right _ (List.mem_of_getElem? (i := 1237) rfl)) rfl
theorem tm_766 : (Jvm.Cond.methodLink "SaddleFitLaw" (125 : Nat) ({ cls := "SaddleFit", name := "write", desc := "(II)I" } : Jvm.MethodName)) ∈ sf_tbl := sf_in (List.mem_append_right _ (List.mem_of_getElem? (i := 766) (by decide +kernel))) rfl
theorem tm_767 : (Jvm.Cond.instanceMethod ({ cls := "SaddleFit", name := "write", desc := "(II)I" } : Jvm.MethodName)) ∈ sf_tbl := sf_in (List.mem_append_right _ (List.mem_of_getElem? (i := 767) (by decide +kernel))) rfl
theorem tm_768 : (Jvm.Cond.selects "SaddleFit" ({ cls := "SaddleFit", name := "write", desc := "(II)I" } : Jvm.MethodName) ({ cls := "SaddleFit", name := "write", desc := "(II)I" } : Jvm.MethodName)) ∈ sf_tbl := sf_in (List.mem_append_right _ (List.mem_of_getElem? (i := 768) (by decide +kernel))) rfl
set_option maxRecDepth 100000 in
theorem tm_769 : (Jvm.Cond.code ({ cls := "SaddleFit", name := "write", desc := "(II)I" } : Jvm.MethodName) prog_1_method_29_code (3 : Nat) (Option.some Jvm.ClassFile.FieldType.int)) ∈ sf_tbl := sf_in (List.mem_append_right _ (List.mem_of_getElem? (i := 769) rfl)) rfl
theorem tm_1243 : (Jvm.Cond.methodLink "SaddleFitLaw" (128 : Nat) ({ cls := "SaddleFitModel", name := "write", desc := "(II)I" } : Jvm.MethodName)) ∈ sf_tbl := sf_in (List.mem_append_right _ (List.mem_of_getElem? (i := 1243) (by decide +kernel))) rfl
theorem tm_1244 : (Jvm.Cond.instanceMethod ({ cls := "SaddleFitModel", name := "write", desc := "(II)I" } : Jvm.MethodName)) ∈ sf_tbl := sf_in (List.mem_append_right _ (List.mem_of_getElem? (i := 1244) (by decide +kernel))) rfl
theorem tm_1245 : (Jvm.Cond.selects "SaddleFitModel" ({ cls := "SaddleFitModel", name := "write", desc := "(II)I" } : Jvm.MethodName) ({ cls := "SaddleFitModel", name := "write", desc := "(II)I" } : Jvm.MethodName)) ∈ sf_tbl := sf_in (List.mem_append_right _ (List.mem_of_getElem? (i := 1245) (by decide +kernel))) rfl
set_option maxRecDepth 100000 in
theorem tm_1246 : (Jvm.Cond.code ({ cls := "SaddleFitModel", name := "write", desc := "(II)I" } : Jvm.MethodName) prog_12_method_76_code (3 : Nat) (Option.some Jvm.ClassFile.FieldType.int)) ∈ sf_tbl := sf_in (List.mem_append_right _ (List.mem_of_getElem? (i := 1246) rfl)) rfl
theorem tm_774 : (Jvm.Cond.methodLink "SaddleFitLaw" (129 : Nat) ({ cls := "SaddleFit", name := "tear", desc := "()I" } : Jvm.MethodName)) ∈ sf_tbl := sf_in (List.mem_append_right _ (List.mem_of_getElem? (i := 774) (by decide +kernel))) rfl
theorem tm_775 : (Jvm.Cond.instanceMethod ({ cls := "SaddleFit", name := "tear", desc := "()I" } : Jvm.MethodName)) ∈ sf_tbl := sf_in (List.mem_append_right _ (List.mem_of_getElem? (i := 775) (by decide +kernel))) rfl
theorem tm_776 : (Jvm.Cond.selects "SaddleFit" ({ cls := "SaddleFit", name := "tear", desc := "()I" } : Jvm.MethodName) ({ cls := "SaddleFit", name := "tear", desc := "()I" } : Jvm.MethodName)) ∈ sf_tbl := sf_in (List.mem_append_right _ (List.mem_of_getElem? (i := 776) (by decide +kernel))) rfl
set_option maxRecDepth 100000 in
theorem tm_777 : (Jvm.Cond.code ({ cls := "SaddleFit", name := "tear", desc := "()I" } : Jvm.MethodName) prog_1_method_30_code (2 : Nat) (Option.some Jvm.ClassFile.FieldType.int)) ∈ sf_tbl := sf_in (List.mem_append_right _ (List.mem_of_getElem? (i := 777) rfl)) rfl
theorem tm_1248 : (Jvm.Cond.methodLink "SaddleFitLaw" (132 : Nat) ({ cls := "SaddleFitModel", name := "tear", desc := "()I" } : Jvm.MethodName)) ∈ sf_tbl := sf_in (List.mem_append_right _ (List.mem_of_getElem? (i := 1248) (by decide +kernel))) rfl
theorem tm_1249 : (Jvm.Cond.instanceMethod ({ cls := "SaddleFitModel", name := "tear", desc := "()I" } : Jvm.MethodName)) ∈ sf_tbl := sf_in (List.mem_append_right _ (List.mem_of_getElem? (i := 1249) (by decide +kernel))) rfl
theorem tm_1250 : (Jvm.Cond.selects "SaddleFitModel" ({ cls := "SaddleFitModel", name := "tear", desc := "()I" } : Jvm.MethodName) ({ cls := "SaddleFitModel", name := "tear", desc := "()I" } : Jvm.MethodName)) ∈ sf_tbl := sf_in (List.mem_append_right _ (List.mem_of_getElem? (i := 1250) (by decide +kernel))) rfl
set_option maxRecDepth 100000 in
theorem tm_1251 : (Jvm.Cond.code ({ cls := "SaddleFitModel", name := "tear", desc := "()I" } : Jvm.MethodName) prog_12_method_77_code (2 : Nat) (Option.some Jvm.ClassFile.FieldType.int)) ∈ sf_tbl := sf_in (List.mem_append_right _ (List.mem_of_getElem? (i := 1251) rfl)) rfl
theorem tm_778 : (Jvm.Cond.methodLink "SaddleFitLaw" (133 : Nat) ({ cls := "SaddleFit", name := "judge", desc := "()I" } : Jvm.MethodName)) ∈ sf_tbl := sf_in (List.mem_append_right _ (List.mem_of_getElem? (i := 778) (by decide +kernel))) rfl
theorem tm_779 : (Jvm.Cond.instanceMethod ({ cls := "SaddleFit", name := "judge", desc := "()I" } : Jvm.MethodName)) ∈ sf_tbl := sf_in (List.mem_append_right _ (List.mem_of_getElem? (i := 779) (by decide +kernel))) rfl
theorem tm_780 : (Jvm.Cond.selects "SaddleFit" ({ cls := "SaddleFit", name := "judge", desc := "()I" } : Jvm.MethodName) ({ cls := "SaddleFit", name := "judge", desc := "()I" } : Jvm.MethodName)) ∈ sf_tbl := sf_in (List.mem_append_right _ (List.mem_of_getElem? (i := 780) (by decide +kernel))) rfl
set_option maxRecDepth 100000 in
theorem tm_781 : (Jvm.Cond.code ({ cls := "SaddleFit", name := "judge", desc := "()I" } : Jvm.MethodName) prog_1_method_31_code (1 : Nat) (Option.some Jvm.ClassFile.FieldType.int)) ∈ sf_tbl := sf_in (List.mem_append_right _ (List.mem_of_getElem? (i := 781) rfl)) rfl
theorem tm_1252 : (Jvm.Cond.methodLink "SaddleFitLaw" (136 : Nat) ({ cls := "SaddleFitModel", name := "judge", desc := "()I" } : Jvm.MethodName)) ∈ sf_tbl := sf_in (List.mem_append_right _ (List.mem_of_getElem? (i := 1252) (by decide +kernel))) rfl
theorem tm_1253 : (Jvm.Cond.instanceMethod ({ cls := "SaddleFitModel", name := "judge", desc := "()I" } : Jvm.MethodName)) ∈ sf_tbl := sf_in (List.mem_append_right _ (List.mem_of_getElem? (i := 1253) (by decide +kernel))) rfl
theorem tm_1254 : (Jvm.Cond.selects "SaddleFitModel" ({ cls := "SaddleFitModel", name := "judge", desc := "()I" } : Jvm.MethodName) ({ cls := "SaddleFitModel", name := "judge", desc := "()I" } : Jvm.MethodName)) ∈ sf_tbl := sf_in (List.mem_append_right _ (List.mem_of_getElem? (i := 1254) (by decide +kernel))) rfl
set_option maxRecDepth 100000 in
theorem tm_1255 : (Jvm.Cond.code ({ cls := "SaddleFitModel", name := "judge", desc := "()I" } : Jvm.MethodName) prog_12_method_78_code (2 : Nat) (Option.some Jvm.ClassFile.FieldType.int)) ∈ sf_tbl := sf_in (List.mem_append_right _ (List.mem_of_getElem? (i := 1255) rfl)) rfl
theorem tm_786 : (Jvm.Cond.methodLink "SaddleFitLaw" (137 : Nat) ({ cls := "SaddleFit", name := "seed", desc := "(I)I" } : Jvm.MethodName)) ∈ sf_tbl := sf_in (List.mem_append_right _ (List.mem_of_getElem? (i := 786) (by decide +kernel))) rfl
theorem tm_787 : (Jvm.Cond.instanceMethod ({ cls := "SaddleFit", name := "seed", desc := "(I)I" } : Jvm.MethodName)) ∈ sf_tbl := sf_in (List.mem_append_right _ (List.mem_of_getElem? (i := 787) (by decide +kernel))) rfl
theorem tm_788 : (Jvm.Cond.selects "SaddleFit" ({ cls := "SaddleFit", name := "seed", desc := "(I)I" } : Jvm.MethodName) ({ cls := "SaddleFit", name := "seed", desc := "(I)I" } : Jvm.MethodName)) ∈ sf_tbl := sf_in (List.mem_append_right _ (List.mem_of_getElem? (i := 788) (by decide +kernel))) rfl
set_option maxRecDepth 100000 in
theorem tm_789 : (Jvm.Cond.code ({ cls := "SaddleFit", name := "seed", desc := "(I)I" } : Jvm.MethodName) prog_1_method_32_code (3 : Nat) (Option.some Jvm.ClassFile.FieldType.int)) ∈ sf_tbl := sf_in (List.mem_append_right _ (List.mem_of_getElem? (i := 789) rfl)) rfl
theorem tm_1256 : (Jvm.Cond.methodLink "SaddleFitLaw" (140 : Nat) ({ cls := "SaddleFitModel", name := "seed", desc := "(I)I" } : Jvm.MethodName)) ∈ sf_tbl := sf_in (List.mem_append_right _ (List.mem_of_getElem? (i := 1256) (by decide +kernel))) rfl
theorem tm_1257 : (Jvm.Cond.instanceMethod ({ cls := "SaddleFitModel", name := "seed", desc := "(I)I" } : Jvm.MethodName)) ∈ sf_tbl := sf_in (List.mem_append_right _ (List.mem_of_getElem? (i := 1257) (by decide +kernel))) rfl
theorem tm_1258 : (Jvm.Cond.selects "SaddleFitModel" ({ cls := "SaddleFitModel", name := "seed", desc := "(I)I" } : Jvm.MethodName) ({ cls := "SaddleFitModel", name := "seed", desc := "(I)I" } : Jvm.MethodName)) ∈ sf_tbl := sf_in (List.mem_append_right _ (List.mem_of_getElem? (i := 1258) (by decide +kernel))) rfl
set_option maxRecDepth 100000 in
theorem tm_1259 : (Jvm.Cond.code ({ cls := "SaddleFitModel", name := "seed", desc := "(I)I" } : Jvm.MethodName) prog_12_method_79_code (3 : Nat) (Option.some Jvm.ClassFile.FieldType.int)) ∈ sf_tbl := sf_in (List.mem_append_right _ (List.mem_of_getElem? (i := 1259) rfl)) rfl
theorem tm_790 : (Jvm.Cond.methodLink "SaddleFitLaw" (141 : Nat) ({ cls := "SaddleFit", name := "keep", desc := "(I)I" } : Jvm.MethodName)) ∈ sf_tbl := sf_in (List.mem_append_right _ (List.mem_of_getElem? (i := 790) (by decide +kernel))) rfl
theorem tm_791 : (Jvm.Cond.instanceMethod ({ cls := "SaddleFit", name := "keep", desc := "(I)I" } : Jvm.MethodName)) ∈ sf_tbl := sf_in (List.mem_append_right _ (List.mem_of_getElem? (i := 791) (by decide +kernel))) rfl
theorem tm_792 : (Jvm.Cond.selects "SaddleFit" ({ cls := "SaddleFit", name := "keep", desc := "(I)I" } : Jvm.MethodName) ({ cls := "SaddleFit", name := "keep", desc := "(I)I" } : Jvm.MethodName)) ∈ sf_tbl := sf_in (List.mem_append_right _ (List.mem_of_getElem? (i := 792) (by decide +kernel))) rfl
set_option maxRecDepth 100000 in
theorem tm_793 : (Jvm.Cond.code ({ cls := "SaddleFit", name := "keep", desc := "(I)I" } : Jvm.MethodName) prog_1_method_33_code (2 : Nat) (Option.some Jvm.ClassFile.FieldType.int)) ∈ sf_tbl := sf_in (List.mem_append_right _ (List.mem_of_getElem? (i := 793) rfl)) rfl
theorem tm_1260 : (Jvm.Cond.methodLink "SaddleFitLaw" (144 : Nat) ({ cls := "SaddleFitModel", name := "keep", desc := "(I)I" } : Jvm.MethodName)) ∈ sf_tbl := sf_in (List.mem_append_right _ (List.mem_of_getElem? (i := 1260) (by decide +kernel))) rfl
theorem tm_1261 : (Jvm.Cond.instanceMethod ({ cls := "SaddleFitModel", name := "keep", desc := "(I)I" } : Jvm.MethodName)) ∈ sf_tbl := sf_in (List.mem_append_right _ (List.mem_of_getElem? (i := 1261) (by decide +kernel))) rfl
theorem tm_1262 : (Jvm.Cond.selects "SaddleFitModel" ({ cls := "SaddleFitModel", name := "keep", desc := "(I)I" } : Jvm.MethodName) ({ cls := "SaddleFitModel", name := "keep", desc := "(I)I" } : Jvm.MethodName)) ∈ sf_tbl := sf_in (List.mem_append_right _ (List.mem_of_getElem? (i := 1262) (by decide +kernel))) rfl
set_option maxRecDepth 100000 in
theorem tm_1263 : (Jvm.Cond.code ({ cls := "SaddleFitModel", name := "keep", desc := "(I)I" } : Jvm.MethodName) prog_12_method_80_code (3 : Nat) (Option.some Jvm.ClassFile.FieldType.int)) ∈ sf_tbl := sf_in (List.mem_append_right _ (List.mem_of_getElem? (i := 1263) rfl)) rfl
theorem tm_795 : (Jvm.Cond.methodLink "SaddleFitLaw" (145 : Nat) ({ cls := "SaddleFit", name := "goBack", desc := "(I)I" } : Jvm.MethodName)) ∈ sf_tbl := sf_in (List.mem_append_right _ (List.mem_of_getElem? (i := 795) (by decide +kernel))) rfl
theorem tm_796 : (Jvm.Cond.instanceMethod ({ cls := "SaddleFit", name := "goBack", desc := "(I)I" } : Jvm.MethodName)) ∈ sf_tbl := sf_in (List.mem_append_right _ (List.mem_of_getElem? (i := 796) (by decide +kernel))) rfl
theorem tm_797 : (Jvm.Cond.selects "SaddleFit" ({ cls := "SaddleFit", name := "goBack", desc := "(I)I" } : Jvm.MethodName) ({ cls := "SaddleFit", name := "goBack", desc := "(I)I" } : Jvm.MethodName)) ∈ sf_tbl := sf_in (List.mem_append_right _ (List.mem_of_getElem? (i := 797) (by decide +kernel))) rfl
set_option maxRecDepth 100000 in
theorem tm_798 : (Jvm.Cond.code ({ cls := "SaddleFit", name := "goBack", desc := "(I)I" } : Jvm.MethodName) prog_1_method_34_code (2 : Nat) (Option.some Jvm.ClassFile.FieldType.int)) ∈ sf_tbl := sf_in (List.mem_append_right _ (List.mem_of_getElem? (i := 798) rfl)) rfl
theorem tm_1264 : (Jvm.Cond.methodLink "SaddleFitLaw" (148 : Nat) ({ cls := "SaddleFitModel", name := "goBack", desc := "(I)I" } : Jvm.MethodName)) ∈ sf_tbl := sf_in (List.mem_append_right _ (List.mem_of_getElem? (i := 1264) (by decide +kernel))) rfl
theorem tm_1265 : (Jvm.Cond.instanceMethod ({ cls := "SaddleFitModel", name := "goBack", desc := "(I)I" } : Jvm.MethodName)) ∈ sf_tbl := sf_in (List.mem_append_right _ (List.mem_of_getElem? (i := 1265) (by decide +kernel))) rfl
theorem tm_1266 : (Jvm.Cond.selects "SaddleFitModel" ({ cls := "SaddleFitModel", name := "goBack", desc := "(I)I" } : Jvm.MethodName) ({ cls := "SaddleFitModel", name := "goBack", desc := "(I)I" } : Jvm.MethodName)) ∈ sf_tbl := sf_in (List.mem_append_right _ (List.mem_of_getElem? (i := 1266) (by decide +kernel))) rfl
set_option maxRecDepth 100000 in
theorem tm_1267 : (Jvm.Cond.code ({ cls := "SaddleFitModel", name := "goBack", desc := "(I)I" } : Jvm.MethodName) prog_12_method_81_code (3 : Nat) (Option.some Jvm.ClassFile.FieldType.int)) ∈ sf_tbl := sf_in (List.mem_append_right _ (List.mem_of_getElem? (i := 1267) rfl)) rfl
theorem yk_X9_feed : sf_Y yX9_feed cX9_feed 2 (some .int) 1 := ⟨tm_330, tm_1, ⟨by decide, by decide, by decide +kernel⟩, by decide⟩
theorem yk_X10_feed : sf_Y yX10_feed cX10_feed 2 (some .int) 1 := ⟨tm_935, tm_11, ⟨by decide, by decide, by decide +kernel⟩, by decide⟩
theorem yk_X9_shop : sf_Y yX9_shop cX9_shop 3 (some .int) 0 := ⟨tm_343, tm_1, ⟨by decide, by decide, by decide +kernel⟩, by decide⟩
theorem yk_X10_shop : sf_Y yX10_shop cX10_shop 2 (some .int) 0 := ⟨tm_945, tm_11, ⟨by decide, by decide, by decide +kernel⟩, by decide⟩
theorem yk_X9_fault : sf_Y yX9_fault cX9_fault 1 (some .int) 0 := ⟨tm_414, tm_1, ⟨by decide, by decide, by decide +kernel⟩, by decide⟩
theorem yk_X10_fault : sf_Y yX10_fault cX10_fault 1 (some .int) 0 := ⟨tm_992, tm_11, ⟨by decide, by decide, by decide +kernel⟩, by decide⟩
theorem yk_X9_told : sf_Y yX9_told cX9_told 2 (some .int) 1 := ⟨tm_418, tm_1, ⟨by decide, by decide, by decide +kernel⟩, by decide⟩
theorem yk_X10_told : sf_Y yX10_told cX10_told 2 (some .int) 1 := ⟨tm_996, tm_11, ⟨by decide, by decide, by decide +kernel⟩, by decide⟩
theorem yk_X9_burden : sf_Y yX9_burden cX9_burden 3 (some .int) 2 := ⟨tm_496, tm_1, ⟨by decide, by decide, by decide +kernel⟩, by decide⟩
theorem yk_X10_burden : sf_Y yX10_burden cX10_burden 3 (some .int) 2 := ⟨tm_1064, tm_11, ⟨by decide, by decide, by decide +kernel⟩, by decide⟩
theorem yk_X9_back : sf_Y yX9_back cX9_back 3 (some .int) 2 := ⟨tm_505, tm_1, ⟨by decide, by decide, by decide +kernel⟩, by decide⟩
theorem yk_X10_back : sf_Y yX10_back cX10_back 3 (some .int) 2 := ⟨tm_1073, tm_11, ⟨by decide, by decide, by decide +kernel⟩, by decide⟩
theorem yk_X9_day : sf_Y yX9_day cX9_day 4 (some .int) 1 := ⟨tm_527, tm_1, ⟨by decide, by decide, by decide +kernel⟩, by decide⟩
theorem yk_X10_day : sf_Y yX10_day cX10_day 4 (some .int) 1 := ⟨tm_1093, tm_11, ⟨by decide, by decide, by decide +kernel⟩, by decide⟩
theorem yk_X9_take : sf_Y yX9_take cX9_take 3 (some .int) 2 := ⟨tm_556, tm_1, ⟨by decide, by decide, by decide +kernel⟩, by decide⟩
theorem yk_X10_take : sf_Y yX10_take cX10_take 3 (some .int) 2 := ⟨tm_1111, tm_11, ⟨by decide, by decide, by decide +kernel⟩, by decide⟩
theorem yk_X9_share : sf_Y yX9_share cX9_share 3 (some .int) 2 := ⟨tm_565, tm_1, ⟨by decide, by decide, by decide +kernel⟩, by decide⟩
theorem yk_X10_share : sf_Y yX10_share cX10_share 3 (some .int) 2 := ⟨tm_1115, tm_11, ⟨by decide, by decide, by decide +kernel⟩, by decide⟩
theorem yk_X9_down : sf_Y yX9_down cX9_down 3 (some .int) 2 := ⟨tm_579, tm_1, ⟨by decide, by decide, by decide +kernel⟩, by decide⟩
theorem yk_X10_down : sf_Y yX10_down cX10_down 3 (some .int) 2 := ⟨tm_1123, tm_11, ⟨by decide, by decide, by decide +kernel⟩, by decide⟩
theorem yk_X9_hand : sf_Y yX9_hand cX9_hand 4 (some .int) 3 := ⟨tm_588, tm_1, ⟨by decide, by decide, by decide +kernel⟩, by decide⟩
theorem yk_X10_hand : sf_Y yX10_hand cX10_hand 4 (some .int) 3 := ⟨tm_1131, tm_11, ⟨by decide, by decide, by decide +kernel⟩, by decide⟩
theorem yk_X9_stuff : sf_Y yX9_stuff cX9_stuff 3 (some .int) 2 := ⟨tm_601, tm_1, ⟨by decide, by decide, by decide +kernel⟩, by decide⟩
theorem yk_X10_stuff : sf_Y yX10_stuff cX10_stuff 3 (some .int) 2 := ⟨tm_1135, tm_11, ⟨by decide, by decide, by decide +kernel⟩, by decide⟩
theorem yk_X9_weigh : sf_Y yX9_weigh cX9_weigh 4 (some .int) 2 := ⟨tm_605, tm_1, ⟨by decide, by decide, by decide +kernel⟩, by decide⟩
theorem yk_X10_weigh : sf_Y yX10_weigh cX10_weigh 4 (some .int) 2 := ⟨tm_1141, tm_11, ⟨by decide, by decide, by decide +kernel⟩, by decide⟩
theorem yk_X9_drift : sf_Y yX9_drift cX9_drift 4 (some .int) 1 := ⟨tm_609, tm_1, ⟨by decide, by decide, by decide +kernel⟩, by decide⟩
theorem yk_X10_drift : sf_Y yX10_drift cX10_drift 4 (some .int) 1 := ⟨tm_1145, tm_11, ⟨by decide, by decide, by decide +kernel⟩, by decide⟩
theorem yk_X9_undo : sf_Y yX9_undo cX9_undo 1 (some .int) 0 := ⟨tm_625, tm_1, ⟨by decide, by decide, by decide +kernel⟩, by decide⟩
theorem yk_X10_undo : sf_Y yX10_undo cX10_undo 2 (some .int) 0 := ⟨tm_1161, tm_11, ⟨by decide, by decide, by decide +kernel⟩, by decide⟩
theorem yk_X9_sore : sf_Y yX9_sore cX9_sore 3 (some .int) 2 := ⟨tm_633, tm_1, ⟨by decide, by decide, by decide +kernel⟩, by decide⟩
theorem yk_X10_sore : sf_Y yX10_sore cX10_sore 4 (some .int) 2 := ⟨tm_1165, tm_11, ⟨by decide, by decide, by decide +kernel⟩, by decide⟩
theorem yk_X9_when : sf_Y yX9_when cX9_when 2 (some .int) 1 := ⟨tm_641, tm_1, ⟨by decide, by decide, by decide +kernel⟩, by decide⟩
theorem yk_X10_when : sf_Y yX10_when cX10_when 4 (some .int) 1 := ⟨tm_1170, tm_11, ⟨by decide, by decide, by decide +kernel⟩, by decide⟩
theorem yk_X9_worst : sf_Y yX9_worst cX9_worst 4 (some .int) 2 := ⟨tm_649, tm_1, ⟨by decide, by decide, by decide +kernel⟩, by decide⟩
theorem yk_X10_worst : sf_Y yX10_worst cX10_worst 7 (some .int) 2 := ⟨tm_1174, tm_11, ⟨by decide, by decide, by decide +kernel⟩, by decide⟩
theorem yk_X9_fit : sf_Y yX9_fit cX9_fit 2 (some .int) 1 := ⟨tm_658, tm_1, ⟨by decide, by decide, by decide +kernel⟩, by decide⟩
theorem yk_X10_fit : sf_Y yX10_fit cX10_fit 2 (some .int) 1 := ⟨tm_1178, tm_11, ⟨by decide, by decide, by decide +kernel⟩, by decide⟩
theorem yk_X9_byTwo : sf_Y yX9_byTwo cX9_byTwo 3 (some .int) 2 := ⟨tm_684, tm_1, ⟨by decide, by decide, by decide +kernel⟩, by decide⟩
theorem yk_X10_byTwo : sf_Y yX10_byTwo cX10_byTwo 10 (some .int) 2 := ⟨tm_1194, tm_11, ⟨by decide, by decide, by decide +kernel⟩, by decide⟩
theorem yk_X9_order : sf_Y yX9_order cX9_order 3 (some .int) 2 := ⟨tm_692, tm_1, ⟨by decide, by decide, by decide +kernel⟩, by decide⟩
theorem yk_X10_order : sf_Y yX10_order cX10_order 10 (some .int) 2 := ⟨tm_1198, tm_11, ⟨by decide, by decide, by decide +kernel⟩, by decide⟩
theorem yk_X9_could : sf_Y yX9_could cX9_could 2 (some .int) 1 := ⟨tm_708, tm_1, ⟨by decide, by decide, by decide +kernel⟩, by decide⟩
theorem yk_X10_could : sf_Y yX10_could cX10_could 5 (some .int) 1 := ⟨tm_1206, tm_11, ⟨by decide, by decide, by decide +kernel⟩, by decide⟩
theorem yk_X9_shareOf : sf_Y yX9_shareOf cX9_shareOf 5 (some .int) 3 := ⟨tm_716, tm_1, ⟨by decide, by decide, by decide +kernel⟩, by decide⟩
theorem yk_X10_shareOf : sf_Y yX10_shareOf cX10_shareOf 4 (some .int) 3 := ⟨tm_1210, tm_11, ⟨by decide, by decide, by decide +kernel⟩, by decide⟩
theorem yk_X9_fair : sf_Y yX9_fair cX9_fair 6 (some .int) 2 := ⟨tm_720, tm_1, ⟨by decide, by decide, by decide +kernel⟩, by decide⟩
theorem yk_X10_fair : sf_Y yX10_fair cX10_fair 6 (some .int) 2 := ⟨tm_1214, tm_11, ⟨by decide, by decide, by decide +kernel⟩, by decide⟩
theorem yk_X9_feel : sf_Y yX9_feel cX9_feel 4 (some .int) 3 := ⟨tm_726, tm_1, ⟨by decide, by decide, by decide +kernel⟩, by decide⟩
theorem yk_X10_feel : sf_Y yX10_feel cX10_feel 4 (some .int) 3 := ⟨tm_1220, tm_11, ⟨by decide, by decide, by decide +kernel⟩, by decide⟩
theorem yk_X9_carries : sf_Y yX9_carries cX9_carries 2 (some .int) 1 := ⟨tm_734, tm_1, ⟨by decide, by decide, by decide +kernel⟩, by decide⟩
theorem yk_X9_tryNext : sf_Y yX9_tryNext cX9_tryNext 1 (some .int) 0 := ⟨tm_757, tm_1, ⟨by decide, by decide, by decide +kernel⟩, by decide⟩
theorem yk_X10_tryNext : sf_Y yX10_tryNext cX10_tryNext 5 (some .int) 0 := ⟨tm_1237, tm_11, ⟨by decide, by decide, by decide +kernel⟩, by decide⟩
theorem yk_X9_write : sf_Y yX9_write cX9_write 3 (some .int) 2 := ⟨tm_769, tm_1, ⟨by decide, by decide, by decide +kernel⟩, by decide⟩
theorem yk_X10_write : sf_Y yX10_write cX10_write 3 (some .int) 2 := ⟨tm_1246, tm_11, ⟨by decide, by decide, by decide +kernel⟩, by decide⟩
theorem yk_X9_tear : sf_Y yX9_tear cX9_tear 2 (some .int) 0 := ⟨tm_777, tm_1, ⟨by decide, by decide, by decide +kernel⟩, by decide⟩
theorem yk_X10_tear : sf_Y yX10_tear cX10_tear 2 (some .int) 0 := ⟨tm_1251, tm_11, ⟨by decide, by decide, by decide +kernel⟩, by decide⟩
theorem yk_X9_judge : sf_Y yX9_judge cX9_judge 1 (some .int) 0 := ⟨tm_781, tm_1, ⟨by decide, by decide, by decide +kernel⟩, by decide⟩
theorem yk_X10_judge : sf_Y yX10_judge cX10_judge 2 (some .int) 0 := ⟨tm_1255, tm_11, ⟨by decide, by decide, by decide +kernel⟩, by decide⟩
theorem yk_X9_seed : sf_Y yX9_seed cX9_seed 3 (some .int) 1 := ⟨tm_789, tm_1, ⟨by decide, by decide, by decide +kernel⟩, by decide⟩
theorem yk_X10_seed : sf_Y yX10_seed cX10_seed 3 (some .int) 1 := ⟨tm_1259, tm_11, ⟨by decide, by decide, by decide +kernel⟩, by decide⟩
theorem yk_X9_keep : sf_Y yX9_keep cX9_keep 2 (some .int) 1 := ⟨tm_793, tm_1, ⟨by decide, by decide, by decide +kernel⟩, by decide⟩
theorem yk_X10_keep : sf_Y yX10_keep cX10_keep 3 (some .int) 1 := ⟨tm_1263, tm_11, ⟨by decide, by decide, by decide +kernel⟩, by decide⟩
theorem yk_X9_goBack : sf_Y yX9_goBack cX9_goBack 2 (some .int) 1 := ⟨tm_798, tm_1, ⟨by decide, by decide, by decide +kernel⟩, by decide⟩
theorem yk_X10_goBack : sf_Y yX10_goBack cX10_goBack 3 (some .int) 1 := ⟨tm_1267, tm_11, ⟨by decide, by decide, by decide +kernel⟩, by decide⟩
theorem cl_L_13 : Cond.methodLink RL 13 yX9_feed ∈ sf_tbl ∧ Cond.instanceMethod yX9_feed ∈ sf_tbl ∧ Cond.selects yX9_feed.cls yX9_feed yX9_feed ∈ sf_tbl := ⟨tm_327, tm_328, tm_329⟩
theorem cl_L_17 : Cond.methodLink RL 17 yX10_feed ∈ sf_tbl ∧ Cond.instanceMethod yX10_feed ∈ sf_tbl ∧ Cond.selects yX10_feed.cls yX10_feed yX10_feed ∈ sf_tbl := ⟨tm_932, tm_933, tm_934⟩
theorem cl_L_18 : Cond.methodLink RL 18 yX9_shop ∈ sf_tbl ∧ Cond.instanceMethod yX9_shop ∈ sf_tbl ∧ Cond.selects yX9_shop.cls yX9_shop yX9_shop ∈ sf_tbl := ⟨tm_340, tm_341, tm_342⟩
theorem cl_L_22 : Cond.methodLink RL 22 yX10_shop ∈ sf_tbl ∧ Cond.instanceMethod yX10_shop ∈ sf_tbl ∧ Cond.selects yX10_shop.cls yX10_shop yX10_shop ∈ sf_tbl := ⟨tm_942, tm_943, tm_944⟩
theorem cl_L_23 : Cond.methodLink RL 23 yX9_fault ∈ sf_tbl ∧ Cond.instanceMethod yX9_fault ∈ sf_tbl ∧ Cond.selects yX9_fault.cls yX9_fault yX9_fault ∈ sf_tbl := ⟨tm_411, tm_412, tm_413⟩
theorem cl_L_26 : Cond.methodLink RL 26 yX10_fault ∈ sf_tbl ∧ Cond.instanceMethod yX10_fault ∈ sf_tbl ∧ Cond.selects yX10_fault.cls yX10_fault yX10_fault ∈ sf_tbl := ⟨tm_989, tm_990, tm_991⟩
theorem cl_L_27 : Cond.methodLink RL 27 yX9_told ∈ sf_tbl ∧ Cond.instanceMethod yX9_told ∈ sf_tbl ∧ Cond.selects yX9_told.cls yX9_told yX9_told ∈ sf_tbl := ⟨tm_415, tm_416, tm_417⟩
theorem cl_L_30 : Cond.methodLink RL 30 yX10_told ∈ sf_tbl ∧ Cond.instanceMethod yX10_told ∈ sf_tbl ∧ Cond.selects yX10_told.cls yX10_told yX10_told ∈ sf_tbl := ⟨tm_993, tm_994, tm_995⟩
theorem cl_L_31 : Cond.methodLink RL 31 yX9_burden ∈ sf_tbl ∧ Cond.instanceMethod yX9_burden ∈ sf_tbl ∧ Cond.selects yX9_burden.cls yX9_burden yX9_burden ∈ sf_tbl := ⟨tm_493, tm_494, tm_495⟩
theorem cl_L_35 : Cond.methodLink RL 35 yX10_burden ∈ sf_tbl ∧ Cond.instanceMethod yX10_burden ∈ sf_tbl ∧ Cond.selects yX10_burden.cls yX10_burden yX10_burden ∈ sf_tbl := ⟨tm_1061, tm_1062, tm_1063⟩
theorem cl_L_36 : Cond.methodLink RL 36 yX9_back ∈ sf_tbl ∧ Cond.instanceMethod yX9_back ∈ sf_tbl ∧ Cond.selects yX9_back.cls yX9_back yX9_back ∈ sf_tbl := ⟨tm_502, tm_503, tm_504⟩
theorem cl_L_39 : Cond.methodLink RL 39 yX10_back ∈ sf_tbl ∧ Cond.instanceMethod yX10_back ∈ sf_tbl ∧ Cond.selects yX10_back.cls yX10_back yX10_back ∈ sf_tbl := ⟨tm_1070, tm_1071, tm_1072⟩
theorem cl_L_40 : Cond.methodLink RL 40 yX9_day ∈ sf_tbl ∧ Cond.instanceMethod yX9_day ∈ sf_tbl ∧ Cond.selects yX9_day.cls yX9_day yX9_day ∈ sf_tbl := ⟨tm_524, tm_525, tm_526⟩
theorem cl_L_43 : Cond.methodLink RL 43 yX10_day ∈ sf_tbl ∧ Cond.instanceMethod yX10_day ∈ sf_tbl ∧ Cond.selects yX10_day.cls yX10_day yX10_day ∈ sf_tbl := ⟨tm_1090, tm_1091, tm_1092⟩
theorem cl_L_44 : Cond.methodLink RL 44 yX9_take ∈ sf_tbl ∧ Cond.instanceMethod yX9_take ∈ sf_tbl ∧ Cond.selects yX9_take.cls yX9_take yX9_take ∈ sf_tbl := ⟨tm_553, tm_554, tm_555⟩
theorem cl_L_47 : Cond.methodLink RL 47 yX10_take ∈ sf_tbl ∧ Cond.instanceMethod yX10_take ∈ sf_tbl ∧ Cond.selects yX10_take.cls yX10_take yX10_take ∈ sf_tbl := ⟨tm_1108, tm_1109, tm_1110⟩
theorem cl_L_48 : Cond.methodLink RL 48 yX9_share ∈ sf_tbl ∧ Cond.instanceMethod yX9_share ∈ sf_tbl ∧ Cond.selects yX9_share.cls yX9_share yX9_share ∈ sf_tbl := ⟨tm_562, tm_563, tm_564⟩
theorem cl_L_51 : Cond.methodLink RL 51 yX10_share ∈ sf_tbl ∧ Cond.instanceMethod yX10_share ∈ sf_tbl ∧ Cond.selects yX10_share.cls yX10_share yX10_share ∈ sf_tbl := ⟨tm_1112, tm_1113, tm_1114⟩
theorem cl_L_52 : Cond.methodLink RL 52 yX9_down ∈ sf_tbl ∧ Cond.instanceMethod yX9_down ∈ sf_tbl ∧ Cond.selects yX9_down.cls yX9_down yX9_down ∈ sf_tbl := ⟨tm_576, tm_577, tm_578⟩
theorem cl_L_55 : Cond.methodLink RL 55 yX10_down ∈ sf_tbl ∧ Cond.instanceMethod yX10_down ∈ sf_tbl ∧ Cond.selects yX10_down.cls yX10_down yX10_down ∈ sf_tbl := ⟨tm_1120, tm_1121, tm_1122⟩
theorem cl_L_56 : Cond.methodLink RL 56 yX9_hand ∈ sf_tbl ∧ Cond.instanceMethod yX9_hand ∈ sf_tbl ∧ Cond.selects yX9_hand.cls yX9_hand yX9_hand ∈ sf_tbl := ⟨tm_585, tm_586, tm_587⟩
theorem cl_L_60 : Cond.methodLink RL 60 yX10_hand ∈ sf_tbl ∧ Cond.instanceMethod yX10_hand ∈ sf_tbl ∧ Cond.selects yX10_hand.cls yX10_hand yX10_hand ∈ sf_tbl := ⟨tm_1128, tm_1129, tm_1130⟩
theorem cl_L_61 : Cond.methodLink RL 61 yX9_stuff ∈ sf_tbl ∧ Cond.instanceMethod yX9_stuff ∈ sf_tbl ∧ Cond.selects yX9_stuff.cls yX9_stuff yX9_stuff ∈ sf_tbl := ⟨tm_598, tm_599, tm_600⟩
theorem cl_L_64 : Cond.methodLink RL 64 yX10_stuff ∈ sf_tbl ∧ Cond.instanceMethod yX10_stuff ∈ sf_tbl ∧ Cond.selects yX10_stuff.cls yX10_stuff yX10_stuff ∈ sf_tbl := ⟨tm_1132, tm_1133, tm_1134⟩
theorem cl_L_65 : Cond.methodLink RL 65 yX9_weigh ∈ sf_tbl ∧ Cond.instanceMethod yX9_weigh ∈ sf_tbl ∧ Cond.selects yX9_weigh.cls yX9_weigh yX9_weigh ∈ sf_tbl := ⟨tm_602, tm_603, tm_604⟩
theorem cl_L_68 : Cond.methodLink RL 68 yX10_weigh ∈ sf_tbl ∧ Cond.instanceMethod yX10_weigh ∈ sf_tbl ∧ Cond.selects yX10_weigh.cls yX10_weigh yX10_weigh ∈ sf_tbl := ⟨tm_1138, tm_1139, tm_1140⟩
theorem cl_L_69 : Cond.methodLink RL 69 yX9_drift ∈ sf_tbl ∧ Cond.instanceMethod yX9_drift ∈ sf_tbl ∧ Cond.selects yX9_drift.cls yX9_drift yX9_drift ∈ sf_tbl := ⟨tm_606, tm_607, tm_608⟩
theorem cl_L_72 : Cond.methodLink RL 72 yX10_drift ∈ sf_tbl ∧ Cond.instanceMethod yX10_drift ∈ sf_tbl ∧ Cond.selects yX10_drift.cls yX10_drift yX10_drift ∈ sf_tbl := ⟨tm_1142, tm_1143, tm_1144⟩
theorem cl_L_73 : Cond.methodLink RL 73 yX9_undo ∈ sf_tbl ∧ Cond.instanceMethod yX9_undo ∈ sf_tbl ∧ Cond.selects yX9_undo.cls yX9_undo yX9_undo ∈ sf_tbl := ⟨tm_622, tm_623, tm_624⟩
theorem cl_L_76 : Cond.methodLink RL 76 yX10_undo ∈ sf_tbl ∧ Cond.instanceMethod yX10_undo ∈ sf_tbl ∧ Cond.selects yX10_undo.cls yX10_undo yX10_undo ∈ sf_tbl := ⟨tm_1158, tm_1159, tm_1160⟩
theorem cl_L_77 : Cond.methodLink RL 77 yX9_sore ∈ sf_tbl ∧ Cond.instanceMethod yX9_sore ∈ sf_tbl ∧ Cond.selects yX9_sore.cls yX9_sore yX9_sore ∈ sf_tbl := ⟨tm_630, tm_631, tm_632⟩
theorem cl_L_80 : Cond.methodLink RL 80 yX10_sore ∈ sf_tbl ∧ Cond.instanceMethod yX10_sore ∈ sf_tbl ∧ Cond.selects yX10_sore.cls yX10_sore yX10_sore ∈ sf_tbl := ⟨tm_1162, tm_1163, tm_1164⟩
theorem cl_L_81 : Cond.methodLink RL 81 yX9_when ∈ sf_tbl ∧ Cond.instanceMethod yX9_when ∈ sf_tbl ∧ Cond.selects yX9_when.cls yX9_when yX9_when ∈ sf_tbl := ⟨tm_638, tm_639, tm_640⟩
theorem cl_L_84 : Cond.methodLink RL 84 yX10_when ∈ sf_tbl ∧ Cond.instanceMethod yX10_when ∈ sf_tbl ∧ Cond.selects yX10_when.cls yX10_when yX10_when ∈ sf_tbl := ⟨tm_1167, tm_1168, tm_1169⟩
theorem cl_L_85 : Cond.methodLink RL 85 yX9_worst ∈ sf_tbl ∧ Cond.instanceMethod yX9_worst ∈ sf_tbl ∧ Cond.selects yX9_worst.cls yX9_worst yX9_worst ∈ sf_tbl := ⟨tm_646, tm_647, tm_648⟩
theorem cl_L_88 : Cond.methodLink RL 88 yX10_worst ∈ sf_tbl ∧ Cond.instanceMethod yX10_worst ∈ sf_tbl ∧ Cond.selects yX10_worst.cls yX10_worst yX10_worst ∈ sf_tbl := ⟨tm_1171, tm_1172, tm_1173⟩
theorem cl_L_89 : Cond.methodLink RL 89 yX9_fit ∈ sf_tbl ∧ Cond.instanceMethod yX9_fit ∈ sf_tbl ∧ Cond.selects yX9_fit.cls yX9_fit yX9_fit ∈ sf_tbl := ⟨tm_655, tm_656, tm_657⟩
theorem cl_L_92 : Cond.methodLink RL 92 yX10_fit ∈ sf_tbl ∧ Cond.instanceMethod yX10_fit ∈ sf_tbl ∧ Cond.selects yX10_fit.cls yX10_fit yX10_fit ∈ sf_tbl := ⟨tm_1175, tm_1176, tm_1177⟩
theorem cl_L_93 : Cond.methodLink RL 93 yX9_byTwo ∈ sf_tbl ∧ Cond.instanceMethod yX9_byTwo ∈ sf_tbl ∧ Cond.selects yX9_byTwo.cls yX9_byTwo yX9_byTwo ∈ sf_tbl := ⟨tm_681, tm_682, tm_683⟩
theorem cl_L_96 : Cond.methodLink RL 96 yX10_byTwo ∈ sf_tbl ∧ Cond.instanceMethod yX10_byTwo ∈ sf_tbl ∧ Cond.selects yX10_byTwo.cls yX10_byTwo yX10_byTwo ∈ sf_tbl := ⟨tm_1191, tm_1192, tm_1193⟩
theorem cl_L_97 : Cond.methodLink RL 97 yX9_order ∈ sf_tbl ∧ Cond.instanceMethod yX9_order ∈ sf_tbl ∧ Cond.selects yX9_order.cls yX9_order yX9_order ∈ sf_tbl := ⟨tm_689, tm_690, tm_691⟩
theorem cl_L_100 : Cond.methodLink RL 100 yX10_order ∈ sf_tbl ∧ Cond.instanceMethod yX10_order ∈ sf_tbl ∧ Cond.selects yX10_order.cls yX10_order yX10_order ∈ sf_tbl := ⟨tm_1195, tm_1196, tm_1197⟩
theorem cl_L_101 : Cond.methodLink RL 101 yX9_could ∈ sf_tbl ∧ Cond.instanceMethod yX9_could ∈ sf_tbl ∧ Cond.selects yX9_could.cls yX9_could yX9_could ∈ sf_tbl := ⟨tm_705, tm_706, tm_707⟩
theorem cl_L_104 : Cond.methodLink RL 104 yX10_could ∈ sf_tbl ∧ Cond.instanceMethod yX10_could ∈ sf_tbl ∧ Cond.selects yX10_could.cls yX10_could yX10_could ∈ sf_tbl := ⟨tm_1203, tm_1204, tm_1205⟩
theorem cl_L_105 : Cond.methodLink RL 105 yX9_shareOf ∈ sf_tbl ∧ Cond.instanceMethod yX9_shareOf ∈ sf_tbl ∧ Cond.selects yX9_shareOf.cls yX9_shareOf yX9_shareOf ∈ sf_tbl := ⟨tm_713, tm_714, tm_715⟩
theorem cl_L_108 : Cond.methodLink RL 108 yX10_shareOf ∈ sf_tbl ∧ Cond.instanceMethod yX10_shareOf ∈ sf_tbl ∧ Cond.selects yX10_shareOf.cls yX10_shareOf yX10_shareOf ∈ sf_tbl := ⟨tm_1207, tm_1208, tm_1209⟩
theorem cl_L_109 : Cond.methodLink RL 109 yX9_fair ∈ sf_tbl ∧ Cond.instanceMethod yX9_fair ∈ sf_tbl ∧ Cond.selects yX9_fair.cls yX9_fair yX9_fair ∈ sf_tbl := ⟨tm_717, tm_718, tm_719⟩
theorem cl_L_112 : Cond.methodLink RL 112 yX10_fair ∈ sf_tbl ∧ Cond.instanceMethod yX10_fair ∈ sf_tbl ∧ Cond.selects yX10_fair.cls yX10_fair yX10_fair ∈ sf_tbl := ⟨tm_1211, tm_1212, tm_1213⟩
theorem cl_L_113 : Cond.methodLink RL 113 yX9_feel ∈ sf_tbl ∧ Cond.instanceMethod yX9_feel ∈ sf_tbl ∧ Cond.selects yX9_feel.cls yX9_feel yX9_feel ∈ sf_tbl := ⟨tm_723, tm_724, tm_725⟩
theorem cl_L_116 : Cond.methodLink RL 116 yX10_feel ∈ sf_tbl ∧ Cond.instanceMethod yX10_feel ∈ sf_tbl ∧ Cond.selects yX10_feel.cls yX10_feel yX10_feel ∈ sf_tbl := ⟨tm_1217, tm_1218, tm_1219⟩
theorem cl_L_117 : Cond.methodLink RL 117 yX9_carries ∈ sf_tbl ∧ Cond.instanceMethod yX9_carries ∈ sf_tbl ∧ Cond.selects yX9_carries.cls yX9_carries yX9_carries ∈ sf_tbl := ⟨tm_731, tm_732, tm_733⟩
theorem cl_L_120 : Cond.methodLink RL 120 yX10_carries ∈ sf_tbl ∧ Cond.instanceMethod yX10_carries ∈ sf_tbl ∧ Cond.selects yX10_carries.cls yX10_carries yX10_carries ∈ sf_tbl := ⟨tm_1222, tm_1223, tm_1224⟩
theorem cl_L_121 : Cond.methodLink RL 121 yX9_tryNext ∈ sf_tbl ∧ Cond.instanceMethod yX9_tryNext ∈ sf_tbl ∧ Cond.selects yX9_tryNext.cls yX9_tryNext yX9_tryNext ∈ sf_tbl := ⟨tm_754, tm_755, tm_756⟩
theorem cl_L_124 : Cond.methodLink RL 124 yX10_tryNext ∈ sf_tbl ∧ Cond.instanceMethod yX10_tryNext ∈ sf_tbl ∧ Cond.selects yX10_tryNext.cls yX10_tryNext yX10_tryNext ∈ sf_tbl := ⟨tm_1234, tm_1235, tm_1236⟩
theorem cl_L_125 : Cond.methodLink RL 125 yX9_write ∈ sf_tbl ∧ Cond.instanceMethod yX9_write ∈ sf_tbl ∧ Cond.selects yX9_write.cls yX9_write yX9_write ∈ sf_tbl := ⟨tm_766, tm_767, tm_768⟩
theorem cl_L_128 : Cond.methodLink RL 128 yX10_write ∈ sf_tbl ∧ Cond.instanceMethod yX10_write ∈ sf_tbl ∧ Cond.selects yX10_write.cls yX10_write yX10_write ∈ sf_tbl := ⟨tm_1243, tm_1244, tm_1245⟩
theorem cl_L_129 : Cond.methodLink RL 129 yX9_tear ∈ sf_tbl ∧ Cond.instanceMethod yX9_tear ∈ sf_tbl ∧ Cond.selects yX9_tear.cls yX9_tear yX9_tear ∈ sf_tbl := ⟨tm_774, tm_775, tm_776⟩
theorem cl_L_132 : Cond.methodLink RL 132 yX10_tear ∈ sf_tbl ∧ Cond.instanceMethod yX10_tear ∈ sf_tbl ∧ Cond.selects yX10_tear.cls yX10_tear yX10_tear ∈ sf_tbl := ⟨tm_1248, tm_1249, tm_1250⟩
theorem cl_L_133 : Cond.methodLink RL 133 yX9_judge ∈ sf_tbl ∧ Cond.instanceMethod yX9_judge ∈ sf_tbl ∧ Cond.selects yX9_judge.cls yX9_judge yX9_judge ∈ sf_tbl := ⟨tm_778, tm_779, tm_780⟩
theorem cl_L_136 : Cond.methodLink RL 136 yX10_judge ∈ sf_tbl ∧ Cond.instanceMethod yX10_judge ∈ sf_tbl ∧ Cond.selects yX10_judge.cls yX10_judge yX10_judge ∈ sf_tbl := ⟨tm_1252, tm_1253, tm_1254⟩
theorem cl_L_137 : Cond.methodLink RL 137 yX9_seed ∈ sf_tbl ∧ Cond.instanceMethod yX9_seed ∈ sf_tbl ∧ Cond.selects yX9_seed.cls yX9_seed yX9_seed ∈ sf_tbl := ⟨tm_786, tm_787, tm_788⟩
theorem cl_L_140 : Cond.methodLink RL 140 yX10_seed ∈ sf_tbl ∧ Cond.instanceMethod yX10_seed ∈ sf_tbl ∧ Cond.selects yX10_seed.cls yX10_seed yX10_seed ∈ sf_tbl := ⟨tm_1256, tm_1257, tm_1258⟩
theorem cl_L_141 : Cond.methodLink RL 141 yX9_keep ∈ sf_tbl ∧ Cond.instanceMethod yX9_keep ∈ sf_tbl ∧ Cond.selects yX9_keep.cls yX9_keep yX9_keep ∈ sf_tbl := ⟨tm_790, tm_791, tm_792⟩
theorem cl_L_144 : Cond.methodLink RL 144 yX10_keep ∈ sf_tbl ∧ Cond.instanceMethod yX10_keep ∈ sf_tbl ∧ Cond.selects yX10_keep.cls yX10_keep yX10_keep ∈ sf_tbl := ⟨tm_1260, tm_1261, tm_1262⟩
theorem cl_L_145 : Cond.methodLink RL 145 yX9_goBack ∈ sf_tbl ∧ Cond.instanceMethod yX9_goBack ∈ sf_tbl ∧ Cond.selects yX9_goBack.cls yX9_goBack yX9_goBack ∈ sf_tbl := ⟨tm_795, tm_796, tm_797⟩
theorem cl_L_148 : Cond.methodLink RL 148 yX10_goBack ∈ sf_tbl ∧ Cond.instanceMethod yX10_goBack ∈ sf_tbl ∧ Cond.selects yX10_goBack.cls yX10_goBack yX10_goBack ∈ sf_tbl := ⟨tm_1264, tm_1265, tm_1266⟩
def st_feed (Inv : sf_Sg → Prop) : Prop := ∀ (s : sf_Sg) (a1 : Int32), Inv s → ∃ (r : Int32) (s1 : sf_Sg) (s2 : sf_Sg), f9_feed s a1 = some (r, s1) ∧ f10_feed s1 a1 = some (r, s2) ∧ Inv s2
def st_shop (Inv : sf_Sg → Prop) : Prop := ∀ (s : sf_Sg), Inv s → ∃ (r : Int32) (s1 : sf_Sg) (s2 : sf_Sg), f9_shop s = some (r, s1) ∧ f10_shop s1 = some (r, s2) ∧ Inv s2
def st_fault (Inv : sf_Sg → Prop) : Prop := ∀ (s : sf_Sg), Inv s → ∃ (r : Int32), f9_fault s = r ∧ f10_fault s = r
def st_told (Inv : sf_Sg → Prop) : Prop := ∀ (s : sf_Sg) (a1 : Int32), Inv s → ∃ (r : Int32), f9_told s a1 = some r ∧ f10_told s a1 = some r
def st_burden (Inv : sf_Sg → Prop) : Prop := ∀ (s : sf_Sg) (a1 : Int32) (a2 : Int32), Inv s → ∃ (r : Int32), f9_burden s a1 a2 = some r ∧ f10_burden s a1 a2 = some r
def st_back (Inv : sf_Sg → Prop) : Prop := ∀ (s : sf_Sg) (a1 : Int32) (a2 : Int32), Inv s → ∃ (r : Int32), f9_back s a1 a2 = some r ∧ f10_back s a1 a2 = some r
def st_day (Inv : sf_Sg → Prop) : Prop := ∀ (s : sf_Sg) (a1 : Int32), Inv s → ∃ (r : Int32) (s1 : sf_Sg) (s2 : sf_Sg), f9_day s a1 = some (r, s1) ∧ f10_day s1 a1 = some (r, s2) ∧ Inv s2
def st_take (Inv : sf_Sg → Prop) : Prop := ∀ (s : sf_Sg) (a1 : Int32) (a2 : Int32), Inv s → ∃ (r : Int32) (s1 : sf_Sg) (s2 : sf_Sg), f9_take s a1 a2 = some (r, s1) ∧ f10_take s1 a1 a2 = some (r, s2) ∧ Inv s2
def st_share (Inv : sf_Sg → Prop) : Prop := ∀ (s : sf_Sg) (a1 : Int32) (a2 : Int32), Inv s → ∃ (r : Int32) (s1 : sf_Sg) (s2 : sf_Sg), f9_share s a1 a2 = some (r, s1) ∧ f10_share s1 a1 a2 = some (r, s2) ∧ Inv s2
def st_down (Inv : sf_Sg → Prop) : Prop := ∀ (s : sf_Sg) (a1 : Int32) (a2 : Int32), Inv s → ∃ (r : Int32) (s1 : sf_Sg) (s2 : sf_Sg), f9_down s a1 a2 = some (r, s1) ∧ f10_down s1 a1 a2 = some (r, s2) ∧ Inv s2
def st_hand (Inv : sf_Sg → Prop) : Prop := ∀ (s : sf_Sg) (a1 : Int32) (a2 : Int32) (a3 : Int32), Inv s → ∃ (r : Int32) (s1 : sf_Sg) (s2 : sf_Sg), f9_hand s a1 a2 a3 = some (r, s1) ∧ f10_hand s1 a1 a2 a3 = some (r, s2) ∧ Inv s2
def st_stuff (Inv : sf_Sg → Prop) : Prop := ∀ (s : sf_Sg) (a1 : Int32) (a2 : Int32), Inv s → ∃ (r : Int32) (s1 : sf_Sg) (s2 : sf_Sg), f9_stuff s a1 a2 = some (r, s1) ∧ f10_stuff s1 a1 a2 = some (r, s2) ∧ Inv s2
def st_weigh (Inv : sf_Sg → Prop) : Prop := ∀ (s : sf_Sg) (a1 : Int32) (a2 : Int32), Inv s → ∃ (r : Int32) (s1 : sf_Sg) (s2 : sf_Sg), f9_weigh s a1 a2 = some (r, s1) ∧ f10_weigh s1 a1 a2 = some (r, s2) ∧ Inv s2
def st_drift (Inv : sf_Sg → Prop) : Prop := ∀ (s : sf_Sg) (a1 : Int32), Inv s → ∃ (r : Int32) (s1 : sf_Sg) (s2 : sf_Sg), f9_drift s a1 = some (r, s1) ∧ f10_drift s1 a1 = some (r, s2) ∧ Inv s2
def st_undo (Inv : sf_Sg → Prop) : Prop := ∀ (s : sf_Sg), Inv s → ∃ (r : Int32) (s1 : sf_Sg) (s2 : sf_Sg), f9_undo s = some (r, s1) ∧ f10_undo s1 = some (r, s2) ∧ Inv s2
def st_sore (Inv : sf_Sg → Prop) : Prop := ∀ (s : sf_Sg) (a1 : Int32) (a2 : Int32), Inv s → ∃ (r : Int32) (s2 : sf_Sg), f9_sore s a1 a2 = some r ∧ f10_sore s a1 a2 = some (r, s2) ∧ Inv s2
def st_when (Inv : sf_Sg → Prop) : Prop := ∀ (s : sf_Sg) (a1 : Int32), Inv s → ∃ (r : Int32) (s2 : sf_Sg), f9_when s a1 = some r ∧ f10_when s a1 = some (r, s2) ∧ Inv s2
def st_worst (Inv : sf_Sg → Prop) : Prop := ∀ (s : sf_Sg) (a1 : Int32) (a2 : Int32), Inv s → ∃ (r : Int32) (s2 : sf_Sg), f9_worst s a1 a2 = some r ∧ f10_worst s a1 a2 = some (r, s2) ∧ Inv s2
def st_fit (Inv : sf_Sg → Prop) : Prop := ∀ (s : sf_Sg) (a1 : Int32), Inv s → ∃ (r : Int32) (s1 : sf_Sg) (s2 : sf_Sg), f9_fit s a1 = some (r, s1) ∧ f10_fit s1 a1 = some (r, s2) ∧ Inv s2
def st_byTwo (Inv : sf_Sg → Prop) : Prop := ∀ (s : sf_Sg) (a1 : Int32) (a2 : Int32), Inv s → ∃ (r : Int32) (s1 : sf_Sg) (s2 : sf_Sg), f9_byTwo s a1 a2 = some (r, s1) ∧ f10_byTwo s1 a1 a2 = some (r, s2) ∧ Inv s2
def st_order (Inv : sf_Sg → Prop) : Prop := ∀ (s : sf_Sg) (a1 : Int32) (a2 : Int32), Inv s → ∃ (r : Int32) (s1 : sf_Sg) (s2 : sf_Sg), f9_order s a1 a2 = some (r, s1) ∧ f10_order s1 a1 a2 = some (r, s2) ∧ Inv s2
def st_could (Inv : sf_Sg → Prop) : Prop := ∀ (s : sf_Sg) (a1 : Int32), Inv s → ∃ (r : Int32) (s2 : sf_Sg), f9_could s a1 = some r ∧ f10_could s a1 = some (r, s2) ∧ Inv s2
def st_shareOf (Inv : sf_Sg → Prop) : Prop := ∀ (s : sf_Sg) (a1 : Int32) (a2 : Int32) (a3 : Int32), Inv s → ∃ (r : Int32), f9_shareOf s a1 a2 a3 = some r ∧ f10_shareOf s a1 a2 a3 = some r
def st_fair (Inv : sf_Sg → Prop) : Prop := ∀ (s : sf_Sg) (a1 : Int32) (a2 : Int32), Inv s → ∃ (r : Int32), f9_fair a1 a2 = some r ∧ f10_fair a1 a2 = some r
def st_feel (Inv : sf_Sg → Prop) : Prop := ∀ (s : sf_Sg) (a1 : Int32) (a2 : Int32) (a3 : Int32), Inv s → ∃ (r : Int32) (s1 : sf_Sg) (s2 : sf_Sg), f9_feel s a1 a2 a3 = some (r, s1) ∧ f10_feel s1 a1 a2 a3 = some (r, s2) ∧ Inv s2
def st_carries (Inv : sf_Sg → Prop) : Prop := ∀ (s : sf_Sg) (a1 : Int32), Inv s → ∃ (r : Int32) (s1 : sf_Sg), f9_carries s a1 = some (r, s1) ∧ f10_carries s1 a1 = some r ∧ Inv s1
def st_tryNext (Inv : sf_Sg → Prop) : Prop := ∀ (s : sf_Sg), Inv s → ∃ (r : Int32) (s1 : sf_Sg) (s2 : sf_Sg), f9_tryNext s = some (r, s1) ∧ f10_tryNext s1 = some (r, s2) ∧ Inv s2
def st_write (Inv : sf_Sg → Prop) : Prop := ∀ (s : sf_Sg) (a1 : Int32) (a2 : Int32), Inv s → ∃ (r : Int32) (s1 : sf_Sg) (s2 : sf_Sg), f9_write s a1 a2 = some (r, s1) ∧ f10_write s1 a1 a2 = some (r, s2) ∧ Inv s2
def st_tear (Inv : sf_Sg → Prop) : Prop := ∀ (s : sf_Sg), Inv s → ∃ (r : Int32) (s1 : sf_Sg) (s2 : sf_Sg), f9_tear s = (r, s1) ∧ f10_tear s1 = (r, s2) ∧ Inv s2
def st_judge (Inv : sf_Sg → Prop) : Prop := ∀ (s : sf_Sg), Inv s → ∃ (r : Int32), f9_judge s = some r ∧ f10_judge s = some r
def st_seed (Inv : sf_Sg → Prop) : Prop := ∀ (s : sf_Sg) (a1 : Int32), Inv s → ∃ (r : Int32) (s1 : sf_Sg) (s2 : sf_Sg), f9_seed s a1 = (r, s1) ∧ f10_seed s1 a1 = (r, s2) ∧ Inv s2
def st_keep (Inv : sf_Sg → Prop) : Prop := ∀ (s : sf_Sg) (a1 : Int32), Inv s → ∃ (r : Int32) (s1 : sf_Sg) (s2 : sf_Sg), f9_keep s a1 = some (r, s1) ∧ f10_keep s1 a1 = some (r, s2) ∧ Inv s2
def st_goBack (Inv : sf_Sg → Prop) : Prop := ∀ (s : sf_Sg) (a1 : Int32), Inv s → ∃ (r : Int32) (s1 : sf_Sg) (s2 : sf_Sg), f9_goBack s a1 = some (r, s1) ∧ f10_goBack s1 a1 = some (r, s2) ∧ Inv s2
def lz_Steps (Inv : sf_Sg → Prop) : Prop := st_feed Inv ∧ st_shop Inv ∧ st_fault Inv ∧ st_told Inv ∧ st_burden Inv ∧ st_back Inv ∧ st_day Inv ∧ st_take Inv ∧ st_share Inv ∧ st_down Inv ∧ st_hand Inv ∧ st_stuff Inv ∧ st_weigh Inv ∧ st_drift Inv ∧ st_undo Inv ∧ st_sore Inv ∧ st_when Inv ∧ st_worst Inv ∧ st_fit Inv ∧ st_byTwo Inv ∧ st_order Inv ∧ st_could Inv ∧ st_shareOf Inv ∧ st_fair Inv ∧ st_feel Inv ∧ st_carries Inv ∧ st_tryNext Inv ∧ st_write Inv ∧ st_tear Inv ∧ st_judge Inv ∧ st_seed Inv ∧ st_keep Inv ∧ st_goBack Inv
set_option maxHeartbeats 4000000 in
set_option maxRecDepth 100000 in
theorem lz_feed {X : sf_X} {V : sf_V} {b L i : Nat} {xs : Nat → Int32} {Q : State → Prop} {Inv : sf_Sg → Prop} {s : sf_Sg} (C : lz_C X V b L xs) (S : st_feed Inv) (hI : Inv s) (hL : L ≤ 256) (hi : i + 4 ≤ L) (kk : ∀ s2, Inv s2 → lz_G X V Q s2 1069 [(3, .int (nI i)), (0, .ref b), (1, .ref (V.2.1 0)), (2, .ref (V.2.1 149))] []) : lz_G X V Q s 180 [(3, .int (nI i)), (0, .ref b), (1, .ref (V.2.1 0)), (2, .ref (V.2.1 149))] [] := by
  obtain ⟨r, s1, s2, e1, e2, hI2⟩ := S s (xs (i + 1)) hI
  refine lz_aload_n (pc := 180) C 2 dL_law_180 rfl ?_
  refine lz_aload_n (pc := 181) C 1 dL_law_181 rfl ?_
  refine lz_iload_n (pc := 182) C 0 dL_law_182 rfl ?_
  refine lz_iconst (v := 1) (pc := 183) C dL_law_183 (by decide) ?_
  refine lz_iadd (pc := 184) C dL_law_184 ?_
  refine lz_sld (j := i + 1) (pc := 185) C (nI_add i 1) (by omega) hL rfl dL_law_185 ?_
  refine lz_call (pc := 186) C (As := [.int (xs (i + 1))]) nk_0 sh_0 rfl yk_X9_feed cl_L_13 (k9_feed e1) (by decide) rfl (Nat.le_of_ble_eq_true rfl) rfl dL_law_186 ?_
  refine lz_aload_n (pc := 189) C 3 dL_law_189 rfl ?_
  refine lz_aload_n (pc := 190) C 1 dL_law_190 rfl ?_
  refine lz_iload_n (pc := 191) C 0 dL_law_191 rfl ?_
  refine lz_iconst (v := 1) (pc := 192) C dL_law_192 (by decide) ?_
  refine lz_iadd (pc := 193) C dL_law_193 ?_
  refine lz_sld (j := i + 1) (pc := 194) C (nI_add i 1) (by omega) hL rfl dL_law_194 ?_
  refine lz_call (pc := 195) C (As := [.int (xs (i + 1))]) nk_149 sh_149 rfl yk_X10_feed cl_L_17 (k10_feed e2) (by decide) rfl (Nat.le_of_ble_eq_true rfl) rfl dL_law_195 ?_
  refine lz_eq (tgt := 1069) (pc := 198) C dL_law_198 rfl rfl ?_
  exact kk s2 hI2
set_option maxHeartbeats 4000000 in
set_option maxRecDepth 100000 in
theorem lz_shop {X : sf_X} {V : sf_V} {b L i : Nat} {xs : Nat → Int32} {Q : State → Prop} {Inv : sf_Sg → Prop} {s : sf_Sg} (C : lz_C X V b L xs) (S : st_shop Inv) (hI : Inv s) (hL : L ≤ 256) (hi : i + 4 ≤ L) (kk : ∀ s2, Inv s2 → lz_G X V Q s2 1069 [(3, .int (nI i)), (0, .ref b), (1, .ref (V.2.1 0)), (2, .ref (V.2.1 149))] []) : lz_G X V Q s 203 [(3, .int (nI i)), (0, .ref b), (1, .ref (V.2.1 0)), (2, .ref (V.2.1 149))] [] := by
  obtain ⟨r, s1, s2, e1, e2, hI2⟩ := S s  hI
  refine lz_aload_n (pc := 203) C 2 dL_law_203 rfl ?_
  refine lz_call (pc := 204) C (As := []) nk_0 sh_0 rfl yk_X9_shop cl_L_18 (k9_shop e1) (by decide) rfl (Nat.le_of_ble_eq_true rfl) rfl dL_law_204 ?_
  refine lz_aload_n (pc := 207) C 3 dL_law_207 rfl ?_
  refine lz_call (pc := 208) C (As := []) nk_149 sh_149 rfl yk_X10_shop cl_L_22 (k10_shop e2) (by decide) rfl (Nat.le_of_ble_eq_true rfl) rfl dL_law_208 ?_
  refine lz_eq (tgt := 1069) (pc := 211) C dL_law_211 rfl rfl ?_
  exact kk s2 hI2
set_option maxHeartbeats 4000000 in
set_option maxRecDepth 100000 in
theorem lz_fault {X : sf_X} {V : sf_V} {b L i : Nat} {xs : Nat → Int32} {Q : State → Prop} {Inv : sf_Sg → Prop} {s : sf_Sg} (C : lz_C X V b L xs) (S : st_fault Inv) (hI : Inv s) (hL : L ≤ 256) (hi : i + 4 ≤ L) (kk : ∀ s2, Inv s2 → lz_G X V Q s2 1069 [(3, .int (nI i)), (0, .ref b), (1, .ref (V.2.1 0)), (2, .ref (V.2.1 149))] []) : lz_G X V Q s 216 [(3, .int (nI i)), (0, .ref b), (1, .ref (V.2.1 0)), (2, .ref (V.2.1 149))] [] := by
  obtain ⟨r, e1, e2⟩ := S s  hI
  refine lz_aload_n (pc := 216) C 2 dL_law_216 rfl ?_
  refine lz_call (pc := 217) C (As := []) nk_0 sh_0 rfl yk_X9_fault cl_L_23 (k9_fault e1) (by decide) rfl (Nat.le_of_ble_eq_true rfl) rfl dL_law_217 ?_
  refine lz_aload_n (pc := 220) C 3 dL_law_220 rfl ?_
  refine lz_call (pc := 221) C (As := []) nk_149 sh_149 rfl yk_X10_fault cl_L_26 (k10_fault e2) (by decide) rfl (Nat.le_of_ble_eq_true rfl) rfl dL_law_221 ?_
  refine lz_eq (tgt := 1069) (pc := 224) C dL_law_224 rfl rfl ?_
  exact kk s hI
set_option maxHeartbeats 4000000 in
set_option maxRecDepth 100000 in
theorem lz_told {X : sf_X} {V : sf_V} {b L i : Nat} {xs : Nat → Int32} {Q : State → Prop} {Inv : sf_Sg → Prop} {s : sf_Sg} (C : lz_C X V b L xs) (S : st_told Inv) (hI : Inv s) (hL : L ≤ 256) (hi : i + 4 ≤ L) (kk : ∀ s2, Inv s2 → lz_G X V Q s2 1069 [(3, .int (nI i)), (0, .ref b), (1, .ref (V.2.1 0)), (2, .ref (V.2.1 149))] []) : lz_G X V Q s 229 [(3, .int (nI i)), (0, .ref b), (1, .ref (V.2.1 0)), (2, .ref (V.2.1 149))] [] := by
  obtain ⟨r, e1, e2⟩ := S s (xs (i + 1)) hI
  refine lz_aload_n (pc := 229) C 2 dL_law_229 rfl ?_
  refine lz_aload_n (pc := 230) C 1 dL_law_230 rfl ?_
  refine lz_iload_n (pc := 231) C 0 dL_law_231 rfl ?_
  refine lz_iconst (v := 1) (pc := 232) C dL_law_232 (by decide) ?_
  refine lz_iadd (pc := 233) C dL_law_233 ?_
  refine lz_sld (j := i + 1) (pc := 234) C (nI_add i 1) (by omega) hL rfl dL_law_234 ?_
  refine lz_call (pc := 235) C (As := [.int (xs (i + 1))]) nk_0 sh_0 rfl yk_X9_told cl_L_27 (k9_told e1) (by decide) rfl (Nat.le_of_ble_eq_true rfl) rfl dL_law_235 ?_
  refine lz_aload_n (pc := 238) C 3 dL_law_238 rfl ?_
  refine lz_aload_n (pc := 239) C 1 dL_law_239 rfl ?_
  refine lz_iload_n (pc := 240) C 0 dL_law_240 rfl ?_
  refine lz_iconst (v := 1) (pc := 241) C dL_law_241 (by decide) ?_
  refine lz_iadd (pc := 242) C dL_law_242 ?_
  refine lz_sld (j := i + 1) (pc := 243) C (nI_add i 1) (by omega) hL rfl dL_law_243 ?_
  refine lz_call (pc := 244) C (As := [.int (xs (i + 1))]) nk_149 sh_149 rfl yk_X10_told cl_L_30 (k10_told e2) (by decide) rfl (Nat.le_of_ble_eq_true rfl) rfl dL_law_244 ?_
  refine lz_eq (tgt := 1069) (pc := 247) C dL_law_247 rfl rfl ?_
  exact kk s hI
set_option maxHeartbeats 4000000 in
set_option maxRecDepth 100000 in
theorem lz_burden {X : sf_X} {V : sf_V} {b L i : Nat} {xs : Nat → Int32} {Q : State → Prop} {Inv : sf_Sg → Prop} {s : sf_Sg} (C : lz_C X V b L xs) (S : st_burden Inv) (hI : Inv s) (hL : L ≤ 256) (hi : i + 4 ≤ L) (kk : ∀ s2, Inv s2 → lz_G X V Q s2 1069 [(3, .int (nI i)), (0, .ref b), (1, .ref (V.2.1 0)), (2, .ref (V.2.1 149))] []) : lz_G X V Q s 252 [(3, .int (nI i)), (0, .ref b), (1, .ref (V.2.1 0)), (2, .ref (V.2.1 149))] [] := by
  obtain ⟨r, e1, e2⟩ := S s (xs (i + 1)) (xs (i + 2)) hI
  refine lz_aload_n (pc := 252) C 2 dL_law_252 rfl ?_
  refine lz_aload_n (pc := 253) C 1 dL_law_253 rfl ?_
  refine lz_iload_n (pc := 254) C 0 dL_law_254 rfl ?_
  refine lz_iconst (v := 1) (pc := 255) C dL_law_255 (by decide) ?_
  refine lz_iadd (pc := 256) C dL_law_256 ?_
  refine lz_sld (j := i + 1) (pc := 257) C (nI_add i 1) (by omega) hL rfl dL_law_257 ?_
  refine lz_aload_n (pc := 258) C 1 dL_law_258 rfl ?_
  refine lz_iload_n (pc := 259) C 0 dL_law_259 rfl ?_
  refine lz_iconst (v := 2) (pc := 260) C dL_law_260 (by decide) ?_
  refine lz_iadd (pc := 261) C dL_law_261 ?_
  refine lz_sld (j := i + 2) (pc := 262) C (nI_add i 2) (by omega) hL rfl dL_law_262 ?_
  refine lz_call (pc := 263) C (As := [.int (xs (i + 1)), .int (xs (i + 2))]) nk_0 sh_0 rfl yk_X9_burden cl_L_31 (k9_burden e1) (by decide) rfl (Nat.le_of_ble_eq_true rfl) rfl dL_law_263 ?_
  refine lz_aload_n (pc := 266) C 3 dL_law_266 rfl ?_
  refine lz_aload_n (pc := 267) C 1 dL_law_267 rfl ?_
  refine lz_iload_n (pc := 268) C 0 dL_law_268 rfl ?_
  refine lz_iconst (v := 1) (pc := 269) C dL_law_269 (by decide) ?_
  refine lz_iadd (pc := 270) C dL_law_270 ?_
  refine lz_sld (j := i + 1) (pc := 271) C (nI_add i 1) (by omega) hL rfl dL_law_271 ?_
  refine lz_aload_n (pc := 272) C 1 dL_law_272 rfl ?_
  refine lz_iload_n (pc := 273) C 0 dL_law_273 rfl ?_
  refine lz_iconst (v := 2) (pc := 274) C dL_law_274 (by decide) ?_
  refine lz_iadd (pc := 275) C dL_law_275 ?_
  refine lz_sld (j := i + 2) (pc := 276) C (nI_add i 2) (by omega) hL rfl dL_law_276 ?_
  refine lz_call (pc := 277) C (As := [.int (xs (i + 1)), .int (xs (i + 2))]) nk_149 sh_149 rfl yk_X10_burden cl_L_35 (k10_burden e2) (by decide) rfl (Nat.le_of_ble_eq_true rfl) rfl dL_law_277 ?_
  refine lz_eq (tgt := 1069) (pc := 280) C dL_law_280 rfl rfl ?_
  exact kk s hI
set_option maxHeartbeats 4000000 in
set_option maxRecDepth 100000 in
theorem lz_back {X : sf_X} {V : sf_V} {b L i : Nat} {xs : Nat → Int32} {Q : State → Prop} {Inv : sf_Sg → Prop} {s : sf_Sg} (C : lz_C X V b L xs) (S : st_back Inv) (hI : Inv s) (hL : L ≤ 256) (hi : i + 4 ≤ L) (kk : ∀ s2, Inv s2 → lz_G X V Q s2 1069 [(3, .int (nI i)), (0, .ref b), (1, .ref (V.2.1 0)), (2, .ref (V.2.1 149))] []) : lz_G X V Q s 285 [(3, .int (nI i)), (0, .ref b), (1, .ref (V.2.1 0)), (2, .ref (V.2.1 149))] [] := by
  obtain ⟨r, e1, e2⟩ := S s (xs (i + 1)) (xs (i + 2)) hI
  refine lz_aload_n (pc := 285) C 2 dL_law_285 rfl ?_
  refine lz_aload_n (pc := 286) C 1 dL_law_286 rfl ?_
  refine lz_iload_n (pc := 287) C 0 dL_law_287 rfl ?_
  refine lz_iconst (v := 1) (pc := 288) C dL_law_288 (by decide) ?_
  refine lz_iadd (pc := 289) C dL_law_289 ?_
  refine lz_sld (j := i + 1) (pc := 290) C (nI_add i 1) (by omega) hL rfl dL_law_290 ?_
  refine lz_aload_n (pc := 291) C 1 dL_law_291 rfl ?_
  refine lz_iload_n (pc := 292) C 0 dL_law_292 rfl ?_
  refine lz_iconst (v := 2) (pc := 293) C dL_law_293 (by decide) ?_
  refine lz_iadd (pc := 294) C dL_law_294 ?_
  refine lz_sld (j := i + 2) (pc := 295) C (nI_add i 2) (by omega) hL rfl dL_law_295 ?_
  refine lz_call (pc := 296) C (As := [.int (xs (i + 1)), .int (xs (i + 2))]) nk_0 sh_0 rfl yk_X9_back cl_L_36 (k9_back e1) (by decide) rfl (Nat.le_of_ble_eq_true rfl) rfl dL_law_296 ?_
  refine lz_aload_n (pc := 299) C 3 dL_law_299 rfl ?_
  refine lz_aload_n (pc := 300) C 1 dL_law_300 rfl ?_
  refine lz_iload_n (pc := 301) C 0 dL_law_301 rfl ?_
  refine lz_iconst (v := 1) (pc := 302) C dL_law_302 (by decide) ?_
  refine lz_iadd (pc := 303) C dL_law_303 ?_
  refine lz_sld (j := i + 1) (pc := 304) C (nI_add i 1) (by omega) hL rfl dL_law_304 ?_
  refine lz_aload_n (pc := 305) C 1 dL_law_305 rfl ?_
  refine lz_iload_n (pc := 306) C 0 dL_law_306 rfl ?_
  refine lz_iconst (v := 2) (pc := 307) C dL_law_307 (by decide) ?_
  refine lz_iadd (pc := 308) C dL_law_308 ?_
  refine lz_sld (j := i + 2) (pc := 309) C (nI_add i 2) (by omega) hL rfl dL_law_309 ?_
  refine lz_call (pc := 310) C (As := [.int (xs (i + 1)), .int (xs (i + 2))]) nk_149 sh_149 rfl yk_X10_back cl_L_39 (k10_back e2) (by decide) rfl (Nat.le_of_ble_eq_true rfl) rfl dL_law_310 ?_
  refine lz_eq (tgt := 1069) (pc := 313) C dL_law_313 rfl rfl ?_
  exact kk s hI
set_option maxHeartbeats 4000000 in
set_option maxRecDepth 100000 in
theorem lz_day {X : sf_X} {V : sf_V} {b L i : Nat} {xs : Nat → Int32} {Q : State → Prop} {Inv : sf_Sg → Prop} {s : sf_Sg} (C : lz_C X V b L xs) (S : st_day Inv) (hI : Inv s) (hL : L ≤ 256) (hi : i + 4 ≤ L) (kk : ∀ s2, Inv s2 → lz_G X V Q s2 1069 [(3, .int (nI i)), (0, .ref b), (1, .ref (V.2.1 0)), (2, .ref (V.2.1 149))] []) : lz_G X V Q s 318 [(3, .int (nI i)), (0, .ref b), (1, .ref (V.2.1 0)), (2, .ref (V.2.1 149))] [] := by
  obtain ⟨r, s1, s2, e1, e2, hI2⟩ := S s (xs (i + 1)) hI
  refine lz_aload_n (pc := 318) C 2 dL_law_318 rfl ?_
  refine lz_aload_n (pc := 319) C 1 dL_law_319 rfl ?_
  refine lz_iload_n (pc := 320) C 0 dL_law_320 rfl ?_
  refine lz_iconst (v := 1) (pc := 321) C dL_law_321 (by decide) ?_
  refine lz_iadd (pc := 322) C dL_law_322 ?_
  refine lz_sld (j := i + 1) (pc := 323) C (nI_add i 1) (by omega) hL rfl dL_law_323 ?_
  refine lz_call (pc := 324) C (As := [.int (xs (i + 1))]) nk_0 sh_0 rfl yk_X9_day cl_L_40 (k9_day e1) (by decide) rfl (Nat.le_of_ble_eq_true rfl) rfl dL_law_324 ?_
  refine lz_aload_n (pc := 327) C 3 dL_law_327 rfl ?_
  refine lz_aload_n (pc := 328) C 1 dL_law_328 rfl ?_
  refine lz_iload_n (pc := 329) C 0 dL_law_329 rfl ?_
  refine lz_iconst (v := 1) (pc := 330) C dL_law_330 (by decide) ?_
  refine lz_iadd (pc := 331) C dL_law_331 ?_
  refine lz_sld (j := i + 1) (pc := 332) C (nI_add i 1) (by omega) hL rfl dL_law_332 ?_
  refine lz_call (pc := 333) C (As := [.int (xs (i + 1))]) nk_149 sh_149 rfl yk_X10_day cl_L_43 (k10_day e2) (by decide) rfl (Nat.le_of_ble_eq_true rfl) rfl dL_law_333 ?_
  refine lz_eq (tgt := 1069) (pc := 336) C dL_law_336 rfl rfl ?_
  exact kk s2 hI2
set_option maxHeartbeats 4000000 in
set_option maxRecDepth 100000 in
theorem lz_take {X : sf_X} {V : sf_V} {b L i : Nat} {xs : Nat → Int32} {Q : State → Prop} {Inv : sf_Sg → Prop} {s : sf_Sg} (C : lz_C X V b L xs) (S : st_take Inv) (hI : Inv s) (hL : L ≤ 256) (hi : i + 4 ≤ L) (kk : ∀ s2, Inv s2 → lz_G X V Q s2 1069 [(3, .int (nI i)), (0, .ref b), (1, .ref (V.2.1 0)), (2, .ref (V.2.1 149))] []) : lz_G X V Q s 341 [(3, .int (nI i)), (0, .ref b), (1, .ref (V.2.1 0)), (2, .ref (V.2.1 149))] [] := by
  obtain ⟨r, s1, s2, e1, e2, hI2⟩ := S s (xs (i + 1)) (xs (i + 2)) hI
  refine lz_aload_n (pc := 341) C 2 dL_law_341 rfl ?_
  refine lz_aload_n (pc := 342) C 1 dL_law_342 rfl ?_
  refine lz_iload_n (pc := 343) C 0 dL_law_343 rfl ?_
  refine lz_iconst (v := 1) (pc := 344) C dL_law_344 (by decide) ?_
  refine lz_iadd (pc := 345) C dL_law_345 ?_
  refine lz_sld (j := i + 1) (pc := 346) C (nI_add i 1) (by omega) hL rfl dL_law_346 ?_
  refine lz_aload_n (pc := 347) C 1 dL_law_347 rfl ?_
  refine lz_iload_n (pc := 348) C 0 dL_law_348 rfl ?_
  refine lz_iconst (v := 2) (pc := 349) C dL_law_349 (by decide) ?_
  refine lz_iadd (pc := 350) C dL_law_350 ?_
  refine lz_sld (j := i + 2) (pc := 351) C (nI_add i 2) (by omega) hL rfl dL_law_351 ?_
  refine lz_call (pc := 352) C (As := [.int (xs (i + 1)), .int (xs (i + 2))]) nk_0 sh_0 rfl yk_X9_take cl_L_44 (k9_take e1) (by decide) rfl (Nat.le_of_ble_eq_true rfl) rfl dL_law_352 ?_
  refine lz_aload_n (pc := 355) C 3 dL_law_355 rfl ?_
  refine lz_aload_n (pc := 356) C 1 dL_law_356 rfl ?_
  refine lz_iload_n (pc := 357) C 0 dL_law_357 rfl ?_
  refine lz_iconst (v := 1) (pc := 358) C dL_law_358 (by decide) ?_
  refine lz_iadd (pc := 359) C dL_law_359 ?_
  refine lz_sld (j := i + 1) (pc := 360) C (nI_add i 1) (by omega) hL rfl dL_law_360 ?_
  refine lz_aload_n (pc := 361) C 1 dL_law_361 rfl ?_
  refine lz_iload_n (pc := 362) C 0 dL_law_362 rfl ?_
  refine lz_iconst (v := 2) (pc := 363) C dL_law_363 (by decide) ?_
  refine lz_iadd (pc := 364) C dL_law_364 ?_
  refine lz_sld (j := i + 2) (pc := 365) C (nI_add i 2) (by omega) hL rfl dL_law_365 ?_
  refine lz_call (pc := 366) C (As := [.int (xs (i + 1)), .int (xs (i + 2))]) nk_149 sh_149 rfl yk_X10_take cl_L_47 (k10_take e2) (by decide) rfl (Nat.le_of_ble_eq_true rfl) rfl dL_law_366 ?_
  refine lz_eq (tgt := 1069) (pc := 369) C dL_law_369 rfl rfl ?_
  exact kk s2 hI2
set_option maxHeartbeats 4000000 in
set_option maxRecDepth 100000 in
theorem lz_share {X : sf_X} {V : sf_V} {b L i : Nat} {xs : Nat → Int32} {Q : State → Prop} {Inv : sf_Sg → Prop} {s : sf_Sg} (C : lz_C X V b L xs) (S : st_share Inv) (hI : Inv s) (hL : L ≤ 256) (hi : i + 4 ≤ L) (kk : ∀ s2, Inv s2 → lz_G X V Q s2 1069 [(3, .int (nI i)), (0, .ref b), (1, .ref (V.2.1 0)), (2, .ref (V.2.1 149))] []) : lz_G X V Q s 374 [(3, .int (nI i)), (0, .ref b), (1, .ref (V.2.1 0)), (2, .ref (V.2.1 149))] [] := by
  obtain ⟨r, s1, s2, e1, e2, hI2⟩ := S s (xs (i + 1)) (xs (i + 2)) hI
  refine lz_aload_n (pc := 374) C 2 dL_law_374 rfl ?_
  refine lz_aload_n (pc := 375) C 1 dL_law_375 rfl ?_
  refine lz_iload_n (pc := 376) C 0 dL_law_376 rfl ?_
  refine lz_iconst (v := 1) (pc := 377) C dL_law_377 (by decide) ?_
  refine lz_iadd (pc := 378) C dL_law_378 ?_
  refine lz_sld (j := i + 1) (pc := 379) C (nI_add i 1) (by omega) hL rfl dL_law_379 ?_
  refine lz_aload_n (pc := 380) C 1 dL_law_380 rfl ?_
  refine lz_iload_n (pc := 381) C 0 dL_law_381 rfl ?_
  refine lz_iconst (v := 2) (pc := 382) C dL_law_382 (by decide) ?_
  refine lz_iadd (pc := 383) C dL_law_383 ?_
  refine lz_sld (j := i + 2) (pc := 384) C (nI_add i 2) (by omega) hL rfl dL_law_384 ?_
  refine lz_call (pc := 385) C (As := [.int (xs (i + 1)), .int (xs (i + 2))]) nk_0 sh_0 rfl yk_X9_share cl_L_48 (k9_share e1) (by decide) rfl (Nat.le_of_ble_eq_true rfl) rfl dL_law_385 ?_
  refine lz_aload_n (pc := 388) C 3 dL_law_388 rfl ?_
  refine lz_aload_n (pc := 389) C 1 dL_law_389 rfl ?_
  refine lz_iload_n (pc := 390) C 0 dL_law_390 rfl ?_
  refine lz_iconst (v := 1) (pc := 391) C dL_law_391 (by decide) ?_
  refine lz_iadd (pc := 392) C dL_law_392 ?_
  refine lz_sld (j := i + 1) (pc := 393) C (nI_add i 1) (by omega) hL rfl dL_law_393 ?_
  refine lz_aload_n (pc := 394) C 1 dL_law_394 rfl ?_
  refine lz_iload_n (pc := 395) C 0 dL_law_395 rfl ?_
  refine lz_iconst (v := 2) (pc := 396) C dL_law_396 (by decide) ?_
  refine lz_iadd (pc := 397) C dL_law_397 ?_
  refine lz_sld (j := i + 2) (pc := 398) C (nI_add i 2) (by omega) hL rfl dL_law_398 ?_
  refine lz_call (pc := 399) C (As := [.int (xs (i + 1)), .int (xs (i + 2))]) nk_149 sh_149 rfl yk_X10_share cl_L_51 (k10_share e2) (by decide) rfl (Nat.le_of_ble_eq_true rfl) rfl dL_law_399 ?_
  refine lz_eq (tgt := 1069) (pc := 402) C dL_law_402 rfl rfl ?_
  exact kk s2 hI2
set_option maxHeartbeats 4000000 in
set_option maxRecDepth 100000 in
theorem lz_down {X : sf_X} {V : sf_V} {b L i : Nat} {xs : Nat → Int32} {Q : State → Prop} {Inv : sf_Sg → Prop} {s : sf_Sg} (C : lz_C X V b L xs) (S : st_down Inv) (hI : Inv s) (hL : L ≤ 256) (hi : i + 4 ≤ L) (kk : ∀ s2, Inv s2 → lz_G X V Q s2 1069 [(3, .int (nI i)), (0, .ref b), (1, .ref (V.2.1 0)), (2, .ref (V.2.1 149))] []) : lz_G X V Q s 407 [(3, .int (nI i)), (0, .ref b), (1, .ref (V.2.1 0)), (2, .ref (V.2.1 149))] [] := by
  obtain ⟨r, s1, s2, e1, e2, hI2⟩ := S s (xs (i + 1)) (xs (i + 2)) hI
  refine lz_aload_n (pc := 407) C 2 dL_law_407 rfl ?_
  refine lz_aload_n (pc := 408) C 1 dL_law_408 rfl ?_
  refine lz_iload_n (pc := 409) C 0 dL_law_409 rfl ?_
  refine lz_iconst (v := 1) (pc := 410) C dL_law_410 (by decide) ?_
  refine lz_iadd (pc := 411) C dL_law_411 ?_
  refine lz_sld (j := i + 1) (pc := 412) C (nI_add i 1) (by omega) hL rfl dL_law_412 ?_
  refine lz_aload_n (pc := 413) C 1 dL_law_413 rfl ?_
  refine lz_iload_n (pc := 414) C 0 dL_law_414 rfl ?_
  refine lz_iconst (v := 2) (pc := 415) C dL_law_415 (by decide) ?_
  refine lz_iadd (pc := 416) C dL_law_416 ?_
  refine lz_sld (j := i + 2) (pc := 417) C (nI_add i 2) (by omega) hL rfl dL_law_417 ?_
  refine lz_call (pc := 418) C (As := [.int (xs (i + 1)), .int (xs (i + 2))]) nk_0 sh_0 rfl yk_X9_down cl_L_52 (k9_down e1) (by decide) rfl (Nat.le_of_ble_eq_true rfl) rfl dL_law_418 ?_
  refine lz_aload_n (pc := 421) C 3 dL_law_421 rfl ?_
  refine lz_aload_n (pc := 422) C 1 dL_law_422 rfl ?_
  refine lz_iload_n (pc := 423) C 0 dL_law_423 rfl ?_
  refine lz_iconst (v := 1) (pc := 424) C dL_law_424 (by decide) ?_
  refine lz_iadd (pc := 425) C dL_law_425 ?_
  refine lz_sld (j := i + 1) (pc := 426) C (nI_add i 1) (by omega) hL rfl dL_law_426 ?_
  refine lz_aload_n (pc := 427) C 1 dL_law_427 rfl ?_
  refine lz_iload_n (pc := 428) C 0 dL_law_428 rfl ?_
  refine lz_iconst (v := 2) (pc := 429) C dL_law_429 (by decide) ?_
  refine lz_iadd (pc := 430) C dL_law_430 ?_
  refine lz_sld (j := i + 2) (pc := 431) C (nI_add i 2) (by omega) hL rfl dL_law_431 ?_
  refine lz_call (pc := 432) C (As := [.int (xs (i + 1)), .int (xs (i + 2))]) nk_149 sh_149 rfl yk_X10_down cl_L_55 (k10_down e2) (by decide) rfl (Nat.le_of_ble_eq_true rfl) rfl dL_law_432 ?_
  refine lz_eq (tgt := 1069) (pc := 435) C dL_law_435 rfl rfl ?_
  exact kk s2 hI2
set_option maxHeartbeats 4000000 in
set_option maxRecDepth 100000 in
theorem lz_hand {X : sf_X} {V : sf_V} {b L i : Nat} {xs : Nat → Int32} {Q : State → Prop} {Inv : sf_Sg → Prop} {s : sf_Sg} (C : lz_C X V b L xs) (S : st_hand Inv) (hI : Inv s) (hL : L ≤ 256) (hi : i + 4 ≤ L) (kk : ∀ s2, Inv s2 → lz_G X V Q s2 1069 [(3, .int (nI i)), (0, .ref b), (1, .ref (V.2.1 0)), (2, .ref (V.2.1 149))] []) : lz_G X V Q s 440 [(3, .int (nI i)), (0, .ref b), (1, .ref (V.2.1 0)), (2, .ref (V.2.1 149))] [] := by
  obtain ⟨r, s1, s2, e1, e2, hI2⟩ := S s (xs (i + 1)) (xs (i + 2)) (xs (i + 3)) hI
  refine lz_aload_n (pc := 440) C 2 dL_law_440 rfl ?_
  refine lz_aload_n (pc := 441) C 1 dL_law_441 rfl ?_
  refine lz_iload_n (pc := 442) C 0 dL_law_442 rfl ?_
  refine lz_iconst (v := 1) (pc := 443) C dL_law_443 (by decide) ?_
  refine lz_iadd (pc := 444) C dL_law_444 ?_
  refine lz_sld (j := i + 1) (pc := 445) C (nI_add i 1) (by omega) hL rfl dL_law_445 ?_
  refine lz_aload_n (pc := 446) C 1 dL_law_446 rfl ?_
  refine lz_iload_n (pc := 447) C 0 dL_law_447 rfl ?_
  refine lz_iconst (v := 2) (pc := 448) C dL_law_448 (by decide) ?_
  refine lz_iadd (pc := 449) C dL_law_449 ?_
  refine lz_sld (j := i + 2) (pc := 450) C (nI_add i 2) (by omega) hL rfl dL_law_450 ?_
  refine lz_aload_n (pc := 451) C 1 dL_law_451 rfl ?_
  refine lz_iload_n (pc := 452) C 0 dL_law_452 rfl ?_
  refine lz_iconst (v := 3) (pc := 453) C dL_law_453 (by decide) ?_
  refine lz_iadd (pc := 454) C dL_law_454 ?_
  refine lz_sld (j := i + 3) (pc := 455) C (nI_add i 3) (by omega) hL rfl dL_law_455 ?_
  refine lz_call (pc := 456) C (As := [.int (xs (i + 1)), .int (xs (i + 2)), .int (xs (i + 3))]) nk_0 sh_0 rfl yk_X9_hand cl_L_56 (k9_hand e1) (by decide) rfl (Nat.le_of_ble_eq_true rfl) rfl dL_law_456 ?_
  refine lz_aload_n (pc := 459) C 3 dL_law_459 rfl ?_
  refine lz_aload_n (pc := 460) C 1 dL_law_460 rfl ?_
  refine lz_iload_n (pc := 461) C 0 dL_law_461 rfl ?_
  refine lz_iconst (v := 1) (pc := 462) C dL_law_462 (by decide) ?_
  refine lz_iadd (pc := 463) C dL_law_463 ?_
  refine lz_sld (j := i + 1) (pc := 464) C (nI_add i 1) (by omega) hL rfl dL_law_464 ?_
  refine lz_aload_n (pc := 465) C 1 dL_law_465 rfl ?_
  refine lz_iload_n (pc := 466) C 0 dL_law_466 rfl ?_
  refine lz_iconst (v := 2) (pc := 467) C dL_law_467 (by decide) ?_
  refine lz_iadd (pc := 468) C dL_law_468 ?_
  refine lz_sld (j := i + 2) (pc := 469) C (nI_add i 2) (by omega) hL rfl dL_law_469 ?_
  refine lz_aload_n (pc := 470) C 1 dL_law_470 rfl ?_
  refine lz_iload_n (pc := 471) C 0 dL_law_471 rfl ?_
  refine lz_iconst (v := 3) (pc := 472) C dL_law_472 (by decide) ?_
  refine lz_iadd (pc := 473) C dL_law_473 ?_
  refine lz_sld (j := i + 3) (pc := 474) C (nI_add i 3) (by omega) hL rfl dL_law_474 ?_
  refine lz_call (pc := 475) C (As := [.int (xs (i + 1)), .int (xs (i + 2)), .int (xs (i + 3))]) nk_149 sh_149 rfl yk_X10_hand cl_L_60 (k10_hand e2) (by decide) rfl (Nat.le_of_ble_eq_true rfl) rfl dL_law_475 ?_
  refine lz_eq (tgt := 1069) (pc := 478) C dL_law_478 rfl rfl ?_
  exact kk s2 hI2
set_option maxHeartbeats 4000000 in
set_option maxRecDepth 100000 in
theorem lz_stuff {X : sf_X} {V : sf_V} {b L i : Nat} {xs : Nat → Int32} {Q : State → Prop} {Inv : sf_Sg → Prop} {s : sf_Sg} (C : lz_C X V b L xs) (S : st_stuff Inv) (hI : Inv s) (hL : L ≤ 256) (hi : i + 4 ≤ L) (kk : ∀ s2, Inv s2 → lz_G X V Q s2 1069 [(3, .int (nI i)), (0, .ref b), (1, .ref (V.2.1 0)), (2, .ref (V.2.1 149))] []) : lz_G X V Q s 483 [(3, .int (nI i)), (0, .ref b), (1, .ref (V.2.1 0)), (2, .ref (V.2.1 149))] [] := by
  obtain ⟨r, s1, s2, e1, e2, hI2⟩ := S s (xs (i + 1)) (xs (i + 2)) hI
  refine lz_aload_n (pc := 483) C 2 dL_law_483 rfl ?_
  refine lz_aload_n (pc := 484) C 1 dL_law_484 rfl ?_
  refine lz_iload_n (pc := 485) C 0 dL_law_485 rfl ?_
  refine lz_iconst (v := 1) (pc := 486) C dL_law_486 (by decide) ?_
  refine lz_iadd (pc := 487) C dL_law_487 ?_
  refine lz_sld (j := i + 1) (pc := 488) C (nI_add i 1) (by omega) hL rfl dL_law_488 ?_
  refine lz_aload_n (pc := 489) C 1 dL_law_489 rfl ?_
  refine lz_iload_n (pc := 490) C 0 dL_law_490 rfl ?_
  refine lz_iconst (v := 2) (pc := 491) C dL_law_491 (by decide) ?_
  refine lz_iadd (pc := 492) C dL_law_492 ?_
  refine lz_sld (j := i + 2) (pc := 493) C (nI_add i 2) (by omega) hL rfl dL_law_493 ?_
  refine lz_call (pc := 494) C (As := [.int (xs (i + 1)), .int (xs (i + 2))]) nk_0 sh_0 rfl yk_X9_stuff cl_L_61 (k9_stuff e1) (by decide) rfl (Nat.le_of_ble_eq_true rfl) rfl dL_law_494 ?_
  refine lz_aload_n (pc := 497) C 3 dL_law_497 rfl ?_
  refine lz_aload_n (pc := 498) C 1 dL_law_498 rfl ?_
  refine lz_iload_n (pc := 499) C 0 dL_law_499 rfl ?_
  refine lz_iconst (v := 1) (pc := 500) C dL_law_500 (by decide) ?_
  refine lz_iadd (pc := 501) C dL_law_501 ?_
  refine lz_sld (j := i + 1) (pc := 502) C (nI_add i 1) (by omega) hL rfl dL_law_502 ?_
  refine lz_aload_n (pc := 503) C 1 dL_law_503 rfl ?_
  refine lz_iload_n (pc := 504) C 0 dL_law_504 rfl ?_
  refine lz_iconst (v := 2) (pc := 505) C dL_law_505 (by decide) ?_
  refine lz_iadd (pc := 506) C dL_law_506 ?_
  refine lz_sld (j := i + 2) (pc := 507) C (nI_add i 2) (by omega) hL rfl dL_law_507 ?_
  refine lz_call (pc := 508) C (As := [.int (xs (i + 1)), .int (xs (i + 2))]) nk_149 sh_149 rfl yk_X10_stuff cl_L_64 (k10_stuff e2) (by decide) rfl (Nat.le_of_ble_eq_true rfl) rfl dL_law_508 ?_
  refine lz_eq (tgt := 1069) (pc := 511) C dL_law_511 rfl rfl ?_
  exact kk s2 hI2
set_option maxHeartbeats 4000000 in
set_option maxRecDepth 100000 in
theorem lz_weigh {X : sf_X} {V : sf_V} {b L i : Nat} {xs : Nat → Int32} {Q : State → Prop} {Inv : sf_Sg → Prop} {s : sf_Sg} (C : lz_C X V b L xs) (S : st_weigh Inv) (hI : Inv s) (hL : L ≤ 256) (hi : i + 4 ≤ L) (kk : ∀ s2, Inv s2 → lz_G X V Q s2 1069 [(3, .int (nI i)), (0, .ref b), (1, .ref (V.2.1 0)), (2, .ref (V.2.1 149))] []) : lz_G X V Q s 516 [(3, .int (nI i)), (0, .ref b), (1, .ref (V.2.1 0)), (2, .ref (V.2.1 149))] [] := by
  obtain ⟨r, s1, s2, e1, e2, hI2⟩ := S s (xs (i + 1)) (xs (i + 2)) hI
  refine lz_aload_n (pc := 516) C 2 dL_law_516 rfl ?_
  refine lz_aload_n (pc := 517) C 1 dL_law_517 rfl ?_
  refine lz_iload_n (pc := 518) C 0 dL_law_518 rfl ?_
  refine lz_iconst (v := 1) (pc := 519) C dL_law_519 (by decide) ?_
  refine lz_iadd (pc := 520) C dL_law_520 ?_
  refine lz_sld (j := i + 1) (pc := 521) C (nI_add i 1) (by omega) hL rfl dL_law_521 ?_
  refine lz_aload_n (pc := 522) C 1 dL_law_522 rfl ?_
  refine lz_iload_n (pc := 523) C 0 dL_law_523 rfl ?_
  refine lz_iconst (v := 2) (pc := 524) C dL_law_524 (by decide) ?_
  refine lz_iadd (pc := 525) C dL_law_525 ?_
  refine lz_sld (j := i + 2) (pc := 526) C (nI_add i 2) (by omega) hL rfl dL_law_526 ?_
  refine lz_call (pc := 527) C (As := [.int (xs (i + 1)), .int (xs (i + 2))]) nk_0 sh_0 rfl yk_X9_weigh cl_L_65 (k9_weigh e1) (by decide) rfl (Nat.le_of_ble_eq_true rfl) rfl dL_law_527 ?_
  refine lz_aload_n (pc := 530) C 3 dL_law_530 rfl ?_
  refine lz_aload_n (pc := 531) C 1 dL_law_531 rfl ?_
  refine lz_iload_n (pc := 532) C 0 dL_law_532 rfl ?_
  refine lz_iconst (v := 1) (pc := 533) C dL_law_533 (by decide) ?_
  refine lz_iadd (pc := 534) C dL_law_534 ?_
  refine lz_sld (j := i + 1) (pc := 535) C (nI_add i 1) (by omega) hL rfl dL_law_535 ?_
  refine lz_aload_n (pc := 536) C 1 dL_law_536 rfl ?_
  refine lz_iload_n (pc := 537) C 0 dL_law_537 rfl ?_
  refine lz_iconst (v := 2) (pc := 538) C dL_law_538 (by decide) ?_
  refine lz_iadd (pc := 539) C dL_law_539 ?_
  refine lz_sld (j := i + 2) (pc := 540) C (nI_add i 2) (by omega) hL rfl dL_law_540 ?_
  refine lz_call (pc := 541) C (As := [.int (xs (i + 1)), .int (xs (i + 2))]) nk_149 sh_149 rfl yk_X10_weigh cl_L_68 (k10_weigh e2) (by decide) rfl (Nat.le_of_ble_eq_true rfl) rfl dL_law_541 ?_
  refine lz_eq (tgt := 1069) (pc := 544) C dL_law_544 rfl rfl ?_
  exact kk s2 hI2
set_option maxHeartbeats 4000000 in
set_option maxRecDepth 100000 in
theorem lz_drift {X : sf_X} {V : sf_V} {b L i : Nat} {xs : Nat → Int32} {Q : State → Prop} {Inv : sf_Sg → Prop} {s : sf_Sg} (C : lz_C X V b L xs) (S : st_drift Inv) (hI : Inv s) (hL : L ≤ 256) (hi : i + 4 ≤ L) (kk : ∀ s2, Inv s2 → lz_G X V Q s2 1069 [(3, .int (nI i)), (0, .ref b), (1, .ref (V.2.1 0)), (2, .ref (V.2.1 149))] []) : lz_G X V Q s 549 [(3, .int (nI i)), (0, .ref b), (1, .ref (V.2.1 0)), (2, .ref (V.2.1 149))] [] := by
  obtain ⟨r, s1, s2, e1, e2, hI2⟩ := S s (xs (i + 1)) hI
  refine lz_aload_n (pc := 549) C 2 dL_law_549 rfl ?_
  refine lz_aload_n (pc := 550) C 1 dL_law_550 rfl ?_
  refine lz_iload_n (pc := 551) C 0 dL_law_551 rfl ?_
  refine lz_iconst (v := 1) (pc := 552) C dL_law_552 (by decide) ?_
  refine lz_iadd (pc := 553) C dL_law_553 ?_
  refine lz_sld (j := i + 1) (pc := 554) C (nI_add i 1) (by omega) hL rfl dL_law_554 ?_
  refine lz_call (pc := 555) C (As := [.int (xs (i + 1))]) nk_0 sh_0 rfl yk_X9_drift cl_L_69 (k9_drift e1) (by decide) rfl (Nat.le_of_ble_eq_true rfl) rfl dL_law_555 ?_
  refine lz_aload_n (pc := 558) C 3 dL_law_558 rfl ?_
  refine lz_aload_n (pc := 559) C 1 dL_law_559 rfl ?_
  refine lz_iload_n (pc := 560) C 0 dL_law_560 rfl ?_
  refine lz_iconst (v := 1) (pc := 561) C dL_law_561 (by decide) ?_
  refine lz_iadd (pc := 562) C dL_law_562 ?_
  refine lz_sld (j := i + 1) (pc := 563) C (nI_add i 1) (by omega) hL rfl dL_law_563 ?_
  refine lz_call (pc := 564) C (As := [.int (xs (i + 1))]) nk_149 sh_149 rfl yk_X10_drift cl_L_72 (k10_drift e2) (by decide) rfl (Nat.le_of_ble_eq_true rfl) rfl dL_law_564 ?_
  refine lz_eq (tgt := 1069) (pc := 567) C dL_law_567 rfl rfl ?_
  exact kk s2 hI2
set_option maxHeartbeats 4000000 in
set_option maxRecDepth 100000 in
theorem lz_undo {X : sf_X} {V : sf_V} {b L i : Nat} {xs : Nat → Int32} {Q : State → Prop} {Inv : sf_Sg → Prop} {s : sf_Sg} (C : lz_C X V b L xs) (S : st_undo Inv) (hI : Inv s) (hL : L ≤ 256) (hi : i + 4 ≤ L) (kk : ∀ s2, Inv s2 → lz_G X V Q s2 1069 [(3, .int (nI i)), (0, .ref b), (1, .ref (V.2.1 0)), (2, .ref (V.2.1 149))] []) : lz_G X V Q s 572 [(3, .int (nI i)), (0, .ref b), (1, .ref (V.2.1 0)), (2, .ref (V.2.1 149))] [] := by
  obtain ⟨r, s1, s2, e1, e2, hI2⟩ := S s  hI
  refine lz_aload_n (pc := 572) C 2 dL_law_572 rfl ?_
  refine lz_call (pc := 573) C (As := []) nk_0 sh_0 rfl yk_X9_undo cl_L_73 (k9_undo e1) (by decide) rfl (Nat.le_of_ble_eq_true rfl) rfl dL_law_573 ?_
  refine lz_aload_n (pc := 576) C 3 dL_law_576 rfl ?_
  refine lz_call (pc := 577) C (As := []) nk_149 sh_149 rfl yk_X10_undo cl_L_76 (k10_undo e2) (by decide) rfl (Nat.le_of_ble_eq_true rfl) rfl dL_law_577 ?_
  refine lz_eq (tgt := 1069) (pc := 580) C dL_law_580 rfl rfl ?_
  exact kk s2 hI2
set_option maxHeartbeats 4000000 in
set_option maxRecDepth 100000 in
theorem lz_sore {X : sf_X} {V : sf_V} {b L i : Nat} {xs : Nat → Int32} {Q : State → Prop} {Inv : sf_Sg → Prop} {s : sf_Sg} (C : lz_C X V b L xs) (S : st_sore Inv) (hI : Inv s) (hL : L ≤ 256) (hi : i + 4 ≤ L) (kk : ∀ s2, Inv s2 → lz_G X V Q s2 1069 [(3, .int (nI i)), (0, .ref b), (1, .ref (V.2.1 0)), (2, .ref (V.2.1 149))] []) : lz_G X V Q s 585 [(3, .int (nI i)), (0, .ref b), (1, .ref (V.2.1 0)), (2, .ref (V.2.1 149))] [] := by
  obtain ⟨r, s2, e1, e2, hI2⟩ := S s (xs (i + 1)) (xs (i + 2)) hI
  refine lz_aload_n (pc := 585) C 2 dL_law_585 rfl ?_
  refine lz_aload_n (pc := 586) C 1 dL_law_586 rfl ?_
  refine lz_iload_n (pc := 587) C 0 dL_law_587 rfl ?_
  refine lz_iconst (v := 1) (pc := 588) C dL_law_588 (by decide) ?_
  refine lz_iadd (pc := 589) C dL_law_589 ?_
  refine lz_sld (j := i + 1) (pc := 590) C (nI_add i 1) (by omega) hL rfl dL_law_590 ?_
  refine lz_aload_n (pc := 591) C 1 dL_law_591 rfl ?_
  refine lz_iload_n (pc := 592) C 0 dL_law_592 rfl ?_
  refine lz_iconst (v := 2) (pc := 593) C dL_law_593 (by decide) ?_
  refine lz_iadd (pc := 594) C dL_law_594 ?_
  refine lz_sld (j := i + 2) (pc := 595) C (nI_add i 2) (by omega) hL rfl dL_law_595 ?_
  refine lz_call (pc := 596) C (As := [.int (xs (i + 1)), .int (xs (i + 2))]) nk_0 sh_0 rfl yk_X9_sore cl_L_77 (k9_sore e1) (by decide) rfl (Nat.le_of_ble_eq_true rfl) rfl dL_law_596 ?_
  refine lz_aload_n (pc := 599) C 3 dL_law_599 rfl ?_
  refine lz_aload_n (pc := 600) C 1 dL_law_600 rfl ?_
  refine lz_iload_n (pc := 601) C 0 dL_law_601 rfl ?_
  refine lz_iconst (v := 1) (pc := 602) C dL_law_602 (by decide) ?_
  refine lz_iadd (pc := 603) C dL_law_603 ?_
  refine lz_sld (j := i + 1) (pc := 604) C (nI_add i 1) (by omega) hL rfl dL_law_604 ?_
  refine lz_aload_n (pc := 605) C 1 dL_law_605 rfl ?_
  refine lz_iload_n (pc := 606) C 0 dL_law_606 rfl ?_
  refine lz_iconst (v := 2) (pc := 607) C dL_law_607 (by decide) ?_
  refine lz_iadd (pc := 608) C dL_law_608 ?_
  refine lz_sld (j := i + 2) (pc := 609) C (nI_add i 2) (by omega) hL rfl dL_law_609 ?_
  refine lz_call (pc := 610) C (As := [.int (xs (i + 1)), .int (xs (i + 2))]) nk_149 sh_149 rfl yk_X10_sore cl_L_80 (k10_sore e2) (by decide) rfl (Nat.le_of_ble_eq_true rfl) rfl dL_law_610 ?_
  refine lz_eq (tgt := 1069) (pc := 613) C dL_law_613 rfl rfl ?_
  exact kk s2 hI2
set_option maxHeartbeats 4000000 in
set_option maxRecDepth 100000 in
theorem lz_when {X : sf_X} {V : sf_V} {b L i : Nat} {xs : Nat → Int32} {Q : State → Prop} {Inv : sf_Sg → Prop} {s : sf_Sg} (C : lz_C X V b L xs) (S : st_when Inv) (hI : Inv s) (hL : L ≤ 256) (hi : i + 4 ≤ L) (kk : ∀ s2, Inv s2 → lz_G X V Q s2 1069 [(3, .int (nI i)), (0, .ref b), (1, .ref (V.2.1 0)), (2, .ref (V.2.1 149))] []) : lz_G X V Q s 618 [(3, .int (nI i)), (0, .ref b), (1, .ref (V.2.1 0)), (2, .ref (V.2.1 149))] [] := by
  obtain ⟨r, s2, e1, e2, hI2⟩ := S s (xs (i + 1)) hI
  refine lz_aload_n (pc := 618) C 2 dL_law_618 rfl ?_
  refine lz_aload_n (pc := 619) C 1 dL_law_619 rfl ?_
  refine lz_iload_n (pc := 620) C 0 dL_law_620 rfl ?_
  refine lz_iconst (v := 1) (pc := 621) C dL_law_621 (by decide) ?_
  refine lz_iadd (pc := 622) C dL_law_622 ?_
  refine lz_sld (j := i + 1) (pc := 623) C (nI_add i 1) (by omega) hL rfl dL_law_623 ?_
  refine lz_call (pc := 624) C (As := [.int (xs (i + 1))]) nk_0 sh_0 rfl yk_X9_when cl_L_81 (k9_when e1) (by decide) rfl (Nat.le_of_ble_eq_true rfl) rfl dL_law_624 ?_
  refine lz_aload_n (pc := 627) C 3 dL_law_627 rfl ?_
  refine lz_aload_n (pc := 628) C 1 dL_law_628 rfl ?_
  refine lz_iload_n (pc := 629) C 0 dL_law_629 rfl ?_
  refine lz_iconst (v := 1) (pc := 630) C dL_law_630 (by decide) ?_
  refine lz_iadd (pc := 631) C dL_law_631 ?_
  refine lz_sld (j := i + 1) (pc := 632) C (nI_add i 1) (by omega) hL rfl dL_law_632 ?_
  refine lz_call (pc := 633) C (As := [.int (xs (i + 1))]) nk_149 sh_149 rfl yk_X10_when cl_L_84 (k10_when e2) (by decide) rfl (Nat.le_of_ble_eq_true rfl) rfl dL_law_633 ?_
  refine lz_eq (tgt := 1069) (pc := 636) C dL_law_636 rfl rfl ?_
  exact kk s2 hI2
set_option maxHeartbeats 4000000 in
set_option maxRecDepth 100000 in
theorem lz_worst {X : sf_X} {V : sf_V} {b L i : Nat} {xs : Nat → Int32} {Q : State → Prop} {Inv : sf_Sg → Prop} {s : sf_Sg} (C : lz_C X V b L xs) (S : st_worst Inv) (hI : Inv s) (hL : L ≤ 256) (hi : i + 4 ≤ L) (kk : ∀ s2, Inv s2 → lz_G X V Q s2 1069 [(3, .int (nI i)), (0, .ref b), (1, .ref (V.2.1 0)), (2, .ref (V.2.1 149))] []) : lz_G X V Q s 641 [(3, .int (nI i)), (0, .ref b), (1, .ref (V.2.1 0)), (2, .ref (V.2.1 149))] [] := by
  obtain ⟨r, s2, e1, e2, hI2⟩ := S s (xs (i + 1)) (xs (i + 2)) hI
  refine lz_aload_n (pc := 641) C 2 dL_law_641 rfl ?_
  refine lz_aload_n (pc := 642) C 1 dL_law_642 rfl ?_
  refine lz_iload_n (pc := 643) C 0 dL_law_643 rfl ?_
  refine lz_iconst (v := 1) (pc := 644) C dL_law_644 (by decide) ?_
  refine lz_iadd (pc := 645) C dL_law_645 ?_
  refine lz_sld (j := i + 1) (pc := 646) C (nI_add i 1) (by omega) hL rfl dL_law_646 ?_
  refine lz_aload_n (pc := 647) C 1 dL_law_647 rfl ?_
  refine lz_iload_n (pc := 648) C 0 dL_law_648 rfl ?_
  refine lz_iconst (v := 2) (pc := 649) C dL_law_649 (by decide) ?_
  refine lz_iadd (pc := 650) C dL_law_650 ?_
  refine lz_sld (j := i + 2) (pc := 651) C (nI_add i 2) (by omega) hL rfl dL_law_651 ?_
  refine lz_call (pc := 652) C (As := [.int (xs (i + 1)), .int (xs (i + 2))]) nk_0 sh_0 rfl yk_X9_worst cl_L_85 (k9_worst e1) (by decide) rfl (Nat.le_of_ble_eq_true rfl) rfl dL_law_652 ?_
  refine lz_aload_n (pc := 655) C 3 dL_law_655 rfl ?_
  refine lz_aload_n (pc := 656) C 1 dL_law_656 rfl ?_
  refine lz_iload_n (pc := 657) C 0 dL_law_657 rfl ?_
  refine lz_iconst (v := 1) (pc := 658) C dL_law_658 (by decide) ?_
  refine lz_iadd (pc := 659) C dL_law_659 ?_
  refine lz_sld (j := i + 1) (pc := 660) C (nI_add i 1) (by omega) hL rfl dL_law_660 ?_
  refine lz_aload_n (pc := 661) C 1 dL_law_661 rfl ?_
  refine lz_iload_n (pc := 662) C 0 dL_law_662 rfl ?_
  refine lz_iconst (v := 2) (pc := 663) C dL_law_663 (by decide) ?_
  refine lz_iadd (pc := 664) C dL_law_664 ?_
  refine lz_sld (j := i + 2) (pc := 665) C (nI_add i 2) (by omega) hL rfl dL_law_665 ?_
  refine lz_call (pc := 666) C (As := [.int (xs (i + 1)), .int (xs (i + 2))]) nk_149 sh_149 rfl yk_X10_worst cl_L_88 (k10_worst e2) (by decide) rfl (Nat.le_of_ble_eq_true rfl) rfl dL_law_666 ?_
  refine lz_eq (tgt := 1069) (pc := 669) C dL_law_669 rfl rfl ?_
  exact kk s2 hI2
set_option maxHeartbeats 4000000 in
set_option maxRecDepth 100000 in
theorem lz_fit {X : sf_X} {V : sf_V} {b L i : Nat} {xs : Nat → Int32} {Q : State → Prop} {Inv : sf_Sg → Prop} {s : sf_Sg} (C : lz_C X V b L xs) (S : st_fit Inv) (hI : Inv s) (hL : L ≤ 256) (hi : i + 4 ≤ L) (kk : ∀ s2, Inv s2 → lz_G X V Q s2 1069 [(3, .int (nI i)), (0, .ref b), (1, .ref (V.2.1 0)), (2, .ref (V.2.1 149))] []) : lz_G X V Q s 674 [(3, .int (nI i)), (0, .ref b), (1, .ref (V.2.1 0)), (2, .ref (V.2.1 149))] [] := by
  obtain ⟨r, s1, s2, e1, e2, hI2⟩ := S s (xs (i + 1)) hI
  refine lz_aload_n (pc := 674) C 2 dL_law_674 rfl ?_
  refine lz_aload_n (pc := 675) C 1 dL_law_675 rfl ?_
  refine lz_iload_n (pc := 676) C 0 dL_law_676 rfl ?_
  refine lz_iconst (v := 1) (pc := 677) C dL_law_677 (by decide) ?_
  refine lz_iadd (pc := 678) C dL_law_678 ?_
  refine lz_sld (j := i + 1) (pc := 679) C (nI_add i 1) (by omega) hL rfl dL_law_679 ?_
  refine lz_call (pc := 680) C (As := [.int (xs (i + 1))]) nk_0 sh_0 rfl yk_X9_fit cl_L_89 (k9_fit e1) (by decide) rfl (Nat.le_of_ble_eq_true rfl) rfl dL_law_680 ?_
  refine lz_aload_n (pc := 683) C 3 dL_law_683 rfl ?_
  refine lz_aload_n (pc := 684) C 1 dL_law_684 rfl ?_
  refine lz_iload_n (pc := 685) C 0 dL_law_685 rfl ?_
  refine lz_iconst (v := 1) (pc := 686) C dL_law_686 (by decide) ?_
  refine lz_iadd (pc := 687) C dL_law_687 ?_
  refine lz_sld (j := i + 1) (pc := 688) C (nI_add i 1) (by omega) hL rfl dL_law_688 ?_
  refine lz_call (pc := 689) C (As := [.int (xs (i + 1))]) nk_149 sh_149 rfl yk_X10_fit cl_L_92 (k10_fit e2) (by decide) rfl (Nat.le_of_ble_eq_true rfl) rfl dL_law_689 ?_
  refine lz_eq (tgt := 1069) (pc := 692) C dL_law_692 rfl rfl ?_
  exact kk s2 hI2
set_option maxHeartbeats 4000000 in
set_option maxRecDepth 100000 in
theorem lz_byTwo {X : sf_X} {V : sf_V} {b L i : Nat} {xs : Nat → Int32} {Q : State → Prop} {Inv : sf_Sg → Prop} {s : sf_Sg} (C : lz_C X V b L xs) (S : st_byTwo Inv) (hI : Inv s) (hL : L ≤ 256) (hi : i + 4 ≤ L) (kk : ∀ s2, Inv s2 → lz_G X V Q s2 1069 [(3, .int (nI i)), (0, .ref b), (1, .ref (V.2.1 0)), (2, .ref (V.2.1 149))] []) : lz_G X V Q s 697 [(3, .int (nI i)), (0, .ref b), (1, .ref (V.2.1 0)), (2, .ref (V.2.1 149))] [] := by
  obtain ⟨r, s1, s2, e1, e2, hI2⟩ := S s (xs (i + 1)) (xs (i + 2)) hI
  refine lz_aload_n (pc := 697) C 2 dL_law_697 rfl ?_
  refine lz_aload_n (pc := 698) C 1 dL_law_698 rfl ?_
  refine lz_iload_n (pc := 699) C 0 dL_law_699 rfl ?_
  refine lz_iconst (v := 1) (pc := 700) C dL_law_700 (by decide) ?_
  refine lz_iadd (pc := 701) C dL_law_701 ?_
  refine lz_sld (j := i + 1) (pc := 702) C (nI_add i 1) (by omega) hL rfl dL_law_702 ?_
  refine lz_aload_n (pc := 703) C 1 dL_law_703 rfl ?_
  refine lz_iload_n (pc := 704) C 0 dL_law_704 rfl ?_
  refine lz_iconst (v := 2) (pc := 705) C dL_law_705 (by decide) ?_
  refine lz_iadd (pc := 706) C dL_law_706 ?_
  refine lz_sld (j := i + 2) (pc := 707) C (nI_add i 2) (by omega) hL rfl dL_law_707 ?_
  refine lz_call (pc := 708) C (As := [.int (xs (i + 1)), .int (xs (i + 2))]) nk_0 sh_0 rfl yk_X9_byTwo cl_L_93 (k9_byTwo e1) (by decide) rfl (Nat.le_of_ble_eq_true rfl) rfl dL_law_708 ?_
  refine lz_aload_n (pc := 711) C 3 dL_law_711 rfl ?_
  refine lz_aload_n (pc := 712) C 1 dL_law_712 rfl ?_
  refine lz_iload_n (pc := 713) C 0 dL_law_713 rfl ?_
  refine lz_iconst (v := 1) (pc := 714) C dL_law_714 (by decide) ?_
  refine lz_iadd (pc := 715) C dL_law_715 ?_
  refine lz_sld (j := i + 1) (pc := 716) C (nI_add i 1) (by omega) hL rfl dL_law_716 ?_
  refine lz_aload_n (pc := 717) C 1 dL_law_717 rfl ?_
  refine lz_iload_n (pc := 718) C 0 dL_law_718 rfl ?_
  refine lz_iconst (v := 2) (pc := 719) C dL_law_719 (by decide) ?_
  refine lz_iadd (pc := 720) C dL_law_720 ?_
  refine lz_sld (j := i + 2) (pc := 721) C (nI_add i 2) (by omega) hL rfl dL_law_721 ?_
  refine lz_call (pc := 722) C (As := [.int (xs (i + 1)), .int (xs (i + 2))]) nk_149 sh_149 rfl yk_X10_byTwo cl_L_96 (k10_byTwo e2) (by decide) rfl (Nat.le_of_ble_eq_true rfl) rfl dL_law_722 ?_
  refine lz_eq (tgt := 1069) (pc := 725) C dL_law_725 rfl rfl ?_
  exact kk s2 hI2
set_option maxHeartbeats 4000000 in
set_option maxRecDepth 100000 in
theorem lz_order {X : sf_X} {V : sf_V} {b L i : Nat} {xs : Nat → Int32} {Q : State → Prop} {Inv : sf_Sg → Prop} {s : sf_Sg} (C : lz_C X V b L xs) (S : st_order Inv) (hI : Inv s) (hL : L ≤ 256) (hi : i + 4 ≤ L) (kk : ∀ s2, Inv s2 → lz_G X V Q s2 1069 [(3, .int (nI i)), (0, .ref b), (1, .ref (V.2.1 0)), (2, .ref (V.2.1 149))] []) : lz_G X V Q s 730 [(3, .int (nI i)), (0, .ref b), (1, .ref (V.2.1 0)), (2, .ref (V.2.1 149))] [] := by
  obtain ⟨r, s1, s2, e1, e2, hI2⟩ := S s (xs (i + 1)) (xs (i + 2)) hI
  refine lz_aload_n (pc := 730) C 2 dL_law_730 rfl ?_
  refine lz_aload_n (pc := 731) C 1 dL_law_731 rfl ?_
  refine lz_iload_n (pc := 732) C 0 dL_law_732 rfl ?_
  refine lz_iconst (v := 1) (pc := 733) C dL_law_733 (by decide) ?_
  refine lz_iadd (pc := 734) C dL_law_734 ?_
  refine lz_sld (j := i + 1) (pc := 735) C (nI_add i 1) (by omega) hL rfl dL_law_735 ?_
  refine lz_aload_n (pc := 736) C 1 dL_law_736 rfl ?_
  refine lz_iload_n (pc := 737) C 0 dL_law_737 rfl ?_
  refine lz_iconst (v := 2) (pc := 738) C dL_law_738 (by decide) ?_
  refine lz_iadd (pc := 739) C dL_law_739 ?_
  refine lz_sld (j := i + 2) (pc := 740) C (nI_add i 2) (by omega) hL rfl dL_law_740 ?_
  refine lz_call (pc := 741) C (As := [.int (xs (i + 1)), .int (xs (i + 2))]) nk_0 sh_0 rfl yk_X9_order cl_L_97 (k9_order e1) (by decide) rfl (Nat.le_of_ble_eq_true rfl) rfl dL_law_741 ?_
  refine lz_aload_n (pc := 744) C 3 dL_law_744 rfl ?_
  refine lz_aload_n (pc := 745) C 1 dL_law_745 rfl ?_
  refine lz_iload_n (pc := 746) C 0 dL_law_746 rfl ?_
  refine lz_iconst (v := 1) (pc := 747) C dL_law_747 (by decide) ?_
  refine lz_iadd (pc := 748) C dL_law_748 ?_
  refine lz_sld (j := i + 1) (pc := 749) C (nI_add i 1) (by omega) hL rfl dL_law_749 ?_
  refine lz_aload_n (pc := 750) C 1 dL_law_750 rfl ?_
  refine lz_iload_n (pc := 751) C 0 dL_law_751 rfl ?_
  refine lz_iconst (v := 2) (pc := 752) C dL_law_752 (by decide) ?_
  refine lz_iadd (pc := 753) C dL_law_753 ?_
  refine lz_sld (j := i + 2) (pc := 754) C (nI_add i 2) (by omega) hL rfl dL_law_754 ?_
  refine lz_call (pc := 755) C (As := [.int (xs (i + 1)), .int (xs (i + 2))]) nk_149 sh_149 rfl yk_X10_order cl_L_100 (k10_order e2) (by decide) rfl (Nat.le_of_ble_eq_true rfl) rfl dL_law_755 ?_
  refine lz_eq (tgt := 1069) (pc := 758) C dL_law_758 rfl rfl ?_
  exact kk s2 hI2
set_option maxHeartbeats 4000000 in
set_option maxRecDepth 100000 in
theorem lz_could {X : sf_X} {V : sf_V} {b L i : Nat} {xs : Nat → Int32} {Q : State → Prop} {Inv : sf_Sg → Prop} {s : sf_Sg} (C : lz_C X V b L xs) (S : st_could Inv) (hI : Inv s) (hL : L ≤ 256) (hi : i + 4 ≤ L) (kk : ∀ s2, Inv s2 → lz_G X V Q s2 1069 [(3, .int (nI i)), (0, .ref b), (1, .ref (V.2.1 0)), (2, .ref (V.2.1 149))] []) : lz_G X V Q s 763 [(3, .int (nI i)), (0, .ref b), (1, .ref (V.2.1 0)), (2, .ref (V.2.1 149))] [] := by
  obtain ⟨r, s2, e1, e2, hI2⟩ := S s (xs (i + 1)) hI
  refine lz_aload_n (pc := 763) C 2 dL_law_763 rfl ?_
  refine lz_aload_n (pc := 764) C 1 dL_law_764 rfl ?_
  refine lz_iload_n (pc := 765) C 0 dL_law_765 rfl ?_
  refine lz_iconst (v := 1) (pc := 766) C dL_law_766 (by decide) ?_
  refine lz_iadd (pc := 767) C dL_law_767 ?_
  refine lz_sld (j := i + 1) (pc := 768) C (nI_add i 1) (by omega) hL rfl dL_law_768 ?_
  refine lz_call (pc := 769) C (As := [.int (xs (i + 1))]) nk_0 sh_0 rfl yk_X9_could cl_L_101 (k9_could e1) (by decide) rfl (Nat.le_of_ble_eq_true rfl) rfl dL_law_769 ?_
  refine lz_aload_n (pc := 772) C 3 dL_law_772 rfl ?_
  refine lz_aload_n (pc := 773) C 1 dL_law_773 rfl ?_
  refine lz_iload_n (pc := 774) C 0 dL_law_774 rfl ?_
  refine lz_iconst (v := 1) (pc := 775) C dL_law_775 (by decide) ?_
  refine lz_iadd (pc := 776) C dL_law_776 ?_
  refine lz_sld (j := i + 1) (pc := 777) C (nI_add i 1) (by omega) hL rfl dL_law_777 ?_
  refine lz_call (pc := 778) C (As := [.int (xs (i + 1))]) nk_149 sh_149 rfl yk_X10_could cl_L_104 (k10_could e2) (by decide) rfl (Nat.le_of_ble_eq_true rfl) rfl dL_law_778 ?_
  refine lz_eq (tgt := 1069) (pc := 781) C dL_law_781 rfl rfl ?_
  exact kk s2 hI2
set_option maxHeartbeats 4000000 in
set_option maxRecDepth 100000 in
theorem lz_shareOf {X : sf_X} {V : sf_V} {b L i : Nat} {xs : Nat → Int32} {Q : State → Prop} {Inv : sf_Sg → Prop} {s : sf_Sg} (C : lz_C X V b L xs) (S : st_shareOf Inv) (hI : Inv s) (hL : L ≤ 256) (hi : i + 4 ≤ L) (kk : ∀ s2, Inv s2 → lz_G X V Q s2 1069 [(3, .int (nI i)), (0, .ref b), (1, .ref (V.2.1 0)), (2, .ref (V.2.1 149))] []) : lz_G X V Q s 786 [(3, .int (nI i)), (0, .ref b), (1, .ref (V.2.1 0)), (2, .ref (V.2.1 149))] [] := by
  obtain ⟨r, e1, e2⟩ := S s (xs (i + 1)) (xs (i + 2)) (xs (i + 3)) hI
  refine lz_aload_n (pc := 786) C 2 dL_law_786 rfl ?_
  refine lz_aload_n (pc := 787) C 1 dL_law_787 rfl ?_
  refine lz_iload_n (pc := 788) C 0 dL_law_788 rfl ?_
  refine lz_iconst (v := 1) (pc := 789) C dL_law_789 (by decide) ?_
  refine lz_iadd (pc := 790) C dL_law_790 ?_
  refine lz_sld (j := i + 1) (pc := 791) C (nI_add i 1) (by omega) hL rfl dL_law_791 ?_
  refine lz_aload_n (pc := 792) C 1 dL_law_792 rfl ?_
  refine lz_iload_n (pc := 793) C 0 dL_law_793 rfl ?_
  refine lz_iconst (v := 2) (pc := 794) C dL_law_794 (by decide) ?_
  refine lz_iadd (pc := 795) C dL_law_795 ?_
  refine lz_sld (j := i + 2) (pc := 796) C (nI_add i 2) (by omega) hL rfl dL_law_796 ?_
  refine lz_aload_n (pc := 797) C 1 dL_law_797 rfl ?_
  refine lz_iload_n (pc := 798) C 0 dL_law_798 rfl ?_
  refine lz_iconst (v := 3) (pc := 799) C dL_law_799 (by decide) ?_
  refine lz_iadd (pc := 800) C dL_law_800 ?_
  refine lz_sld (j := i + 3) (pc := 801) C (nI_add i 3) (by omega) hL rfl dL_law_801 ?_
  refine lz_call (pc := 802) C (As := [.int (xs (i + 1)), .int (xs (i + 2)), .int (xs (i + 3))]) nk_0 sh_0 rfl yk_X9_shareOf cl_L_105 (k9_shareOf e1) (by decide) rfl (Nat.le_of_ble_eq_true rfl) rfl dL_law_802 ?_
  refine lz_aload_n (pc := 805) C 3 dL_law_805 rfl ?_
  refine lz_aload_n (pc := 806) C 1 dL_law_806 rfl ?_
  refine lz_iload_n (pc := 807) C 0 dL_law_807 rfl ?_
  refine lz_iconst (v := 1) (pc := 808) C dL_law_808 (by decide) ?_
  refine lz_iadd (pc := 809) C dL_law_809 ?_
  refine lz_sld (j := i + 1) (pc := 810) C (nI_add i 1) (by omega) hL rfl dL_law_810 ?_
  refine lz_aload_n (pc := 811) C 1 dL_law_811 rfl ?_
  refine lz_iload_n (pc := 812) C 0 dL_law_812 rfl ?_
  refine lz_iconst (v := 2) (pc := 813) C dL_law_813 (by decide) ?_
  refine lz_iadd (pc := 814) C dL_law_814 ?_
  refine lz_sld (j := i + 2) (pc := 815) C (nI_add i 2) (by omega) hL rfl dL_law_815 ?_
  refine lz_aload_n (pc := 816) C 1 dL_law_816 rfl ?_
  refine lz_iload_n (pc := 817) C 0 dL_law_817 rfl ?_
  refine lz_iconst (v := 3) (pc := 818) C dL_law_818 (by decide) ?_
  refine lz_iadd (pc := 819) C dL_law_819 ?_
  refine lz_sld (j := i + 3) (pc := 820) C (nI_add i 3) (by omega) hL rfl dL_law_820 ?_
  refine lz_call (pc := 821) C (As := [.int (xs (i + 1)), .int (xs (i + 2)), .int (xs (i + 3))]) nk_149 sh_149 rfl yk_X10_shareOf cl_L_108 (k10_shareOf e2) (by decide) rfl (Nat.le_of_ble_eq_true rfl) rfl dL_law_821 ?_
  refine lz_eq (tgt := 1069) (pc := 824) C dL_law_824 rfl rfl ?_
  exact kk s hI
set_option maxHeartbeats 4000000 in
set_option maxRecDepth 100000 in
theorem lz_fair {X : sf_X} {V : sf_V} {b L i : Nat} {xs : Nat → Int32} {Q : State → Prop} {Inv : sf_Sg → Prop} {s : sf_Sg} (C : lz_C X V b L xs) (S : st_fair Inv) (hI : Inv s) (hL : L ≤ 256) (hi : i + 4 ≤ L) (kk : ∀ s2, Inv s2 → lz_G X V Q s2 1069 [(3, .int (nI i)), (0, .ref b), (1, .ref (V.2.1 0)), (2, .ref (V.2.1 149))] []) : lz_G X V Q s 829 [(3, .int (nI i)), (0, .ref b), (1, .ref (V.2.1 0)), (2, .ref (V.2.1 149))] [] := by
  obtain ⟨r, e1, e2⟩ := S s (xs (i + 1)) (xs (i + 2)) hI
  refine lz_aload_n (pc := 829) C 2 dL_law_829 rfl ?_
  refine lz_aload_n (pc := 830) C 1 dL_law_830 rfl ?_
  refine lz_iload_n (pc := 831) C 0 dL_law_831 rfl ?_
  refine lz_iconst (v := 1) (pc := 832) C dL_law_832 (by decide) ?_
  refine lz_iadd (pc := 833) C dL_law_833 ?_
  refine lz_sld (j := i + 1) (pc := 834) C (nI_add i 1) (by omega) hL rfl dL_law_834 ?_
  refine lz_aload_n (pc := 835) C 1 dL_law_835 rfl ?_
  refine lz_iload_n (pc := 836) C 0 dL_law_836 rfl ?_
  refine lz_iconst (v := 2) (pc := 837) C dL_law_837 (by decide) ?_
  refine lz_iadd (pc := 838) C dL_law_838 ?_
  refine lz_sld (j := i + 2) (pc := 839) C (nI_add i 2) (by omega) hL rfl dL_law_839 ?_
  refine lz_call (pc := 840) C (As := [.int (xs (i + 1)), .int (xs (i + 2))]) nk_0 sh_0 rfl yk_X9_fair cl_L_109 (k9_fair e1) (by decide) rfl (Nat.le_of_ble_eq_true rfl) rfl dL_law_840 ?_
  refine lz_aload_n (pc := 843) C 3 dL_law_843 rfl ?_
  refine lz_aload_n (pc := 844) C 1 dL_law_844 rfl ?_
  refine lz_iload_n (pc := 845) C 0 dL_law_845 rfl ?_
  refine lz_iconst (v := 1) (pc := 846) C dL_law_846 (by decide) ?_
  refine lz_iadd (pc := 847) C dL_law_847 ?_
  refine lz_sld (j := i + 1) (pc := 848) C (nI_add i 1) (by omega) hL rfl dL_law_848 ?_
  refine lz_aload_n (pc := 849) C 1 dL_law_849 rfl ?_
  refine lz_iload_n (pc := 850) C 0 dL_law_850 rfl ?_
  refine lz_iconst (v := 2) (pc := 851) C dL_law_851 (by decide) ?_
  refine lz_iadd (pc := 852) C dL_law_852 ?_
  refine lz_sld (j := i + 2) (pc := 853) C (nI_add i 2) (by omega) hL rfl dL_law_853 ?_
  refine lz_call (pc := 854) C (As := [.int (xs (i + 1)), .int (xs (i + 2))]) nk_149 sh_149 rfl yk_X10_fair cl_L_112 (k10_fair e2) (by decide) rfl (Nat.le_of_ble_eq_true rfl) rfl dL_law_854 ?_
  refine lz_eq (tgt := 1069) (pc := 857) C dL_law_857 rfl rfl ?_
  exact kk s hI
set_option maxHeartbeats 4000000 in
set_option maxRecDepth 100000 in
theorem lz_feel {X : sf_X} {V : sf_V} {b L i : Nat} {xs : Nat → Int32} {Q : State → Prop} {Inv : sf_Sg → Prop} {s : sf_Sg} (C : lz_C X V b L xs) (S : st_feel Inv) (hI : Inv s) (hL : L ≤ 256) (hi : i + 4 ≤ L) (kk : ∀ s2, Inv s2 → lz_G X V Q s2 1069 [(3, .int (nI i)), (0, .ref b), (1, .ref (V.2.1 0)), (2, .ref (V.2.1 149))] []) : lz_G X V Q s 862 [(3, .int (nI i)), (0, .ref b), (1, .ref (V.2.1 0)), (2, .ref (V.2.1 149))] [] := by
  obtain ⟨r, s1, s2, e1, e2, hI2⟩ := S s (xs (i + 1)) (xs (i + 2)) (xs (i + 3)) hI
  refine lz_aload_n (pc := 862) C 2 dL_law_862 rfl ?_
  refine lz_aload_n (pc := 863) C 1 dL_law_863 rfl ?_
  refine lz_iload_n (pc := 864) C 0 dL_law_864 rfl ?_
  refine lz_iconst (v := 1) (pc := 865) C dL_law_865 (by decide) ?_
  refine lz_iadd (pc := 866) C dL_law_866 ?_
  refine lz_sld (j := i + 1) (pc := 867) C (nI_add i 1) (by omega) hL rfl dL_law_867 ?_
  refine lz_aload_n (pc := 868) C 1 dL_law_868 rfl ?_
  refine lz_iload_n (pc := 869) C 0 dL_law_869 rfl ?_
  refine lz_iconst (v := 2) (pc := 870) C dL_law_870 (by decide) ?_
  refine lz_iadd (pc := 871) C dL_law_871 ?_
  refine lz_sld (j := i + 2) (pc := 872) C (nI_add i 2) (by omega) hL rfl dL_law_872 ?_
  refine lz_aload_n (pc := 873) C 1 dL_law_873 rfl ?_
  refine lz_iload_n (pc := 874) C 0 dL_law_874 rfl ?_
  refine lz_iconst (v := 3) (pc := 875) C dL_law_875 (by decide) ?_
  refine lz_iadd (pc := 876) C dL_law_876 ?_
  refine lz_sld (j := i + 3) (pc := 877) C (nI_add i 3) (by omega) hL rfl dL_law_877 ?_
  refine lz_call (pc := 878) C (As := [.int (xs (i + 1)), .int (xs (i + 2)), .int (xs (i + 3))]) nk_0 sh_0 rfl yk_X9_feel cl_L_113 (k9_feel e1) (by decide) rfl (Nat.le_of_ble_eq_true rfl) rfl dL_law_878 ?_
  refine lz_aload_n (pc := 881) C 3 dL_law_881 rfl ?_
  refine lz_aload_n (pc := 882) C 1 dL_law_882 rfl ?_
  refine lz_iload_n (pc := 883) C 0 dL_law_883 rfl ?_
  refine lz_iconst (v := 1) (pc := 884) C dL_law_884 (by decide) ?_
  refine lz_iadd (pc := 885) C dL_law_885 ?_
  refine lz_sld (j := i + 1) (pc := 886) C (nI_add i 1) (by omega) hL rfl dL_law_886 ?_
  refine lz_aload_n (pc := 887) C 1 dL_law_887 rfl ?_
  refine lz_iload_n (pc := 888) C 0 dL_law_888 rfl ?_
  refine lz_iconst (v := 2) (pc := 889) C dL_law_889 (by decide) ?_
  refine lz_iadd (pc := 890) C dL_law_890 ?_
  refine lz_sld (j := i + 2) (pc := 891) C (nI_add i 2) (by omega) hL rfl dL_law_891 ?_
  refine lz_aload_n (pc := 892) C 1 dL_law_892 rfl ?_
  refine lz_iload_n (pc := 893) C 0 dL_law_893 rfl ?_
  refine lz_iconst (v := 3) (pc := 894) C dL_law_894 (by decide) ?_
  refine lz_iadd (pc := 895) C dL_law_895 ?_
  refine lz_sld (j := i + 3) (pc := 896) C (nI_add i 3) (by omega) hL rfl dL_law_896 ?_
  refine lz_call (pc := 897) C (As := [.int (xs (i + 1)), .int (xs (i + 2)), .int (xs (i + 3))]) nk_149 sh_149 rfl yk_X10_feel cl_L_116 (k10_feel e2) (by decide) rfl (Nat.le_of_ble_eq_true rfl) rfl dL_law_897 ?_
  refine lz_eq (tgt := 1069) (pc := 900) C dL_law_900 rfl rfl ?_
  exact kk s2 hI2
set_option maxHeartbeats 4000000 in
set_option maxRecDepth 100000 in
theorem lz_carries {X : sf_X} {V : sf_V} {b L i : Nat} {xs : Nat → Int32} {Q : State → Prop} {Inv : sf_Sg → Prop} {s : sf_Sg} (C : lz_C X V b L xs) (S : st_carries Inv) (hI : Inv s) (hL : L ≤ 256) (hi : i + 4 ≤ L) (kk : ∀ s2, Inv s2 → lz_G X V Q s2 1069 [(3, .int (nI i)), (0, .ref b), (1, .ref (V.2.1 0)), (2, .ref (V.2.1 149))] []) : lz_G X V Q s 905 [(3, .int (nI i)), (0, .ref b), (1, .ref (V.2.1 0)), (2, .ref (V.2.1 149))] [] := by
  obtain ⟨r, s1, e1, e2, hI2⟩ := S s (xs (i + 1)) hI
  refine lz_aload_n (pc := 905) C 2 dL_law_905 rfl ?_
  refine lz_aload_n (pc := 906) C 1 dL_law_906 rfl ?_
  refine lz_iload_n (pc := 907) C 0 dL_law_907 rfl ?_
  refine lz_iconst (v := 1) (pc := 908) C dL_law_908 (by decide) ?_
  refine lz_iadd (pc := 909) C dL_law_909 ?_
  refine lz_sld (j := i + 1) (pc := 910) C (nI_add i 1) (by omega) hL rfl dL_law_910 ?_
  refine lz_call (pc := 911) C (As := [.int (xs (i + 1))]) nk_0 sh_0 rfl yk_X9_carries cl_L_117 (k9_carries e1) (by decide) rfl (Nat.le_of_ble_eq_true rfl) rfl dL_law_911 ?_
  refine lz_aload_n (pc := 914) C 3 dL_law_914 rfl ?_
  refine lz_aload_n (pc := 915) C 1 dL_law_915 rfl ?_
  refine lz_iload_n (pc := 916) C 0 dL_law_916 rfl ?_
  refine lz_iconst (v := 1) (pc := 917) C dL_law_917 (by decide) ?_
  refine lz_iadd (pc := 918) C dL_law_918 ?_
  refine lz_sld (j := i + 1) (pc := 919) C (nI_add i 1) (by omega) hL rfl dL_law_919 ?_
  refine lz_call (pc := 920) C (As := [.int (xs (i + 1))]) nk_149 sh_149 rfl yk_X10_carries cl_L_120 (k10_carries e2) (by decide) rfl (Nat.le_of_ble_eq_true rfl) rfl dL_law_920 ?_
  refine lz_eq (tgt := 1069) (pc := 923) C dL_law_923 rfl rfl ?_
  exact kk s1 hI2
set_option maxHeartbeats 4000000 in
set_option maxRecDepth 100000 in
theorem lz_tryNext {X : sf_X} {V : sf_V} {b L i : Nat} {xs : Nat → Int32} {Q : State → Prop} {Inv : sf_Sg → Prop} {s : sf_Sg} (C : lz_C X V b L xs) (S : st_tryNext Inv) (hI : Inv s) (hL : L ≤ 256) (hi : i + 4 ≤ L) (kk : ∀ s2, Inv s2 → lz_G X V Q s2 1069 [(3, .int (nI i)), (0, .ref b), (1, .ref (V.2.1 0)), (2, .ref (V.2.1 149))] []) : lz_G X V Q s 928 [(3, .int (nI i)), (0, .ref b), (1, .ref (V.2.1 0)), (2, .ref (V.2.1 149))] [] := by
  obtain ⟨r, s1, s2, e1, e2, hI2⟩ := S s  hI
  refine lz_aload_n (pc := 928) C 2 dL_law_928 rfl ?_
  refine lz_call (pc := 929) C (As := []) nk_0 sh_0 rfl yk_X9_tryNext cl_L_121 (k9_tryNext e1) (by decide) rfl (Nat.le_of_ble_eq_true rfl) rfl dL_law_929 ?_
  refine lz_aload_n (pc := 932) C 3 dL_law_932 rfl ?_
  refine lz_call (pc := 933) C (As := []) nk_149 sh_149 rfl yk_X10_tryNext cl_L_124 (k10_tryNext e2) (by decide) rfl (Nat.le_of_ble_eq_true rfl) rfl dL_law_933 ?_
  refine lz_eq (tgt := 1069) (pc := 936) C dL_law_936 rfl rfl ?_
  exact kk s2 hI2
set_option maxHeartbeats 4000000 in
set_option maxRecDepth 100000 in
theorem lz_write {X : sf_X} {V : sf_V} {b L i : Nat} {xs : Nat → Int32} {Q : State → Prop} {Inv : sf_Sg → Prop} {s : sf_Sg} (C : lz_C X V b L xs) (S : st_write Inv) (hI : Inv s) (hL : L ≤ 256) (hi : i + 4 ≤ L) (kk : ∀ s2, Inv s2 → lz_G X V Q s2 1069 [(3, .int (nI i)), (0, .ref b), (1, .ref (V.2.1 0)), (2, .ref (V.2.1 149))] []) : lz_G X V Q s 941 [(3, .int (nI i)), (0, .ref b), (1, .ref (V.2.1 0)), (2, .ref (V.2.1 149))] [] := by
  obtain ⟨r, s1, s2, e1, e2, hI2⟩ := S s (xs (i + 1)) (xs (i + 2)) hI
  refine lz_aload_n (pc := 941) C 2 dL_law_941 rfl ?_
  refine lz_aload_n (pc := 942) C 1 dL_law_942 rfl ?_
  refine lz_iload_n (pc := 943) C 0 dL_law_943 rfl ?_
  refine lz_iconst (v := 1) (pc := 944) C dL_law_944 (by decide) ?_
  refine lz_iadd (pc := 945) C dL_law_945 ?_
  refine lz_sld (j := i + 1) (pc := 946) C (nI_add i 1) (by omega) hL rfl dL_law_946 ?_
  refine lz_aload_n (pc := 947) C 1 dL_law_947 rfl ?_
  refine lz_iload_n (pc := 948) C 0 dL_law_948 rfl ?_
  refine lz_iconst (v := 2) (pc := 949) C dL_law_949 (by decide) ?_
  refine lz_iadd (pc := 950) C dL_law_950 ?_
  refine lz_sld (j := i + 2) (pc := 951) C (nI_add i 2) (by omega) hL rfl dL_law_951 ?_
  refine lz_call (pc := 952) C (As := [.int (xs (i + 1)), .int (xs (i + 2))]) nk_0 sh_0 rfl yk_X9_write cl_L_125 (k9_write e1) (by decide) rfl (Nat.le_of_ble_eq_true rfl) rfl dL_law_952 ?_
  refine lz_aload_n (pc := 955) C 3 dL_law_955 rfl ?_
  refine lz_aload_n (pc := 956) C 1 dL_law_956 rfl ?_
  refine lz_iload_n (pc := 957) C 0 dL_law_957 rfl ?_
  refine lz_iconst (v := 1) (pc := 958) C dL_law_958 (by decide) ?_
  refine lz_iadd (pc := 959) C dL_law_959 ?_
  refine lz_sld (j := i + 1) (pc := 960) C (nI_add i 1) (by omega) hL rfl dL_law_960 ?_
  refine lz_aload_n (pc := 961) C 1 dL_law_961 rfl ?_
  refine lz_iload_n (pc := 962) C 0 dL_law_962 rfl ?_
  refine lz_iconst (v := 2) (pc := 963) C dL_law_963 (by decide) ?_
  refine lz_iadd (pc := 964) C dL_law_964 ?_
  refine lz_sld (j := i + 2) (pc := 965) C (nI_add i 2) (by omega) hL rfl dL_law_965 ?_
  refine lz_call (pc := 966) C (As := [.int (xs (i + 1)), .int (xs (i + 2))]) nk_149 sh_149 rfl yk_X10_write cl_L_128 (k10_write e2) (by decide) rfl (Nat.le_of_ble_eq_true rfl) rfl dL_law_966 ?_
  refine lz_eq (tgt := 1069) (pc := 969) C dL_law_969 rfl rfl ?_
  exact kk s2 hI2
set_option maxHeartbeats 4000000 in
set_option maxRecDepth 100000 in
theorem lz_tear {X : sf_X} {V : sf_V} {b L i : Nat} {xs : Nat → Int32} {Q : State → Prop} {Inv : sf_Sg → Prop} {s : sf_Sg} (C : lz_C X V b L xs) (S : st_tear Inv) (hI : Inv s) (hL : L ≤ 256) (hi : i + 4 ≤ L) (kk : ∀ s2, Inv s2 → lz_G X V Q s2 1069 [(3, .int (nI i)), (0, .ref b), (1, .ref (V.2.1 0)), (2, .ref (V.2.1 149))] []) : lz_G X V Q s 974 [(3, .int (nI i)), (0, .ref b), (1, .ref (V.2.1 0)), (2, .ref (V.2.1 149))] [] := by
  obtain ⟨r, s1, s2, e1, e2, hI2⟩ := S s  hI
  refine lz_aload_n (pc := 974) C 2 dL_law_974 rfl ?_
  refine lz_call (pc := 975) C (As := []) nk_0 sh_0 rfl yk_X9_tear cl_L_129 (k9_tear e1) (by decide) rfl (Nat.le_of_ble_eq_true rfl) rfl dL_law_975 ?_
  refine lz_aload_n (pc := 978) C 3 dL_law_978 rfl ?_
  refine lz_call (pc := 979) C (As := []) nk_149 sh_149 rfl yk_X10_tear cl_L_132 (k10_tear e2) (by decide) rfl (Nat.le_of_ble_eq_true rfl) rfl dL_law_979 ?_
  refine lz_eq (tgt := 1069) (pc := 982) C dL_law_982 rfl rfl ?_
  exact kk s2 hI2
set_option maxHeartbeats 4000000 in
set_option maxRecDepth 100000 in
theorem lz_judge {X : sf_X} {V : sf_V} {b L i : Nat} {xs : Nat → Int32} {Q : State → Prop} {Inv : sf_Sg → Prop} {s : sf_Sg} (C : lz_C X V b L xs) (S : st_judge Inv) (hI : Inv s) (hL : L ≤ 256) (hi : i + 4 ≤ L) (kk : ∀ s2, Inv s2 → lz_G X V Q s2 1069 [(3, .int (nI i)), (0, .ref b), (1, .ref (V.2.1 0)), (2, .ref (V.2.1 149))] []) : lz_G X V Q s 987 [(3, .int (nI i)), (0, .ref b), (1, .ref (V.2.1 0)), (2, .ref (V.2.1 149))] [] := by
  obtain ⟨r, e1, e2⟩ := S s  hI
  refine lz_aload_n (pc := 987) C 2 dL_law_987 rfl ?_
  refine lz_call (pc := 988) C (As := []) nk_0 sh_0 rfl yk_X9_judge cl_L_133 (k9_judge e1) (by decide) rfl (Nat.le_of_ble_eq_true rfl) rfl dL_law_988 ?_
  refine lz_aload_n (pc := 991) C 3 dL_law_991 rfl ?_
  refine lz_call (pc := 992) C (As := []) nk_149 sh_149 rfl yk_X10_judge cl_L_136 (k10_judge e2) (by decide) rfl (Nat.le_of_ble_eq_true rfl) rfl dL_law_992 ?_
  refine lz_eq (tgt := 1069) (pc := 995) C dL_law_995 rfl rfl ?_
  exact kk s hI
set_option maxHeartbeats 4000000 in
set_option maxRecDepth 100000 in
theorem lz_seed {X : sf_X} {V : sf_V} {b L i : Nat} {xs : Nat → Int32} {Q : State → Prop} {Inv : sf_Sg → Prop} {s : sf_Sg} (C : lz_C X V b L xs) (S : st_seed Inv) (hI : Inv s) (hL : L ≤ 256) (hi : i + 4 ≤ L) (kk : ∀ s2, Inv s2 → lz_G X V Q s2 1069 [(3, .int (nI i)), (0, .ref b), (1, .ref (V.2.1 0)), (2, .ref (V.2.1 149))] []) : lz_G X V Q s 1000 [(3, .int (nI i)), (0, .ref b), (1, .ref (V.2.1 0)), (2, .ref (V.2.1 149))] [] := by
  obtain ⟨r, s1, s2, e1, e2, hI2⟩ := S s (xs (i + 1)) hI
  refine lz_aload_n (pc := 1000) C 2 dL_law_1000 rfl ?_
  refine lz_aload_n (pc := 1001) C 1 dL_law_1001 rfl ?_
  refine lz_iload_n (pc := 1002) C 0 dL_law_1002 rfl ?_
  refine lz_iconst (v := 1) (pc := 1003) C dL_law_1003 (by decide) ?_
  refine lz_iadd (pc := 1004) C dL_law_1004 ?_
  refine lz_sld (j := i + 1) (pc := 1005) C (nI_add i 1) (by omega) hL rfl dL_law_1005 ?_
  refine lz_call (pc := 1006) C (As := [.int (xs (i + 1))]) nk_0 sh_0 rfl yk_X9_seed cl_L_137 (k9_seed e1) (by decide) rfl (Nat.le_of_ble_eq_true rfl) rfl dL_law_1006 ?_
  refine lz_aload_n (pc := 1009) C 3 dL_law_1009 rfl ?_
  refine lz_aload_n (pc := 1010) C 1 dL_law_1010 rfl ?_
  refine lz_iload_n (pc := 1011) C 0 dL_law_1011 rfl ?_
  refine lz_iconst (v := 1) (pc := 1012) C dL_law_1012 (by decide) ?_
  refine lz_iadd (pc := 1013) C dL_law_1013 ?_
  refine lz_sld (j := i + 1) (pc := 1014) C (nI_add i 1) (by omega) hL rfl dL_law_1014 ?_
  refine lz_call (pc := 1015) C (As := [.int (xs (i + 1))]) nk_149 sh_149 rfl yk_X10_seed cl_L_140 (k10_seed e2) (by decide) rfl (Nat.le_of_ble_eq_true rfl) rfl dL_law_1015 ?_
  refine lz_eq (tgt := 1069) (pc := 1018) C dL_law_1018 rfl rfl ?_
  exact kk s2 hI2
set_option maxHeartbeats 4000000 in
set_option maxRecDepth 100000 in
theorem lz_keep {X : sf_X} {V : sf_V} {b L i : Nat} {xs : Nat → Int32} {Q : State → Prop} {Inv : sf_Sg → Prop} {s : sf_Sg} (C : lz_C X V b L xs) (S : st_keep Inv) (hI : Inv s) (hL : L ≤ 256) (hi : i + 4 ≤ L) (kk : ∀ s2, Inv s2 → lz_G X V Q s2 1069 [(3, .int (nI i)), (0, .ref b), (1, .ref (V.2.1 0)), (2, .ref (V.2.1 149))] []) : lz_G X V Q s 1023 [(3, .int (nI i)), (0, .ref b), (1, .ref (V.2.1 0)), (2, .ref (V.2.1 149))] [] := by
  obtain ⟨r, s1, s2, e1, e2, hI2⟩ := S s (xs (i + 1)) hI
  refine lz_aload_n (pc := 1023) C 2 dL_law_1023 rfl ?_
  refine lz_aload_n (pc := 1024) C 1 dL_law_1024 rfl ?_
  refine lz_iload_n (pc := 1025) C 0 dL_law_1025 rfl ?_
  refine lz_iconst (v := 1) (pc := 1026) C dL_law_1026 (by decide) ?_
  refine lz_iadd (pc := 1027) C dL_law_1027 ?_
  refine lz_sld (j := i + 1) (pc := 1028) C (nI_add i 1) (by omega) hL rfl dL_law_1028 ?_
  refine lz_call (pc := 1029) C (As := [.int (xs (i + 1))]) nk_0 sh_0 rfl yk_X9_keep cl_L_141 (k9_keep e1) (by decide) rfl (Nat.le_of_ble_eq_true rfl) rfl dL_law_1029 ?_
  refine lz_aload_n (pc := 1032) C 3 dL_law_1032 rfl ?_
  refine lz_aload_n (pc := 1033) C 1 dL_law_1033 rfl ?_
  refine lz_iload_n (pc := 1034) C 0 dL_law_1034 rfl ?_
  refine lz_iconst (v := 1) (pc := 1035) C dL_law_1035 (by decide) ?_
  refine lz_iadd (pc := 1036) C dL_law_1036 ?_
  refine lz_sld (j := i + 1) (pc := 1037) C (nI_add i 1) (by omega) hL rfl dL_law_1037 ?_
  refine lz_call (pc := 1038) C (As := [.int (xs (i + 1))]) nk_149 sh_149 rfl yk_X10_keep cl_L_144 (k10_keep e2) (by decide) rfl (Nat.le_of_ble_eq_true rfl) rfl dL_law_1038 ?_
  refine lz_eq (tgt := 1069) (pc := 1041) C dL_law_1041 rfl rfl ?_
  exact kk s2 hI2
set_option maxHeartbeats 4000000 in
set_option maxRecDepth 100000 in
theorem lz_goBack {X : sf_X} {V : sf_V} {b L i : Nat} {xs : Nat → Int32} {Q : State → Prop} {Inv : sf_Sg → Prop} {s : sf_Sg} (C : lz_C X V b L xs) (S : st_goBack Inv) (hI : Inv s) (hL : L ≤ 256) (hi : i + 4 ≤ L) (kk : ∀ s2, Inv s2 → lz_G X V Q s2 1069 [(3, .int (nI i)), (0, .ref b), (1, .ref (V.2.1 0)), (2, .ref (V.2.1 149))] []) : lz_G X V Q s 1046 [(3, .int (nI i)), (0, .ref b), (1, .ref (V.2.1 0)), (2, .ref (V.2.1 149))] [] := by
  obtain ⟨r, s1, s2, e1, e2, hI2⟩ := S s (xs (i + 1)) hI
  refine lz_aload_n (pc := 1046) C 2 dL_law_1046 rfl ?_
  refine lz_aload_n (pc := 1047) C 1 dL_law_1047 rfl ?_
  refine lz_iload_n (pc := 1048) C 0 dL_law_1048 rfl ?_
  refine lz_iconst (v := 1) (pc := 1049) C dL_law_1049 (by decide) ?_
  refine lz_iadd (pc := 1050) C dL_law_1050 ?_
  refine lz_sld (j := i + 1) (pc := 1051) C (nI_add i 1) (by omega) hL rfl dL_law_1051 ?_
  refine lz_call (pc := 1052) C (As := [.int (xs (i + 1))]) nk_0 sh_0 rfl yk_X9_goBack cl_L_145 (k9_goBack e1) (by decide) rfl (Nat.le_of_ble_eq_true rfl) rfl dL_law_1052 ?_
  refine lz_aload_n (pc := 1055) C 3 dL_law_1055 rfl ?_
  refine lz_aload_n (pc := 1056) C 1 dL_law_1056 rfl ?_
  refine lz_iload_n (pc := 1057) C 0 dL_law_1057 rfl ?_
  refine lz_iconst (v := 1) (pc := 1058) C dL_law_1058 (by decide) ?_
  refine lz_iadd (pc := 1059) C dL_law_1059 ?_
  refine lz_sld (j := i + 1) (pc := 1060) C (nI_add i 1) (by omega) hL rfl dL_law_1060 ?_
  refine lz_call (pc := 1061) C (As := [.int (xs (i + 1))]) nk_149 sh_149 rfl yk_X10_goBack cl_L_148 (k10_goBack e2) (by decide) rfl (Nat.le_of_ble_eq_true rfl) rfl dL_law_1061 ?_
  refine lz_eq (tgt := 1069) (pc := 1064) C dL_law_1064 rfl rfl ?_
  exact kk s2 hI2
set_option maxHeartbeats 4000000 in
set_option maxRecDepth 100000 in
theorem lz_cond {i L : Nat} (hL : L ≤ 256) (hi : i ≤ 256) : nI L - 4 < nI i ↔ L < i + 4 := by
  have h1 : (nI L - 4).toInt = (L : Int) - 4 := pk_sub_toInt (a := L) (b := 4) (by omega) (by omega)
  rw [Int32.lt_iff_toInt_lt, h1, nI_toInt (by omega)]
  omega
set_option maxHeartbeats 4000000 in
set_option maxRecDepth 100000 in
theorem lz_loop {X : sf_X} {V : sf_V} {b L : Nat} {xs : Nat → Int32} {Q : State → Prop} {Inv : sf_Sg → Prop} (C : lz_C X V b L xs) (S : lz_Steps Inv) (hL : L ≤ 256) (hend : ∀ (s : sf_Sg) (i : Nat), lz_G X V Q s 1075 [(3, .int (nI i)), (0, .ref b), (1, .ref (V.2.1 0)), (2, .ref (V.2.1 149))] []) : ∀ (n i : Nat) (s : sf_Sg), L < n + i → i ≤ 256 → Inv s → lz_G X V Q s 18 [(3, .int (nI i)), (0, .ref b), (1, .ref (V.2.1 0)), (2, .ref (V.2.1 149))] []
  | 0, i, s, hn, hi, hI => by
    refine lz_iload_n (pc := 18) C 0 dL_law_18 rfl ?_
    refine lz_aload_n (pc := 19) C 1 dL_law_19 rfl ?_
    refine lz_slen (pc := 20) C dL_law_20 ?_
    refine lz_iconst (v := 4) (pc := 21) C dL_law_21 (by decide) ?_
    refine lz_isub (pc := 22) C dL_law_22 ?_
    refine lz_gt (tgt := 1075) (pc := 23) C dL_law_23 rfl (fun c => hend s i) (fun c => absurd ((lz_cond hL hi).mpr (by omega)) c)
  | n + 1, i, s, hn, hi, hI => by
    have ih := lz_loop C S hL hend n
    refine lz_iload_n (pc := 18) C 0 dL_law_18 rfl ?_
    refine lz_aload_n (pc := 19) C 1 dL_law_19 rfl ?_
    refine lz_slen (pc := 20) C dL_law_20 ?_
    refine lz_iconst (v := 4) (pc := 21) C dL_law_21 (by decide) ?_
    refine lz_isub (pc := 22) C dL_law_22 ?_
    refine lz_gt (tgt := 1075) (pc := 23) C dL_law_23 rfl (fun c => hend s i) (fun c => ?_)
    have hi4 : i + 4 ≤ L := by
      have := mt (lz_cond hL hi).mpr c
      omega
    have nxt : ∀ s2, Inv s2 → lz_G X V Q s2 1069 [(3, .int (nI i)), (0, .ref b), (1, .ref (V.2.1 0)), (2, .ref (V.2.1 149))] [] := by
      intro s2 hI2
      refine lz_iinc (v := nI (i + 4)) (lv' := [(3, .int (nI (i + 4))), (0, .ref b), (1, .ref (V.2.1 0)), (2, .ref (V.2.1 149))]) (pc := 1069) C 0 dL_law_1069 rfl (nI_add i 4) (by decide) rfl ?_
      refine lz_goto (tgt := 18) (pc := 1072) C dL_law_1072 rfl ?_
      exact ih (i + 4) s2 (by omega) (by omega) hI2
    refine lz_aload_n (pc := 26) C 1 dL_law_26 rfl ?_
    refine lz_iload_n (pc := 27) C 0 dL_law_27 rfl ?_
    refine lz_sld (j := i) (pc := 28) C rfl (by omega) hL rfl dL_law_28 ?_
    refine lz_bipush (v := 63) (pc := 29) C dL_law_29 (by decide) ?_
    refine lz_iand (pc := 31) C dL_law_31 ?_
    · generalize xs i &&& 63 = x
      by_cases c0 : x = 0
      · refine lz_tabIn (off := 148) (tgt := 180) (pc := 32) C dL_law_32 (by rw [c0]; decide) (by rw [c0]; decide) (by rw [c0]; rfl) rfl ?_
        exact lz_feed C S.1 hI hL hi4 nxt
      by_cases c1 : x = 1
      · refine lz_tabIn (off := 171) (tgt := 203) (pc := 32) C dL_law_32 (by rw [c1]; decide) (by rw [c1]; decide) (by rw [c1]; rfl) rfl ?_
        exact lz_shop C S.2.1 hI hL hi4 nxt
      by_cases c2 : x = 2
      · refine lz_tabIn (off := 184) (tgt := 216) (pc := 32) C dL_law_32 (by rw [c2]; decide) (by rw [c2]; decide) (by rw [c2]; rfl) rfl ?_
        exact lz_fault C S.2.2.1 hI hL hi4 nxt
      by_cases c3 : x = 3
      · refine lz_tabIn (off := 197) (tgt := 229) (pc := 32) C dL_law_32 (by rw [c3]; decide) (by rw [c3]; decide) (by rw [c3]; rfl) rfl ?_
        exact lz_told C S.2.2.2.1 hI hL hi4 nxt
      by_cases c4 : x = 4
      · refine lz_tabIn (off := 220) (tgt := 252) (pc := 32) C dL_law_32 (by rw [c4]; decide) (by rw [c4]; decide) (by rw [c4]; rfl) rfl ?_
        exact lz_burden C S.2.2.2.2.1 hI hL hi4 nxt
      by_cases c5 : x = 5
      · refine lz_tabIn (off := 253) (tgt := 285) (pc := 32) C dL_law_32 (by rw [c5]; decide) (by rw [c5]; decide) (by rw [c5]; rfl) rfl ?_
        exact lz_back C S.2.2.2.2.2.1 hI hL hi4 nxt
      by_cases c6 : x = 6
      · refine lz_tabIn (off := 286) (tgt := 318) (pc := 32) C dL_law_32 (by rw [c6]; decide) (by rw [c6]; decide) (by rw [c6]; rfl) rfl ?_
        exact lz_day C S.2.2.2.2.2.2.1 hI hL hi4 nxt
      by_cases c7 : x = 7
      · refine lz_tabIn (off := 309) (tgt := 341) (pc := 32) C dL_law_32 (by rw [c7]; decide) (by rw [c7]; decide) (by rw [c7]; rfl) rfl ?_
        exact lz_take C S.2.2.2.2.2.2.2.1 hI hL hi4 nxt
      by_cases c8 : x = 8
      · refine lz_tabIn (off := 342) (tgt := 374) (pc := 32) C dL_law_32 (by rw [c8]; decide) (by rw [c8]; decide) (by rw [c8]; rfl) rfl ?_
        exact lz_share C S.2.2.2.2.2.2.2.2.1 hI hL hi4 nxt
      by_cases c9 : x = 9
      · refine lz_tabIn (off := 375) (tgt := 407) (pc := 32) C dL_law_32 (by rw [c9]; decide) (by rw [c9]; decide) (by rw [c9]; rfl) rfl ?_
        exact lz_down C S.2.2.2.2.2.2.2.2.2.1 hI hL hi4 nxt
      by_cases c10 : x = 10
      · refine lz_tabIn (off := 408) (tgt := 440) (pc := 32) C dL_law_32 (by rw [c10]; decide) (by rw [c10]; decide) (by rw [c10]; rfl) rfl ?_
        exact lz_hand C S.2.2.2.2.2.2.2.2.2.2.1 hI hL hi4 nxt
      by_cases c11 : x = 11
      · refine lz_tabIn (off := 451) (tgt := 483) (pc := 32) C dL_law_32 (by rw [c11]; decide) (by rw [c11]; decide) (by rw [c11]; rfl) rfl ?_
        exact lz_stuff C S.2.2.2.2.2.2.2.2.2.2.2.1 hI hL hi4 nxt
      by_cases c12 : x = 12
      · refine lz_tabIn (off := 484) (tgt := 516) (pc := 32) C dL_law_32 (by rw [c12]; decide) (by rw [c12]; decide) (by rw [c12]; rfl) rfl ?_
        exact lz_weigh C S.2.2.2.2.2.2.2.2.2.2.2.2.1 hI hL hi4 nxt
      by_cases c13 : x = 13
      · refine lz_tabIn (off := 517) (tgt := 549) (pc := 32) C dL_law_32 (by rw [c13]; decide) (by rw [c13]; decide) (by rw [c13]; rfl) rfl ?_
        exact lz_drift C S.2.2.2.2.2.2.2.2.2.2.2.2.2.1 hI hL hi4 nxt
      by_cases c14 : x = 14
      · refine lz_tabIn (off := 540) (tgt := 572) (pc := 32) C dL_law_32 (by rw [c14]; decide) (by rw [c14]; decide) (by rw [c14]; rfl) rfl ?_
        exact lz_undo C S.2.2.2.2.2.2.2.2.2.2.2.2.2.2.1 hI hL hi4 nxt
      by_cases c15 : x = 15
      · refine lz_tabIn (off := 553) (tgt := 585) (pc := 32) C dL_law_32 (by rw [c15]; decide) (by rw [c15]; decide) (by rw [c15]; rfl) rfl ?_
        exact lz_sore C S.2.2.2.2.2.2.2.2.2.2.2.2.2.2.2.1 hI hL hi4 nxt
      by_cases c16 : x = 16
      · refine lz_tabIn (off := 586) (tgt := 618) (pc := 32) C dL_law_32 (by rw [c16]; decide) (by rw [c16]; decide) (by rw [c16]; rfl) rfl ?_
        exact lz_when C S.2.2.2.2.2.2.2.2.2.2.2.2.2.2.2.2.1 hI hL hi4 nxt
      by_cases c17 : x = 17
      · refine lz_tabIn (off := 609) (tgt := 641) (pc := 32) C dL_law_32 (by rw [c17]; decide) (by rw [c17]; decide) (by rw [c17]; rfl) rfl ?_
        exact lz_worst C S.2.2.2.2.2.2.2.2.2.2.2.2.2.2.2.2.2.1 hI hL hi4 nxt
      by_cases c18 : x = 18
      · refine lz_tabIn (off := 642) (tgt := 674) (pc := 32) C dL_law_32 (by rw [c18]; decide) (by rw [c18]; decide) (by rw [c18]; rfl) rfl ?_
        exact lz_fit C S.2.2.2.2.2.2.2.2.2.2.2.2.2.2.2.2.2.2.1 hI hL hi4 nxt
      by_cases c19 : x = 19
      · refine lz_tabIn (off := 665) (tgt := 697) (pc := 32) C dL_law_32 (by rw [c19]; decide) (by rw [c19]; decide) (by rw [c19]; rfl) rfl ?_
        exact lz_byTwo C S.2.2.2.2.2.2.2.2.2.2.2.2.2.2.2.2.2.2.2.1 hI hL hi4 nxt
      by_cases c20 : x = 20
      · refine lz_tabIn (off := 698) (tgt := 730) (pc := 32) C dL_law_32 (by rw [c20]; decide) (by rw [c20]; decide) (by rw [c20]; rfl) rfl ?_
        exact lz_order C S.2.2.2.2.2.2.2.2.2.2.2.2.2.2.2.2.2.2.2.2.1 hI hL hi4 nxt
      by_cases c21 : x = 21
      · refine lz_tabIn (off := 731) (tgt := 763) (pc := 32) C dL_law_32 (by rw [c21]; decide) (by rw [c21]; decide) (by rw [c21]; rfl) rfl ?_
        exact lz_could C S.2.2.2.2.2.2.2.2.2.2.2.2.2.2.2.2.2.2.2.2.2.1 hI hL hi4 nxt
      by_cases c22 : x = 22
      · refine lz_tabIn (off := 754) (tgt := 786) (pc := 32) C dL_law_32 (by rw [c22]; decide) (by rw [c22]; decide) (by rw [c22]; rfl) rfl ?_
        exact lz_shareOf C S.2.2.2.2.2.2.2.2.2.2.2.2.2.2.2.2.2.2.2.2.2.2.1 hI hL hi4 nxt
      by_cases c23 : x = 23
      · refine lz_tabIn (off := 797) (tgt := 829) (pc := 32) C dL_law_32 (by rw [c23]; decide) (by rw [c23]; decide) (by rw [c23]; rfl) rfl ?_
        exact lz_fair C S.2.2.2.2.2.2.2.2.2.2.2.2.2.2.2.2.2.2.2.2.2.2.2.1 hI hL hi4 nxt
      by_cases c24 : x = 24
      · refine lz_tabIn (off := 830) (tgt := 862) (pc := 32) C dL_law_32 (by rw [c24]; decide) (by rw [c24]; decide) (by rw [c24]; rfl) rfl ?_
        exact lz_feel C S.2.2.2.2.2.2.2.2.2.2.2.2.2.2.2.2.2.2.2.2.2.2.2.2.1 hI hL hi4 nxt
      by_cases c25 : x = 25
      · refine lz_tabIn (off := 873) (tgt := 905) (pc := 32) C dL_law_32 (by rw [c25]; decide) (by rw [c25]; decide) (by rw [c25]; rfl) rfl ?_
        exact lz_carries C S.2.2.2.2.2.2.2.2.2.2.2.2.2.2.2.2.2.2.2.2.2.2.2.2.2.1 hI hL hi4 nxt
      by_cases c26 : x = 26
      · refine lz_tabIn (off := 896) (tgt := 928) (pc := 32) C dL_law_32 (by rw [c26]; decide) (by rw [c26]; decide) (by rw [c26]; rfl) rfl ?_
        exact lz_tryNext C S.2.2.2.2.2.2.2.2.2.2.2.2.2.2.2.2.2.2.2.2.2.2.2.2.2.2.1 hI hL hi4 nxt
      by_cases c27 : x = 27
      · refine lz_tabIn (off := 909) (tgt := 941) (pc := 32) C dL_law_32 (by rw [c27]; decide) (by rw [c27]; decide) (by rw [c27]; rfl) rfl ?_
        exact lz_write C S.2.2.2.2.2.2.2.2.2.2.2.2.2.2.2.2.2.2.2.2.2.2.2.2.2.2.2.1 hI hL hi4 nxt
      by_cases c28 : x = 28
      · refine lz_tabIn (off := 942) (tgt := 974) (pc := 32) C dL_law_32 (by rw [c28]; decide) (by rw [c28]; decide) (by rw [c28]; rfl) rfl ?_
        exact lz_tear C S.2.2.2.2.2.2.2.2.2.2.2.2.2.2.2.2.2.2.2.2.2.2.2.2.2.2.2.2.1 hI hL hi4 nxt
      by_cases c29 : x = 29
      · refine lz_tabIn (off := 955) (tgt := 987) (pc := 32) C dL_law_32 (by rw [c29]; decide) (by rw [c29]; decide) (by rw [c29]; rfl) rfl ?_
        exact lz_judge C S.2.2.2.2.2.2.2.2.2.2.2.2.2.2.2.2.2.2.2.2.2.2.2.2.2.2.2.2.2.1 hI hL hi4 nxt
      by_cases c30 : x = 30
      · refine lz_tabIn (off := 968) (tgt := 1000) (pc := 32) C dL_law_32 (by rw [c30]; decide) (by rw [c30]; decide) (by rw [c30]; rfl) rfl ?_
        exact lz_seed C S.2.2.2.2.2.2.2.2.2.2.2.2.2.2.2.2.2.2.2.2.2.2.2.2.2.2.2.2.2.2.1 hI hL hi4 nxt
      by_cases c31 : x = 31
      · refine lz_tabIn (off := 991) (tgt := 1023) (pc := 32) C dL_law_32 (by rw [c31]; decide) (by rw [c31]; decide) (by rw [c31]; rfl) rfl ?_
        exact lz_keep C S.2.2.2.2.2.2.2.2.2.2.2.2.2.2.2.2.2.2.2.2.2.2.2.2.2.2.2.2.2.2.2.1 hI hL hi4 nxt
      by_cases c32 : x = 32
      · refine lz_tabIn (off := 1014) (tgt := 1046) (pc := 32) C dL_law_32 (by rw [c32]; decide) (by rw [c32]; decide) (by rw [c32]; rfl) rfl ?_
        exact lz_goBack C S.2.2.2.2.2.2.2.2.2.2.2.2.2.2.2.2.2.2.2.2.2.2.2.2.2.2.2.2.2.2.2.2 hI hL hi4 nxt
      refine lz_tabOut (tgt := 1069) (pc := 32) C dL_law_32 (by have z0 := lv_neT (a := 0) c0 (by decide); have z1 := lv_neT (a := 1) c1 (by decide); have z2 := lv_neT (a := 2) c2 (by decide); have z3 := lv_neT (a := 3) c3 (by decide); have z4 := lv_neT (a := 4) c4 (by decide); have z5 := lv_neT (a := 5) c5 (by decide); have z6 := lv_neT (a := 6) c6 (by decide); have z7 := lv_neT (a := 7) c7 (by decide); have z8 := lv_neT (a := 8) c8 (by decide); have z9 := lv_neT (a := 9) c9 (by decide); have z10 := lv_neT (a := 10) c10 (by decide); have z11 := lv_neT (a := 11) c11 (by decide); have z12 := lv_neT (a := 12) c12 (by decide); have z13 := lv_neT (a := 13) c13 (by decide); have z14 := lv_neT (a := 14) c14 (by decide); have z15 := lv_neT (a := 15) c15 (by decide); have z16 := lv_neT (a := 16) c16 (by decide); have z17 := lv_neT (a := 17) c17 (by decide); have z18 := lv_neT (a := 18) c18 (by decide); have z19 := lv_neT (a := 19) c19 (by decide); have z20 := lv_neT (a := 20) c20 (by decide); have z21 := lv_neT (a := 21) c21 (by decide); have z22 := lv_neT (a := 22) c22 (by decide); have z23 := lv_neT (a := 23) c23 (by decide); have z24 := lv_neT (a := 24) c24 (by decide); have z25 := lv_neT (a := 25) c25 (by decide); have z26 := lv_neT (a := 26) c26 (by decide); have z27 := lv_neT (a := 27) c27 (by decide); have z28 := lv_neT (a := 28) c28 (by decide); have z29 := lv_neT (a := 29) c29 (by decide); have z30 := lv_neT (a := 30) c30 (by decide); have z31 := lv_neT (a := 31) c31 (by decide); have z32 := lv_neT (a := 32) c32 (by decide); omega) rfl ?_
      exact nxt s hI
