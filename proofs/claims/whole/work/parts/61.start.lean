theorem tm_15 : (Jvm.Cond.instantiable "SaddleFit" (14 : Nat)) ∈ sf_tbl := sf_in (List.mem_append_right _ (List.mem_of_getElem? (i := 15) (by decide +kernel))) rfl
theorem tm_800 : (Jvm.Cond.instantiable "SaddleFitModel" (42 : Nat)) ∈ sf_tbl := sf_in (List.mem_append_right _ (List.mem_of_getElem? (i := 800) (by decide +kernel))) rfl
theorem tm_14 : (Jvm.Cond.classLink "SaddleFitLaw" (7 : Nat) "SaddleFit") ∈ sf_tbl := sf_in (List.mem_append_right _ (List.mem_of_getElem? (i := 14) (by decide +kernel))) rfl
theorem tm_799 : (Jvm.Cond.classLink "SaddleFitLaw" (10 : Nat) "SaddleFitModel") ∈ sf_tbl := sf_in (List.mem_append_right _ (List.mem_of_getElem? (i := 799) (by decide +kernel))) rfl
theorem tm_16 : (Jvm.Cond.methodLink "SaddleFitLaw" (9 : Nat) ({ cls := "SaddleFit", name := "<init>", desc := "()V" } : Jvm.MethodName)) ∈ sf_tbl := sf_in (List.mem_append_right _ (List.mem_of_getElem? (i := 16) (by decide +kernel))) rfl
theorem tm_17 : (Jvm.Cond.instanceMethod ({ cls := "SaddleFit", name := "<init>", desc := "()V" } : Jvm.MethodName)) ∈ sf_tbl := sf_in (List.mem_append_right _ (List.mem_of_getElem? (i := 17) (by decide +kernel))) rfl
theorem tm_801 : (Jvm.Cond.methodLink "SaddleFitLaw" (12 : Nat) ({ cls := "SaddleFitModel", name := "<init>", desc := "()V" } : Jvm.MethodName)) ∈ sf_tbl := sf_in (List.mem_append_right _ (List.mem_of_getElem? (i := 801) (by decide +kernel))) rfl
theorem tm_802 : (Jvm.Cond.instanceMethod ({ cls := "SaddleFitModel", name := "<init>", desc := "()V" } : Jvm.MethodName)) ∈ sf_tbl := sf_in (List.mem_append_right _ (List.mem_of_getElem? (i := 802) (by decide +kernel))) rfl
set_option maxRecDepth 100000 in
theorem tm_18 : (Jvm.Cond.code ({ cls := "SaddleFit", name := "<init>", desc := "()V" } : Jvm.MethodName) prog_1_method_1_code (2 : Nat) (Option.none : Option Jvm.ClassFile.FieldType)) ∈ sf_tbl := sf_in (List.mem_append_right _ (List.mem_of_getElem? (i := 18) rfl)) rfl
set_option maxRecDepth 100000 in
theorem tm_803 : (Jvm.Cond.code ({ cls := "SaddleFitModel", name := "<init>", desc := "()V" } : Jvm.MethodName) prog_12_method_1_code (1 : Nat) (Option.none : Option Jvm.ClassFile.FieldType)) ∈ sf_tbl := sf_in (List.mem_append_right _ (List.mem_of_getElem? (i := 803) rfl)) rfl
theorem yk_X9_init : sf_Y yX9_init cX9_init 2 none 0 := ⟨tm_18, tm_1, ⟨by decide, by decide, by decide +kernel⟩, by decide⟩
theorem yk_X10_init : sf_Y yX10_init cX10_init 1 none 0 := ⟨tm_803, tm_11, ⟨by decide, by decide, by decide +kernel⟩, by decide⟩
theorem lz_over : Cond.arrayOver (.object "SaddleFit$Load") ∈ lw_tbl := by decide +kernel
theorem sq_astore_n {X : sf_X} {V : sf_V} {base nL : Nat} {cc : ByteArray} {own : String} {R : Room} {rt : Option FieldType} {b : Bool} {Q : State → Prop} {l : List va_E} {cl sl pc : Nat} {lv : List (Nat × Value)} {st : List Value} (C : sq_C X V cc nL own R rt b) {n : Fin 4} {x : Nat} {lv' : List (Nat × Value)} (hd : decode cc pc = .ok (.astore_n n, 1)) (hn : (n : Nat) < nL) (hl2 : ((n : Nat), Value.ref x) :: lv.filter (fun q => !(q.1 == (n : Nat)) && !(q.1 + 1 == (n : Nat) && q.2.category == 2)) = lv') (k : sq_G X V base nL Q l cl sl (pc + 1) lv' st) : sq_G X V base nL Q l cl sl pc lv (.ref x :: st) :=
  fun H locs ls hP hS hl => lv_astore_n C.1 C.2.1 hd rfl hl hn hl2 (fun ls' hl' => k H locs ls' hP hS hl')
def sf_neg : Nat → Int32 := (upd (upd (upd (upd (upd (upd (fun _ => 0) 0 (-1)) 1 (-1)) 2 (-1)) 3 (-1)) 4 (-1)) 5 (-1))
def sf_s0 : sf_Sg := fun k => if k = 1 then upd (fun _ => 0) 1 (-1) else if k = 149 then upd (fun _ => 0) 13 (-1) else if [19, 20, 32, 33, 38, 39, 44, 45, 50, 51, 56, 57, 62, 63, 68, 69, 74, 75, 80, 81, 86, 87, 92, 93, 98, 99, 104, 105, 110, 111, 116, 117, 122, 123, 140, 141, 146, 147].contains k then sf_neg else fun _ => 0
theorem sq_arr {D : va_G} {a n : Nat} {cA : ClassId} {f g : Nat → Option Nat} {H : Heap} (hfg : ∀ i, i < n → f i = g i) (h : va_at D vwCl (a, .inl (cA, n, .inr (.inr (.inr (.inr f))))) H) : va_at D vwCl (a, .inl (cA, n, .inr (.inr (.inr (.inr g))))) H := by
  have h1 : H[a]? = some (vp_cell cA (n, .inr (.inr (.inr (.inr f))))) := h
  show H[a]? = some (vp_cell cA (n, .inr (.inr (.inr (.inr g)))))
  rw [h1, vp_cell_q, vp_cell_q]
  have e : (fun j : Fin n => va_rf (f j.val)) = (fun j : Fin n => va_rf (g j.val)) := by
    funext j
    rw [hfg j.val j.isLt]
  show some ({ cls := cA, slots := Array.ofFn (fun j : Fin n => va_rf (f j.val)), vm := .none } : Cell) = some ({ cls := cA, slots := Array.ofFn (fun j : Fin n => va_rf (g j.val)), vm := .none } : Cell)
  rw [e]
theorem sq_P.alt {D : va_G} {base k : Nat} {l : List va_E} {e0 e : va_E} {H : Heap} (h : sq_P D base l H) (hk : l[k]? = some e0) (he : va_at D vwCl (base + k, e) H) : sq_P D base (l.set k e) H := sq_P.set h hk he rfl (fun _ _ => rfl)

def sq_fin (V : sf_V) (base : Nat) : List va_E := ((chMain V base 0 ++ chModel V base 149).set 28 (.inl (V.2.2 2, 16, .inr (.inr (.inr (.inr fun i => some (base + (29 + 6 * i)))))))).set 134 (.inl (V.2.2 2, 2, .inr (.inr (.inr (.inr fun i => some (base + (137 + 6 * i)))))))
set_option maxRecDepth 100000 in
set_option maxHeartbeats 4000000 in
theorem sq_fin_eq (D : va_G) (ca : Nat → ClassId) (base : Nat) : (List.range sf_NC).map (fun k => sf_en (D, (fun k => base + k), ca) (sf_s0 k) (sf_shp k)) = sq_fin (D, (fun k => base + k), ca) base := rfl
set_option maxRecDepth 100000 in
set_option maxHeartbeats 4000000 in
theorem sq_world {D : va_G} {ca : Nat → ClassId} {base : Nat} {H : Heap} (h : sq_P D base (chMain (D, (fun k => base + k), ca) base 0 ++ chModel (D, (fun k => base + k), ca) base 149) H) : va_P D vwCl (sf_wd (D, (fun k => base + k), ca) sf_s0) H := by
  have h1 := sq_P.alt (k := 28) h rfl (sq_arr (g := fun i => some (base + (29 + 6 * i))) (fun i hi => by
    rcases (show i = 0 ∨ i = 1 ∨ i = 2 ∨ i = 3 ∨ i = 4 ∨ i = 5 ∨ i = 6 ∨ i = 7 ∨ i = 8 ∨ i = 9 ∨ i = 10 ∨ i = 11 ∨ i = 12 ∨ i = 13 ∨ i = 14 ∨ i = 15 by omega) with rfl | rfl | rfl | rfl | rfl | rfl | rfl | rfl | rfl | rfl | rfl | rfl | rfl | rfl | rfl | rfl <;> rfl) (h.2 28 _ rfl))
  have h2 : sq_P D base (sq_fin (D, (fun k => base + k), ca) base) H := sq_P.alt (k := 134) h1 rfl (sq_arr (g := fun i => some (base + (137 + 6 * i))) (fun i hi => by
    rcases (show i = 0 ∨ i = 1 by omega) with rfl | rfl <;> rfl) (h1.2 134 _ rfl))
  rw [← sq_fin_eq] at h2
  intro k q hk
  obtain ⟨a1, a2⟩ := sf_wd_of hk
  rw [sf_wd_at a1] at hk
  cases hk
  exact h2.2 k _ (by simp [a1])
theorem bn_L_7 : Cond.classLink RL 7 RX9 ∈ sf_tbl ∧ Cond.instantiable RX9 14 ∈ sf_tbl ∧ Cond.initialized RX9 ∈ sf_tbl := ⟨tm_14, tm_15, tm_1⟩
theorem bn_L_10 : Cond.classLink RL 10 RX10 ∈ sf_tbl ∧ Cond.instantiable RX10 42 ∈ sf_tbl ∧ Cond.initialized RX10 ∈ sf_tbl := ⟨tm_799, tm_800, tm_11⟩
theorem bi_L_9 : Cond.methodLink RL 9 yX9_init ∈ sf_tbl ∧ Cond.instanceMethod yX9_init ∈ sf_tbl := ⟨tm_16, tm_17⟩
theorem bi_L_12 : Cond.methodLink RL 12 yX10_init ∈ sf_tbl ∧ Cond.instanceMethod yX10_init ∈ sf_tbl := ⟨tm_801, tm_802⟩
/-! THE CLAIM OUT OF ONE WALK OF THE LAW'S BODY. Your part is whole_start (and what it stands on); all else here is the same for every law, but numbers. -/
def R_law : String := "SaddleFitLaw"
def lw_P (b : Addr) (xs : List Int32) (args : Array Value) (s : State) : Prop := args = #[.ref b] ∧ s.IntsAt b xs ∧ xs.length ≤ 256 ∧ (Jvm.Cond.and given_1 narrow_1).before args s = true
def lw_Q (_ : Array Value) (s : State) (o : Outcome) (t : State) : Prop := o = .returned (some (.int 1)) ∧ Framed s o t [] 600000 7302250
def lw_Z (below : List Frame) (a : Array Value) (s : State) : State → Prop := fun t => ∃ o, t.status = .running ∧ Ended t below o ∧ lw_Q a s o t
/-- the law's own end, with 1 on the stack, nothing written that was there before, its room as the claim has it -/
theorem lw_ret {p : Program} {l : Launch} {e : Env} {s : State} {m : MethodId} {below : List Frame} {meth : Method} {c : Code} {b : Nat} (hx : p.tables.exec = Jvm.exec) (hb : c.code = code) (hr : meth.sig.returnType = ret) (hlocks : meth.locks = false) {pc : Nat} {H : Heap} {ls : Array Slot} (hdg : decode code pc = .ok (.ireturn, 1)) : W p l e room_1 s m #[Value.ref b] below meth c H [] 600000 7302250 (lw_Z below #[Value.ref b] s) (F0 m pc ls [.int 1]) := by
  intro T hT X
  obtain ⟨fs, hret, hrun, hended, hW, hframe⟩ := X.leave (v := some (.int 1)) (hlocks := hlocks) (fun h => by rw [hr] at h; cases h)
  have hmeth' : T.vm.method? m = some meth := X.method'
  refine ⟨T.setFrames fs, ?_, .returned (some (.int 1)), hrun, hended, rfl, ⟨_, rfl⟩, hW, hframe⟩
  jvm_step X.here [X.here.top, hx, hb, hdg, hmeth', hr, ret, narrow_b1]
  (try refine ⟨rfl, ?_⟩); (try refine ⟨rfl, ?_⟩)
  first | (intro acts; rw [hret _ acts rfl rfl rfl]) | rw [hret _ _ rfl rfl rfl]
  exact Steps.refl _
/-- what holds at the law's entry: the machine, the code, the tables' words (any of lw_tbl by 'hts w (by decide +kernel)'), the script of L ints xs at the cell b, what the Statement gives of the start (any of its parts by flat_of_before) -/
def lw_At (p : Program) (s : State) (m : MethodId) (meth : Method) (c : Code) (b L : Nat) (xs : Nat → Int32) : Prop :=
  p.tables.exec = Jvm.exec ∧ c.code = code ∧ meth.sig.returnType = ret ∧ c.maxLocals = 4 ∧ s.vm.findClass R_law = some m.cls ∧ (∀ w ∈ lw_tbl, w.before #[Value.ref b] s = true) ∧ va_X b L xs s s.heap ∧ b < s.heap.size ∧ meth.locks = false ∧ (Jvm.Cond.and given_1 narrow_1).before #[Value.ref b] s = true
set_option maxHeartbeats 4000000 in
set_option maxRecDepth 100000 in
theorem lz_start (Inv : sf_Sg → Prop) (S : lz_Steps Inv) (hI0 : Inv sf_s0) {p : Program} {e : Env} {s : State} {m : MethodId} {below : List Frame} {meth : Method} {c : Code} (l : Launch) {b L : Nat} {xs : Nat → Int32} (hL : L ≤ 256) (C0 : lw_At p s m meth c b L xs) : W p l e room_1 s m #[Value.ref b] below meth c s.heap [] 0 0 (lw_Z below #[Value.ref b] s) (entryFrame m ([Value.ref b] : List Value).toArray 4) := by
  obtain ⟨hx, hb, hr, hml, hown, htl, hX, hbl, hlocks, hgv⟩ := id C0
  have hts : ∀ w ∈ sf_tbl, w.before #[Value.ref b] s = true := fun w h => htl w (List.mem_filter.mp h).1
  obtain ⟨c0, iS0, hKn0⟩ := u_known (C := RX0) (T := TX0) (N := 3) (n := 3) hts inX0 (hts _ tm_265)
  obtain ⟨c1, iS1, hKn1⟩ := u_known (C := RX1) (T := TX1) (N := 7) (n := 7) hts inX1 (hts _ tm_235)
  obtain ⟨c2, iS2, hKn2⟩ := u_known (C := RX2) (T := TX2) (N := 6) (n := 6) hts inX2 (hts _ tm_172)
  obtain ⟨c3, iS3, hKn3⟩ := u_known (C := RX3) (T := TX3) (N := 7) (n := 7) hts inX3 (hts _ tm_113)
  obtain ⟨c4, iS4, hKn4⟩ := u_known (C := RX4) (T := TX4) (N := 3) (n := 3) hts inX4 (hts _ tm_215)
  obtain ⟨c5, iS5, hKn5⟩ := u_known (C := RX5) (T := TX5) (N := 5) (n := 5) hts inX5 (hts _ tm_23)
  obtain ⟨c6, iS6, hKn6⟩ := u_known (C := RX6) (T := TX6) (N := 2) (n := 2) hts inX6 (hts _ tm_105)
  obtain ⟨c7, iS7, hKn7⟩ := u_known (C := RX7) (T := TX7) (N := 9) (n := 9) hts inX7 (hts _ tm_48)
  obtain ⟨c8, iS8, hKn8⟩ := u_known (C := RX8) (T := TX8) (N := 2) (n := 2) hts inX8 (hts _ tm_200)
  obtain ⟨c9, iS9, hKn9⟩ := u_known (C := RX9) (T := TX9) (N := 14) (n := 14) hts inX9 (hts _ tm_15)
  obtain ⟨c10, iS10, hKn10⟩ := u_known (C := RX10) (T := TX10) (N := 42) (n := 42) hts inX10 (hts _ tm_800)
  obtain ⟨dC, dI, hKc⟩ : ∃ (dC : Nat → ClassId) (dI : Nat → Nat → Nat), ∀ (k : Nat) (q : vw_C), vwCl[k]? = some q → u_Kn s q.1 q.2.1 q.2.2 (dC k) (dI k) := by
    refine ⟨fun k => if k = 0 then c0 else if k = 1 then c1 else if k = 2 then c2 else if k = 3 then c3 else if k = 4 then c4 else if k = 5 then c5 else if k = 6 then c6 else if k = 7 then c7 else if k = 8 then c8 else if k = 9 then c9 else c10, fun k => if k = 0 then iS0 else if k = 1 then iS1 else if k = 2 then iS2 else if k = 3 then iS3 else if k = 4 then iS4 else if k = 5 then iS5 else if k = 6 then iS6 else if k = 7 then iS7 else if k = 8 then iS8 else if k = 9 then iS9 else iS10, ?_⟩
    intro k q hq
    match k, hq with
    | 0, hq => cases hq; exact hKn0
    | 1, hq => cases hq; exact hKn1
    | 2, hq => cases hq; exact hKn2
    | 3, hq => cases hq; exact hKn3
    | 4, hq => cases hq; exact hKn4
    | 5, hq => cases hq; exact hKn5
    | 6, hq => cases hq; exact hKn6
    | 7, hq => cases hq; exact hKn7
    | 8, hq => cases hq; exact hKn8
    | 9, hq => cases hq; exact hKn9
    | 10, hq => cases hq; exact hKn10
    | k + 11, hq => simp [vwCl] at hq
  obtain ⟨cI, kI, mI, f1, f2, f3⟩ := Cond.arrayClass_spec (hts _ ta_int)
  obtain ⟨cZ, kZ, mZ, g1, g2, g3⟩ := Cond.arrayClass_spec (hts _ ta_boolean)
  have hAO : va_AO "SaddleFit$Load" s := va_AO.of (htl _ lz_over)
  obtain ⟨mL, cL, kL, h1, h2, h3, h4, h5⟩ := Cond.arrayOver_spec hAO
  obtain ⟨ca, e0, e1, e2⟩ : ∃ ca : Nat → ClassId, ca 0 = cI ∧ ca 1 = cZ ∧ ca 2 = cL := ⟨fun k => if k = 0 then cI else if k = 1 then cZ else cL, rfl, rfl, rfl⟩
  obtain ⟨V, hV⟩ : ∃ V : sf_V, V = ((dC, dI), (fun k => s.heap.size + k), ca) := ⟨_, rfl⟩
  have hVa : va_K V.1 vwCl (sf_ty V) s := by
    subst hV
    refine ⟨hKc, fun k q hq => ?_⟩
    match k, hq with
    | 0, hq =>
      cases hq
      show ArrOfT s (ca 0) .int ∧ va_RA s (ca 0) .int
      rw [e0]
      exact ⟨fun n z => ⟨fun k h => (by cases h), kI, f2, mI, f3⟩, f1⟩
    | 1, hq =>
      cases hq
      show ArrOfT s (ca 1) .boolean ∧ va_RA s (ca 1) .boolean
      rw [e1]
      exact ⟨fun n z => ⟨fun k h => (by cases h), kZ, g2, mZ, g3⟩, g1⟩
    | 2, hq =>
      cases hq
      show ArrOfT s (ca 2) (.object "SaddleFit$Load") ∧ va_RA s (ca 2) (.object "SaddleFit$Load")
      rw [e2]
      exact ⟨fun n z => ⟨fun k h => (by cases h), kL, h3, mL, h4⟩, kL, mL, h3, h4, h1, h5⟩
    | k + 3, hq => simp [sf_ty] at hq
  have hN : sf_N s := by
    intro w hw
    obtain ⟨a, i, y, h, rfl, hm⟩ := hw
    exact va_Nw.of rfl (htl _ hm)
  have hKK : sq_K V s := ⟨⟨hVa, hN⟩, hAO⟩
  have hI : sf_I V := by
    subst hV
    intro i j _ _ h
    have h' : s.heap.size + i = s.heap.size + j := h
    omega
  let X : sf_X := (p, l, e, room_1, s, m, #[Value.ref b], below, meth, c)
  have C : sq_C X V code 4 RL room_1 ret false := ⟨hx, hb, hml, hown, hts, hKK, hr, hlocks, rfl, fun h => by cases h⟩
  have CL : lz_C X V b L xs := ⟨hx, hb, hml, hown, hts, ⟨hVa, hN⟩, hI, hX, hbl, fun k => by rw [hV], rfl⟩
  have hend : ∀ (σ : sf_Sg) (i : Nat), lz_G X V (lw_Z below #[Value.ref b] s) σ 1075 [(3, .int (nI i)), (0, .ref b), (1, .ref (V.2.1 0)), (2, .ref (V.2.1 149))] [] := by
    intro σ i
    refine lz_iconst (v := 1) (pc := 1075) CL dL_law_1075 (by decide) ?_
    intro H locs ls hP hS hl
    refine va_forget (fun q hq => hS.2.2 q hq) ?_
    refine W.widen (k := 600000) (n := 7302250) (by decide) (by decide) ?_
    exact lw_ret hx hb hr hlocks dL_law_1076
  have hloop := lz_loop (Q := lw_Z below #[Value.ref b] s) CL S hL hend (L + 1) 0 sf_s0 (by omega) (by omega) hI0
  rw [lg_entry_eq]
  have hgo : sq_G X V s.heap.size 4 (lw_Z below #[Value.ref b] s) [] 0 0 0 [(0, .ref b)] [] := by
    refine sq_new (ci := 9) (pc := 0) C inX9 tyX9 tyX9_ok bn_L_7 rfl (fs := [.null, .null, .null, .null, .null, .null, .null, .null, .null, .null, .null, .null, .null, .int 0]) (fun j hj => by rcases (show j = 0 ∨ j = 1 ∨ j = 2 ∨ j = 3 ∨ j = 4 ∨ j = 5 ∨ j = 6 ∨ j = 7 ∨ j = 8 ∨ j = 9 ∨ j = 10 ∨ j = 11 ∨ j = 12 ∨ j = 13 by omega) with rfl | rfl | rfl | rfl | rfl | rfl | rfl | rfl | rfl | rfl | rfl | rfl | rfl | rfl <;> rfl) (by decide) (by decide) (n := 0) rfl dL_law_0 ?_
    refine sq_dup (pc := 3) C dL_law_3 rfl ?_
    refine sq_callI (pc := 4) C (a := 0) (l' := chMain V s.heap.size 0) yk_X9_init bi_L_9 rfl (c9_init [] 0 rfl) (by decide) (by decide) (Nat.le_of_ble_eq_true rfl) dL_law_4 ?_
    refine sq_astore_n (lv' := [(1, .ref (s.heap.size + 0)), (0, .ref b)]) (pc := 7) C dL_law_7 (by decide) rfl ?_
    refine sq_new (ci := 10) (pc := 8) C inX10 tyX10 tyX10_ok bn_L_10 rfl (fs := [.int 0, .int 0, .int 0, .null, .null, .null, .int 0, .null, .null, .null, .int 0, .null, .int 0, .int 0, .int 0, .int 0, .int 0, .int 0, .int 0, .int 0, .null, .null, .null, .int 0, .null, .null, .int 0, .null, .null, .int 0, .int 0, .null, .int 0, .null, .null, .null, .null, .int 0, .null, .null, .null, .null]) (fun j hj => by rcases (show j = 0 ∨ j = 1 ∨ j = 2 ∨ j = 3 ∨ j = 4 ∨ j = 5 ∨ j = 6 ∨ j = 7 ∨ j = 8 ∨ j = 9 ∨ j = 10 ∨ j = 11 ∨ j = 12 ∨ j = 13 ∨ j = 14 ∨ j = 15 ∨ j = 16 ∨ j = 17 ∨ j = 18 ∨ j = 19 ∨ j = 20 ∨ j = 21 ∨ j = 22 ∨ j = 23 ∨ j = 24 ∨ j = 25 ∨ j = 26 ∨ j = 27 ∨ j = 28 ∨ j = 29 ∨ j = 30 ∨ j = 31 ∨ j = 32 ∨ j = 33 ∨ j = 34 ∨ j = 35 ∨ j = 36 ∨ j = 37 ∨ j = 38 ∨ j = 39 ∨ j = 40 ∨ j = 41 by omega) with rfl | rfl | rfl | rfl | rfl | rfl | rfl | rfl | rfl | rfl | rfl | rfl | rfl | rfl | rfl | rfl | rfl | rfl | rfl | rfl | rfl | rfl | rfl | rfl | rfl | rfl | rfl | rfl | rfl | rfl | rfl | rfl | rfl | rfl | rfl | rfl | rfl | rfl | rfl | rfl | rfl | rfl <;> rfl) (by decide) (by decide) (n := 149) rfl dL_law_8 ?_
    refine sq_dup (pc := 11) C dL_law_11 rfl ?_
    refine sq_callI (pc := 12) C (a := 149) (l' := chMain V s.heap.size 0 ++ chModel V s.heap.size 149) yk_X10_init bi_L_12 rfl (c10_init (chMain V s.heap.size 0) 149 rfl) (by decide) (by decide) (Nat.le_of_ble_eq_true rfl) dL_law_12 ?_
    refine sq_astore_n (lv' := [(2, .ref (s.heap.size + 149)), (1, .ref (s.heap.size + 0)), (0, .ref b)]) (pc := 15) C dL_law_15 (by decide) rfl ?_
    refine sq_iconst (v := 0) (pc := 16) C dL_law_16 (by decide) ?_
    refine sq_istore_n (lv' := [(3, .int 0), (2, .ref (s.heap.size + 149)), (1, .ref (s.heap.size + 0)), (0, .ref b)]) (pc := 17) C dL_law_17 (by decide) rfl ?_
    intro H locs ls hP hS hl
    subst hV
    refine hloop H locs ls (sq_world hP) hS (lv_sub hl [0, 3, 2, 1] rfl)
  exact hgo s.heap [] _ ⟨rfl, fun k e h => by simp at h⟩ va_S.rf (lv_entry [Value.ref b] (Nat.le_of_ble_eq_true rfl))
