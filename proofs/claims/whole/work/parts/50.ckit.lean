-- the growing world of the constructors: all cells from base on, in the order in which they are made
def sq_P (D : va_G) (base : Nat) (l : List va_E) (H : Heap) : Prop := H.size = base + l.length ∧ ∀ (k : Nat) (e : va_E), l[k]? = some e → va_at D vwCl (base + k, e) H
abbrev sq_A (base : Nat) : Nat → Prop := fun q => base ≤ q
def sq_K (V : sf_V) (U : State) : Prop := sf_K V U ∧ va_AO "SaddleFit$Load" U
def sq_rm (d mc ms : Nat) : Room := { frames := d, cells := mc, slots := ms, locals := 40 * d }
def sq_C (X : sf_X) (V : sf_V) (cc : ByteArray) (nL : Nat) (own : String) (R : Room) (rt : Option FieldType) (b : Bool) : Prop :=
  (sf_p X).tables.exec = Jvm.exec ∧ (sf_c X).code = cc ∧ (sf_c X).maxLocals = nL ∧ (sf_s X).vm.findClass own = some (sf_m X).cls ∧ (∀ w ∈ sf_tbl, w.before (sf_a X) (sf_s X) = true) ∧ sq_K V (sf_s X) ∧ (sf_h X).sig.returnType = rt ∧ (sf_h X).locks = false ∧ sf_R X = R ∧ (b = true → (sf_h X).name = "<init>")
def sq_G (X : sf_X) (V : sf_V) (base nL : Nat) (Q : State → Prop) (l : List va_E) (cl sl pc : Nat) (lv : List (Nat × Value)) (st : List Value) : Prop :=
  ∀ (H : Heap) (locs : List Loc) (ls : Array Slot), sq_P V.1 base l H → va_S (sq_A base) (sf_s X).heap H locs → lv_has ls nL lv → W (sf_p X) (sf_l X) (sf_e X) (sf_R X) (sf_s X) (sf_m X) (sf_a X) (sf_b X) (sf_h X) (sf_c X) H locs cl sl Q (F0 (sf_m X) pc ls st)
theorem sq_P.set {D : va_G} {base k : Nat} {l : List va_E} {e0 e : va_E} {H H1 : Heap} (h : sq_P D base l H) (hk : l[k]? = some e0) (he : va_at D vwCl (base + k, e) H1) (z : H1.size = H.size) (oq : ∀ q : Nat, q ≠ base + k → H1[q]? = H[q]?) : sq_P D base (l.set k e) H1 := by
  have hl := (List.getElem?_eq_some_iff.mp hk).1
  refine ⟨by rw [z, h.1, List.length_set], fun j q hj => ?_⟩
  by_cases hjk : j = k
  · subst hjk
    rw [List.getElem?_set_self hl] at hj
    cases hj
    exact he
  · rw [List.getElem?_set_ne (Ne.symm hjk)] at hj
    exact (h.2 j q hj).kept (oq _ (by show base + j ≠ base + k; omega))
theorem sq_P.push {D : va_G} {base : Nat} {l : List va_E} {e : va_E} {H H1 : Heap} (h : sq_P D base l H) (he : va_at D vwCl (base + l.length, e) H1) (z : H1.size = base + l.length + 1) (oq : ∀ q : Nat, q < base + l.length → H1[q]? = H[q]?) : sq_P D base (l ++ [e]) H1 := by
  refine ⟨by rw [z, List.length_append, List.length_singleton, Nat.add_assoc], fun j q hj => ?_⟩
  by_cases hjl : j < l.length
  · rw [List.getElem?_append_left hjl] at hj
    exact (h.2 j q hj).kept (oq _ (by show base + j < base + l.length; omega))
  · rw [List.getElem?_append_right (by omega)] at hj
    have hz : j - l.length < 1 := (List.getElem?_eq_some_iff.mp hj).1
    have e1 : j = l.length := by omega
    subst e1
    rw [Nat.sub_self] at hj
    cases hj
    exact he
theorem sq_at {pre suf : List va_E} {k i : Nat} {e : va_E} (hp : pre.length = k) (h : suf[i]? = some e) : (pre ++ suf)[k + i]? = some e := by
  rw [List.getElem?_append_right (by omega), show k + i - pre.length = i by omega]
  exact h
theorem sq_at0 {pre suf : List va_E} {k : Nat} {e : va_E} (hp : pre.length = k) (h : suf[0]? = some e) : (pre ++ suf)[k]? = some e := sq_at (i := 0) hp h
theorem sq_set {pre suf suf' : List va_E} {k i : Nat} {e : va_E} (hp : pre.length = k) (h : suf.set i e = suf') : (pre ++ suf).set (k + i) e = pre ++ suf' := by
  subst h
  rw [List.set_append_right _ _ (by omega), show k + i - pre.length = i by omega]
theorem sq_set0 {pre suf suf' : List va_E} {k : Nat} {e : va_E} (hp : pre.length = k) (h : suf.set 0 e = suf') : (pre ++ suf).set k e = pre ++ suf' := sq_set (i := 0) hp h
theorem sq_len {pre suf : List va_E} {k m : Nat} (hp : pre.length = k) (h : suf.length = m) : (pre ++ suf).length = k + m := by
  rw [List.length_append, hp, h]
theorem sq_ass {pre a b c : List va_E} (h : a ++ b = c) : (pre ++ a) ++ b = pre ++ c := by
  rw [List.append_assoc, h]
section SBR
variable {X : sf_X} {V : sf_V} {base nL : Nat} {cc : ByteArray} {own : String} {R : Room} {rt : Option FieldType} {b : Bool} {Q : State → Prop} {l l' : List va_E} {cl sl pc : Nat} {lv : List (Nat × Value)} {st : List Value}
theorem sq_iconst (C : sq_C X V cc nL own R rt b) {n : Int} {v : Int32} (hd : decode cc pc = .ok (.iconst n, 1)) (hv : Int32.ofInt n = v) (k : sq_G X V base nL Q l cl sl (pc + 1) lv (.int v :: st)) : sq_G X V base nL Q l cl sl pc lv st :=
  fun H locs ls hP hS hl => lv_iconst C.1 C.2.1 hd hv (k H locs ls hP hS hl)
theorem sq_bipush (C : sq_C X V cc nL own R rt b) {n : Int} {v : Int32} (hd : decode cc pc = .ok (.bipush n, 2)) (hv : (Int8.ofInt n).toInt32 = v) (k : sq_G X V base nL Q l cl sl (pc + 2) lv (.int v :: st)) : sq_G X V base nL Q l cl sl pc lv st :=
  fun H locs ls hP hS hl => lv_bipush C.1 C.2.1 hd hv (k H locs ls hP hS hl)
theorem sq_sipush (C : sq_C X V cc nL own R rt b) {n : Int} {v : Int32} (hd : decode cc pc = .ok (.sipush n, 3)) (hv : (Int16.ofInt n).toInt32 = v) (k : sq_G X V base nL Q l cl sl (pc + 3) lv (.int v :: st)) : sq_G X V base nL Q l cl sl pc lv st :=
  fun H locs ls hP hS hl => lv_sipush C.1 C.2.1 hd hv (k H locs ls hP hS hl)
theorem sq_aload_n (C : sq_C X V cc nL own R rt b) {n : Fin 4} {x : Nat} (j : Nat) (hd : decode cc pc = .ok (.aload_n n, 1)) (hj : lv[j]? = some ((n : Nat), .ref x)) (k : sq_G X V base nL Q l cl sl (pc + 1) lv (.ref x :: st)) : sq_G X V base nL Q l cl sl pc lv st :=
  fun H locs ls hP hS hl => lv_aload_n C.1 C.2.1 hd rfl (lv_at hl j hj) (k H locs ls hP hS hl)
theorem sq_iload_n (C : sq_C X V cc nL own R rt b) {n : Fin 4} {x : Int32} (j : Nat) (hd : decode cc pc = .ok (.iload_n n, 1)) (hj : lv[j]? = some ((n : Nat), .int x)) (k : sq_G X V base nL Q l cl sl (pc + 1) lv (.int x :: st)) : sq_G X V base nL Q l cl sl pc lv st :=
  fun H locs ls hP hS hl => lv_iload_n C.1 C.2.1 hd rfl (lv_at hl j hj) (k H locs ls hP hS hl)
theorem sq_istore_n (C : sq_C X V cc nL own R rt b) {n : Fin 4} {x : Int32} {lv' : List (Nat × Value)} (hd : decode cc pc = .ok (.istore_n n, 1)) (hn : (n : Nat) < nL) (hl2 : ((n : Nat), Value.int x) :: lv.filter (fun q => !(q.1 == (n : Nat)) && !(q.1 + 1 == (n : Nat) && q.2.category == 2)) = lv') (k : sq_G X V base nL Q l cl sl (pc + 1) lv' st) : sq_G X V base nL Q l cl sl pc lv (.int x :: st) :=
  fun H locs ls hP hS hl => lv_istore_n C.1 C.2.1 hd rfl hl hn hl2 (fun ls' hl' => k H locs ls' hP hS hl')
theorem sq_iinc (C : sq_C X V cc nL own R rt b) {i : Nat} {n : Int} {x v : Int32} {lv' : List (Nat × Value)} (j : Nat) (hd : decode cc pc = .ok (.iinc i n, 3)) (hj : lv[j]? = some (i, .int x)) (hv : x + Int32.ofInt n = v) (hn : i < nL) (hl2 : (i, Value.int v) :: lv.filter (fun q => !(q.1 == i) && !(q.1 + 1 == i && q.2.category == 2)) = lv') (k : sq_G X V base nL Q l cl sl (pc + 3) lv' st) : sq_G X V base nL Q l cl sl pc lv st :=
  fun H locs ls hP hS hl => lv_iinc C.1 C.2.1 hd hl hj hv hn hl2 (fun ls' hl' => k H locs ls' hP hS hl')
theorem sq_dup (C : sq_C X V cc nL own R rt b) {v : Value} (hd : decode cc pc = .ok (.dup, 1)) (hc : v.category = 1) (k : sq_G X V base nL Q l cl sl (pc + 1) lv (v :: v :: st)) : sq_G X V base nL Q l cl sl pc lv (v :: st) :=
  fun H locs ls hP hS hl => lv_dup C.1 C.2.1 hd hc (k H locs ls hP hS hl)
theorem sq_geT (C : sq_C X V cc nL own R rt b) {x y : Int32} {off : Int} {tgt : Nat} (hd : decode cc pc = .ok (.if_icmp .ge off, 3)) (ht : (pc : Int) + off = (tgt : Int)) (hc : y ≤ x) (k : sq_G X V base nL Q l cl sl tgt lv st) : sq_G X V base nL Q l cl sl pc lv (.int y :: .int x :: st) :=
  fun H locs ls hP hS hl => lv_icmp_ge C.1 C.2.1 hd ht (fun _ => k H locs ls hP hS hl) (fun q => absurd hc q)
theorem sq_geF (C : sq_C X V cc nL own R rt b) {x y : Int32} {off : Int} {tgt : Nat} (hd : decode cc pc = .ok (.if_icmp .ge off, 3)) (ht : (pc : Int) + off = (tgt : Int)) (hc : ¬ y ≤ x) (k : sq_G X V base nL Q l cl sl (pc + 3) lv st) : sq_G X V base nL Q l cl sl pc lv (.int y :: .int x :: st) :=
  fun H locs ls hP hS hl => lv_icmp_ge C.1 C.2.1 hd ht (fun q => absurd q hc) (fun _ => k H locs ls hP hS hl)
theorem sq_goto (C : sq_C X V cc nL own R rt b) {off : Int} {tgt : Nat} (hd : decode cc pc = .ok (.goto off, 3)) (ht : (pc : Int) + off = (tgt : Int)) (k : sq_G X V base nL Q l cl sl tgt lv st) : sq_G X V base nL Q l cl sl pc lv st :=
  fun H locs ls hP hS hl => lv_goto C.1 C.2.1 hd ht (k H locs ls hP hS hl)
theorem sq_eq (he : l = l') (k : sq_G X V base nL Q l' cl sl pc lv st) : sq_G X V base nL Q l cl sl pc lv st := he ▸ k
theorem sq_lvs (js : List Nat) {lv' : List (Nat × Value)} (hs : lv_pick lv js = lv') (k : sq_G X V base nL Q l cl sl pc lv' st) : sq_G X V base nL Q l cl sl pc lv st :=
  fun H locs ls hP hS hl => k H locs ls hP hS (lv_sub hl js hs)
theorem sq_oinit (C : sq_C X V cc nL own R rt b) {idx a : Nat} (hw : Cond.methodLink own idx Lib.objectInit ∈ sf_tbl ∧ Cond.instanceMethod Lib.objectInit ∈ sf_tbl ∧ Cond.code Lib.objectInit ⟨#[0xb1]⟩ 1 none ∈ sf_tbl) (hf : 1 ≤ R.frames) (hlo : (st.map fun v => v.category).sum + 12 ≤ R.locals) (hd : decode cc pc = .ok (.invokespecial idx, 3)) (k : sq_G X V base nL Q l cl sl (pc + 3) lv st) : sq_G X V base nL Q l cl sl pc lv (.ref a :: st) := by
  intro H locs ls hP hS hl
  have hR : sf_R X = R := C.2.2.2.2.2.2.2.2.1
  exact W.objInit C.1 C.2.1 C.2.2.2.1 (C.2.2.2.2.1 _ hw.1) (C.2.2.2.2.1 _ hw.2.1) (C.2.2.2.2.1 _ hw.2.2) rfl (hl.1.trans C.2.2.1.symm) rfl hd (by rw [hR]; exact hf) (by rw [hR]; show 2 * 0 + _ + 12 ≤ _; omega) (k H locs ls hP hS hl)
theorem sq_new (C : sq_C X V cc nL own R rt b) {Cn : String} {T : u_T} {N ci idx : Nat} (hin : ∀ w ∈ u_ws Cn T N, w ∈ sf_tbl) (ty : Nat → FieldType) (hty : ∀ k, k < N → parseFieldDescriptor (T k).2.2.1 = some (ty k)) (hw : Cond.classLink own idx Cn ∈ sf_tbl ∧ Cond.instantiable Cn N ∈ sf_tbl ∧ Cond.initialized Cn ∈ sf_tbl) (hc : vwCl[ci]? = some (Cn, T, N)) {fs : List Value} (hfs : ∀ j, j < N → defaultValue (ty j) = vp_V fs j) (hcells : cl + 1 ≤ R.cells) (hslots : sl + N ≤ R.slots) {n : Nat} (hn : l.length = n) (hd : decode cc pc = .ok (.new idx, 3)) (k : sq_G X V base nL Q (l ++ [.inr (ci, fs)]) (cl + 1) (sl + N) (pc + 3) lv (.ref (base + n) :: st)) : sq_G X V base nL Q l cl sl pc lv st := by
  intro H locs ls hP hS hl
  subst hn
  have hR : sf_R X = R := C.2.2.2.2.2.2.2.2.1
  have hKn := C.2.2.2.2.2.1.1.1.1 ci _ hc
  refine W.newcK C.1 C.2.1 C.2.2.2.1 (C.2.2.2.2.1 _ hw.1) (C.2.2.2.2.1 _ hw.2.1) (C.2.2.2.2.1 _ hw.2.2) rfl hd (by rw [hR]; exact hcells) (by rw [hR]; exact hslots) hKn.2.1 hP.1 fun H1 kC hkC e1 z1 o1 => ?_
  exact k H1 locs ls (hP.push ⟨_, hc, (u_born ty C.2.2.2.2.1 hin hKn hkC e1 hty).to hfs⟩ z1 o1) ⟨by have := hS.1; have := hP.1; omega, fun x h1 h2 => (o1 x (by have := hS.1; have := hP.1; omega)).trans (hS.2.1 x h1 h2), hS.2.2⟩ hl
theorem sq_newI (C : sq_C X V cc nL own R rt b) {v : Int32} {N n : Nat} (hw : Cond.arrayClass .int ∈ sf_tbl) (h0 : ¬ v < 0) (hN : v.toNatClampNeg = N) (hby : N * componentBytes .int ≤ 536870912) (hcells : cl + 1 ≤ R.cells) (hslots : sl + N ≤ R.slots) (hn : l.length = n) (hd : decode cc pc = .ok (.newarray .int, 2)) (k : sq_G X V base nL Q (l ++ [.inl (V.2.2 0, N, .inl fun _ => 0)]) (cl + 1) (sl + N) (pc + 2) lv (.ref (base + n) :: st)) : sq_G X V base nL Q l cl sl pc lv (.int v :: st) := by
  intro H locs ls hP hS hl
  subst hn
  have hR : sf_R X = R := C.2.2.2.2.2.2.2.2.1
  refine va_newaK (atype := .int) C.1 C.2.1 (C.2.2.2.2.1 _ hw) rfl hd rfl h0 hN hby (by rw [hR]; exact hcells) (by rw [hR]; exact hslots) hP.1 fun H1 cA e1 z1 o1 hAr hNm => ?_
  have hc : cA = V.2.2 0 := Option.some.inj (hNm.symm.trans ((C.2.2.2.2.2.1.1.1.2 0 _ rfl).2))
  subst hc
  exact k H1 locs ls (hP.push (show H1[base + l.length]? = some (vp_cell _ _) by rw [vp_cell_i]; exact e1) z1 o1) ⟨by have := hS.1; have := hP.1; omega, fun x h1 h2 => (o1 x (by have := hS.1; have := hP.1; omega)).trans (hS.2.1 x h1 h2), hS.2.2⟩ hl
theorem sq_newZ (C : sq_C X V cc nL own R rt b) {v : Int32} {N n : Nat} (hw : Cond.arrayClass .boolean ∈ sf_tbl) (h0 : ¬ v < 0) (hN : v.toNatClampNeg = N) (hby : N * componentBytes .boolean ≤ 536870912) (hcells : cl + 1 ≤ R.cells) (hslots : sl + N ≤ R.slots) (hn : l.length = n) (hd : decode cc pc = .ok (.newarray .boolean, 2)) (k : sq_G X V base nL Q (l ++ [.inl (V.2.2 1, N, .inl fun _ => 0)]) (cl + 1) (sl + N) (pc + 2) lv (.ref (base + n) :: st)) : sq_G X V base nL Q l cl sl pc lv (.int v :: st) := by
  intro H locs ls hP hS hl
  subst hn
  have hR : sf_R X = R := C.2.2.2.2.2.2.2.2.1
  refine va_newaK (atype := .boolean) C.1 C.2.1 (C.2.2.2.2.1 _ hw) rfl hd rfl h0 hN hby (by rw [hR]; exact hcells) (by rw [hR]; exact hslots) hP.1 fun H1 cA e1 z1 o1 hAr hNm => ?_
  have hc : cA = V.2.2 1 := Option.some.inj (hNm.symm.trans ((C.2.2.2.2.2.1.1.1.2 1 _ rfl).2))
  subst hc
  exact k H1 locs ls (hP.push (show H1[base + l.length]? = some (vp_cell _ _) by rw [vp_cell_i]; exact e1) z1 o1) ⟨by have := hS.1; have := hP.1; omega, fun x h1 h2 => (o1 x (by have := hS.1; have := hP.1; omega)).trans (hS.2.1 x h1 h2), hS.2.2⟩ hl
theorem sq_newL (C : sq_C X V cc nL own R rt b) {v : Int32} {N n idx : Nat} (hw : Cond.classLink own idx "SaddleFit$Load" ∈ sf_tbl) (h0 : ¬ v < 0) (hN : v.toNatClampNeg = N) (hby : N * 4 ≤ 536870912) (hcells : cl + 1 ≤ R.cells) (hslots : sl + N ≤ R.slots) (hn : l.length = n) (hd : decode cc pc = .ok (.anewarray idx, 3)) (k : sq_G X V base nL Q (l ++ [.inl (V.2.2 2, N, .inr (.inr (.inr (.inr fun _ => none))))]) (cl + 1) (sl + N) (pc + 3) lv (.ref (base + n) :: st)) : sq_G X V base nL Q l cl sl pc lv (.int v :: st) := by
  intro H locs ls hP hS hl
  subst hn
  subst hN
  have hR : sf_R X = R := C.2.2.2.2.2.2.2.2.1
  refine W.anew C.1 C.2.1 C.2.2.2.1 (C.2.2.2.2.1 _ hw) (va_AO.use C.2.2.2.2.2.1.2) rfl hd rfl h0 hby (by rw [hR]; exact hcells) (by rw [hR]; exact hslots) fun cA kA comp f1 f2 f3 f4 => ?_
  obtain ⟨kA2, comp2, g1, g2, g3, g4⟩ := (C.2.2.2.2.2.1.1.1.2 2 _ rfl).2
  have hc : cA = V.2.2 2 := Option.some.inj (f1.symm.trans g4)
  subst hc
  rw [hP.1]
  generalize hH1 : H.push ({ cls := V.2.2 2, slots := Array.replicate v.toNatClampNeg .null, vm := .none } : Cell) = H1
  have z1 : H1.size = base + l.length + 1 := by rw [← hH1, Array.size_push, hP.1]
  have e1 : H1[base + l.length]? = some (arrV (V.2.2 2) v.toNatClampNeg (fun _ => .null)) := by rw [← hP.1, ← hH1, Array.getElem?_push_size, ← arrV_new]
  have o1 : ∀ q : Nat, q < base + l.length → H1[q]? = H[q]? := fun q hq => by rw [← hH1, Array.getElem?_push, if_neg (by rw [hP.1]; exact Nat.ne_of_lt hq)]
  exact k H1 locs ls (hP.push (show H1[base + l.length]? = some (vp_cell _ _) by rw [vp_cell_q]; exact e1) z1 o1) ⟨by have := hS.1; have := hP.1; omega, fun x h1 h2 => (o1 x (by have := hS.1; have := hP.1; omega)).trans (hS.2.1 x h1 h2), hS.2.2⟩ hl
theorem sq_get (C : sq_C X V cc nL own R rt b) {k ci j idx : Nat} {fs : List Value} {v : Value} (hk : l[k]? = some (.inr (ci, fs))) (hj : fs[j]? = some v) (hF : sf_F own idx ci j) (hd : decode cc pc = .ok (.getfield idx, 3)) (kk : sq_G X V base nL Q l cl sl (pc + 3) lv (v :: st)) : sq_G X V base nL Q l cl sl pc lv (.ref (base + k) :: st) := by
  intro H locs ls hP hS hl
  obtain ⟨Cn, T, N, ty, hc, hjN, hlk, hin, hty, hnm⟩ := hF
  have hP1 : va_P V.1 vwCl [(base + k, .inr (ci, fs))] H := by
    intro i q hi
    have hz : i < 1 := (List.getElem?_eq_some_iff.mp hi).1
    rw [show i = 0 by omega] at hi
    cases hi
    exact hP.2 k _ hk
  exact va_get C.1 C.2.1 C.2.2.2.2.1 hin C.2.2.2.1 C.2.2.2.2.2.1.1.1 hP1 0 rfl hc j hjN (C.2.2.2.2.1 _ hlk) (fun _ h => h) hj hd (kk H locs ls hP hS hl)
theorem sq_alen (C : sq_C X V cc nL own R rt b) {k t : Nat} {ty : FieldType} {cA : ClassId} {x : vp_A} {v : Int32} (hk : l[k]? = some (.inl (cA, x))) (ht : (sf_ty V)[t]? = some (cA, ty)) (hv : Int32.ofNat x.1 = v) (hd : decode cc pc = .ok (.arraylength, 1)) (kk : sq_G X V base nL Q l cl sl (pc + 1) lv (.int v :: st)) : sq_G X V base nL Q l cl sl pc lv (.ref (base + k) :: st) := by
  intro H locs ls hP hS hl
  have hP1 : va_P V.1 vwCl [(base + k, .inl (cA, x))] H := by
    intro i q hi
    have hz : i < 1 := (List.getElem?_eq_some_iff.mp hi).1
    rw [show i = 0 by omega] at hi
    cases hi
    exact hP.2 k _ hk
  exact va_alen C.1 C.2.1 C.2.2.2.2.2.1.1.1 hP1 0 t rfl ht hv hd (kk H locs ls hP hS hl)
theorem sq_put (C : sq_C X V cc nL own R rt b) {k ci j idx : Nat} {fs : List Value} {v : Int32} {t : FieldType} (hk : l[k]? = some (.inr (ci, fs))) (hj : j < fs.length) (hF : sf_Fw own idx ci j t) (hn : narrow t (.int v) = .int v) (hfit : fits t (.int v) = true) (hset : l.set k (.inr (ci, fs.set j (.int v))) = l') (hd : decode cc pc = .ok (.putfield idx, 3)) (kk : sq_G X V base nL Q l' cl sl (pc + 3) lv st) : sq_G X V base nL Q l cl sl pc lv (.int v :: .ref (base + k) :: st) := by
  intro H locs ls hP hS hl
  subst hset
  obtain ⟨Cn, T, N, ty0, hc, hjN, hlk, hin, hty, hnm, hfin, hdt⟩ := hF
  have hap := va_apart (own := own) C.2.2.2.2.1 hin ty0 hty hnm C.2.2.2.2.2.1.1.1 hc
  obtain ⟨r, h1, cell, q1, q2, q3, q4⟩ := hP.2 k _ hk
  have hr : r = (Cn, T, N) := Option.some.inj (h1.symm.trans hc)
  subst hr
  obtain ⟨hSl, hfc, kC, hkC, hkind⟩ := C.2.2.2.2.2.1.1.1.1 ci _ hc
  obtain ⟨cf, kf, fi, f, hi, hsl⟩ := hSl j hjN
  have hlay := C.2.2.2.2.1 _ (hin _ (u_in_lay hjN))
  unfold u_lay at hlay
  rw [if_neg (by rw [hfin]; decide)] at hlay
  have hst := (u_facts hfc hkC (u_lays C.2.2.2.2.1 hin hjN) hi).1
  have h6 := u_store hfc hkC hkind hlay hi hdt hn hfit
  refine W.putK C.1 C.2.1 (f := f) ⟨C.2.2.2.1, C.2.2.2.2.1 _ hlk, ⟨_, _, _, hi⟩, hst⟩ (by rw [q2]; exact h6) q1 q3 (by rw [hsl]; exact k2_hasslot (q4 j hjN)) rfl rfl hd fun H' e1 e2 e3 => ?_
  rw [hsl] at e1 ⊢
  exact kk H' _ ls (hP.set hk ⟨_, hc, t_OB.to (V := updV (vp_V fs) j (.int v)) ⟨_, e1, q2, q3, t_set q4 hap hjN (.int v)⟩ (fun i _ => vp_updV_set hj (.int v) i)⟩ e2 e3) (hS.put e2 e3 (Nat.le_add_right _ _)) hl
/-- a final field's place in the pool, and that its class is the method's own -/
def sq_F (own : String) (idx ci j : Nat) (t : FieldType) : Prop := ∃ (T : u_T) (N : Nat) (ty : Nat → FieldType), vwCl[ci]? = some (own, T, N) ∧ j < N ∧ Cond.fieldLink own idx (T j).1 (T j).2.1 (T j).2.2.1 ∈ sf_tbl ∧ (∀ w ∈ u_ws own T N, w ∈ sf_tbl) ∧ (∀ k, k < N → parseFieldDescriptor (T k).2.2.1 = some (ty k)) ∧ (∀ a, a < N → ∀ b, b < N → a ≠ b → (T a).2.1 ≠ (T b).2.1) ∧ (T j).2.2.2 = true ∧ (T j).1 = own ∧ parseFieldDescriptor (T j).2.2.1 = some t
theorem sq_putF (C : sq_C X V cc nL own R rt true) {k ci j idx a : Nat} {fs : List Value} {t : FieldType} (hk : l[k]? = some (.inr (ci, fs))) (hj : j < fs.length) (hF : sq_F own idx ci j t) (hn : narrow t (.ref a) = .ref a) (hfit : fits t (.ref a) = true) (hset : l.set k (.inr (ci, fs.set j (.ref a))) = l') (hd : decode cc pc = .ok (.putfield idx, 3)) (kk : sq_G X V base nL Q l' cl sl (pc + 3) lv st) : sq_G X V base nL Q l cl sl pc lv (.ref a :: .ref (base + k) :: st) := by
  intro H locs ls hP hS hl
  subst hset
  obtain ⟨T, N, ty0, hc, hjN, hlk, hin, hty, hnm, hfin, hdecl, hdt⟩ := hF
  have hap := va_apart (own := own) C.2.2.2.2.1 hin ty0 hty hnm C.2.2.2.2.2.1.1.1 hc
  obtain ⟨r, h1, cell, q1, q2, q3, q4⟩ := hP.2 k _ hk
  have hr : r = (own, T, N) := Option.some.inj (h1.symm.trans hc)
  subst hr
  obtain ⟨hSl, hfc, kC, hkC, hkind⟩ := C.2.2.2.2.2.1.1.1.1 ci _ hc
  obtain ⟨cf, kf, fi, f, hi, hsl⟩ := hSl j hjN
  have hlay := C.2.2.2.2.1 _ (hin _ (u_in_lay hjN))
  unfold u_lay at hlay
  rw [if_pos hfin] at hlay
  have hst := (u_facts hfc hkC (u_lays C.2.2.2.2.1 hin hjN) hi).1
  have hcf : (sf_m X).cls = cf := by
    obtain ⟨_, _, c', _, _, _, -, -, hf', -, -, -, hown2, -⟩ := Cond.laysFinal_spec hlay
    have e1 : c' = cf := by have := hi.symm.trans hf'; simp at this; exact this.1.symm
    rw [hdecl] at hown2
    rw [← e1]; exact Option.some.inj (C.2.2.2.1.symm.trans hown2)
  have h6 := u_fits hfc hkC hkind (Or.inr hlay) hi hdt hn hfit
  refine W.putFinK C.1 C.2.1 C.2.2.2.1 (C.2.2.2.2.1 _ hlk) hi hst hcf (C.2.2.2.2.2.2.2.2.2 rfl) (by rw [q2]; exact h6) q1 q3 (by rw [hsl]; exact k2_hasslot (q4 j hjN)) rfl rfl hd fun H' e1 e2 e3 => ?_
  rw [hsl] at e1 ⊢
  exact kk H' _ ls (hP.set hk ⟨_, hc, t_OB.to (V := updV (vp_V fs) j (.ref a)) ⟨_, e1, q2, q3, t_set q4 hap hjN (.ref a)⟩ (fun i _ => vp_updV_set hj (.ref a) i)⟩ e2 e3) (hS.put e2 e3 (Nat.le_add_right _ _)) hl
theorem sq_iast (C : sq_C X V cc nL own R rt b) {k n : Nat} {f : Nat → Int32} {i x : Int32} (hk : l[k]? = some (.inl (V.2.2 0, n, .inl f))) (hin : vp_in i n) (hset : l.set k (.inl (V.2.2 0, n, .inl (upd f i.toNatClampNeg x))) = l') (hd : decode cc pc = .ok (.iastore, 1)) (kk : sq_G X V base nL Q l' cl sl (pc + 1) lv st) : sq_G X V base nL Q l cl sl pc lv (.int x :: .int i :: .ref (base + k) :: st) := by
  intro H locs ls hP hS hl
  subst hset
  refine W.iast C.1 C.2.1 (hP.2 k _ hk) ((C.2.2.2.2.2.1.1.1.2 0 _ rfl).1 n (fun j => .int (f j))) (fun q => by cases q) (by show ¬ (i < 0 ∨ (arrV _ _ _).slots.size ≤ _); rw [arrV_size]; exact hin) rfl rfl hd fun H1 e z oq => ?_
  refine kk H1 _ ls (hP.set hk ?_ z oq) (hS.put z oq (Nat.le_add_right _ _)) hl
  show H1[base + k]? = some (vp_cell _ _)
  rw [e]
  rw [vp_cell_i, vp_cell_i, arrV_store]
  congr 2
  funext q
  by_cases hq : q = i.toNatClampNeg
  · subst hq
    simp [updV, upd]
  · simp [updV, upd, hq]
theorem sq_aast (C : sq_C X V cc nL own R rt b) {k n v : Nat} {vs : List Value} {f : Nat → Option Nat} {i : Int32} (hk : l[k]? = some (.inl (V.2.2 2, n, .inr (.inr (.inr (.inr f)))))) (hv : l[v]? = some (.inr (3, vs))) (hin : vp_in i n) (hset : l.set k (.inl (V.2.2 2, n, .inr (.inr (.inr (.inr (va_up f i.toNatClampNeg (some (base + v)))))))) = l') (hd : decode cc pc = .ok (.aastore, 1)) (kk : sq_G X V base nL Q l' cl sl (pc + 1) lv st) : sq_G X V base nL Q l cl sl pc lv (.ref (base + v) :: .int i :: .ref (base + k) :: st) := by
  intro H locs ls hP hS hl
  subst hset
  have hlt : i.toNatClampNeg < n := Nat.not_le.mp fun q => hin (Or.inr q)
  have h0 : ¬ i < 0 := fun q => hin (Or.inl q)
  obtain ⟨r', hr', cellV, g1, g2, g3, -⟩ := hP.2 v _ hv
  have hcls := (C.2.2.2.2.2.1.1.1.1 3 _ rfl).2
  obtain ⟨kA, comp, k1, k2, k3, -⟩ := (C.2.2.2.2.2.1.1.1.2 2 _ rfl).2
  have hcomp : comp = V.1.1 3 := Option.some.inj (k3.symm.trans hcls.1)
  subst hcomp
  obtain ⟨kC, hkC, -⟩ := hcls.2
  refine W.aast C.1 C.2.1 (hP.2 k _ hk) (fun q h => by cases h) (fun h => by cases h) k1 k2 rfl hkC ⟨h0, by show _ < (arrV _ _ _).slots.size; rw [arrV_size]; exact hlt⟩ g1 (fun q h => by rw [g3] at h; cases h) (by rw [g2]; exact hkC) (by rw [g2]; exact va_assign hcls) rfl rfl hd fun H1 e z oq => ?_
  refine kk H1 _ ls (hP.set hk ?_ z oq) (hS.put z oq (Nat.le_add_right _ _)) hl
  show H1[base + k]? = some (vp_cell _ _)
  rw [e]
  rw [vp_cell_q, vp_cell_q, arrV_store]
  congr 2
  funext q
  by_cases hq : q = i.toNatClampNeg
  · subst hq
    simp [updV, va_up, va_rf]
  · simp [updV, va_up, hq]
end SBR
def sq_Qv (V : sf_V) (base : Nat) (l : List va_E) : Array Value → State → Outcome → State → Prop := va_Qv (fun (_ : Unit) => True) (fun _ t => sq_P V.1 base l t.heap) (sq_A base)
def sq_Q (X : sf_X) (V : sf_V) (base mc ms : Nat) (l : List va_E) : State → Prop := MQ (sf_b X) (sq_Qv V base l) (sf_a X) (sf_s X) mc ms (sq_A base)
def sq_Pc (V : sf_V) (base a : Nat) (l : List va_E) : Array Value → State → Prop := va_Pc [.ref (base + a)] (fun U => sq_P V.1 base l U.heap ∧ sq_K V U)
def sq_M (l : Launch) (V : sf_V) (y : MethodName) (cd : Cond) (d mc ms base a : Nat) (l0 l1 : List va_E) : Prop := Met l y (cd :: sf_tbl) (sq_rm d mc ms) (sq_Pc V base a l0) (sq_Qv V base l1) mc ms (sq_A base)
theorem sq_K.warm {V : sf_V} {s U : State} (hW : s.WarmedH U.vm) (h : sq_K V s) : sq_K V U := ⟨⟨va_K.moved hW.alike h.1.1, sf_N.warm hW h.1.2⟩, va_AO.moved hW.alike h.2⟩
theorem sq_blind {V : sf_V} {base a : Nat} {l : List va_E} : FrameBlind (sq_Pc V base a l) := by
  intro x U g mk q
  obtain ⟨q0, qP, ⟨qK, qN⟩, qO⟩ := q
  exact ⟨q0, qP, ⟨va_K.moved (u := U) (U := U.calling g mk x) (Vm.Alike.refl U.vm) qK, sf_N.same (u := U) (U := U.calling g mk x) rfl qN⟩, va_AO.moved (u := U) (U := U.calling g mk x) (Vm.Alike.refl U.vm) qO⟩
theorem sq_enter {l : Launch} {V : sf_V} {y : MethodName} {cc : ByteArray} {maxL d mc ms base a : Nat} {l0 l1 : List va_E} (hy : plainName y.cls = true) (hn : y.name = "<init>") (hl : 1 ≤ maxL)
    (h : ∀ X : sf_X, sf_l X = l → sq_C X V cc maxL y.cls (sq_rm d mc ms) none true → sq_G X V base maxL (sq_Q X V base mc ms l1) l0 0 0 0 [(0, .ref (base + a))] []) : sq_M l V y (.code y cc maxL none) d mc ms base a l0 l1 := by
  refine Met.ofW (cc := cc) (maxL := maxL) (ret := none) hy rfl ?_
  intro p e s m args below meth c s₁ B hml hv
  obtain ⟨rfl, hP, hK⟩ := hv
  have hts := atoms_spec (ws := .code y cc maxL none :: sf_tbl) B.pre
  have hin : meth.name = "<init>" := (name_of_methodNamed B.named B.method).1.trans hn
  rw [lg_entry_eq]
  exact h (p, l, e, sq_rm d mc ms, s, m, [Value.ref (base + a)].toArray, below, meth, c) rfl ⟨B.exec, B.bytes, hml, findClass_of_methodNamed B.named, fun w hw => hts w (List.mem_cons_of_mem _ hw), hK, B.returns, B.notSynchronized, rfl, fun _ => hin⟩ s.heap [] _ hP va_S.rf (lv_entry [Value.ref (base + a)] hl)
section SBC
variable {X : sf_X} {V : sf_V} {base nL : Nat} {cc : ByteArray} {own : String} {R : Room} {rt : Option FieldType} {b : Bool} {Q : State → Prop} {l l' : List va_E} {cl sl pc : Nat} {lv : List (Nat × Value)} {st : List Value}
theorem sq_ret {l1 : List va_E} {mc ms : Nat} (C : sq_C X V cc nL own R none b) (he : l = l1) (hd : decode cc pc = .ok (.return_, 1)) : sq_G X V base nL (sq_Q X V base mc ms l1) l mc ms pc lv [] := by
  subst he
  intro H locs ls hP hS hl
  exact W.vret (Qc := sq_Qv V base l) C.1 C.2.1 C.2.2.2.2.2.2.1 (fun t ht hW => ⟨⟨(), rfl, trivial, by show sq_P _ _ _ t.heap; rw [ht]; exact hP⟩, hS.F ht⟩) hS.2.2 hd C.2.2.2.2.2.2.2.1
variable {y : MethodName} {bytes : ByteArray} {maxL idx d mc ms a : Nat}
theorem sq_gov {xa : Array Value} (h : ∀ (H : Heap) (locs : List Loc) (ls : Array Slot), sq_P V.1 base l H → lv_has ls nL lv → va_Run (sf_p X) (sf_l X) (sf_e X) (sf_R X) (sf_s X) (sf_m X) (sf_a X) (sf_b X) (sf_h X) (sf_c X) H locs cl sl mc ms (F0 (sf_m X) pc ls (.ref (base + a) :: st)) st (sq_Qv V base l' xa) (sq_A base)) (kk : sq_G X V base nL Q l' (cl + mc) (sl + ms) (pc + 3) lv st) : sq_G X V base nL Q l cl sl pc lv (.ref (base + a) :: st) := by
  intro H locs ls hP hS hl
  refine va_callv (h H locs ls hP hl) hS (fun _ _ q => q) (fun _ q => q) (fun u t2 H1 locs1 ht hvm hp hB hz hq hS1 => ?_)
  rw [ht] at hB
  exact kk H1 locs1 ls hB hS1 hl
/-- a constructor of one's own package -/
theorem sq_callI (C : sq_C X V cc nL own R rt b) (hY : sf_Y y bytes maxL none 0) (hw : Cond.methodLink own idx y ∈ sf_tbl ∧ Cond.instanceMethod y ∈ sf_tbl) (hy : y.name = "<init>") (hM : sq_M (sf_l X) V y (.code y bytes maxL none) d mc ms base a l l') (hR : d + 1 ≤ R.frames ∧ 8 + (maxL + 11) + 40 * d ≤ R.locals) (hcs : cl + mc ≤ R.cells ∧ sl + ms ≤ R.slots) (hst : (st.map fun v => v.category).sum ≤ 8) (hd : decode cc pc = .ok (.invokespecial idx, 3)) (kk : sq_G X V base nL Q l' (cl + mc) (sl + ms) (pc + 3) lv st) : sq_G X V base nL Q l cl sl pc lv (.ref (base + a) :: st) := by
  have hRx : sf_R X = R := C.2.2.2.2.2.2.2.2.1
  refine sq_gov (xa := (Value.ref (base + a) :: []).toArray) (fun H locs ls hP hl => ?_) kk
  exact va_runI (As := []) (rest := st) ⟨C.1, C.2.1, C.2.2.1, C.2.2.2.1, C.2.2.2.2.1⟩ hM (cwI 0 C.2.2.2.2.1 (sf_goodIn hY.1) (ws' := sf_tbl) rfl rfl rfl (C.2.2.2.2.1 _ hY.2.1) (C.2.2.2.2.1 _ hw.1) (C.2.2.2.2.1 _ hw.2) hy hY.2.2.1 (by rw [hRx]; exact hR)) ⟨sq_blind, fun U hU hW => ⟨rfl, by rw [hU]; exact hP, sq_K.warm hW C.2.2.2.2.2.1⟩⟩ rfl rfl hl.1 rfl (lv_room hst) hd (by rw [hRx]; exact hcs)
/-- a private constructor of a nest mate -/
theorem sq_callN (C : sq_C X V cc nL own R rt b) {host : String} (hY : sf_Y y bytes maxL none 0) (hw : Cond.methodLinkNest own idx y host ∈ lw_tbl ∧ Cond.instanceMethod y ∈ sf_tbl) (hy : y.name = "<init>") (hM : sq_M (sf_l X) V y (.code y bytes maxL none) d mc ms base a l l') (hR : d + 1 ≤ R.frames ∧ 8 + (maxL + 11) + 40 * d ≤ R.locals) (hcs : cl + mc ≤ R.cells ∧ sl + ms ≤ R.slots) (hst : (st.map fun v => v.category).sum ≤ 8) (hd : decode cc pc = .ok (.invokespecial idx, 3)) (kk : sq_G X V base nL Q l' (cl + mc) (sl + ms) (pc + 3) lv st) : sq_G X V base nL Q l cl sl pc lv (.ref (base + a) :: st) := by
  have hRx : sf_R X = R := C.2.2.2.2.2.2.2.2.1
  refine sq_gov (xa := (Value.ref (base + a) :: []).toArray) (fun H locs ls hP hl => ?_) kk
  exact va_runIN (As := []) (rest := st) ⟨C.1, C.2.1, C.2.2.1, C.2.2.2.1, C.2.2.2.2.1⟩ hM ⟨va_cnB 0 C.2.2.2.2.1 (sf_goodIn hY.1) (ws' := sf_tbl) rfl rfl rfl (C.2.2.2.2.2.1.1.2 _ ⟨_, _, _, _, rfl, hw.1⟩) (C.2.2.2.2.1 _ hY.2.1) hY.2.2.1 (by rw [hRx]; exact hR), hy, C.2.2.2.2.1 _ hw.2⟩ ⟨sq_blind, fun U hU hW => ⟨rfl, by rw [hU]; exact hP, sq_K.warm hW C.2.2.2.2.2.1⟩⟩ rfl rfl hl.1 rfl (lv_room hst) hd (by rw [hRx]; exact hcs)
end SBC
