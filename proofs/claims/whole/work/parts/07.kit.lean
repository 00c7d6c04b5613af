-- the flat world: a fixed number of cells, their shapes, and the ints they hold
abbrev sf_Sg : Type := Nat → Nat → Int32
def sf_su (σ : sf_Sg) (k : Nat) (f : Nat → Int32) : sf_Sg := fun j => if j = k then f else σ j
def sf_s1 (σ : sf_Sg) (k i : Nat) (v : Int32) : sf_Sg := sf_su σ k (upd (σ k) i v)
abbrev sf_Shp : Type := (Nat × FieldType) ⊕ ((Nat × List (Option Nat)) ⊕ (Nat × Nat × Nat))
abbrev sf_V : Type := va_G × (Nat → Nat) × (Nat → ClassId)
def sf_ai (ty : FieldType) : Nat := match ty with
  | .boolean => 1
  | _ => 0
def sf_fl (ad : Nat → Nat) (f : Nat → Int32) : Nat → List (Option Nat) → List Value
  | _, [] => []
  | j, none :: r => .int (f j) :: sf_fl ad f (j + 1) r
  | j, some c :: r => .ref (ad c) :: sf_fl ad f (j + 1) r
def sf_en (V : sf_V) (f : Nat → Int32) (s : sf_Shp) : va_E := match s with
  | .inl a => .inl (V.2.2 (sf_ai a.2), a.1, .inl f)
  | .inr (.inl o) => .inr (o.1, sf_fl V.2.1 f 0 o.2)
  | .inr (.inr q) => .inl (V.2.2 2, q.1, .inr (.inr (.inr (.inr fun i => some (V.2.1 (q.2.1 + q.2.2 * i))))))
def sf_rem (x y : Int32) : Int32 := x - x / y * y
def sf_lmod (x y : Int64) : Int64 := x - x / y * y
def sf_it {α : Type} (F : α → α) (z : α) : Nat → α
  | 0 => z
  | n + 1 => F (sf_it F z n)
theorem sf_it_ind {α : Type} (P : α → Prop) (F : α → α) (z : α) (hz : P z) (hs : ∀ k, P k → P (F k)) : ∀ n, P (sf_it F z n)
  | 0 => hz
  | n + 1 => hs _ (sf_it_ind P F z hz hs n)
def sf_FU : Nat := 2000000
def sf_NC : Nat := 173
def sf_shl : List sf_Shp := [.inr (.inl (9, [some 1, some 3, some 9, some 10, some 16, some 22, some 26, some 27, some 125, some 131, some 134, some 135, some 136, none])),
  .inr (.inl (5, [none, none, some 2, none, none])),
  .inl (240, .int),
  .inr (.inl (7, [none, none, none, none, some 4, some 5, some 6, some 7, some 8])),
  .inl (6, .int),
  .inl (6, .int),
  .inl (6, .int),
  .inl (5, .int),
  .inl (5, .int),
  .inr (.inl (6, [some 10, some 16])),
  .inr (.inl (7, [none, none, none, none, some 11, some 12, some 13, some 14, some 15])),
  .inl (6, .int),
  .inl (6, .int),
  .inl (6, .int),
  .inl (5, .int),
  .inl (5, .int),
  .inr (.inl (3, [none, none, some 17, some 18, some 19, some 20, some 21])),
  .inl (6, .int),
  .inl (6, .int),
  .inl (6, .int),
  .inl (6, .int),
  .inl (5, .int),
  .inr (.inl (2, [none, none, some 23, some 24, some 25, none])),
  .inl (6, .int),
  .inl (5, .int),
  .inl (6, .int),
  .inr (.inl (8, [none, none])),
  .inr (.inl (4, [none, none, some 28])),
  .inr (.inr (16, 29, 6)),
  .inr (.inl (3, [none, none, some 30, some 31, some 32, some 33, some 34])),
  .inl (6, .int),
  .inl (6, .int),
  .inl (6, .int),
  .inl (6, .int),
  .inl (5, .int),
  .inr (.inl (3, [none, none, some 36, some 37, some 38, some 39, some 40])),
  .inl (6, .int),
  .inl (6, .int),
  .inl (6, .int),
  .inl (6, .int),
  .inl (5, .int),
  .inr (.inl (3, [none, none, some 42, some 43, some 44, some 45, some 46])),
  .inl (6, .int),
  .inl (6, .int),
  .inl (6, .int),
  .inl (6, .int),
  .inl (5, .int),
  .inr (.inl (3, [none, none, some 48, some 49, some 50, some 51, some 52])),
  .inl (6, .int),
  .inl (6, .int),
  .inl (6, .int),
  .inl (6, .int),
  .inl (5, .int),
  .inr (.inl (3, [none, none, some 54, some 55, some 56, some 57, some 58])),
  .inl (6, .int),
  .inl (6, .int),
  .inl (6, .int),
  .inl (6, .int),
  .inl (5, .int),
  .inr (.inl (3, [none, none, some 60, some 61, some 62, some 63, some 64])),
  .inl (6, .int),
  .inl (6, .int),
  .inl (6, .int),
  .inl (6, .int),
  .inl (5, .int),
  .inr (.inl (3, [none, none, some 66, some 67, some 68, some 69, some 70])),
  .inl (6, .int),
  .inl (6, .int),
  .inl (6, .int),
  .inl (6, .int),
  .inl (5, .int),
  .inr (.inl (3, [none, none, some 72, some 73, some 74, some 75, some 76])),
  .inl (6, .int),
  .inl (6, .int),
  .inl (6, .int),
  .inl (6, .int),
  .inl (5, .int),
  .inr (.inl (3, [none, none, some 78, some 79, some 80, some 81, some 82])),
  .inl (6, .int),
  .inl (6, .int),
  .inl (6, .int),
  .inl (6, .int),
  .inl (5, .int),
  .inr (.inl (3, [none, none, some 84, some 85, some 86, some 87, some 88])),
  .inl (6, .int),
  .inl (6, .int),
  .inl (6, .int),
  .inl (6, .int),
  .inl (5, .int),
  .inr (.inl (3, [none, none, some 90, some 91, some 92, some 93, some 94])),
  .inl (6, .int),
  .inl (6, .int),
  .inl (6, .int),
  .inl (6, .int),
  .inl (5, .int),
  .inr (.inl (3, [none, none, some 96, some 97, some 98, some 99, some 100])),
  .inl (6, .int),
  .inl (6, .int),
  .inl (6, .int),
  .inl (6, .int),
  .inl (5, .int),
  .inr (.inl (3, [none, none, some 102, some 103, some 104, some 105, some 106])),
  .inl (6, .int),
  .inl (6, .int),
  .inl (6, .int),
  .inl (6, .int),
  .inl (5, .int),
  .inr (.inl (3, [none, none, some 108, some 109, some 110, some 111, some 112])),
  .inl (6, .int),
  .inl (6, .int),
  .inl (6, .int),
  .inl (6, .int),
  .inl (5, .int),
  .inr (.inl (3, [none, none, some 114, some 115, some 116, some 117, some 118])),
  .inl (6, .int),
  .inl (6, .int),
  .inl (6, .int),
  .inl (6, .int),
  .inl (5, .int),
  .inr (.inl (3, [none, none, some 120, some 121, some 122, some 123, some 124])),
  .inl (6, .int),
  .inl (6, .int),
  .inl (6, .int),
  .inl (6, .int),
  .inl (5, .int),
  .inr (.inl (1, [none, none, some 126, some 127, some 128, some 129, some 130])),
  .inl (61, .int),
  .inl (6, .int),
  .inl (6, .int),
  .inl (6, .int),
  .inl (81, .int),
  .inr (.inl (0, [none, some 132, some 133])),
  .inl (15, .int),
  .inl (15, .int),
  .inr (.inr (2, 137, 6)),
  .inl (2, .int),
  .inl (2, .boolean),
  .inr (.inl (3, [none, none, some 138, some 139, some 140, some 141, some 142])),
  .inl (6, .int),
  .inl (6, .int),
  .inl (6, .int),
  .inl (6, .int),
  .inl (5, .int),
  .inr (.inl (3, [none, none, some 144, some 145, some 146, some 147, some 148])),
  .inl (6, .int),
  .inl (6, .int),
  .inl (6, .int),
  .inl (6, .int),
  .inl (5, .int),
  .inr (.inl (10, [none, none, none, some 150, some 151, some 152, none, some 153, some 154, some 155, none, some 156, none, none, none, none, none, none, none, none, some 157, some 158, some 159, none, some 160, some 161, none, some 162, some 163, none, none, some 164, none, some 165, some 166, some 167, some 168, none, some 169, some 170, some 171, some 172])),
  .inl (6, .int),
  .inl (6, .int),
  .inl (6, .int),
  .inl (5, .int),
  .inl (5, .int),
  .inl (31, .int),
  .inl (240, .int),
  .inl (6, .int),
  .inl (6, .int),
  .inl (6, .int),
  .inl (5, .int),
  .inl (5, .int),
  .inl (496, .int),
  .inl (31, .int),
  .inl (6, .int),
  .inl (6, .int),
  .inl (6, .int),
  .inl (6, .int),
  .inl (80, .int),
  .inl (15, .int),
  .inl (15, .int),
  .inl (64, .int),
  .inl (2, .boolean)]
def sf_shp (k : Nat) : sf_Shp := sf_shl.getD k (.inl (0, .int))
def sf_wd (V : sf_V) (σ : sf_Sg) : va_W := (List.range sf_NC).map fun k => (V.2.1 k, sf_en V (σ k) (sf_shp k))
def sf_ty (V : sf_V) : List (ClassId × FieldType) := [(V.2.2 0, .int), (V.2.2 1, .boolean), (V.2.2 2, .object "SaddleFit$Load")]
def sf_A (V : sf_V) : Nat → Prop := fun q => ∃ k, k < sf_NC ∧ q = V.2.1 k
def sf_I (V : sf_V) : Prop := ∀ i j, i < sf_NC → j < sf_NC → V.2.1 i = V.2.1 j → i = j
theorem sf_wd_at {V : sf_V} {σ : sf_Sg} {k : Nat} (hk : k < sf_NC) : (sf_wd V σ)[k]? = some (V.2.1 k, sf_en V (σ k) (sf_shp k)) := by
  simp [sf_wd, hk]
theorem sf_wd_len (V : sf_V) (σ : sf_Sg) : (sf_wd V σ).length = sf_NC := by simp [sf_wd]
theorem sf_wd_of {V : sf_V} {σ : sf_Sg} {k : Nat} {q : Nat × va_E} (h : (sf_wd V σ)[k]? = some q) : k < sf_NC ∧ q.1 = V.2.1 k := by
  have hk : k < sf_NC := by rw [← sf_wd_len V σ]; exact (List.getElem?_eq_some_iff.mp h).1
  rw [sf_wd_at hk] at h
  cases h
  exact ⟨hk, rfl⟩
theorem sf_wd_D {V : sf_V} {σ : sf_Sg} (hI : sf_I V) : va_D (sf_A V) (sf_wd V σ) := by
  refine ⟨fun i j p q hi hj e => ?_, fun k q h => ?_⟩
  · obtain ⟨a1, a2⟩ := sf_wd_of hi
    obtain ⟨b1, b2⟩ := sf_wd_of hj
    exact hI i j a1 b1 (by rw [← a2, ← b2]; exact e)
  · obtain ⟨a1, a2⟩ := sf_wd_of h
    exact ⟨k, a1, a2⟩
theorem sf_su_same {σ : sf_Sg} {k : Nat} {f : Nat → Int32} : sf_su σ k f k = f := by simp [sf_su]
theorem sf_su_ne {σ : sf_Sg} {k j : Nat} {f : Nat → Int32} (h : j ≠ k) : sf_su σ k f j = σ j := by simp [sf_su, h]
theorem sf_wd_set {V : sf_V} {σ : sf_Sg} {k : Nat} (hk : k < sf_NC) (f : Nat → Int32) : (sf_wd V σ).set k (V.2.1 k, sf_en V f (sf_shp k)) = sf_wd V (sf_su σ k f) := by
  apply List.ext_getElem?
  intro j
  by_cases hj : j = k
  · subst hj
    rw [List.getElem?_set_self (by rw [sf_wd_len]; exact hk), sf_wd_at hk, sf_su_same]
  · rw [List.getElem?_set_ne (Ne.symm hj)]
    by_cases hl : j < sf_NC
    · rw [sf_wd_at hl, sf_wd_at hl, sf_su_ne hj]
    · rw [List.getElem?_eq_none (by rw [sf_wd_len]; omega), List.getElem?_eq_none (by rw [sf_wd_len]; omega)]
theorem sf_fl_len (ad : Nat → Nat) (f : Nat → Int32) : ∀ (sp : List (Option Nat)) (i : Nat), (sf_fl ad f i sp).length = sp.length
  | [], _ => rfl
  | none :: r, i => by simp [sf_fl, sf_fl_len ad f r (i + 1)]
  | some c :: r, i => by simp [sf_fl, sf_fl_len ad f r (i + 1)]
theorem sf_fl_int (ad : Nat → Nat) (f : Nat → Int32) : ∀ (sp : List (Option Nat)) (i j : Nat), sp[j]? = some none → (sf_fl ad f i sp)[j]? = some (.int (f (i + j)))
  | [], _, j, h => by simp at h
  | none :: r, i, 0, h => rfl
  | some c :: r, i, 0, h => by simp at h
  | none :: r, i, j + 1, h => by
    have := sf_fl_int ad f r (i + 1) j (by simpa using h)
    simp only [sf_fl, List.getElem?_cons_succ, this]
    rw [show i + 1 + j = i + (j + 1) by omega]
  | some c :: r, i, j + 1, h => by
    have := sf_fl_int ad f r (i + 1) j (by simpa using h)
    simp only [sf_fl, List.getElem?_cons_succ, this]
    rw [show i + 1 + j = i + (j + 1) by omega]
theorem sf_fl_ref (ad : Nat → Nat) (f : Nat → Int32) {c : Nat} : ∀ (sp : List (Option Nat)) (i j : Nat), sp[j]? = some (some c) → (sf_fl ad f i sp)[j]? = some (.ref (ad c))
  | [], _, j, h => by simp at h
  | none :: r, i, 0, h => by simp at h
  | some c :: r, i, 0, h => by
    simp at h
    simp [sf_fl, h]
  | none :: r, i, j + 1, h => by
    have := sf_fl_ref ad f r (i + 1) j (by simpa using h)
    simp only [sf_fl, List.getElem?_cons_succ, this]
  | some c :: r, i, j + 1, h => by
    have := sf_fl_ref ad f r (i + 1) j (by simpa using h)
    simp only [sf_fl, List.getElem?_cons_succ, this]
theorem sf_fl_out (ad : Nat → Nat) (f : Nat → Int32) (v : Int32) : ∀ (sp : List (Option Nat)) (i n : Nat), n < i → sf_fl ad (upd f n v) i sp = sf_fl ad f i sp
  | [], _, _, _ => rfl
  | none :: r, i, n, h => by
    simp only [sf_fl]
    rw [sf_fl_out ad f v r (i + 1) n (by omega), pk_un (by omega)]
  | some c :: r, i, n, h => by
    simp only [sf_fl]
    rw [sf_fl_out ad f v r (i + 1) n (by omega)]
theorem sf_fl_set (ad : Nat → Nat) (f : Nat → Int32) (v : Int32) : ∀ (sp : List (Option Nat)) (i j : Nat), sp[j]? = some none → (sf_fl ad f i sp).set j (.int v) = sf_fl ad (upd f (i + j) v) i sp
  | [], _, j, h => by simp at h
  | none :: r, i, 0, h => by
    simp only [sf_fl, List.set_cons_zero]
    show Value.int v :: sf_fl ad f (i + 1) r = Value.int (upd f i v i) :: sf_fl ad (upd f i v) (i + 1) r
    rw [sf_fl_out ad f v r (i + 1) i (by omega), pk_us]
  | some c :: r, i, 0, h => by simp at h
  | none :: r, i, j + 1, h => by
    have := sf_fl_set ad f v r (i + 1) j (by simpa using h)
    simp only [sf_fl, List.set_cons_succ, this]
    rw [show i + 1 + j = i + (j + 1) by omega, pk_un (by omega)]
  | some c :: r, i, j + 1, h => by
    have := sf_fl_set ad f v r (i + 1) j (by simpa using h)
    simp only [sf_fl, List.set_cons_succ, this]
    rw [show i + 1 + j = i + (j + 1) by omega]
-- the words that move with the machine
def sf_tbl : List Cond := lw_tbl.filter goodWord
theorem sf_in {w : Cond} (h : w ∈ lw_tbl) (hg : goodWord w = true) : w ∈ sf_tbl := List.mem_filter.mpr ⟨h, hg⟩
theorem sf_goodIn {cd : Cond} (h : cd ∈ sf_tbl) : GoodIn sf_tbl (cd :: sf_tbl) := by
  intro w hw
  have hm : w ∈ sf_tbl := by
    rcases List.mem_cons.mp hw with e | e
    · rw [e]; exact h
    · exact e
  exact ⟨hm, good_of_word (List.mem_filter.mp hm).2⟩
-- words of calls to private members of nest mates
def sf_isN (w : Cond) : Prop := ∃ (a : String) (i : Nat) (y : MethodName) (h : String), w = .methodLinkNest a i y h ∧ w ∈ lw_tbl
def sf_N (U : State) : Prop := ∀ w, sf_isN w → va_Nw w U
theorem sf_N.warm {s U : State} (hW : s.WarmedH U.vm) (h : sf_N s) : sf_N U := by
  intro w hw
  have hz := h w hw
  obtain ⟨a, i, y, k, rfl, -⟩ := hw
  exact va_Nw.warmM hW hz
theorem sf_N.same {u U : State} (e : u.vm = U.vm) (h : sf_N u) : sf_N U := by
  intro w hw
  have hz := h w hw
  obtain ⟨a, i, y, k, rfl, -⟩ := hw
  exact va_Nw.same rfl e hz
-- where a method stands
abbrev sf_X : Type := Program × Launch × Env × Room × State × MethodId × Array Value × List Frame × Method × Code
abbrev sf_p (X : sf_X) : Program := X.1
abbrev sf_l (X : sf_X) : Launch := X.2.1
abbrev sf_e (X : sf_X) : Env := X.2.2.1
abbrev sf_R (X : sf_X) : Room := X.2.2.2.1
abbrev sf_s (X : sf_X) : State := X.2.2.2.2.1
abbrev sf_m (X : sf_X) : MethodId := X.2.2.2.2.2.1
abbrev sf_a (X : sf_X) : Array Value := X.2.2.2.2.2.2.1
abbrev sf_b (X : sf_X) : List Frame := X.2.2.2.2.2.2.2.1
abbrev sf_h (X : sf_X) : Method := X.2.2.2.2.2.2.2.2.1
abbrev sf_c (X : sf_X) : Code := X.2.2.2.2.2.2.2.2.2
abbrev sf_W (X : sf_X) (H : Heap) (locs : List Loc) (Q : State → Prop) (g : JFrame) : Prop := W (sf_p X) (sf_l X) (sf_e X) (sf_R X) (sf_s X) (sf_m X) (sf_a X) (sf_b X) (sf_h X) (sf_c X) H locs 0 0 Q g
def sf_G (X : sf_X) (V : sf_V) (nL : Nat) (Q : State → Prop) (σ : sf_Sg) (pc : Nat) (lv : List (Nat × Value)) (st : List Value) : Prop :=
  ∀ (H : Heap) (locs : List Loc) (ls : Array Slot), va_P V.1 vwCl (sf_wd V σ) H → va_S (sf_A V) (sf_s X).heap H locs → lv_has ls nL lv → sf_W X H locs Q (F0 (sf_m X) pc ls st)
def sf_rm (d : Nat) : Room := { frames := d, cells := 0, slots := 0, locals := 40 * d }
def sf_K (V : sf_V) (U : State) : Prop := va_K V.1 vwCl (sf_ty V) U ∧ sf_N U
def sf_C (X : sf_X) (V : sf_V) (cc : ByteArray) (nL : Nat) (own : String) (rt : Option FieldType) (d : Nat) : Prop :=
  (sf_p X).tables.exec = Jvm.exec ∧ (sf_c X).code = cc ∧ (sf_c X).maxLocals = nL ∧ (sf_s X).vm.findClass own = some (sf_m X).cls ∧ (∀ w ∈ sf_tbl, w.before (sf_a X) (sf_s X) = true) ∧ sf_K V (sf_s X) ∧ sf_I V ∧ (sf_h X).sig.returnType = rt ∧ (sf_h X).locks = false ∧ sf_R X = sf_rm d
def sf_Qi (V : sf_V) (r : Int32) (σ : sf_Sg) : Array Value → State → Outcome → State → Prop := va_Qi (fun (v : Int32) (_ : Unit) => v = r) (fun _ t => va_P V.1 vwCl (sf_wd V σ) t.heap) (sf_A V)
def sf_Qv (V : sf_V) (σ : sf_Sg) : Array Value → State → Outcome → State → Prop := va_Qv (fun (_ : Unit) => True) (fun _ t => va_P V.1 vwCl (sf_wd V σ) t.heap) (sf_A V)
def sf_Q (X : sf_X) (V : sf_V) (Qc : Array Value → State → Outcome → State → Prop) : State → Prop := MQ (sf_b X) Qc (sf_a X) (sf_s X) 0 0 (sf_A V)
def sf_Pc (V : sf_V) (as : List Value) (σ : sf_Sg) : Array Value → State → Prop := va_Pc as (fun U => va_P V.1 vwCl (sf_wd V σ) U.heap ∧ sf_K V U)
def sf_M (l : Launch) (V : sf_V) (y : MethodName) (cd : Cond) (d : Nat) (as : List Value) (σ : sf_Sg) (Qc : Array Value → State → Outcome → State → Prop) : Prop :=
  sf_I V → Met l y (cd :: sf_tbl) (sf_rm d) (sf_Pc V as σ) Qc 0 0 (sf_A V)
theorem sf_blind {V : sf_V} {as : List Value} {σ : sf_Sg} : FrameBlind (sf_Pc V as σ) := by
  intro a U g mk q
  obtain ⟨q0, qP, qK, qN⟩ := q
  exact ⟨q0, qP, va_K.moved (u := U) (U := U.calling g mk a) (Vm.Alike.refl U.vm) qK, sf_N.same (u := U) (U := U.calling g mk a) rfl qN⟩
/-- a method's entry -/
theorem sf_enter {l : Launch} {V : sf_V} {y : MethodName} {cc : ByteArray} {maxL d : Nat} {rt : Option FieldType} {as : List Value} {σ : sf_Sg} {Qc : Array Value → State → Outcome → State → Prop} (hy : plainName y.cls = true) (hl : (lg_sl as).length ≤ maxL)
    (h : ∀ X : sf_X, sf_l X = l → sf_C X V cc maxL y.cls rt d → sf_G X V maxL (sf_Q X V Qc) σ 0 (lv_args 0 as) []) : sf_M l V y (.code y cc maxL rt) d as σ Qc := by
  intro hI
  refine Met.ofW (cc := cc) (maxL := maxL) (ret := rt) hy rfl ?_
  intro p e s m args below meth c s₁ B hml hv
  obtain ⟨rfl, hP, hK, hN⟩ := hv
  have hts := atoms_spec (ws := .code y cc maxL rt :: sf_tbl) B.pre
  rw [lg_entry_eq]
  exact h (p, l, e, sf_rm d, s, m, as.toArray, below, meth, c) rfl ⟨B.exec, B.bytes, hml, findClass_of_methodNamed B.named, fun w hw => hts w (List.mem_cons_of_mem _ hw), ⟨hK, hN⟩, hI, B.returns, B.notSynchronized, rfl⟩ s.heap [] _ hP va_S.rf (lv_entry as hl)
-- loads and shops, by their first cell
def sf_isL (c : Nat) : Prop := (sf_shp c = .inr (.inl (3, [none, none, some (c + 1), some (c + 2), some (c + 3), some (c + 4), some (c + 5)])) ∧ sf_shp (c + 1) = .inl (6, .int) ∧ sf_shp (c + 2) = .inl (6, .int) ∧ sf_shp (c + 3) = .inl (6, .int) ∧ sf_shp (c + 4) = .inl (6, .int) ∧ sf_shp (c + 5) = .inl (5, .int)) ∧ c + 5 < sf_NC
def sf_isS (c : Nat) : Prop := (sf_shp c = .inr (.inl (7, [none, none, none, none, some (c + 1), some (c + 2), some (c + 3), some (c + 4), some (c + 5)])) ∧ sf_shp (c + 1) = .inl (6, .int) ∧ sf_shp (c + 2) = .inl (6, .int) ∧ sf_shp (c + 3) = .inl (6, .int) ∧ sf_shp (c + 4) = .inl (5, .int) ∧ sf_shp (c + 5) = .inl (5, .int)) ∧ c + 5 < sf_NC
theorem sf_shL {c : Nat} (h : sf_isL c) : (sf_shp c = .inr (.inl (3, [none, none, some (c + 1), some (c + 2), some (c + 3), some (c + 4), some (c + 5)])) ∧ sf_shp (c + 1) = .inl (6, .int) ∧ sf_shp (c + 2) = .inl (6, .int) ∧ sf_shp (c + 3) = .inl (6, .int) ∧ sf_shp (c + 4) = .inl (6, .int) ∧ sf_shp (c + 5) = .inl (5, .int)) ∧ c + 5 < sf_NC := h
theorem sf_shS {c : Nat} (h : sf_isS c) : (sf_shp c = .inr (.inl (7, [none, none, none, none, some (c + 1), some (c + 2), some (c + 3), some (c + 4), some (c + 5)])) ∧ sf_shp (c + 1) = .inl (6, .int) ∧ sf_shp (c + 2) = .inl (6, .int) ∧ sf_shp (c + 3) = .inl (6, .int) ∧ sf_shp (c + 4) = .inl (5, .int) ∧ sf_shp (c + 5) = .inl (5, .int)) ∧ c + 5 < sf_NC := h
theorem sf_kL0 {c : Nat} (h : sf_isL c) : c < sf_NC := by have := (sf_shL h).2; omega
theorem sf_kL {c : Nat} (h : sf_isL c) (j : Nat) (hj : j ≤ 5) : c + j < sf_NC := by have := (sf_shL h).2; omega
theorem sf_kS0 {c : Nat} (h : sf_isS c) : c < sf_NC := by have := (sf_shS h).2; omega
theorem sf_kS {c : Nat} (h : sf_isS c) (j : Nat) (hj : j ≤ 5) : c + j < sf_NC := by have := (sf_shS h).2; omega
def sf_isA (a n : Nat) : Prop := a < sf_NC ∧ sf_shp a = .inl (n, .int)
theorem sf_L0 : sf_isL 16 := ⟨⟨rfl, rfl, rfl, rfl, rfl, rfl⟩, by decide⟩
theorem sf_Lp : ∀ {j : Nat}, j < 16 → sf_isL (29 + 6 * j)
  | 0, _ => ⟨⟨rfl, rfl, rfl, rfl, rfl, rfl⟩, by decide⟩
  | 1, _ => ⟨⟨rfl, rfl, rfl, rfl, rfl, rfl⟩, by decide⟩
  | 2, _ => ⟨⟨rfl, rfl, rfl, rfl, rfl, rfl⟩, by decide⟩
  | 3, _ => ⟨⟨rfl, rfl, rfl, rfl, rfl, rfl⟩, by decide⟩
  | 4, _ => ⟨⟨rfl, rfl, rfl, rfl, rfl, rfl⟩, by decide⟩
  | 5, _ => ⟨⟨rfl, rfl, rfl, rfl, rfl, rfl⟩, by decide⟩
  | 6, _ => ⟨⟨rfl, rfl, rfl, rfl, rfl, rfl⟩, by decide⟩
  | 7, _ => ⟨⟨rfl, rfl, rfl, rfl, rfl, rfl⟩, by decide⟩
  | 8, _ => ⟨⟨rfl, rfl, rfl, rfl, rfl, rfl⟩, by decide⟩
  | 9, _ => ⟨⟨rfl, rfl, rfl, rfl, rfl, rfl⟩, by decide⟩
  | 10, _ => ⟨⟨rfl, rfl, rfl, rfl, rfl, rfl⟩, by decide⟩
  | 11, _ => ⟨⟨rfl, rfl, rfl, rfl, rfl, rfl⟩, by decide⟩
  | 12, _ => ⟨⟨rfl, rfl, rfl, rfl, rfl, rfl⟩, by decide⟩
  | 13, _ => ⟨⟨rfl, rfl, rfl, rfl, rfl, rfl⟩, by decide⟩
  | 14, _ => ⟨⟨rfl, rfl, rfl, rfl, rfl, rfl⟩, by decide⟩
  | 15, _ => ⟨⟨rfl, rfl, rfl, rfl, rfl, rfl⟩, by decide⟩
  | n + 16, h => absurd h (by omega)
theorem sf_Li : ∀ {j : Nat}, j < 2 → sf_isL (137 + 6 * j)
  | 0, _ => ⟨⟨rfl, rfl, rfl, rfl, rfl, rfl⟩, by decide⟩
  | 1, _ => ⟨⟨rfl, rfl, rfl, rfl, rfl, rfl⟩, by decide⟩
  | n + 2, h => absurd h (by omega)
theorem sf_S0 : sf_isS 3 := ⟨⟨rfl, rfl, rfl, rfl, rfl, rfl⟩, by decide⟩
theorem sf_S1 : sf_isS 10 := ⟨⟨rfl, rfl, rfl, rfl, rfl, rfl⟩, by decide⟩
theorem nk_0 : 0 < sf_NC := by decide
theorem sh_0 : sf_shp 0 = .inr (.inl (9, [some 1, some 3, some 9, some 10, some 16, some 22, some 26, some 27, some 125, some 131, some 134, some 135, some 136, none])) := rfl
theorem nk_1 : 1 < sf_NC := by decide
theorem sh_1 : sf_shp 1 = .inr (.inl (5, [none, none, some 2, none, none])) := rfl
theorem nk_2 : 2 < sf_NC := by decide
theorem sh_2 : sf_shp 2 = .inl (240, .int) := rfl
theorem nk_3 : 3 < sf_NC := by decide
theorem sh_3 : sf_shp 3 = .inr (.inl (7, [none, none, none, none, some 4, some 5, some 6, some 7, some 8])) := rfl
theorem nk_4 : 4 < sf_NC := by decide
theorem sh_4 : sf_shp 4 = .inl (6, .int) := rfl
theorem nk_5 : 5 < sf_NC := by decide
theorem sh_5 : sf_shp 5 = .inl (6, .int) := rfl
theorem nk_6 : 6 < sf_NC := by decide
theorem sh_6 : sf_shp 6 = .inl (6, .int) := rfl
theorem nk_7 : 7 < sf_NC := by decide
theorem sh_7 : sf_shp 7 = .inl (5, .int) := rfl
theorem nk_8 : 8 < sf_NC := by decide
theorem sh_8 : sf_shp 8 = .inl (5, .int) := rfl
theorem nk_9 : 9 < sf_NC := by decide
theorem sh_9 : sf_shp 9 = .inr (.inl (6, [some 10, some 16])) := rfl
theorem nk_10 : 10 < sf_NC := by decide
theorem sh_10 : sf_shp 10 = .inr (.inl (7, [none, none, none, none, some 11, some 12, some 13, some 14, some 15])) := rfl
theorem nk_11 : 11 < sf_NC := by decide
theorem sh_11 : sf_shp 11 = .inl (6, .int) := rfl
theorem nk_12 : 12 < sf_NC := by decide
theorem sh_12 : sf_shp 12 = .inl (6, .int) := rfl
theorem nk_13 : 13 < sf_NC := by decide
theorem sh_13 : sf_shp 13 = .inl (6, .int) := rfl
theorem nk_14 : 14 < sf_NC := by decide
theorem sh_14 : sf_shp 14 = .inl (5, .int) := rfl
theorem nk_15 : 15 < sf_NC := by decide
theorem sh_15 : sf_shp 15 = .inl (5, .int) := rfl
theorem nk_16 : 16 < sf_NC := by decide
theorem sh_16 : sf_shp 16 = .inr (.inl (3, [none, none, some 17, some 18, some 19, some 20, some 21])) := rfl
theorem nk_17 : 17 < sf_NC := by decide
theorem sh_17 : sf_shp 17 = .inl (6, .int) := rfl
theorem nk_18 : 18 < sf_NC := by decide
theorem sh_18 : sf_shp 18 = .inl (6, .int) := rfl
theorem nk_19 : 19 < sf_NC := by decide
theorem sh_19 : sf_shp 19 = .inl (6, .int) := rfl
theorem nk_20 : 20 < sf_NC := by decide
theorem sh_20 : sf_shp 20 = .inl (6, .int) := rfl
theorem nk_21 : 21 < sf_NC := by decide
theorem sh_21 : sf_shp 21 = .inl (5, .int) := rfl
theorem nk_22 : 22 < sf_NC := by decide
theorem sh_22 : sf_shp 22 = .inr (.inl (2, [none, none, some 23, some 24, some 25, none])) := rfl
theorem nk_23 : 23 < sf_NC := by decide
theorem sh_23 : sf_shp 23 = .inl (6, .int) := rfl
theorem nk_24 : 24 < sf_NC := by decide
theorem sh_24 : sf_shp 24 = .inl (5, .int) := rfl
theorem nk_25 : 25 < sf_NC := by decide
theorem sh_25 : sf_shp 25 = .inl (6, .int) := rfl
theorem nk_26 : 26 < sf_NC := by decide
theorem sh_26 : sf_shp 26 = .inr (.inl (8, [none, none])) := rfl
theorem nk_27 : 27 < sf_NC := by decide
theorem sh_27 : sf_shp 27 = .inr (.inl (4, [none, none, some 28])) := rfl
theorem nk_28 : 28 < sf_NC := by decide
theorem sh_28 : sf_shp 28 = .inr (.inr (16, 29, 6)) := rfl
theorem nk_29 : 29 < sf_NC := by decide
theorem sh_29 : sf_shp 29 = .inr (.inl (3, [none, none, some 30, some 31, some 32, some 33, some 34])) := rfl
theorem nk_30 : 30 < sf_NC := by decide
theorem sh_30 : sf_shp 30 = .inl (6, .int) := rfl
theorem nk_31 : 31 < sf_NC := by decide
theorem sh_31 : sf_shp 31 = .inl (6, .int) := rfl
theorem nk_32 : 32 < sf_NC := by decide
theorem sh_32 : sf_shp 32 = .inl (6, .int) := rfl
theorem nk_33 : 33 < sf_NC := by decide
theorem sh_33 : sf_shp 33 = .inl (6, .int) := rfl
theorem nk_34 : 34 < sf_NC := by decide
theorem sh_34 : sf_shp 34 = .inl (5, .int) := rfl
theorem nk_35 : 35 < sf_NC := by decide
theorem sh_35 : sf_shp 35 = .inr (.inl (3, [none, none, some 36, some 37, some 38, some 39, some 40])) := rfl
theorem nk_36 : 36 < sf_NC := by decide
theorem sh_36 : sf_shp 36 = .inl (6, .int) := rfl
theorem nk_37 : 37 < sf_NC := by decide
theorem sh_37 : sf_shp 37 = .inl (6, .int) := rfl
theorem nk_38 : 38 < sf_NC := by decide
theorem sh_38 : sf_shp 38 = .inl (6, .int) := rfl
theorem nk_39 : 39 < sf_NC := by decide
theorem sh_39 : sf_shp 39 = .inl (6, .int) := rfl
theorem nk_40 : 40 < sf_NC := by decide
theorem sh_40 : sf_shp 40 = .inl (5, .int) := rfl
theorem nk_41 : 41 < sf_NC := by decide
theorem sh_41 : sf_shp 41 = .inr (.inl (3, [none, none, some 42, some 43, some 44, some 45, some 46])) := rfl
theorem nk_42 : 42 < sf_NC := by decide
theorem sh_42 : sf_shp 42 = .inl (6, .int) := rfl
theorem nk_43 : 43 < sf_NC := by decide
theorem sh_43 : sf_shp 43 = .inl (6, .int) := rfl
theorem nk_44 : 44 < sf_NC := by decide
theorem sh_44 : sf_shp 44 = .inl (6, .int) := rfl
theorem nk_45 : 45 < sf_NC := by decide
theorem sh_45 : sf_shp 45 = .inl (6, .int) := rfl
theorem nk_46 : 46 < sf_NC := by decide
theorem sh_46 : sf_shp 46 = .inl (5, .int) := rfl
theorem nk_47 : 47 < sf_NC := by decide
theorem sh_47 : sf_shp 47 = .inr (.inl (3, [none, none, some 48, some 49, some 50, some 51, some 52])) := rfl
theorem nk_48 : 48 < sf_NC := by decide
theorem sh_48 : sf_shp 48 = .inl (6, .int) := rfl
theorem nk_49 : 49 < sf_NC := by decide
theorem sh_49 : sf_shp 49 = .inl (6, .int) := rfl
theorem nk_50 : 50 < sf_NC := by decide
theorem sh_50 : sf_shp 50 = .inl (6, .int) := rfl
theorem nk_51 : 51 < sf_NC := by decide
theorem sh_51 : sf_shp 51 = .inl (6, .int) := rfl
theorem nk_52 : 52 < sf_NC := by decide
theorem sh_52 : sf_shp 52 = .inl (5, .int) := rfl
theorem nk_53 : 53 < sf_NC := by decide
theorem sh_53 : sf_shp 53 = .inr (.inl (3, [none, none, some 54, some 55, some 56, some 57, some 58])) := rfl
theorem nk_54 : 54 < sf_NC := by decide
theorem sh_54 : sf_shp 54 = .inl (6, .int) := rfl
theorem nk_55 : 55 < sf_NC := by decide
theorem sh_55 : sf_shp 55 = .inl (6, .int) := rfl
theorem nk_56 : 56 < sf_NC := by decide
theorem sh_56 : sf_shp 56 = .inl (6, .int) := rfl
theorem nk_57 : 57 < sf_NC := by decide
theorem sh_57 : sf_shp 57 = .inl (6, .int) := rfl
theorem nk_58 : 58 < sf_NC := by decide
theorem sh_58 : sf_shp 58 = .inl (5, .int) := rfl
theorem nk_59 : 59 < sf_NC := by decide
theorem sh_59 : sf_shp 59 = .inr (.inl (3, [none, none, some 60, some 61, some 62, some 63, some 64])) := rfl
theorem nk_60 : 60 < sf_NC := by decide
theorem sh_60 : sf_shp 60 = .inl (6, .int) := rfl
theorem nk_61 : 61 < sf_NC := by decide
theorem sh_61 : sf_shp 61 = .inl (6, .int) := rfl
theorem nk_62 : 62 < sf_NC := by decide
theorem sh_62 : sf_shp 62 = .inl (6, .int) := rfl
theorem nk_63 : 63 < sf_NC := by decide
theorem sh_63 : sf_shp 63 = .inl (6, .int) := rfl
theorem nk_64 : 64 < sf_NC := by decide
theorem sh_64 : sf_shp 64 = .inl (5, .int) := rfl
theorem nk_65 : 65 < sf_NC := by decide
theorem sh_65 : sf_shp 65 = .inr (.inl (3, [none, none, some 66, some 67, some 68, some 69, some 70])) := rfl
theorem nk_66 : 66 < sf_NC := by decide
theorem sh_66 : sf_shp 66 = .inl (6, .int) := rfl
theorem nk_67 : 67 < sf_NC := by decide
theorem sh_67 : sf_shp 67 = .inl (6, .int) := rfl
theorem nk_68 : 68 < sf_NC := by decide
theorem sh_68 : sf_shp 68 = .inl (6, .int) := rfl
theorem nk_69 : 69 < sf_NC := by decide
theorem sh_69 : sf_shp 69 = .inl (6, .int) := rfl
theorem nk_70 : 70 < sf_NC := by decide
theorem sh_70 : sf_shp 70 = .inl (5, .int) := rfl
theorem nk_71 : 71 < sf_NC := by decide
theorem sh_71 : sf_shp 71 = .inr (.inl (3, [none, none, some 72, some 73, some 74, some 75, some 76])) := rfl
theorem nk_72 : 72 < sf_NC := by decide
theorem sh_72 : sf_shp 72 = .inl (6, .int) := rfl
theorem nk_73 : 73 < sf_NC := by decide
theorem sh_73 : sf_shp 73 = .inl (6, .int) := rfl
theorem nk_74 : 74 < sf_NC := by decide
theorem sh_74 : sf_shp 74 = .inl (6, .int) := rfl
theorem nk_75 : 75 < sf_NC := by decide
theorem sh_75 : sf_shp 75 = .inl (6, .int) := rfl
theorem nk_76 : 76 < sf_NC := by decide
theorem sh_76 : sf_shp 76 = .inl (5, .int) := rfl
theorem nk_77 : 77 < sf_NC := by decide
theorem sh_77 : sf_shp 77 = .inr (.inl (3, [none, none, some 78, some 79, some 80, some 81, some 82])) := rfl
theorem nk_78 : 78 < sf_NC := by decide
theorem sh_78 : sf_shp 78 = .inl (6, .int) := rfl
theorem nk_79 : 79 < sf_NC := by decide
theorem sh_79 : sf_shp 79 = .inl (6, .int) := rfl
theorem nk_80 : 80 < sf_NC := by decide
theorem sh_80 : sf_shp 80 = .inl (6, .int) := rfl
theorem nk_81 : 81 < sf_NC := by decide
theorem sh_81 : sf_shp 81 = .inl (6, .int) := rfl
theorem nk_82 : 82 < sf_NC := by decide
theorem sh_82 : sf_shp 82 = .inl (5, .int) := rfl
theorem nk_83 : 83 < sf_NC := by decide
theorem sh_83 : sf_shp 83 = .inr (.inl (3, [none, none, some 84, some 85, some 86, some 87, some 88])) := rfl
theorem nk_84 : 84 < sf_NC := by decide
theorem sh_84 : sf_shp 84 = .inl (6, .int) := rfl
theorem nk_85 : 85 < sf_NC := by decide
theorem sh_85 : sf_shp 85 = .inl (6, .int) := rfl
theorem nk_86 : 86 < sf_NC := by decide
theorem sh_86 : sf_shp 86 = .inl (6, .int) := rfl
theorem nk_87 : 87 < sf_NC := by decide
theorem sh_87 : sf_shp 87 = .inl (6, .int) := rfl
theorem nk_88 : 88 < sf_NC := by decide
theorem sh_88 : sf_shp 88 = .inl (5, .int) := rfl
theorem nk_89 : 89 < sf_NC := by decide
theorem sh_89 : sf_shp 89 = .inr (.inl (3, [none, none, some 90, some 91, some 92, some 93, some 94])) := rfl
theorem nk_90 : 90 < sf_NC := by decide
theorem sh_90 : sf_shp 90 = .inl (6, .int) := rfl
theorem nk_91 : 91 < sf_NC := by decide
theorem sh_91 : sf_shp 91 = .inl (6, .int) := rfl
theorem nk_92 : 92 < sf_NC := by decide
theorem sh_92 : sf_shp 92 = .inl (6, .int) := rfl
theorem nk_93 : 93 < sf_NC := by decide
theorem sh_93 : sf_shp 93 = .inl (6, .int) := rfl
theorem nk_94 : 94 < sf_NC := by decide
theorem sh_94 : sf_shp 94 = .inl (5, .int) := rfl
theorem nk_95 : 95 < sf_NC := by decide
theorem sh_95 : sf_shp 95 = .inr (.inl (3, [none, none, some 96, some 97, some 98, some 99, some 100])) := rfl
theorem nk_96 : 96 < sf_NC := by decide
theorem sh_96 : sf_shp 96 = .inl (6, .int) := rfl
theorem nk_97 : 97 < sf_NC := by decide
theorem sh_97 : sf_shp 97 = .inl (6, .int) := rfl
theorem nk_98 : 98 < sf_NC := by decide
theorem sh_98 : sf_shp 98 = .inl (6, .int) := rfl
theorem nk_99 : 99 < sf_NC := by decide
theorem sh_99 : sf_shp 99 = .inl (6, .int) := rfl
theorem nk_100 : 100 < sf_NC := by decide
theorem sh_100 : sf_shp 100 = .inl (5, .int) := rfl
theorem nk_101 : 101 < sf_NC := by decide
theorem sh_101 : sf_shp 101 = .inr (.inl (3, [none, none, some 102, some 103, some 104, some 105, some 106])) := rfl
theorem nk_102 : 102 < sf_NC := by decide
theorem sh_102 : sf_shp 102 = .inl (6, .int) := rfl
theorem nk_103 : 103 < sf_NC := by decide
theorem sh_103 : sf_shp 103 = .inl (6, .int) := rfl
theorem nk_104 : 104 < sf_NC := by decide
theorem sh_104 : sf_shp 104 = .inl (6, .int) := rfl
theorem nk_105 : 105 < sf_NC := by decide
theorem sh_105 : sf_shp 105 = .inl (6, .int) := rfl
theorem nk_106 : 106 < sf_NC := by decide
theorem sh_106 : sf_shp 106 = .inl (5, .int) := rfl
theorem nk_107 : 107 < sf_NC := by decide
theorem sh_107 : sf_shp 107 = .inr (.inl (3, [none, none, some 108, some 109, some 110, some 111, some 112])) := rfl
theorem nk_108 : 108 < sf_NC := by decide
theorem sh_108 : sf_shp 108 = .inl (6, .int) := rfl
theorem nk_109 : 109 < sf_NC := by decide
theorem sh_109 : sf_shp 109 = .inl (6, .int) := rfl
theorem nk_110 : 110 < sf_NC := by decide
theorem sh_110 : sf_shp 110 = .inl (6, .int) := rfl
theorem nk_111 : 111 < sf_NC := by decide
theorem sh_111 : sf_shp 111 = .inl (6, .int) := rfl
theorem nk_112 : 112 < sf_NC := by decide
theorem sh_112 : sf_shp 112 = .inl (5, .int) := rfl
theorem nk_113 : 113 < sf_NC := by decide
theorem sh_113 : sf_shp 113 = .inr (.inl (3, [none, none, some 114, some 115, some 116, some 117, some 118])) := rfl
theorem nk_114 : 114 < sf_NC := by decide
theorem sh_114 : sf_shp 114 = .inl (6, .int) := rfl
theorem nk_115 : 115 < sf_NC := by decide
theorem sh_115 : sf_shp 115 = .inl (6, .int) := rfl
theorem nk_116 : 116 < sf_NC := by decide
theorem sh_116 : sf_shp 116 = .inl (6, .int) := rfl
theorem nk_117 : 117 < sf_NC := by decide
theorem sh_117 : sf_shp 117 = .inl (6, .int) := rfl
theorem nk_118 : 118 < sf_NC := by decide
theorem sh_118 : sf_shp 118 = .inl (5, .int) := rfl
theorem nk_119 : 119 < sf_NC := by decide
theorem sh_119 : sf_shp 119 = .inr (.inl (3, [none, none, some 120, some 121, some 122, some 123, some 124])) := rfl
theorem nk_120 : 120 < sf_NC := by decide
theorem sh_120 : sf_shp 120 = .inl (6, .int) := rfl
theorem nk_121 : 121 < sf_NC := by decide
theorem sh_121 : sf_shp 121 = .inl (6, .int) := rfl
theorem nk_122 : 122 < sf_NC := by decide
theorem sh_122 : sf_shp 122 = .inl (6, .int) := rfl
theorem nk_123 : 123 < sf_NC := by decide
theorem sh_123 : sf_shp 123 = .inl (6, .int) := rfl
theorem nk_124 : 124 < sf_NC := by decide
theorem sh_124 : sf_shp 124 = .inl (5, .int) := rfl
theorem nk_125 : 125 < sf_NC := by decide
theorem sh_125 : sf_shp 125 = .inr (.inl (1, [none, none, some 126, some 127, some 128, some 129, some 130])) := rfl
theorem nk_126 : 126 < sf_NC := by decide
theorem sh_126 : sf_shp 126 = .inl (61, .int) := rfl
theorem nk_127 : 127 < sf_NC := by decide
theorem sh_127 : sf_shp 127 = .inl (6, .int) := rfl
theorem nk_128 : 128 < sf_NC := by decide
theorem sh_128 : sf_shp 128 = .inl (6, .int) := rfl
theorem nk_129 : 129 < sf_NC := by decide
theorem sh_129 : sf_shp 129 = .inl (6, .int) := rfl
theorem nk_130 : 130 < sf_NC := by decide
theorem sh_130 : sf_shp 130 = .inl (81, .int) := rfl
theorem nk_131 : 131 < sf_NC := by decide
theorem sh_131 : sf_shp 131 = .inr (.inl (0, [none, some 132, some 133])) := rfl
theorem nk_132 : 132 < sf_NC := by decide
theorem sh_132 : sf_shp 132 = .inl (15, .int) := rfl
theorem nk_133 : 133 < sf_NC := by decide
theorem sh_133 : sf_shp 133 = .inl (15, .int) := rfl
theorem nk_134 : 134 < sf_NC := by decide
theorem sh_134 : sf_shp 134 = .inr (.inr (2, 137, 6)) := rfl
theorem nk_135 : 135 < sf_NC := by decide
theorem sh_135 : sf_shp 135 = .inl (2, .int) := rfl
theorem nk_136 : 136 < sf_NC := by decide
theorem sh_136 : sf_shp 136 = .inl (2, .boolean) := rfl
theorem nk_137 : 137 < sf_NC := by decide
theorem sh_137 : sf_shp 137 = .inr (.inl (3, [none, none, some 138, some 139, some 140, some 141, some 142])) := rfl
theorem nk_138 : 138 < sf_NC := by decide
theorem sh_138 : sf_shp 138 = .inl (6, .int) := rfl
theorem nk_139 : 139 < sf_NC := by decide
theorem sh_139 : sf_shp 139 = .inl (6, .int) := rfl
theorem nk_140 : 140 < sf_NC := by decide
theorem sh_140 : sf_shp 140 = .inl (6, .int) := rfl
theorem nk_141 : 141 < sf_NC := by decide
theorem sh_141 : sf_shp 141 = .inl (6, .int) := rfl
theorem nk_142 : 142 < sf_NC := by decide
theorem sh_142 : sf_shp 142 = .inl (5, .int) := rfl
theorem nk_143 : 143 < sf_NC := by decide
theorem sh_143 : sf_shp 143 = .inr (.inl (3, [none, none, some 144, some 145, some 146, some 147, some 148])) := rfl
theorem nk_144 : 144 < sf_NC := by decide
theorem sh_144 : sf_shp 144 = .inl (6, .int) := rfl
theorem nk_145 : 145 < sf_NC := by decide
theorem sh_145 : sf_shp 145 = .inl (6, .int) := rfl
theorem nk_146 : 146 < sf_NC := by decide
theorem sh_146 : sf_shp 146 = .inl (6, .int) := rfl
theorem nk_147 : 147 < sf_NC := by decide
theorem sh_147 : sf_shp 147 = .inl (6, .int) := rfl
theorem nk_148 : 148 < sf_NC := by decide
theorem sh_148 : sf_shp 148 = .inl (5, .int) := rfl
theorem nk_149 : 149 < sf_NC := by decide
theorem sh_149 : sf_shp 149 = .inr (.inl (10, [none, none, none, some 150, some 151, some 152, none, some 153, some 154, some 155, none, some 156, none, none, none, none, none, none, none, none, some 157, some 158, some 159, none, some 160, some 161, none, some 162, some 163, none, none, some 164, none, some 165, some 166, some 167, some 168, none, some 169, some 170, some 171, some 172])) := rfl
theorem nk_150 : 150 < sf_NC := by decide
theorem sh_150 : sf_shp 150 = .inl (6, .int) := rfl
theorem nk_151 : 151 < sf_NC := by decide
theorem sh_151 : sf_shp 151 = .inl (6, .int) := rfl
theorem nk_152 : 152 < sf_NC := by decide
theorem sh_152 : sf_shp 152 = .inl (6, .int) := rfl
theorem nk_153 : 153 < sf_NC := by decide
theorem sh_153 : sf_shp 153 = .inl (5, .int) := rfl
theorem nk_154 : 154 < sf_NC := by decide
theorem sh_154 : sf_shp 154 = .inl (5, .int) := rfl
theorem nk_155 : 155 < sf_NC := by decide
theorem sh_155 : sf_shp 155 = .inl (31, .int) := rfl
theorem nk_156 : 156 < sf_NC := by decide
theorem sh_156 : sf_shp 156 = .inl (240, .int) := rfl
theorem nk_157 : 157 < sf_NC := by decide
theorem sh_157 : sf_shp 157 = .inl (6, .int) := rfl
theorem nk_158 : 158 < sf_NC := by decide
theorem sh_158 : sf_shp 158 = .inl (6, .int) := rfl
theorem nk_159 : 159 < sf_NC := by decide
theorem sh_159 : sf_shp 159 = .inl (6, .int) := rfl
theorem nk_160 : 160 < sf_NC := by decide
theorem sh_160 : sf_shp 160 = .inl (5, .int) := rfl
theorem nk_161 : 161 < sf_NC := by decide
theorem sh_161 : sf_shp 161 = .inl (5, .int) := rfl
theorem nk_162 : 162 < sf_NC := by decide
theorem sh_162 : sf_shp 162 = .inl (496, .int) := rfl
theorem nk_163 : 163 < sf_NC := by decide
theorem sh_163 : sf_shp 163 = .inl (31, .int) := rfl
theorem nk_164 : 164 < sf_NC := by decide
theorem sh_164 : sf_shp 164 = .inl (6, .int) := rfl
theorem nk_165 : 165 < sf_NC := by decide
theorem sh_165 : sf_shp 165 = .inl (6, .int) := rfl
theorem nk_166 : 166 < sf_NC := by decide
theorem sh_166 : sf_shp 166 = .inl (6, .int) := rfl
theorem nk_167 : 167 < sf_NC := by decide
theorem sh_167 : sf_shp 167 = .inl (6, .int) := rfl
theorem nk_168 : 168 < sf_NC := by decide
theorem sh_168 : sf_shp 168 = .inl (80, .int) := rfl
theorem nk_169 : 169 < sf_NC := by decide
theorem sh_169 : sf_shp 169 = .inl (15, .int) := rfl
theorem nk_170 : 170 < sf_NC := by decide
theorem sh_170 : sf_shp 170 = .inl (15, .int) := rfl
theorem nk_171 : 171 < sf_NC := by decide
theorem sh_171 : sf_shp 171 = .inl (64, .int) := rfl
theorem nk_172 : 172 < sf_NC := by decide
theorem sh_172 : sf_shp 172 = .inl (2, .boolean) := rfl
section SFR
variable {X : sf_X} {V : sf_V} {cc : ByteArray} {nL : Nat} {own : String} {rt : Option FieldType} {d : Nat} {Q : State → Prop} {σ : sf_Sg} {pc : Nat} {lv : List (Nat × Value)} {st : List Value}
theorem sf_iconst (C : sf_C X V cc nL own rt d) {n : Int} {v : Int32} (hd : decode cc pc = .ok (.iconst n, 1)) (hv : Int32.ofInt n = v) (k : sf_G X V nL Q σ (pc + 1) lv (.int v :: st)) : sf_G X V nL Q σ pc lv st :=
  fun H locs ls hP hS hl => lv_iconst C.1 C.2.1 hd hv (k H locs ls hP hS hl)
theorem sf_bipush (C : sf_C X V cc nL own rt d) {n : Int} {v : Int32} (hd : decode cc pc = .ok (.bipush n, 2)) (hv : (Int8.ofInt n).toInt32 = v) (k : sf_G X V nL Q σ (pc + 2) lv (.int v :: st)) : sf_G X V nL Q σ pc lv st :=
  fun H locs ls hP hS hl => lv_bipush C.1 C.2.1 hd hv (k H locs ls hP hS hl)
theorem sf_sipush (C : sf_C X V cc nL own rt d) {n : Int} {v : Int32} (hd : decode cc pc = .ok (.sipush n, 3)) (hv : (Int16.ofInt n).toInt32 = v) (k : sf_G X V nL Q σ (pc + 3) lv (.int v :: st)) : sf_G X V nL Q σ pc lv st :=
  fun H locs ls hP hS hl => lv_sipush C.1 C.2.1 hd hv (k H locs ls hP hS hl)
theorem sf_lconst (C : sf_C X V cc nL own rt d) {n : Fin 2} {v : Int64} (hd : decode cc pc = .ok (.lconst n, 1)) (hv : Int64.ofNat (n : Nat) = v) (k : sf_G X V nL Q σ (pc + 1) lv (.long v :: st)) : sf_G X V nL Q σ pc lv st :=
  fun H locs ls hP hS hl => lv_lconst C.1 C.2.1 hd hv (k H locs ls hP hS hl)
theorem sf_ldc (C : sf_C X V cc nL own rt d) {i : Nat} {v : Int32} (hd : decode cc pc = .ok (.ldc i, 2)) (hw : Cond.constant own i v ∈ sf_tbl) (k : sf_G X V nL Q σ (pc + 2) lv (.int v :: st)) : sf_G X V nL Q σ pc lv st :=
  fun H locs ls hP hS hl => lv_ldc C.1 C.2.1 C.2.2.2.1 (C.2.2.2.2.1 _ hw) hd (k H locs ls hP hS hl)
theorem sf_ldcw (C : sf_C X V cc nL own rt d) {i : Nat} {v : Int32} (hd : decode cc pc = .ok (.ldc_w i, 3)) (hw : Cond.constant own i v ∈ sf_tbl) (k : sf_G X V nL Q σ (pc + 3) lv (.int v :: st)) : sf_G X V nL Q σ pc lv st :=
  fun H locs ls hP hS hl => lv_ldcw C.1 C.2.1 C.2.2.2.1 (C.2.2.2.2.1 _ hw) hd (k H locs ls hP hS hl)
theorem sf_ldc2 (C : sf_C X V cc nL own rt d) {i : Nat} {v : Int64} (hd : decode cc pc = .ok (.ldc2_w i, 3)) (hw : Cond.constantLong own i v ∈ sf_tbl) (k : sf_G X V nL Q σ (pc + 3) lv (.long v :: st)) : sf_G X V nL Q σ pc lv st :=
  fun H locs ls hP hS hl => lv_ldc2 C.1 C.2.1 C.2.2.2.1 (C.2.2.2.2.1 _ hw) hd (k H locs ls hP hS hl)
theorem sf_iload_n (C : sf_C X V cc nL own rt d) {n : Fin 4} {x : Int32} (j : Nat) (hd : decode cc pc = .ok (.iload_n n, 1)) (hj : lv[j]? = some ((n : Nat), .int x)) (k : sf_G X V nL Q σ (pc + 1) lv (.int x :: st)) : sf_G X V nL Q σ pc lv st :=
  fun H locs ls hP hS hl => lv_iload_n C.1 C.2.1 hd rfl (lv_at hl j hj) (k H locs ls hP hS hl)
theorem sf_iload (C : sf_C X V cc nL own rt d) {n : Nat} {x : Int32} (j : Nat) (hd : decode cc pc = .ok (.iload n, 2)) (hj : lv[j]? = some (n, .int x)) (k : sf_G X V nL Q σ (pc + 2) lv (.int x :: st)) : sf_G X V nL Q σ pc lv st :=
  fun H locs ls hP hS hl => lv_iload C.1 C.2.1 hd (lv_at hl j hj) (k H locs ls hP hS hl)
theorem sf_istore_n (C : sf_C X V cc nL own rt d) {n : Fin 4} {x : Int32} {lv' : List (Nat × Value)} (hd : decode cc pc = .ok (.istore_n n, 1)) (hn : (n : Nat) < nL) (hl2 : ((n : Nat), Value.int x) :: lv.filter (fun q => !(q.1 == (n : Nat)) && !(q.1 + 1 == (n : Nat) && q.2.category == 2)) = lv') (k : sf_G X V nL Q σ (pc + 1) lv' st) : sf_G X V nL Q σ pc lv (.int x :: st) :=
  fun H locs ls hP hS hl => lv_istore_n C.1 C.2.1 hd rfl hl hn hl2 (fun ls' hl' => k H locs ls' hP hS hl')
theorem sf_istore (C : sf_C X V cc nL own rt d) {n : Nat} {x : Int32} {lv' : List (Nat × Value)} (hd : decode cc pc = .ok (.istore n, 2)) (hn : (n : Nat) < nL) (hl2 : (n, Value.int x) :: lv.filter (fun q => !(q.1 == n) && !(q.1 + 1 == n && q.2.category == 2)) = lv') (k : sf_G X V nL Q σ (pc + 2) lv' st) : sf_G X V nL Q σ pc lv (.int x :: st) :=
  fun H locs ls hP hS hl => lv_istore C.1 C.2.1 hd hl hn hl2 (fun ls' hl' => k H locs ls' hP hS hl')
theorem sf_lload_n (C : sf_C X V cc nL own rt d) {n : Fin 4} {x : Int64} (j : Nat) (hd : decode cc pc = .ok (.lload_n n, 1)) (hj : lv[j]? = some ((n : Nat), .long x)) (k : sf_G X V nL Q σ (pc + 1) lv (.long x :: st)) : sf_G X V nL Q σ pc lv st :=
  fun H locs ls hP hS hl => lv_lload_n C.1 C.2.1 hd rfl (lv_at hl j hj) (k H locs ls hP hS hl)
theorem sf_lload (C : sf_C X V cc nL own rt d) {n : Nat} {x : Int64} (j : Nat) (hd : decode cc pc = .ok (.lload n, 2)) (hj : lv[j]? = some (n, .long x)) (k : sf_G X V nL Q σ (pc + 2) lv (.long x :: st)) : sf_G X V nL Q σ pc lv st :=
  fun H locs ls hP hS hl => lv_lload C.1 C.2.1 hd (lv_at hl j hj) (k H locs ls hP hS hl)
theorem sf_lstore_n (C : sf_C X V cc nL own rt d) {n : Fin 4} {x : Int64} {lv' : List (Nat × Value)} (hd : decode cc pc = .ok (.lstore_n n, 1)) (hn : (n : Nat) + 1 < nL) (hl2 : ((n : Nat), Value.long x) :: lv.filter (fun q => !(q.1 == (n : Nat)) && (!(q.1 == (n : Nat) + 1) && !(q.1 + 1 == (n : Nat) && q.2.category == 2))) = lv') (k : sf_G X V nL Q σ (pc + 1) lv' st) : sf_G X V nL Q σ pc lv (.long x :: st) :=
  fun H locs ls hP hS hl => lv_lstore_n C.1 C.2.1 hd rfl hl hn hl2 (fun ls' hl' => k H locs ls' hP hS hl')
theorem sf_lstore (C : sf_C X V cc nL own rt d) {n : Nat} {x : Int64} {lv' : List (Nat × Value)} (hd : decode cc pc = .ok (.lstore n, 2)) (hn : (n : Nat) + 1 < nL) (hl2 : (n, Value.long x) :: lv.filter (fun q => !(q.1 == n) && (!(q.1 == n + 1) && !(q.1 + 1 == n && q.2.category == 2))) = lv') (k : sf_G X V nL Q σ (pc + 2) lv' st) : sf_G X V nL Q σ pc lv (.long x :: st) :=
  fun H locs ls hP hS hl => lv_lstore C.1 C.2.1 hd hl hn hl2 (fun ls' hl' => k H locs ls' hP hS hl')
theorem sf_aload_n (C : sf_C X V cc nL own rt d) {n : Fin 4} {x : Nat} (j : Nat) (hd : decode cc pc = .ok (.aload_n n, 1)) (hj : lv[j]? = some ((n : Nat), .ref x)) (k : sf_G X V nL Q σ (pc + 1) lv (.ref x :: st)) : sf_G X V nL Q σ pc lv st :=
  fun H locs ls hP hS hl => lv_aload_n C.1 C.2.1 hd rfl (lv_at hl j hj) (k H locs ls hP hS hl)
theorem sf_aload (C : sf_C X V cc nL own rt d) {n : Nat} {x : Nat} (j : Nat) (hd : decode cc pc = .ok (.aload n, 2)) (hj : lv[j]? = some (n, .ref x)) (k : sf_G X V nL Q σ (pc + 2) lv (.ref x :: st)) : sf_G X V nL Q σ pc lv st :=
  fun H locs ls hP hS hl => lv_aload C.1 C.2.1 hd (lv_at hl j hj) (k H locs ls hP hS hl)
theorem sf_astore_n (C : sf_C X V cc nL own rt d) {n : Fin 4} {x : Nat} {lv' : List (Nat × Value)} (hd : decode cc pc = .ok (.astore_n n, 1)) (hn : (n : Nat) < nL) (hl2 : ((n : Nat), Value.ref x) :: lv.filter (fun q => !(q.1 == (n : Nat)) && !(q.1 + 1 == (n : Nat) && q.2.category == 2)) = lv') (k : sf_G X V nL Q σ (pc + 1) lv' st) : sf_G X V nL Q σ pc lv (.ref x :: st) :=
  fun H locs ls hP hS hl => lv_astore_n C.1 C.2.1 hd rfl hl hn hl2 (fun ls' hl' => k H locs ls' hP hS hl')
theorem sf_astore (C : sf_C X V cc nL own rt d) {n : Nat} {x : Nat} {lv' : List (Nat × Value)} (hd : decode cc pc = .ok (.astore n, 2)) (hn : (n : Nat) < nL) (hl2 : (n, Value.ref x) :: lv.filter (fun q => !(q.1 == n) && !(q.1 + 1 == n && q.2.category == 2)) = lv') (k : sf_G X V nL Q σ (pc + 2) lv' st) : sf_G X V nL Q σ pc lv (.ref x :: st) :=
  fun H locs ls hP hS hl => lv_astore C.1 C.2.1 hd hl hn hl2 (fun ls' hl' => k H locs ls' hP hS hl')
theorem sf_iadd (C : sf_C X V cc nL own rt d) {x y : Int32} (hd : decode cc pc = .ok (.iadd, 1))  (k : sf_G X V nL Q σ (pc + 1) lv (.int (x + y) :: st)) : sf_G X V nL Q σ pc lv (.int y :: .int x :: st) :=
  fun H locs ls hP hS hl => lv_iadd C.1 C.2.1 hd (k H locs ls hP hS hl)
theorem sf_isub (C : sf_C X V cc nL own rt d) {x y : Int32} (hd : decode cc pc = .ok (.isub, 1))  (k : sf_G X V nL Q σ (pc + 1) lv (.int (x - y) :: st)) : sf_G X V nL Q σ pc lv (.int y :: .int x :: st) :=
  fun H locs ls hP hS hl => lv_isub C.1 C.2.1 hd (k H locs ls hP hS hl)
theorem sf_imul (C : sf_C X V cc nL own rt d) {x y : Int32} (hd : decode cc pc = .ok (.imul, 1))  (k : sf_G X V nL Q σ (pc + 1) lv (.int (x * y) :: st)) : sf_G X V nL Q σ pc lv (.int y :: .int x :: st) :=
  fun H locs ls hP hS hl => lv_imul C.1 C.2.1 hd (k H locs ls hP hS hl)
theorem sf_iand (C : sf_C X V cc nL own rt d) {x y : Int32} (hd : decode cc pc = .ok (.iand, 1))  (k : sf_G X V nL Q σ (pc + 1) lv (.int (x &&& y) :: st)) : sf_G X V nL Q σ pc lv (.int y :: .int x :: st) :=
  fun H locs ls hP hS hl => lv_iand C.1 C.2.1 hd (k H locs ls hP hS hl)
theorem sf_ior (C : sf_C X V cc nL own rt d) {x y : Int32} (hd : decode cc pc = .ok (.ior, 1))  (k : sf_G X V nL Q σ (pc + 1) lv (.int (x ||| y) :: st)) : sf_G X V nL Q σ pc lv (.int y :: .int x :: st) :=
  fun H locs ls hP hS hl => lv_ior C.1 C.2.1 hd (k H locs ls hP hS hl)
theorem sf_ixor (C : sf_C X V cc nL own rt d) {x y : Int32} (hd : decode cc pc = .ok (.ixor, 1))  (k : sf_G X V nL Q σ (pc + 1) lv (.int (x ^^^ y) :: st)) : sf_G X V nL Q σ pc lv (.int y :: .int x :: st) :=
  fun H locs ls hP hS hl => lv_ixor C.1 C.2.1 hd (k H locs ls hP hS hl)
theorem sf_ishl (C : sf_C X V cc nL own rt d) {x y : Int32} (hd : decode cc pc = .ok (.ishl, 1))  (k : sf_G X V nL Q σ (pc + 1) lv (.int (x <<< (y &&& 31)) :: st)) : sf_G X V nL Q σ pc lv (.int y :: .int x :: st) :=
  fun H locs ls hP hS hl => lv_ishl C.1 C.2.1 hd (k H locs ls hP hS hl)
theorem sf_ishr (C : sf_C X V cc nL own rt d) {x y : Int32} (hd : decode cc pc = .ok (.ishr, 1))  (k : sf_G X V nL Q σ (pc + 1) lv (.int (x >>> (y &&& 31)) :: st)) : sf_G X V nL Q σ pc lv (.int y :: .int x :: st) :=
  fun H locs ls hP hS hl => lv_ishr C.1 C.2.1 hd (k H locs ls hP hS hl)
theorem sf_idiv (C : sf_C X V cc nL own rt d) {x y : Int32} (hd : decode cc pc = .ok (.idiv, 1)) (hne : ¬ y = 0) (k : sf_G X V nL Q σ (pc + 1) lv (.int (x / y) :: st)) : sf_G X V nL Q σ pc lv (.int y :: .int x :: st) :=
  fun H locs ls hP hS hl => lv_idiv C.1 C.2.1 hd hne (k H locs ls hP hS hl)
theorem sf_irem (C : sf_C X V cc nL own rt d) {x y : Int32} (hd : decode cc pc = .ok (.irem, 1)) (hne : ¬ y = 0) (k : sf_G X V nL Q σ (pc + 1) lv (.int (sf_rem x y) :: st)) : sf_G X V nL Q σ pc lv (.int y :: .int x :: st) :=
  fun H locs ls hP hS hl => lv_irem C.1 C.2.1 hd hne (k H locs ls hP hS hl)
theorem sf_ladd (C : sf_C X V cc nL own rt d) {x y : Int64} (hd : decode cc pc = .ok (.ladd, 1))  (k : sf_G X V nL Q σ (pc + 1) lv (.long (x + y) :: st)) : sf_G X V nL Q σ pc lv (.long y :: .long x :: st) :=
  fun H locs ls hP hS hl => lv_ladd C.1 C.2.1 hd (k H locs ls hP hS hl)
theorem sf_lmul (C : sf_C X V cc nL own rt d) {x y : Int64} (hd : decode cc pc = .ok (.lmul, 1))  (k : sf_G X V nL Q σ (pc + 1) lv (.long (x * y) :: st)) : sf_G X V nL Q σ pc lv (.long y :: .long x :: st) :=
  fun H locs ls hP hS hl => lv_lmul C.1 C.2.1 hd (k H locs ls hP hS hl)
theorem sf_land (C : sf_C X V cc nL own rt d) {x y : Int64} (hd : decode cc pc = .ok (.land, 1))  (k : sf_G X V nL Q σ (pc + 1) lv (.long (x &&& y) :: st)) : sf_G X V nL Q σ pc lv (.long y :: .long x :: st) :=
  fun H locs ls hP hS hl => lv_land C.1 C.2.1 hd (k H locs ls hP hS hl)
theorem sf_ldiv (C : sf_C X V cc nL own rt d) {x y : Int64} (hd : decode cc pc = .ok (.ldiv, 1)) (hne : ¬ y = 0) (k : sf_G X V nL Q σ (pc + 1) lv (.long (x / y) :: st)) : sf_G X V nL Q σ pc lv (.long y :: .long x :: st) :=
  fun H locs ls hP hS hl => lv_ldiv C.1 C.2.1 hd hne (k H locs ls hP hS hl)
theorem sf_lrem (C : sf_C X V cc nL own rt d) {x y : Int64} (hd : decode cc pc = .ok (.lrem, 1)) (hne : ¬ y = 0) (k : sf_G X V nL Q σ (pc + 1) lv (.long (sf_lmod x y) :: st)) : sf_G X V nL Q σ pc lv (.long y :: .long x :: st) :=
  fun H locs ls hP hS hl => lv_lrem C.1 C.2.1 hd hne (k H locs ls hP hS hl)
theorem sf_iinc (C : sf_C X V cc nL own rt d) {i : Nat} {n : Int} {x v : Int32} {lv' : List (Nat × Value)} (j : Nat) (hd : decode cc pc = .ok (.iinc i n, 3)) (hj : lv[j]? = some (i, .int x)) (hv : x + Int32.ofInt n = v) (hn : i < nL) (hl2 : (i, Value.int v) :: lv.filter (fun q => !(q.1 == i) && !(q.1 + 1 == i && q.2.category == 2)) = lv') (k : sf_G X V nL Q σ (pc + 3) lv' st) : sf_G X V nL Q σ pc lv st :=
  fun H locs ls hP hS hl => lv_iinc C.1 C.2.1 hd hl hj hv hn hl2 (fun ls' hl' => k H locs ls' hP hS hl')
theorem sf_i2l (C : sf_C X V cc nL own rt d) {x : Int32} (hd : decode cc pc = .ok (.i2l, 1))  (k : sf_G X V nL Q σ (pc + 1) lv (.long x.toInt64 :: st)) : sf_G X V nL Q σ pc lv (.int x :: st) :=
  fun H locs ls hP hS hl => lv_i2l C.1 C.2.1 hd rfl (k H locs ls hP hS hl)
theorem sf_l2i (C : sf_C X V cc nL own rt d) {x : Int64} (hd : decode cc pc = .ok (.l2i, 1))  (k : sf_G X V nL Q σ (pc + 1) lv (.int x.toInt32 :: st)) : sf_G X V nL Q σ pc lv (.long x :: st) :=
  fun H locs ls hP hS hl => lv_l2i C.1 C.2.1 hd rfl (k H locs ls hP hS hl)
theorem sf_lcmp (C : sf_C X V cc nL own rt d) {x y : Int64} (hd : decode cc pc = .ok (.lcmp, 1))  (k : sf_G X V nL Q σ (pc + 1) lv (.int (lg_cmp x y) :: st)) : sf_G X V nL Q σ pc lv (.long y :: .long x :: st) :=
  fun H locs ls hP hS hl => W.lcmp C.1 C.2.1 hd (k H locs ls hP hS hl)
theorem sf_dup (C : sf_C X V cc nL own rt d) {v : Value} (hd : decode cc pc = .ok (.dup, 1)) (hc : v.category = 1) (k : sf_G X V nL Q σ (pc + 1) lv (v :: v :: st)) : sf_G X V nL Q σ pc lv (v :: st) :=
  fun H locs ls hP hS hl => lv_dup C.1 C.2.1 hd hc (k H locs ls hP hS hl)
theorem sf_dup2 (C : sf_C X V cc nL own rt d) {v w : Value} (hd : decode cc pc = .ok (.dup2, 1)) (hc : v.category = 1) (hc2 : w.category = 1) (k : sf_G X V nL Q σ (pc + 1) lv (v :: w :: v :: w :: st)) : sf_G X V nL Q σ pc lv (v :: w :: st) :=
  fun H locs ls hP hS hl => lv_dup2_11 C.1 C.2.1 hd hc hc2 (k H locs ls hP hS hl)
theorem sf_if_eq (C : sf_C X V cc nL own rt d) {x : Int32} {off : Int} {tgt : Nat} (hd : decode cc pc = .ok (.ifCond .eq off, 3)) (ht : (pc : Int) + off = (tgt : Int)) (kt : x = 0 → sf_G X V nL Q σ tgt lv st) (kf : ¬ x = 0 → sf_G X V nL Q σ (pc + 3) lv st) : sf_G X V nL Q σ pc lv (.int x :: st) :=
  fun H locs ls hP hS hl => lv_if_eq C.1 C.2.1 hd ht (fun q => kt q H locs ls hP hS hl) (fun q => kf q H locs ls hP hS hl)
theorem sf_icmp_eq (C : sf_C X V cc nL own rt d) {x y : Int32} {off : Int} {tgt : Nat} (hd : decode cc pc = .ok (.if_icmp .eq off, 3)) (ht : (pc : Int) + off = (tgt : Int)) (kt : x = y → sf_G X V nL Q σ tgt lv st) (kf : ¬ x = y → sf_G X V nL Q σ (pc + 3) lv st) : sf_G X V nL Q σ pc lv (.int y :: .int x :: st) :=
  fun H locs ls hP hS hl => lv_icmp_eq C.1 C.2.1 hd ht (fun q => kt q H locs ls hP hS hl) (fun q => kf q H locs ls hP hS hl)
theorem sf_if_ne (C : sf_C X V cc nL own rt d) {x : Int32} {off : Int} {tgt : Nat} (hd : decode cc pc = .ok (.ifCond .ne off, 3)) (ht : (pc : Int) + off = (tgt : Int)) (kt : ¬ x = 0 → sf_G X V nL Q σ tgt lv st) (kf : x = 0 → sf_G X V nL Q σ (pc + 3) lv st) : sf_G X V nL Q σ pc lv (.int x :: st) :=
  fun H locs ls hP hS hl => lv_if_ne C.1 C.2.1 hd ht (fun q => kt q H locs ls hP hS hl) (fun q => kf q H locs ls hP hS hl)
theorem sf_icmp_ne (C : sf_C X V cc nL own rt d) {x y : Int32} {off : Int} {tgt : Nat} (hd : decode cc pc = .ok (.if_icmp .ne off, 3)) (ht : (pc : Int) + off = (tgt : Int)) (kt : ¬ x = y → sf_G X V nL Q σ tgt lv st) (kf : x = y → sf_G X V nL Q σ (pc + 3) lv st) : sf_G X V nL Q σ pc lv (.int y :: .int x :: st) :=
  fun H locs ls hP hS hl => lv_icmp_ne C.1 C.2.1 hd ht (fun q => kt q H locs ls hP hS hl) (fun q => kf q H locs ls hP hS hl)
theorem sf_if_lt (C : sf_C X V cc nL own rt d) {x : Int32} {off : Int} {tgt : Nat} (hd : decode cc pc = .ok (.ifCond .lt off, 3)) (ht : (pc : Int) + off = (tgt : Int)) (kt : x < 0 → sf_G X V nL Q σ tgt lv st) (kf : ¬ x < 0 → sf_G X V nL Q σ (pc + 3) lv st) : sf_G X V nL Q σ pc lv (.int x :: st) :=
  fun H locs ls hP hS hl => lv_if_lt C.1 C.2.1 hd ht (fun q => kt q H locs ls hP hS hl) (fun q => kf q H locs ls hP hS hl)
theorem sf_icmp_lt (C : sf_C X V cc nL own rt d) {x y : Int32} {off : Int} {tgt : Nat} (hd : decode cc pc = .ok (.if_icmp .lt off, 3)) (ht : (pc : Int) + off = (tgt : Int)) (kt : x < y → sf_G X V nL Q σ tgt lv st) (kf : ¬ x < y → sf_G X V nL Q σ (pc + 3) lv st) : sf_G X V nL Q σ pc lv (.int y :: .int x :: st) :=
  fun H locs ls hP hS hl => lv_icmp_lt C.1 C.2.1 hd ht (fun q => kt q H locs ls hP hS hl) (fun q => kf q H locs ls hP hS hl)
theorem sf_if_ge (C : sf_C X V cc nL own rt d) {x : Int32} {off : Int} {tgt : Nat} (hd : decode cc pc = .ok (.ifCond .ge off, 3)) (ht : (pc : Int) + off = (tgt : Int)) (kt : 0 ≤ x → sf_G X V nL Q σ tgt lv st) (kf : ¬ 0 ≤ x → sf_G X V nL Q σ (pc + 3) lv st) : sf_G X V nL Q σ pc lv (.int x :: st) :=
  fun H locs ls hP hS hl => lv_if_ge C.1 C.2.1 hd ht (fun q => kt q H locs ls hP hS hl) (fun q => kf q H locs ls hP hS hl)
theorem sf_icmp_ge (C : sf_C X V cc nL own rt d) {x y : Int32} {off : Int} {tgt : Nat} (hd : decode cc pc = .ok (.if_icmp .ge off, 3)) (ht : (pc : Int) + off = (tgt : Int)) (kt : y ≤ x → sf_G X V nL Q σ tgt lv st) (kf : ¬ y ≤ x → sf_G X V nL Q σ (pc + 3) lv st) : sf_G X V nL Q σ pc lv (.int y :: .int x :: st) :=
  fun H locs ls hP hS hl => lv_icmp_ge C.1 C.2.1 hd ht (fun q => kt q H locs ls hP hS hl) (fun q => kf q H locs ls hP hS hl)
theorem sf_if_gt (C : sf_C X V cc nL own rt d) {x : Int32} {off : Int} {tgt : Nat} (hd : decode cc pc = .ok (.ifCond .gt off, 3)) (ht : (pc : Int) + off = (tgt : Int)) (kt : 0 < x → sf_G X V nL Q σ tgt lv st) (kf : ¬ 0 < x → sf_G X V nL Q σ (pc + 3) lv st) : sf_G X V nL Q σ pc lv (.int x :: st) :=
  fun H locs ls hP hS hl => lv_if_gt C.1 C.2.1 hd ht (fun q => kt q H locs ls hP hS hl) (fun q => kf q H locs ls hP hS hl)
theorem sf_icmp_gt (C : sf_C X V cc nL own rt d) {x y : Int32} {off : Int} {tgt : Nat} (hd : decode cc pc = .ok (.if_icmp .gt off, 3)) (ht : (pc : Int) + off = (tgt : Int)) (kt : y < x → sf_G X V nL Q σ tgt lv st) (kf : ¬ y < x → sf_G X V nL Q σ (pc + 3) lv st) : sf_G X V nL Q σ pc lv (.int y :: .int x :: st) :=
  fun H locs ls hP hS hl => lv_icmp_gt C.1 C.2.1 hd ht (fun q => kt q H locs ls hP hS hl) (fun q => kf q H locs ls hP hS hl)
theorem sf_if_le (C : sf_C X V cc nL own rt d) {x : Int32} {off : Int} {tgt : Nat} (hd : decode cc pc = .ok (.ifCond .le off, 3)) (ht : (pc : Int) + off = (tgt : Int)) (kt : x ≤ 0 → sf_G X V nL Q σ tgt lv st) (kf : ¬ x ≤ 0 → sf_G X V nL Q σ (pc + 3) lv st) : sf_G X V nL Q σ pc lv (.int x :: st) :=
  fun H locs ls hP hS hl => lv_if_le C.1 C.2.1 hd ht (fun q => kt q H locs ls hP hS hl) (fun q => kf q H locs ls hP hS hl)
theorem sf_icmp_le (C : sf_C X V cc nL own rt d) {x y : Int32} {off : Int} {tgt : Nat} (hd : decode cc pc = .ok (.if_icmp .le off, 3)) (ht : (pc : Int) + off = (tgt : Int)) (kt : x ≤ y → sf_G X V nL Q σ tgt lv st) (kf : ¬ x ≤ y → sf_G X V nL Q σ (pc + 3) lv st) : sf_G X V nL Q σ pc lv (.int y :: .int x :: st) :=
  fun H locs ls hP hS hl => lv_icmp_le C.1 C.2.1 hd ht (fun q => kt q H locs ls hP hS hl) (fun q => kf q H locs ls hP hS hl)
theorem sf_goto (C : sf_C X V cc nL own rt d) {off : Int} {tgt : Nat} (hd : decode cc pc = .ok (.goto off, 3)) (ht : (pc : Int) + off = (tgt : Int)) (k : sf_G X V nL Q σ tgt lv st) : sf_G X V nL Q σ pc lv st :=
  fun H locs ls hP hS hl => lv_goto C.1 C.2.1 hd ht (k H locs ls hP hS hl)
theorem sf_tabIn (C : sf_C X V cc nL own rt d) {dflt lo hi : Int} {offs : Array Int} {len : Nat} {x : Int32} {off : Int} {tgt : Nat} (hd : decode cc pc = .ok (.tableswitch dflt lo hi offs, len)) (h1 : ¬ x.toInt < lo) (h2 : ¬ hi < x.toInt) (ho : offs[(x.toInt - lo).toNat]? = some off) (ht : (pc : Int) + off = (tgt : Int)) (k : sf_G X V nL Q σ tgt lv st) : sf_G X V nL Q σ pc lv (.int x :: st) :=
  fun H locs ls hP hS hl => lv_tableIn C.1 C.2.1 hd h1 h2 ho ht (k H locs ls hP hS hl)
theorem sf_tabOut (C : sf_C X V cc nL own rt d) {dflt lo hi : Int} {offs : Array Int} {len : Nat} {x : Int32} {tgt : Nat} (hd : decode cc pc = .ok (.tableswitch dflt lo hi offs, len)) (h : x.toInt < lo ∨ hi < x.toInt) (ht : (pc : Int) + dflt = (tgt : Int)) (k : sf_G X V nL Q σ tgt lv st) : sf_G X V nL Q σ pc lv (.int x :: st) :=
  fun H locs ls hP hS hl => lv_tableOut C.1 C.2.1 hd h ht (k H locs ls hP hS hl)
theorem sf_sub (js : List Nat) {lv' : List (Nat × Value)} (hs : lv_pick lv js = lv') (k : sf_G X V nL Q σ pc lv' st) : sf_G X V nL Q σ pc lv st :=
  fun H locs ls hP hS hl => k H locs ls hP hS (lv_sub hl js hs)
end SFR
-- what a row of ints answers, within its bounds
def sf_ld (σ : sf_Sg) (k n : Nat) (i : Int32) : Option Int32 := if i < 0 ∨ n ≤ i.toNatClampNeg then none else some (σ k i.toNatClampNeg)
def sf_st (σ : sf_Sg) (k n : Nat) (i v : Int32) : Option sf_Sg := if i < 0 ∨ n ≤ i.toNatClampNeg then none else some (sf_s1 σ k i.toNatClampNeg v)
def sf_ix (n : Nat) (i : Int32) : Option Nat := if i < 0 ∨ n ≤ i.toNatClampNeg then none else some i.toNatClampNeg
def sf_div (x y : Int32) : Option Int32 := if y = 0 then none else some (x / y)
def sf_mod (x y : Int32) : Option Int32 := if y = 0 then none else some (sf_rem x y)
def sf_bo (v : Int32) : Option Int32 := if v = 0 ∨ v = 1 then some v else none
def sf_max (x y : Int32) : Int32 := if x < y then y else x
def sf_min (x y : Int32) : Int32 := if y < x then y else x
theorem sf_ob {α β : Type} {o : Option α} {f : α → Option β} {r : β} (h : o.bind f = some r) : ∃ v, o = some v ∧ f v = some r := by
  cases o with
  | none => cases h
  | some v => exact ⟨v, rfl, h⟩
theorem sf_ld_of {σ : sf_Sg} {k n : Nat} {i v : Int32} (h : sf_ld σ k n i = some v) : vp_in i n ∧ v = σ k i.toNatClampNeg := by
  unfold sf_ld at h
  split at h
  · cases h
  · rename_i q; exact ⟨q, (Option.some.inj h).symm⟩
theorem sf_st_of {σ σ' : sf_Sg} {k n : Nat} {i v : Int32} (h : sf_st σ k n i v = some σ') : vp_in i n ∧ σ' = sf_s1 σ k i.toNatClampNeg v := by
  unfold sf_st at h
  split at h
  · cases h
  · rename_i q; exact ⟨q, (Option.some.inj h).symm⟩
theorem sf_ix_of {n j : Nat} {i : Int32} (h : sf_ix n i = some j) : vp_in i n ∧ j = i.toNatClampNeg ∧ j < n := by
  unfold sf_ix at h
  split at h
  · cases h
  · rename_i q
    have e := (Option.some.inj h).symm
    exact ⟨q, e, by rw [e]; exact Nat.not_le.mp fun z => q (Or.inr z)⟩
theorem sf_div_of {x y v : Int32} (h : sf_div x y = some v) : ¬ y = 0 ∧ v = x / y := by
  unfold sf_div at h
  split at h
  · cases h
  · rename_i q; exact ⟨q, (Option.some.inj h).symm⟩
theorem sf_mod_of {x y v : Int32} (h : sf_mod x y = some v) : ¬ y = 0 ∧ v = sf_rem x y := by
  unfold sf_mod at h
  split at h
  · cases h
  · rename_i q; exact ⟨q, (Option.some.inj h).symm⟩
theorem sf_bo_of {v w : Int32} (h : sf_bo v = some w) : w = v ∧ narrow .boolean (.int w) = .int w ∧ fits .boolean (.int w) = true := by
  unfold sf_bo at h
  split at h
  · rename_i q
    have e := Option.some.inj h
    subst e
    rcases q with rfl | rfl
    · exact ⟨rfl, rfl, rfl⟩
    · exact ⟨rfl, rfl, rfl⟩
  · cases h
section SFM
variable {X : sf_X} {V : sf_V} {cc : ByteArray} {nL : Nat} {own : String} {rt : Option FieldType} {d : Nat} {Q : State → Prop} {σ : sf_Sg} {pc : Nat} {lv : List (Nat × Value)} {st : List Value}
/-- a field as the constant pool names it: class number ci, place j -/
def sf_F (own : String) (idx ci j : Nat) : Prop := ∃ (Cn : String) (T : u_T) (N : Nat) (ty : Nat → FieldType), vwCl[ci]? = some (Cn, T, N) ∧ j < N ∧ Cond.fieldLink own idx (T j).1 (T j).2.1 (T j).2.2.1 ∈ sf_tbl ∧ (∀ w ∈ u_ws Cn T N, w ∈ sf_tbl) ∧ (∀ k, k < N → parseFieldDescriptor (T k).2.2.1 = some (ty k)) ∧ (∀ a, a < N → ∀ b, b < N → a ≠ b → (T a).2.1 ≠ (T b).2.1)
def sf_Fw (own : String) (idx ci j : Nat) (t : FieldType) : Prop := ∃ (Cn : String) (T : u_T) (N : Nat) (ty : Nat → FieldType), vwCl[ci]? = some (Cn, T, N) ∧ j < N ∧ Cond.fieldLink own idx (T j).1 (T j).2.1 (T j).2.2.1 ∈ sf_tbl ∧ (∀ w ∈ u_ws Cn T N, w ∈ sf_tbl) ∧ (∀ k, k < N → parseFieldDescriptor (T k).2.2.1 = some (ty k)) ∧ (∀ a, a < N → ∀ b, b < N → a ≠ b → (T a).2.1 ≠ (T b).2.1) ∧ (T j).2.2.2 = false ∧ parseFieldDescriptor (T j).2.2.1 = some t
theorem sf_get (C : sf_C X V cc nL own rt d) {k ci j idx : Nat} {sp : List (Option Nat)} (hk : k < sf_NC) (hs : sf_shp k = .inr (.inl (ci, sp))) (hj : sp[j]? = some none) (hF : sf_F own idx ci j) (hd : decode cc pc = .ok (.getfield idx, 3)) (kk : sf_G X V nL Q σ (pc + 3) lv (.int (σ k j) :: st)) : sf_G X V nL Q σ pc lv (.ref (V.2.1 k) :: st) := by
  intro H locs ls hP hS hl
  obtain ⟨Cn, T, N, ty, hc, hjN, hlk, hin, hty, hnm⟩ := hF
  have he := sf_wd_at (V := V) (σ := σ) hk
  rw [hs] at he
  have hv := sf_fl_int V.2.1 (σ k) sp 0 j hj
  rw [Nat.zero_add] at hv
  exact va_get C.1 C.2.1 C.2.2.2.2.1 hin C.2.2.2.1 C.2.2.2.2.2.1.1 hP k he hc j hjN (C.2.2.2.2.1 _ hlk) (fun _ h => h) hv hd (kk H locs ls hP hS hl)
theorem sf_getr (C : sf_C X V cc nL own rt d) {k ci j idx r : Nat} {sp : List (Option Nat)} (hk : k < sf_NC) (hs : sf_shp k = .inr (.inl (ci, sp))) (hj : sp[j]? = some (some r)) (hF : sf_F own idx ci j) (hd : decode cc pc = .ok (.getfield idx, 3)) (kk : sf_G X V nL Q σ (pc + 3) lv (.ref (V.2.1 r) :: st)) : sf_G X V nL Q σ pc lv (.ref (V.2.1 k) :: st) := by
  intro H locs ls hP hS hl
  obtain ⟨Cn, T, N, ty, hc, hjN, hlk, hin, hty, hnm⟩ := hF
  have he := sf_wd_at (V := V) (σ := σ) hk
  rw [hs] at he
  have hv := sf_fl_ref V.2.1 (σ k) sp 0 j hj
  exact va_get C.1 C.2.1 C.2.2.2.2.1 hin C.2.2.2.1 C.2.2.2.2.2.1.1 hP k he hc j hjN (C.2.2.2.2.1 _ hlk) (fun _ h => h) hv hd (kk H locs ls hP hS hl)
theorem sf_put (C : sf_C X V cc nL own rt d) {k ci j idx : Nat} {sp : List (Option Nat)} {t : FieldType} {v : Int32} (hk : k < sf_NC) (hs : sf_shp k = .inr (.inl (ci, sp))) (hj : sp[j]? = some none) (hF : sf_Fw own idx ci j t) (hn : narrow t (.int v) = .int v) (hf : fits t (.int v) = true) (hd : decode cc pc = .ok (.putfield idx, 3)) (kk : sf_G X V nL Q (sf_s1 σ k j v) (pc + 3) lv st) : sf_G X V nL Q σ pc lv (.int v :: .ref (V.2.1 k) :: st) := by
  intro H locs ls hP hS hl
  obtain ⟨Cn, T, N, ty, hc, hjN, hlk, hin, hty, hnm, hfin, hdt⟩ := hF
  have he := sf_wd_at (V := V) (σ := σ) hk
  have hset := sf_wd_set (V := V) (σ := σ) hk (upd (σ k) j v)
  rw [hs] at he hset
  have hv := sf_fl_set V.2.1 (σ k) v sp 0 j hj
  rw [Nat.zero_add] at hv
  refine va_put C.1 C.2.1 C.2.2.2.2.1 hin ty hty hnm C.2.2.2.1 C.2.2.2.2.2.1.1 hP (sf_wd_D C.2.2.2.2.2.2.1) hS k he hc j hjN (C.2.2.2.2.1 _ hlk) (fun _ h => h) hfin hdt hn hf ?_ hd (fun H1 locs1 hP1 hD1 hS1 => kk H1 locs1 ls ?_ hS1 hl)
  · show j < (sf_fl V.2.1 (σ k) 0 sp).length
    rw [sf_fl_len]
    exact (List.getElem?_eq_some_iff.mp hj).1
  · have e : (sf_wd V σ).set k (V.2.1 k, .inr (ci, (sf_fl V.2.1 (σ k) 0 sp).set j (.int v))) = sf_wd V (sf_s1 σ k j v) := by
      rw [hv]
      exact hset
    rw [← e]
    exact hP1
theorem sf_iald (C : sf_C X V cc nL own rt d) {k n : Nat} {i v : Int32} (hk : k < sf_NC) (hs : sf_shp k = .inl (n, .int)) (hv : sf_ld σ k n i = some v) (hd : decode cc pc = .ok (.iaload, 1)) (kk : sf_G X V nL Q σ (pc + 1) lv (.int v :: st)) : sf_G X V nL Q σ pc lv (.int i :: .ref (V.2.1 k) :: st) := by
  intro H locs ls hP hS hl
  obtain ⟨hin, rfl⟩ := sf_ld_of hv
  have he := sf_wd_at (V := V) (σ := σ) hk
  rw [hs] at he
  exact va_iald C.1 C.2.1 C.2.2.2.2.2.1.1 hP k 0 he rfl hin hd (kk H locs ls hP hS hl)
theorem sf_zald (C : sf_C X V cc nL own rt d) {k n : Nat} {i v : Int32} (hk : k < sf_NC) (hs : sf_shp k = .inl (n, .boolean)) (hv : sf_ld σ k n i = some v) (hd : decode cc pc = .ok (.baload, 1)) (kk : sf_G X V nL Q σ (pc + 1) lv (.int v :: st)) : sf_G X V nL Q σ pc lv (.int i :: .ref (V.2.1 k) :: st) := by
  intro H locs ls hP hS hl
  obtain ⟨hin, rfl⟩ := sf_ld_of hv
  have he := sf_wd_at (V := V) (σ := σ) hk
  rw [hs] at he
  exact va_zald C.1 C.2.1 C.2.2.2.2.2.1.1 hP k 1 he rfl hin hd (kk H locs ls hP hS hl)
theorem sf_iast (C : sf_C X V cc nL own rt d) {k n : Nat} {i v : Int32} {σ' : sf_Sg} (hk : k < sf_NC) (hs : sf_shp k = .inl (n, .int)) (hv : sf_st σ k n i v = some σ') (hd : decode cc pc = .ok (.iastore, 1)) (kk : sf_G X V nL Q σ' (pc + 1) lv st) : sf_G X V nL Q σ pc lv (.int v :: .int i :: .ref (V.2.1 k) :: st) := by
  intro H locs ls hP hS hl
  obtain ⟨hin, rfl⟩ := sf_st_of hv
  have he := sf_wd_at (V := V) (σ := σ) hk
  have hset := sf_wd_set (V := V) (σ := σ) hk (upd (σ k) i.toNatClampNeg v)
  rw [hs] at he hset
  refine va_iast C.1 C.2.1 C.2.2.2.2.2.1.1 hP (sf_wd_D C.2.2.2.2.2.2.1) hS k 0 he rfl hin hd (fun H1 locs1 hP1 hD1 hS1 => kk H1 locs1 ls ?_ hS1 hl)
  have e : (sf_wd V σ).set k (V.2.1 k, .inl (V.2.2 0, n, .inl (upd (σ k) i.toNatClampNeg v))) = sf_wd V (sf_s1 σ k i.toNatClampNeg v) := hset
  rw [← e]
  exact hP1
theorem sf_zast (C : sf_C X V cc nL own rt d) {k n : Nat} {i v : Int32} {σ' : sf_Sg} (hk : k < sf_NC) (hs : sf_shp k = .inl (n, .boolean)) (hz : vp_nar .boolean v = v) (hv : sf_st σ k n i v = some σ') (hd : decode cc pc = .ok (.bastore, 1)) (kk : sf_G X V nL Q σ' (pc + 1) lv st) : sf_G X V nL Q σ pc lv (.int v :: .int i :: .ref (V.2.1 k) :: st) := by
  intro H locs ls hP hS hl
  obtain ⟨hin, rfl⟩ := sf_st_of hv
  have he := sf_wd_at (V := V) (σ := σ) hk
  have hset := sf_wd_set (V := V) (σ := σ) hk (upd (σ k) i.toNatClampNeg v)
  rw [hs] at he hset
  refine va_zast C.1 C.2.1 C.2.2.2.2.2.1.1 hP (sf_wd_D C.2.2.2.2.2.2.1) hS k 1 he rfl hin hd (fun H1 locs1 hP1 hD1 hS1 => kk H1 locs1 ls ?_ hS1 hl)
  have e : (sf_wd V σ).set k (V.2.1 k, .inl (V.2.2 1, n, .inl (upd (σ k) i.toNatClampNeg v))) = sf_wd V (sf_s1 σ k i.toNatClampNeg v) := hset
  rw [hz] at hP1
  rw [← e]
  exact hP1
theorem sf_aald (C : sf_C X V cc nL own rt d) {k n b m j : Nat} {i : Int32} (hk : k < sf_NC) (hs : sf_shp k = .inr (.inr (n, b, m))) (hv : sf_ix n i = some j) (hd : decode cc pc = .ok (.aaload, 1)) (kk : sf_G X V nL Q σ (pc + 1) lv (.ref (V.2.1 (b + m * j)) :: st)) : sf_G X V nL Q σ pc lv (.int i :: .ref (V.2.1 k) :: st) := by
  intro H locs ls hP hS hl
  obtain ⟨hin, rfl, -⟩ := sf_ix_of hv
  have he := sf_wd_at (V := V) (σ := σ) hk
  rw [hs] at he
  exact va_aldq (C := "SaddleFit$Load") C.1 C.2.1 C.2.2.2.2.2.1.1 hP k 2 he rfl hin hd (kk H locs ls hP hS hl)
theorem sf_alenI (C : sf_C X V cc nL own rt d) {k n : Nat} {v : Int32} (hk : k < sf_NC) (hs : sf_shp k = .inl (n, .int)) (hv : Int32.ofNat n = v) (hd : decode cc pc = .ok (.arraylength, 1)) (kk : sf_G X V nL Q σ (pc + 1) lv (.int v :: st)) : sf_G X V nL Q σ pc lv (.ref (V.2.1 k) :: st) := by
  intro H locs ls hP hS hl
  have he := sf_wd_at (V := V) (σ := σ) hk
  rw [hs] at he
  exact va_alen (ty := .int) C.1 C.2.1 C.2.2.2.2.2.1.1 hP k 0 he rfl hv hd (kk H locs ls hP hS hl)
theorem sf_alenZ (C : sf_C X V cc nL own rt d) {k n : Nat} {v : Int32} (hk : k < sf_NC) (hs : sf_shp k = .inl (n, .boolean)) (hv : Int32.ofNat n = v) (hd : decode cc pc = .ok (.arraylength, 1)) (kk : sf_G X V nL Q σ (pc + 1) lv (.int v :: st)) : sf_G X V nL Q σ pc lv (.ref (V.2.1 k) :: st) := by
  intro H locs ls hP hS hl
  have he := sf_wd_at (V := V) (σ := σ) hk
  rw [hs] at he
  exact va_alen (ty := .boolean) C.1 C.2.1 C.2.2.2.2.2.1.1 hP k 1 he rfl hv hd (kk H locs ls hP hS hl)
theorem sf_mmax (C : sf_C X V cc nL own rt d) {idx : Nat} {x y : Int32} (hw : Cond.methodLink own idx Lib.Math.max.name ∈ sf_tbl ∧ Cond.static Lib.Math.max.name ∈ sf_tbl ∧ Cond.initialized "java/lang/Math" ∈ sf_tbl ∧ Cond.code Lib.Math.max.name Lib.Math.max.code 2 (some .int) ∈ sf_tbl) (hdd : 0 < d) (hst : (st.map fun v => v.category).sum ≤ 8) (hd : decode cc pc = .ok (.invokestatic idx, 3)) (kk : sf_G X V nL Q σ (pc + 3) lv (.int (sf_max x y) :: st)) : sf_G X V nL Q σ pc lv (.int y :: .int x :: st) := by
  intro H locs ls hP hS hl
  have hR : sf_R X = sf_rm d := C.2.2.2.2.2.2.2.2.2
  exact va_mmax C.1 C.2.1 (C.2.2.1.trans hl.1.symm) C.2.2.2.1 (C.2.2.2.2.1 _ hw.1) (C.2.2.2.2.1 _ hw.2.1) (C.2.2.2.2.1 _ hw.2.2.1) (C.2.2.2.2.1 _ hw.2.2.2) (by rw [hR]; exact hdd) (by rw [hR]; show _ ≤ 40 * d; omega) (Nat.zero_le _) (Nat.zero_le _) hd (kk H locs ls hP hS hl)
theorem sf_mmin (C : sf_C X V cc nL own rt d) {idx : Nat} {x y : Int32} (hw : Cond.methodLink own idx Lib.Math.min.name ∈ sf_tbl ∧ Cond.static Lib.Math.min.name ∈ sf_tbl ∧ Cond.initialized "java/lang/Math" ∈ sf_tbl ∧ Cond.code Lib.Math.min.name Lib.Math.min.code 2 (some .int) ∈ sf_tbl) (hdd : 0 < d) (hst : (st.map fun v => v.category).sum ≤ 8) (hd : decode cc pc = .ok (.invokestatic idx, 3)) (kk : sf_G X V nL Q σ (pc + 3) lv (.int (sf_min x y) :: st)) : sf_G X V nL Q σ pc lv (.int y :: .int x :: st) := by
  intro H locs ls hP hS hl
  have hR : sf_R X = sf_rm d := C.2.2.2.2.2.2.2.2.2
  exact va_mmin C.1 C.2.1 (C.2.2.1.trans hl.1.symm) C.2.2.2.1 (C.2.2.2.2.1 _ hw.1) (C.2.2.2.2.1 _ hw.2.1) (C.2.2.2.2.1 _ hw.2.2.1) (C.2.2.2.2.1 _ hw.2.2.2) (by rw [hR]; exact hdd) (by rw [hR]; show _ ≤ 40 * d; omega) (Nat.zero_le _) (Nat.zero_le _) hd (kk H locs ls hP hS hl)
theorem sf_acopy (C : sf_C X V cc nL own rt d) {idx k0 k1 n0 n1 : Nat} {n : Int32} (hk0 : k0 < sf_NC) (hk1 : k1 < sf_NC) (hs0 : sf_shp k0 = .inl (n0, .int)) (hs1 : sf_shp k1 = .inl (n1, .int)) (hn : ¬ n < 0) (h4 : n.toNatClampNeg ≤ n0) (h5 : n.toNatClampNeg ≤ n1) (hw : Cond.methodLink own idx arraycopyName ∈ sf_tbl ∧ Cond.native arraycopyName ∈ sf_tbl ∧ Cond.static arraycopyName ∈ sf_tbl ∧ Cond.initialized "java/lang/System" ∈ sf_tbl) (hdd : 0 < d) (hst : (st.map fun v => v.category).sum ≤ 8) (hd : decode cc pc = .ok (.invokestatic idx, 3)) (kk : sf_G X V nL Q (sf_su σ k1 (va_cpy (σ k0) (σ k1) 0 0 n.toNatClampNeg)) (pc + 3) lv st) : sf_G X V nL Q σ pc lv (.int n :: .int 0 :: .ref (V.2.1 k1) :: .int 0 :: .ref (V.2.1 k0) :: st) := by
  intro H locs ls hP hS hl
  have hR : sf_R X = sf_rm d := C.2.2.2.2.2.2.2.2.2
  have he0 := sf_wd_at (V := V) (σ := σ) hk0
  have he1 := sf_wd_at (V := V) (σ := σ) hk1
  have hset := sf_wd_set (V := V) (σ := σ) hk1 (va_cpy (σ k0) (σ k1) 0 0 n.toNatClampNeg)
  rw [hs0] at he0
  rw [hs1] at he1 hset
  have z0 : (0 : Int32).toNatClampNeg = 0 := rfl
  refine va_copyi C.1 C.2.1 (C.2.2.1.trans hl.1.symm) C.2.2.2.1 (C.2.2.2.2.1 _ hw.1) (C.2.2.2.2.1 _ hw.2.1) (C.2.2.2.2.1 _ hw.2.2.1) (C.2.2.2.2.1 _ hw.2.2.2) C.2.2.2.2.2.1.1 hP (sf_wd_D C.2.2.2.2.2.2.1) hS k0 k1 0 0 (ty := .int) he0 he1 rfl rfl rfl (by decide) (by decide) hn (by rw [z0]; omega) (by rw [z0]; omega) (fun _ _ => rfl) (by rw [hR]; exact hdd) (by rw [hR]; have : nativeFrameWords "java/lang/System" "arraycopy" 5 + 11 ≤ 32 := (by decide); show _ ≤ 40 * d; omega) hd (fun H1 locs1 hP1 hD1 hS1 => kk H1 locs1 ls ?_ hS1 hl)
  rw [z0] at hP1
  have e : (sf_wd V σ).set k1 (V.2.1 k1, .inl (V.2.2 0, n1, .inl (va_cpy (σ k0) (σ k1) 0 0 n.toNatClampNeg))) = sf_wd V (sf_su σ k1 (va_cpy (σ k0) (σ k1) 0 0 n.toNatClampNeg)) := hset
  rw [← e]
  exact hP1
theorem sf_putB (C : sf_C X V cc nL own rt d) {k ci j idx : Nat} {sp : List (Option Nat)} {v w : Int32} (hk : k < sf_NC) (hs : sf_shp k = .inr (.inl (ci, sp))) (hj : sp[j]? = some none) (hF : sf_Fw own idx ci j .boolean) (hb : sf_bo v = some w) (hd : decode cc pc = .ok (.putfield idx, 3)) (kk : sf_G X V nL Q (sf_s1 σ k j w) (pc + 3) lv st) : sf_G X V nL Q σ pc lv (.int v :: .ref (V.2.1 k) :: st) := by
  obtain ⟨e, h1, h2⟩ := sf_bo_of hb
  subst e
  exact sf_put C hk hs hj hF h1 h2 hd kk
theorem sf_idivO (C : sf_C X V cc nL own rt d) {x y v : Int32} (hv : sf_div x y = some v) (hd : decode cc pc = .ok (.idiv, 1)) (kk : sf_G X V nL Q σ (pc + 1) lv (.int v :: st)) : sf_G X V nL Q σ pc lv (.int y :: .int x :: st) := by
  obtain ⟨h1, rfl⟩ := sf_div_of hv
  exact sf_idiv C hd h1 kk
theorem sf_iremO (C : sf_C X V cc nL own rt d) {x y v : Int32} (hv : sf_mod x y = some v) (hd : decode cc pc = .ok (.irem, 1)) (kk : sf_G X V nL Q σ (pc + 1) lv (.int v :: st)) : sf_G X V nL Q σ pc lv (.int y :: .int x :: st) := by
  obtain ⟨h1, rfl⟩ := sf_mod_of hv
  exact sf_irem C hd h1 kk
-- returns
theorem sf_iretW {v r : Int32} {σ' : sf_Sg} (C : sf_C X V cc nL own (some .int) d) (hd : decode cc pc = .ok (.ireturn, 1)) (h : some (v, σ) = some (r, σ')) : sf_G X V nL (sf_Q X V (sf_Qi V r σ')) σ pc lv [.int v] := by
  cases h
  intro H locs ls hP hS hl
  exact W.iret (Qc := sf_Qi V v σ) C.1 C.2.1 C.2.2.2.2.2.2.2.1 (fun t ht hW => ⟨⟨v, (), rfl, rfl, by show va_P _ _ _ t.heap; rw [ht]; exact hP⟩, hS.F ht⟩) hS.2.2 hd C.2.2.2.2.2.2.2.2.1
theorem sf_iretR {v r : Int32} (C : sf_C X V cc nL own (some .int) d) (hd : decode cc pc = .ok (.ireturn, 1)) (h : some v = some r) : sf_G X V nL (sf_Q X V (sf_Qi V r σ)) σ pc lv [.int v] := by
  cases h
  exact sf_iretW C hd rfl
theorem sf_iretT {v r : Int32} (C : sf_C X V cc nL own (some .int) d) (hd : decode cc pc = .ok (.ireturn, 1)) (h : v = r) : sf_G X V nL (sf_Q X V (sf_Qi V r σ)) σ pc lv [.int v] := by
  cases h
  exact sf_iretW C hd rfl
theorem sf_iretU {v r : Int32} {σ' : sf_Sg} (C : sf_C X V cc nL own (some .int) d) (hd : decode cc pc = .ok (.ireturn, 1)) (h : (v, σ) = (r, σ')) : sf_G X V nL (sf_Q X V (sf_Qi V r σ')) σ pc lv [.int v] := by
  cases h
  exact sf_iretW C hd rfl
theorem sf_zretW {v r : Int32} {σ' : sf_Sg} (C : sf_C X V cc nL own (some .boolean) d) (hn : narrow .boolean (.int v) = .int v) (hd : decode cc pc = .ok (.ireturn, 1)) (h : some (v, σ) = some (r, σ')) : sf_G X V nL (sf_Q X V (sf_Qi V r σ')) σ pc lv [.int v] := by
  cases h
  intro H locs ls hP hS hl
  exact W.zret (Qc := sf_Qi V v σ) C.1 C.2.1 C.2.2.2.2.2.2.2.1 hn (fun t ht hW => ⟨⟨v, (), rfl, rfl, by show va_P _ _ _ t.heap; rw [ht]; exact hP⟩, hS.F ht⟩) hS.2.2 hd C.2.2.2.2.2.2.2.2.1
theorem sf_zretR {v r : Int32} (C : sf_C X V cc nL own (some .boolean) d) (hn : narrow .boolean (.int v) = .int v) (hd : decode cc pc = .ok (.ireturn, 1)) (h : some v = some r) : sf_G X V nL (sf_Q X V (sf_Qi V r σ)) σ pc lv [.int v] := by
  cases h
  exact sf_zretW C hn hd rfl
theorem sf_zretT {v r : Int32} (C : sf_C X V cc nL own (some .boolean) d) (hn : narrow .boolean (.int v) = .int v) (hd : decode cc pc = .ok (.ireturn, 1)) (h : v = r) : sf_G X V nL (sf_Q X V (sf_Qi V r σ)) σ pc lv [.int v] := by
  cases h
  exact sf_zretW C hn hd rfl
theorem sf_zretU {v r : Int32} {σ' : sf_Sg} (C : sf_C X V cc nL own (some .boolean) d) (hn : narrow .boolean (.int v) = .int v) (hd : decode cc pc = .ok (.ireturn, 1)) (h : (v, σ) = (r, σ')) : sf_G X V nL (sf_Q X V (sf_Qi V r σ')) σ pc lv [.int v] := by
  cases h
  exact sf_zretW C hn hd rfl
theorem sf_zretB {v w r : Int32} (C : sf_C X V cc nL own (some .boolean) d) (hb : sf_bo v = some w) (hd : decode cc pc = .ok (.ireturn, 1)) (h : some w = some r) : sf_G X V nL (sf_Q X V (sf_Qi V r σ)) σ pc lv [.int v] := by
  obtain ⟨e, h1, h2⟩ := sf_bo_of hb
  subst e
  exact sf_zretR C h1 hd h
theorem sf_vretU {σ' : sf_Sg} (C : sf_C X V cc nL own none d) (hd : decode cc pc = .ok (.return_, 1)) (h : σ = σ') : sf_G X V nL (sf_Q X V (sf_Qv V σ')) σ pc lv [] := by
  cases h
  intro H locs ls hP hS hl
  exact W.vret (Qc := sf_Qv V σ) C.1 C.2.1 C.2.2.2.2.2.2.2.1 (fun t ht hW => ⟨⟨(), rfl, trivial, by show va_P _ _ _ t.heap; rw [ht]; exact hP⟩, hS.F ht⟩) hS.2.2 hd C.2.2.2.2.2.2.2.2.1
theorem sf_vretW {σ' : sf_Sg} (C : sf_C X V cc nL own none d) (hd : decode cc pc = .ok (.return_, 1)) (h : some σ = some σ') : sf_G X V nL (sf_Q X V (sf_Qv V σ')) σ pc lv [] := sf_vretU C hd (Option.some.inj h)
-- calls
def sf_D (y : MethodName) (n : Nat) : Prop := y.cls ≠ "java/lang/invoke/MethodHandle" ∧ y.cls ≠ "java/lang/invoke/VarHandle" ∧ (parseMethodDescriptor y.desc).map (fun d => d.parameters.length) = some n
def sf_Y (y : MethodName) (bytes : ByteArray) (maxL : Nat) (t : Option FieldType) (n : Nat) : Prop := Cond.code y bytes maxL t ∈ sf_tbl ∧ Cond.initialized y.cls ∈ sf_tbl ∧ sf_D y n ∧ maxL ≤ 21
variable {y : MethodName} {bytes : ByteArray} {maxL n idx d' : Nat} {t : Option FieldType} {As stk : List Value}
theorem sf_roomOf (C : sf_C X V cc nL own rt d) (hdd : d' < d) (hm : maxL ≤ 21) : (sf_rm d').frames + 1 ≤ (sf_R X).frames ∧ 8 + (maxL + 11) + (sf_rm d').locals ≤ (sf_R X).locals := by
  have hR : sf_R X = sf_rm d := C.2.2.2.2.2.2.2.2.2
  rw [hR]
  show d' + 1 ≤ d ∧ 8 + (maxL + 11) + 40 * d' ≤ 40 * d
  omega
theorem sf_runV (C : sf_C X V cc nL own rt d) {k ci : Nat} {sp : List (Option Nat)} {T : u_T} {N : Nat} {Qc : Array Value → State → Outcome → State → Prop} (hk : k < sf_NC) (hs : sf_shp k = .inr (.inl (ci, sp))) (hc : vwCl[ci]? = some (y.cls, T, N)) (hY : sf_Y y bytes maxL t n) (hw : Cond.methodLink own idx y ∈ sf_tbl ∧ Cond.instanceMethod y ∈ sf_tbl ∧ Cond.selects y.cls y y ∈ sf_tbl) (hM : sf_M (sf_l X) V y (.code y bytes maxL t) d' (.ref (V.2.1 k) :: As) σ Qc) (hdd : d' < d) (hn : As.length = n) (hst : (st.map fun v => v.category).sum ≤ 8) (he : stk = As.reverse ++ (.ref (V.2.1 k) :: st)) (hd : decode cc pc = .ok (.invokevirtual idx, 3)) {H : Heap} {locs : List Loc} {ls : Array Slot} (hP : va_P V.1 vwCl (sf_wd V σ) H) (hl : lv_has ls nL lv) :
    va_Run (sf_p X) (sf_l X) (sf_e X) (sf_R X) (sf_s X) (sf_m X) (sf_a X) (sf_b X) (sf_h X) (sf_c X) H locs 0 0 0 0 (F0 (sf_m X) pc ls stk) st (Qc (Value.ref (V.2.1 k) :: As).toArray) (sf_A V) := by
  have hex := sf_wd_at (V := V) (σ := σ) hk
  rw [hs] at hex
  refine va_runV (As := As) (rest := st) (C := y.cls) ⟨C.1, C.2.1, C.2.2.1, C.2.2.2.1, C.2.2.2.2.1⟩ (hM C.2.2.2.2.2.2.1) (cwV n C.2.2.2.2.1 (ws' := sf_tbl) ?_ rfl rfl rfl ⟨rfl, hY.2.2.1⟩ (sf_roomOf C hdd hY.2.2.2)) ⟨sf_blind, va_recv C.2.2.2.2.2.1.1 hP hc hex, fun U hU hW => ⟨rfl, by rw [hU]; exact hP, va_K.moved hW.alike C.2.2.2.2.2.1.1, sf_N.warm hW C.2.2.2.2.2.1.2⟩⟩ rfl hn hl.1 he (lv_room hst) hd ⟨Nat.zero_le _, Nat.zero_le _⟩
  intro w hwm
  unfold wsV at hwm
  rcases List.mem_append.mp hwm with h | h
  · have hm : w ∈ sf_tbl := by
      simp only [List.mem_cons, List.not_mem_nil, or_false] at h
      rcases h with rfl | rfl | rfl | rfl
      · exact hw.1
      · exact hw.2.1
      · exact hw.2.2
      · exact hY.2.1
    exact ⟨hm, good_of_word (List.mem_filter.mp hm).2⟩
  · exact sf_goodIn hY.1 w h
theorem sf_runS (C : sf_C X V cc nL own rt d) {Qc : Array Value → State → Outcome → State → Prop} (hY : sf_Y y bytes maxL t n) (hw : Cond.methodLink own idx y ∈ sf_tbl ∧ Cond.static y ∈ sf_tbl) (hM : sf_M (sf_l X) V y (.code y bytes maxL t) d' As σ Qc) (hdd : d' < d) (hn : As.length = n) (hst : (st.map fun v => v.category).sum ≤ 8) (he : stk = As.reverse ++ st) (hd : decode cc pc = .ok (.invokestatic idx, 3)) {H : Heap} {locs : List Loc} {ls : Array Slot} (hP : va_P V.1 vwCl (sf_wd V σ) H) (hl : lv_has ls nL lv) :
    va_Run (sf_p X) (sf_l X) (sf_e X) (sf_R X) (sf_s X) (sf_m X) (sf_a X) (sf_b X) (sf_h X) (sf_c X) H locs 0 0 0 0 (F0 (sf_m X) pc ls stk) st (Qc As.toArray) (sf_A V) := by
  refine va_runS (As := As) (rest := st) ⟨C.1, C.2.1, C.2.2.1, C.2.2.2.1, C.2.2.2.2.1⟩ (hM C.2.2.2.2.2.2.1) (va_cwS n C.2.2.2.2.1 (ws' := sf_tbl) ?_ rfl rfl rfl hY.2.2.1 (sf_roomOf C hdd hY.2.2.2)) ⟨sf_blind, fun U hU hW => ⟨rfl, by rw [hU]; exact hP, va_K.moved hW.alike C.2.2.2.2.2.1.1, sf_N.warm hW C.2.2.2.2.2.1.2⟩⟩ rfl hn hl.1 he (lv_room hst) hd ⟨Nat.zero_le _, Nat.zero_le _⟩
  intro w hwm
  unfold va_wsS at hwm
  rcases List.mem_append.mp hwm with h | h
  · have hm : w ∈ sf_tbl := by
      simp only [List.mem_cons, List.not_mem_nil, or_false] at h
      rcases h with rfl | rfl | rfl
      · exact hw.1
      · exact hw.2
      · exact hY.2.1
    exact ⟨hm, good_of_word (List.mem_filter.mp hm).2⟩
  · exact sf_goodIn hY.1 w h
theorem sf_runSN (C : sf_C X V cc nL own rt d) {host : String} {Qc : Array Value → State → Outcome → State → Prop} (hY : sf_Y y bytes maxL t n) (hw : Cond.methodLinkNest own idx y host ∈ lw_tbl ∧ Cond.static y ∈ sf_tbl) (hM : sf_M (sf_l X) V y (.code y bytes maxL t) d' As σ Qc) (hdd : d' < d) (hn : As.length = n) (hst : (st.map fun v => v.category).sum ≤ 8) (he : stk = As.reverse ++ st) (hd : decode cc pc = .ok (.invokestatic idx, 3)) {H : Heap} {locs : List Loc} {ls : Array Slot} (hP : va_P V.1 vwCl (sf_wd V σ) H) (hl : lv_has ls nL lv) :
    va_Run (sf_p X) (sf_l X) (sf_e X) (sf_R X) (sf_s X) (sf_m X) (sf_a X) (sf_b X) (sf_h X) (sf_c X) H locs 0 0 0 0 (F0 (sf_m X) pc ls stk) st (Qc As.toArray) (sf_A V) :=
  va_runSN (As := As) (rest := st) ⟨C.1, C.2.1, C.2.2.1, C.2.2.2.1, C.2.2.2.2.1⟩ (hM C.2.2.2.2.2.2.1) ⟨va_cnB n C.2.2.2.2.1 (sf_goodIn hY.1) (ws' := sf_tbl) rfl rfl rfl (C.2.2.2.2.2.1.2 _ ⟨_, _, _, _, rfl, hw.1⟩) (C.2.2.2.2.1 _ hY.2.1) hY.2.2.1 (sf_roomOf C hdd hY.2.2.2), C.2.2.2.2.1 _ hw.2, trivial⟩ ⟨sf_blind, fun U hU hW => ⟨rfl, by rw [hU]; exact hP, va_K.moved hW.alike C.2.2.2.2.2.1.1, sf_N.warm hW C.2.2.2.2.2.1.2⟩⟩ rfl hn hl.1 he (lv_room hst) hd ⟨Nat.zero_le _, Nat.zero_le _⟩
theorem sf_goi {r : Int32} {σ' : sf_Sg} {a : Array Value} (h : ∀ (H : Heap) (locs : List Loc) (ls : Array Slot), va_P V.1 vwCl (sf_wd V σ) H → lv_has ls nL lv → va_Run (sf_p X) (sf_l X) (sf_e X) (sf_R X) (sf_s X) (sf_m X) (sf_a X) (sf_b X) (sf_h X) (sf_c X) H locs 0 0 0 0 (F0 (sf_m X) pc ls stk) st (sf_Qi V r σ' a) (sf_A V)) (kk : sf_G X V nL Q σ' (pc + 3) lv (.int r :: st)) : sf_G X V nL Q σ pc lv stk := by
  intro H locs ls hP hS hl
  refine va_calli (h H locs ls hP hl) hS (fun _ _ q => q) (fun _ q => q) (fun v u t2 H1 locs1 ht hvm hp hB hz hq hS1 => ?_)
  subst hp
  rw [ht] at hB
  exact kk H1 locs1 ls hB hS1 hl
theorem sf_gov {σ' : sf_Sg} {a : Array Value} (h : ∀ (H : Heap) (locs : List Loc) (ls : Array Slot), va_P V.1 vwCl (sf_wd V σ) H → lv_has ls nL lv → va_Run (sf_p X) (sf_l X) (sf_e X) (sf_R X) (sf_s X) (sf_m X) (sf_a X) (sf_b X) (sf_h X) (sf_c X) H locs 0 0 0 0 (F0 (sf_m X) pc ls stk) st (sf_Qv V σ' a) (sf_A V)) (kk : sf_G X V nL Q σ' (pc + 3) lv st) : sf_G X V nL Q σ pc lv stk := by
  intro H locs ls hP hS hl
  refine va_callv (h H locs ls hP hl) hS (fun _ _ q => q) (fun _ q => q) (fun u t2 H1 locs1 ht hvm hp hB hz hq hS1 => ?_)
  rw [ht] at hB
  exact kk H1 locs1 ls hB hS1 hl
theorem sf_callVi (C : sf_C X V cc nL own rt d) {r : Int32} {σ' : sf_Sg} {k ci : Nat} {sp : List (Option Nat)} {T : u_T} {N : Nat} (hk : k < sf_NC) (hs : sf_shp k = .inr (.inl (ci, sp))) (hc : vwCl[ci]? = some (y.cls, T, N)) (hY : sf_Y y bytes maxL t n) (hw : Cond.methodLink own idx y ∈ sf_tbl ∧ Cond.instanceMethod y ∈ sf_tbl ∧ Cond.selects y.cls y y ∈ sf_tbl) (hM : sf_M (sf_l X) V y (.code y bytes maxL t) d' (.ref (V.2.1 k) :: As) σ (sf_Qi V r σ')) (hdd : d' < d) (hn : As.length = n) (hst : (st.map fun v => v.category).sum ≤ 8) (he : stk = As.reverse ++ (.ref (V.2.1 k) :: st)) (hd : decode cc pc = .ok (.invokevirtual idx, 3)) (kk : sf_G X V nL Q σ' (pc + 3) lv (.int r :: st)) : sf_G X V nL Q σ pc lv stk :=
  sf_goi (fun H locs ls hP hl => sf_runV C hk hs hc hY hw hM hdd hn hst he hd hP hl) kk
theorem sf_callVv (C : sf_C X V cc nL own rt d) {σ' : sf_Sg} {k ci : Nat} {sp : List (Option Nat)} {T : u_T} {N : Nat} (hk : k < sf_NC) (hs : sf_shp k = .inr (.inl (ci, sp))) (hc : vwCl[ci]? = some (y.cls, T, N)) (hY : sf_Y y bytes maxL t n) (hw : Cond.methodLink own idx y ∈ sf_tbl ∧ Cond.instanceMethod y ∈ sf_tbl ∧ Cond.selects y.cls y y ∈ sf_tbl) (hM : sf_M (sf_l X) V y (.code y bytes maxL t) d' (.ref (V.2.1 k) :: As) σ (sf_Qv V σ')) (hdd : d' < d) (hn : As.length = n) (hst : (st.map fun v => v.category).sum ≤ 8) (he : stk = As.reverse ++ (.ref (V.2.1 k) :: st)) (hd : decode cc pc = .ok (.invokevirtual idx, 3)) (kk : sf_G X V nL Q σ' (pc + 3) lv st) : sf_G X V nL Q σ pc lv stk :=
  sf_gov (fun H locs ls hP hl => sf_runV C hk hs hc hY hw hM hdd hn hst he hd hP hl) kk
theorem sf_callSi (C : sf_C X V cc nL own rt d) {r : Int32} {σ' : sf_Sg} (hY : sf_Y y bytes maxL t n) (hw : Cond.methodLink own idx y ∈ sf_tbl ∧ Cond.static y ∈ sf_tbl) (hM : sf_M (sf_l X) V y (.code y bytes maxL t) d' As σ (sf_Qi V r σ')) (hdd : d' < d) (hn : As.length = n) (hst : (st.map fun v => v.category).sum ≤ 8) (he : stk = As.reverse ++ st) (hd : decode cc pc = .ok (.invokestatic idx, 3)) (kk : sf_G X V nL Q σ' (pc + 3) lv (.int r :: st)) : sf_G X V nL Q σ pc lv stk :=
  sf_goi (fun H locs ls hP hl => sf_runS C hY hw hM hdd hn hst he hd hP hl) kk
theorem sf_callSv (C : sf_C X V cc nL own rt d) {σ' : sf_Sg} (hY : sf_Y y bytes maxL t n) (hw : Cond.methodLink own idx y ∈ sf_tbl ∧ Cond.static y ∈ sf_tbl) (hM : sf_M (sf_l X) V y (.code y bytes maxL t) d' As σ (sf_Qv V σ')) (hdd : d' < d) (hn : As.length = n) (hst : (st.map fun v => v.category).sum ≤ 8) (he : stk = As.reverse ++ st) (hd : decode cc pc = .ok (.invokestatic idx, 3)) (kk : sf_G X V nL Q σ' (pc + 3) lv st) : sf_G X V nL Q σ pc lv stk :=
  sf_gov (fun H locs ls hP hl => sf_runS C hY hw hM hdd hn hst he hd hP hl) kk
theorem sf_callNi (C : sf_C X V cc nL own rt d) {host : String} {r : Int32} {σ' : sf_Sg} (hY : sf_Y y bytes maxL t n) (hw : Cond.methodLinkNest own idx y host ∈ lw_tbl ∧ Cond.static y ∈ sf_tbl) (hM : sf_M (sf_l X) V y (.code y bytes maxL t) d' As σ (sf_Qi V r σ')) (hdd : d' < d) (hn : As.length = n) (hst : (st.map fun v => v.category).sum ≤ 8) (he : stk = As.reverse ++ st) (hd : decode cc pc = .ok (.invokestatic idx, 3)) (kk : sf_G X V nL Q σ' (pc + 3) lv (.int r :: st)) : sf_G X V nL Q σ pc lv stk :=
  sf_goi (fun H locs ls hP hl => sf_runSN C hY hw hM hdd hn hst he hd hP hl) kk
end SFM
