theorem ta_int : Cond.arrayClass .int ∈ sf_tbl := by decide +kernel
theorem ta_boolean : Cond.arrayClass .boolean ∈ sf_tbl := by decide +kernel
theorem tm_117 : (Jvm.Cond.methodLink "SaddleFit$Load" (3 : Nat) ({ cls := "java/lang/Object", name := "<init>", desc := "()V" } : Jvm.MethodName)) ∈ sf_tbl := sf_in (List.mem_append_right _ (List.mem_of_getElem? (i := 117) (by decide +kernel))) rfl
theorem tm_20 : (Jvm.Cond.instanceMethod ({ cls := "java/lang/Object", name := "<init>", desc := "()V" } : Jvm.MethodName)) ∈ sf_tbl := sf_in (List.mem_append_right _ (List.mem_of_getElem? (i := 20) (by decide +kernel))) rfl
set_option maxRecDepth 100000 in
theorem tm_21 : (Jvm.Cond.code ({ cls := "java/lang/Object", name := "<init>", desc := "()V" } : Jvm.MethodName) object_method_1_code (1 : Nat) (Option.none : Option Jvm.ClassFile.FieldType)) ∈ sf_tbl := sf_in (List.mem_append_right _ (List.mem_of_getElem? (i := 21) rfl)) rfl
theorem tm_52 : (Jvm.Cond.methodLink "SaddleFit$Shop" (3 : Nat) ({ cls := "java/lang/Object", name := "<init>", desc := "()V" } : Jvm.MethodName)) ∈ sf_tbl := sf_in (List.mem_append_right _ (List.mem_of_getElem? (i := 52) (by decide +kernel))) rfl
theorem tm_27 : (Jvm.Cond.methodLink "SaddleFit$Reader" (3 : Nat) ({ cls := "java/lang/Object", name := "<init>", desc := "()V" } : Jvm.MethodName)) ∈ sf_tbl := sf_in (List.mem_append_right _ (List.mem_of_getElem? (i := 27) (by decide +kernel))) rfl
theorem tm_109 : (Jvm.Cond.methodLink "SaddleFit$Scale" (3 : Nat) ({ cls := "java/lang/Object", name := "<init>", desc := "()V" } : Jvm.MethodName)) ∈ sf_tbl := sf_in (List.mem_append_right _ (List.mem_of_getElem? (i := 109) (by decide +kernel))) rfl
theorem tm_110 : (Jvm.Cond.classLink "SaddleFit$Scale" (9 : Nat) "SaddleFit$Shop") ∈ sf_tbl := sf_in (List.mem_append_right _ (List.mem_of_getElem? (i := 110) (by decide +kernel))) rfl
theorem tm_48 : (Jvm.Cond.instantiable "SaddleFit$Shop" (9 : Nat)) ∈ sf_tbl := sf_in (List.mem_append_right _ (List.mem_of_getElem? (i := 48) (by decide +kernel))) rfl
theorem tm_111 : (Jvm.Cond.methodLinkNest "SaddleFit$Scale" (11 : Nat) ({ cls := "SaddleFit$Shop", name := "<init>", desc := "()V" } : Jvm.MethodName) "SaddleFit") ∈ lw_tbl := List.mem_append_right _ (List.mem_of_getElem? (i := 111) (by decide +kernel))
theorem tm_50 : (Jvm.Cond.instanceMethod ({ cls := "SaddleFit$Shop", name := "<init>", desc := "()V" } : Jvm.MethodName)) ∈ sf_tbl := sf_in (List.mem_append_right _ (List.mem_of_getElem? (i := 50) (by decide +kernel))) rfl
set_option maxRecDepth 100000 in
theorem tm_51 : (Jvm.Cond.code ({ cls := "SaddleFit$Shop", name := "<init>", desc := "()V" } : Jvm.MethodName) prog_9_method_1_code (1 : Nat) (Option.none : Option Jvm.ClassFile.FieldType)) ∈ sf_tbl := sf_in (List.mem_append_right _ (List.mem_of_getElem? (i := 51) rfl)) rfl
theorem tm_112 : (Jvm.Cond.classLink "SaddleFit$Scale" (18 : Nat) "SaddleFit$Load") ∈ sf_tbl := sf_in (List.mem_append_right _ (List.mem_of_getElem? (i := 112) (by decide +kernel))) rfl
theorem tm_113 : (Jvm.Cond.instantiable "SaddleFit$Load" (7 : Nat)) ∈ sf_tbl := sf_in (List.mem_append_right _ (List.mem_of_getElem? (i := 113) (by decide +kernel))) rfl
theorem tm_114 : (Jvm.Cond.methodLink "SaddleFit$Scale" (20 : Nat) ({ cls := "SaddleFit$Load", name := "<init>", desc := "()V" } : Jvm.MethodName)) ∈ sf_tbl := sf_in (List.mem_append_right _ (List.mem_of_getElem? (i := 114) (by decide +kernel))) rfl
theorem tm_115 : (Jvm.Cond.instanceMethod ({ cls := "SaddleFit$Load", name := "<init>", desc := "()V" } : Jvm.MethodName)) ∈ sf_tbl := sf_in (List.mem_append_right _ (List.mem_of_getElem? (i := 115) (by decide +kernel))) rfl
set_option maxRecDepth 100000 in
theorem tm_116 : (Jvm.Cond.code ({ cls := "SaddleFit$Load", name := "<init>", desc := "()V" } : Jvm.MethodName) prog_5_method_1_code (2 : Nat) (Option.none : Option Jvm.ClassFile.FieldType)) ∈ sf_tbl := sf_in (List.mem_append_right _ (List.mem_of_getElem? (i := 116) rfl)) rfl
theorem tm_176 : (Jvm.Cond.methodLink "SaddleFit$Fitting" (3 : Nat) ({ cls := "java/lang/Object", name := "<init>", desc := "()V" } : Jvm.MethodName)) ∈ sf_tbl := sf_in (List.mem_append_right _ (List.mem_of_getElem? (i := 176) (by decide +kernel))) rfl
theorem tm_204 : (Jvm.Cond.methodLink "SaddleFit$Unloading" (3 : Nat) ({ cls := "java/lang/Object", name := "<init>", desc := "()V" } : Jvm.MethodName)) ∈ sf_tbl := sf_in (List.mem_append_right _ (List.mem_of_getElem? (i := 204) (by decide +kernel))) rfl
theorem tm_219 : (Jvm.Cond.methodLink "SaddleFit$Past" (3 : Nat) ({ cls := "java/lang/Object", name := "<init>", desc := "()V" } : Jvm.MethodName)) ∈ sf_tbl := sf_in (List.mem_append_right _ (List.mem_of_getElem? (i := 219) (by decide +kernel))) rfl
theorem tm_220 : (Jvm.Cond.classLink "SaddleFit$Past" (9 : Nat) "SaddleFit$Load") ∈ sf_tbl := sf_in (List.mem_append_right _ (List.mem_of_getElem? (i := 220) (by decide +kernel))) rfl
theorem tm_222 : (Jvm.Cond.methodLink "SaddleFit$Past" (17 : Nat) ({ cls := "SaddleFit$Load", name := "<init>", desc := "()V" } : Jvm.MethodName)) ∈ sf_tbl := sf_in (List.mem_append_right _ (List.mem_of_getElem? (i := 222) (by decide +kernel))) rfl
theorem tm_239 : (Jvm.Cond.methodLink "SaddleFit$Feelings" (3 : Nat) ({ cls := "java/lang/Object", name := "<init>", desc := "()V" } : Jvm.MethodName)) ∈ sf_tbl := sf_in (List.mem_append_right _ (List.mem_of_getElem? (i := 239) (by decide +kernel))) rfl
theorem tm_269 : (Jvm.Cond.methodLink "SaddleFit$Book" (3 : Nat) ({ cls := "java/lang/Object", name := "<init>", desc := "()V" } : Jvm.MethodName)) ∈ sf_tbl := sf_in (List.mem_append_right _ (List.mem_of_getElem? (i := 269) (by decide +kernel))) rfl
theorem tm_19 : (Jvm.Cond.methodLink "SaddleFit" (1 : Nat) ({ cls := "java/lang/Object", name := "<init>", desc := "()V" } : Jvm.MethodName)) ∈ sf_tbl := sf_in (List.mem_append_right _ (List.mem_of_getElem? (i := 19) (by decide +kernel))) rfl
theorem tm_22 : (Jvm.Cond.classLink "SaddleFit" (7 : Nat) "SaddleFit$Reader") ∈ sf_tbl := sf_in (List.mem_append_right _ (List.mem_of_getElem? (i := 22) (by decide +kernel))) rfl
theorem tm_23 : (Jvm.Cond.instantiable "SaddleFit$Reader" (5 : Nat)) ∈ sf_tbl := sf_in (List.mem_append_right _ (List.mem_of_getElem? (i := 23) (by decide +kernel))) rfl
theorem tm_24 : (Jvm.Cond.methodLinkNest "SaddleFit" (9 : Nat) ({ cls := "SaddleFit$Reader", name := "<init>", desc := "()V" } : Jvm.MethodName) "SaddleFit") ∈ lw_tbl := List.mem_append_right _ (List.mem_of_getElem? (i := 24) (by decide +kernel))
theorem tm_25 : (Jvm.Cond.instanceMethod ({ cls := "SaddleFit$Reader", name := "<init>", desc := "()V" } : Jvm.MethodName)) ∈ sf_tbl := sf_in (List.mem_append_right _ (List.mem_of_getElem? (i := 25) (by decide +kernel))) rfl
set_option maxRecDepth 100000 in
theorem tm_26 : (Jvm.Cond.code ({ cls := "SaddleFit$Reader", name := "<init>", desc := "()V" } : Jvm.MethodName) prog_7_method_1_code (1 : Nat) (Option.none : Option Jvm.ClassFile.FieldType)) ∈ sf_tbl := sf_in (List.mem_append_right _ (List.mem_of_getElem? (i := 26) rfl)) rfl
theorem tm_47 : (Jvm.Cond.classLink "SaddleFit" (16 : Nat) "SaddleFit$Shop") ∈ sf_tbl := sf_in (List.mem_append_right _ (List.mem_of_getElem? (i := 47) (by decide +kernel))) rfl
theorem tm_49 : (Jvm.Cond.methodLinkNest "SaddleFit" (18 : Nat) ({ cls := "SaddleFit$Shop", name := "<init>", desc := "()V" } : Jvm.MethodName) "SaddleFit") ∈ lw_tbl := List.mem_append_right _ (List.mem_of_getElem? (i := 49) (by decide +kernel))
theorem tm_104 : (Jvm.Cond.classLink "SaddleFit" (23 : Nat) "SaddleFit$Scale") ∈ sf_tbl := sf_in (List.mem_append_right _ (List.mem_of_getElem? (i := 104) (by decide +kernel))) rfl
theorem tm_105 : (Jvm.Cond.instantiable "SaddleFit$Scale" (2 : Nat)) ∈ sf_tbl := sf_in (List.mem_append_right _ (List.mem_of_getElem? (i := 105) (by decide +kernel))) rfl
theorem tm_106 : (Jvm.Cond.methodLinkNest "SaddleFit" (25 : Nat) ({ cls := "SaddleFit$Scale", name := "<init>", desc := "()V" } : Jvm.MethodName) "SaddleFit") ∈ lw_tbl := List.mem_append_right _ (List.mem_of_getElem? (i := 106) (by decide +kernel))
theorem tm_107 : (Jvm.Cond.instanceMethod ({ cls := "SaddleFit$Scale", name := "<init>", desc := "()V" } : Jvm.MethodName)) ∈ sf_tbl := sf_in (List.mem_append_right _ (List.mem_of_getElem? (i := 107) (by decide +kernel))) rfl
set_option maxRecDepth 100000 in
theorem tm_108 : (Jvm.Cond.code ({ cls := "SaddleFit$Scale", name := "<init>", desc := "()V" } : Jvm.MethodName) prog_8_method_1_code (1 : Nat) (Option.none : Option Jvm.ClassFile.FieldType)) ∈ sf_tbl := sf_in (List.mem_append_right _ (List.mem_of_getElem? (i := 108) rfl)) rfl
theorem tm_159 : (Jvm.Cond.fieldLink "SaddleFit" (30 : Nat) "SaddleFit$Scale" "shop" "LSaddleFit$Shop;") ∈ sf_tbl := sf_in (List.mem_append_right _ (List.mem_of_getElem? (i := 159) (by decide +kernel))) rfl
theorem tm_163 : (Jvm.Cond.fieldLink "SaddleFit" (34 : Nat) "SaddleFit$Scale" "load" "LSaddleFit$Load;") ∈ sf_tbl := sf_in (List.mem_append_right _ (List.mem_of_getElem? (i := 163) (by decide +kernel))) rfl
theorem tm_171 : (Jvm.Cond.classLink "SaddleFit" (39 : Nat) "SaddleFit$Fitting") ∈ sf_tbl := sf_in (List.mem_append_right _ (List.mem_of_getElem? (i := 171) (by decide +kernel))) rfl
theorem tm_172 : (Jvm.Cond.instantiable "SaddleFit$Fitting" (6 : Nat)) ∈ sf_tbl := sf_in (List.mem_append_right _ (List.mem_of_getElem? (i := 172) (by decide +kernel))) rfl
theorem tm_173 : (Jvm.Cond.methodLinkNest "SaddleFit" (41 : Nat) ({ cls := "SaddleFit$Fitting", name := "<init>", desc := "()V" } : Jvm.MethodName) "SaddleFit") ∈ lw_tbl := List.mem_append_right _ (List.mem_of_getElem? (i := 173) (by decide +kernel))
theorem tm_174 : (Jvm.Cond.instanceMethod ({ cls := "SaddleFit$Fitting", name := "<init>", desc := "()V" } : Jvm.MethodName)) ∈ sf_tbl := sf_in (List.mem_append_right _ (List.mem_of_getElem? (i := 174) (by decide +kernel))) rfl
set_option maxRecDepth 100000 in
theorem tm_175 : (Jvm.Cond.code ({ cls := "SaddleFit$Fitting", name := "<init>", desc := "()V" } : Jvm.MethodName) prog_4_method_1_code (1 : Nat) (Option.none : Option Jvm.ClassFile.FieldType)) ∈ sf_tbl := sf_in (List.mem_append_right _ (List.mem_of_getElem? (i := 175) rfl)) rfl
theorem tm_199 : (Jvm.Cond.classLink "SaddleFit" (46 : Nat) "SaddleFit$Unloading") ∈ sf_tbl := sf_in (List.mem_append_right _ (List.mem_of_getElem? (i := 199) (by decide +kernel))) rfl
theorem tm_200 : (Jvm.Cond.instantiable "SaddleFit$Unloading" (2 : Nat)) ∈ sf_tbl := sf_in (List.mem_append_right _ (List.mem_of_getElem? (i := 200) (by decide +kernel))) rfl
theorem tm_201 : (Jvm.Cond.methodLinkNest "SaddleFit" (48 : Nat) ({ cls := "SaddleFit$Unloading", name := "<init>", desc := "()V" } : Jvm.MethodName) "SaddleFit") ∈ lw_tbl := List.mem_append_right _ (List.mem_of_getElem? (i := 201) (by decide +kernel))
theorem tm_202 : (Jvm.Cond.instanceMethod ({ cls := "SaddleFit$Unloading", name := "<init>", desc := "()V" } : Jvm.MethodName)) ∈ sf_tbl := sf_in (List.mem_append_right _ (List.mem_of_getElem? (i := 202) (by decide +kernel))) rfl
set_option maxRecDepth 100000 in
theorem tm_203 : (Jvm.Cond.code ({ cls := "SaddleFit$Unloading", name := "<init>", desc := "()V" } : Jvm.MethodName) prog_10_method_1_code (1 : Nat) (Option.none : Option Jvm.ClassFile.FieldType)) ∈ sf_tbl := sf_in (List.mem_append_right _ (List.mem_of_getElem? (i := 203) rfl)) rfl
theorem tm_214 : (Jvm.Cond.classLink "SaddleFit" (53 : Nat) "SaddleFit$Past") ∈ sf_tbl := sf_in (List.mem_append_right _ (List.mem_of_getElem? (i := 214) (by decide +kernel))) rfl
theorem tm_215 : (Jvm.Cond.instantiable "SaddleFit$Past" (3 : Nat)) ∈ sf_tbl := sf_in (List.mem_append_right _ (List.mem_of_getElem? (i := 215) (by decide +kernel))) rfl
theorem tm_216 : (Jvm.Cond.methodLink "SaddleFit" (55 : Nat) ({ cls := "SaddleFit$Past", name := "<init>", desc := "()V" } : Jvm.MethodName)) ∈ sf_tbl := sf_in (List.mem_append_right _ (List.mem_of_getElem? (i := 216) (by decide +kernel))) rfl
theorem tm_217 : (Jvm.Cond.instanceMethod ({ cls := "SaddleFit$Past", name := "<init>", desc := "()V" } : Jvm.MethodName)) ∈ sf_tbl := sf_in (List.mem_append_right _ (List.mem_of_getElem? (i := 217) (by decide +kernel))) rfl
set_option maxRecDepth 100000 in
theorem tm_218 : (Jvm.Cond.code ({ cls := "SaddleFit$Past", name := "<init>", desc := "()V" } : Jvm.MethodName) prog_6_method_1_code (2 : Nat) (Option.none : Option Jvm.ClassFile.FieldType)) ∈ sf_tbl := sf_in (List.mem_append_right _ (List.mem_of_getElem? (i := 218) rfl)) rfl
theorem tm_234 : (Jvm.Cond.classLink "SaddleFit" (60 : Nat) "SaddleFit$Feelings") ∈ sf_tbl := sf_in (List.mem_append_right _ (List.mem_of_getElem? (i := 234) (by decide +kernel))) rfl
theorem tm_235 : (Jvm.Cond.instantiable "SaddleFit$Feelings" (7 : Nat)) ∈ sf_tbl := sf_in (List.mem_append_right _ (List.mem_of_getElem? (i := 235) (by decide +kernel))) rfl
theorem tm_236 : (Jvm.Cond.methodLinkNest "SaddleFit" (62 : Nat) ({ cls := "SaddleFit$Feelings", name := "<init>", desc := "()V" } : Jvm.MethodName) "SaddleFit") ∈ lw_tbl := List.mem_append_right _ (List.mem_of_getElem? (i := 236) (by decide +kernel))
theorem tm_237 : (Jvm.Cond.instanceMethod ({ cls := "SaddleFit$Feelings", name := "<init>", desc := "()V" } : Jvm.MethodName)) ∈ sf_tbl := sf_in (List.mem_append_right _ (List.mem_of_getElem? (i := 237) (by decide +kernel))) rfl
set_option maxRecDepth 100000 in
theorem tm_238 : (Jvm.Cond.code ({ cls := "SaddleFit$Feelings", name := "<init>", desc := "()V" } : Jvm.MethodName) prog_3_method_1_code (1 : Nat) (Option.none : Option Jvm.ClassFile.FieldType)) ∈ sf_tbl := sf_in (List.mem_append_right _ (List.mem_of_getElem? (i := 238) rfl)) rfl
theorem tm_264 : (Jvm.Cond.classLink "SaddleFit" (67 : Nat) "SaddleFit$Book") ∈ sf_tbl := sf_in (List.mem_append_right _ (List.mem_of_getElem? (i := 264) (by decide +kernel))) rfl
theorem tm_265 : (Jvm.Cond.instantiable "SaddleFit$Book" (3 : Nat)) ∈ sf_tbl := sf_in (List.mem_append_right _ (List.mem_of_getElem? (i := 265) (by decide +kernel))) rfl
theorem tm_266 : (Jvm.Cond.methodLinkNest "SaddleFit" (69 : Nat) ({ cls := "SaddleFit$Book", name := "<init>", desc := "()V" } : Jvm.MethodName) "SaddleFit") ∈ lw_tbl := List.mem_append_right _ (List.mem_of_getElem? (i := 266) (by decide +kernel))
theorem tm_267 : (Jvm.Cond.instanceMethod ({ cls := "SaddleFit$Book", name := "<init>", desc := "()V" } : Jvm.MethodName)) ∈ sf_tbl := sf_in (List.mem_append_right _ (List.mem_of_getElem? (i := 267) (by decide +kernel))) rfl
set_option maxRecDepth 100000 in
theorem tm_268 : (Jvm.Cond.code ({ cls := "SaddleFit$Book", name := "<init>", desc := "()V" } : Jvm.MethodName) prog_2_method_1_code (1 : Nat) (Option.none : Option Jvm.ClassFile.FieldType)) ∈ sf_tbl := sf_in (List.mem_append_right _ (List.mem_of_getElem? (i := 268) rfl)) rfl
theorem tm_281 : (Jvm.Cond.classLink "SaddleFit" (74 : Nat) "SaddleFit$Load") ∈ sf_tbl := sf_in (List.mem_append_right _ (List.mem_of_getElem? (i := 281) (by decide +kernel))) rfl
theorem tm_282 : (Jvm.Cond.methodLink "SaddleFit" (88 : Nat) ({ cls := "SaddleFit$Load", name := "<init>", desc := "()V" } : Jvm.MethodName)) ∈ sf_tbl := sf_in (List.mem_append_right _ (List.mem_of_getElem? (i := 282) (by decide +kernel))) rfl
theorem tm_804 : (Jvm.Cond.methodLink "SaddleFitModel" (1 : Nat) ({ cls := "java/lang/Object", name := "<init>", desc := "()V" } : Jvm.MethodName)) ∈ sf_tbl := sf_in (List.mem_append_right _ (List.mem_of_getElem? (i := 804) (by decide +kernel))) rfl
theorem fl_9_30 : sf_F RX9 30 6 0 := ⟨RX6, TX6, 2, tyX6, rfl, by decide, tm_159, inX6, tyX6_ok, nmX6⟩
theorem fl_9_34 : sf_F RX9 34 6 1 := ⟨RX6, TX6, 2, tyX6, rfl, by decide, tm_163, inX6, tyX6_ok, nmX6⟩
theorem yk_X7_init : sf_Y yX7_init cX7_init 1 none 0 := ⟨tm_51, tm_3, ⟨by decide, by decide, by decide +kernel⟩, by decide⟩
theorem yk_X3_init : sf_Y yX3_init cX3_init 2 none 0 := ⟨tm_116, tm_5, ⟨by decide, by decide, by decide +kernel⟩, by decide⟩
theorem yk_X5_init : sf_Y yX5_init cX5_init 1 none 0 := ⟨tm_26, tm_2, ⟨by decide, by decide, by decide +kernel⟩, by decide⟩
theorem yk_X6_init : sf_Y yX6_init cX6_init 1 none 0 := ⟨tm_108, tm_4, ⟨by decide, by decide, by decide +kernel⟩, by decide⟩
theorem yk_X2_init : sf_Y yX2_init cX2_init 1 none 0 := ⟨tm_175, tm_6, ⟨by decide, by decide, by decide +kernel⟩, by decide⟩
theorem yk_X8_init : sf_Y yX8_init cX8_init 1 none 0 := ⟨tm_203, tm_7, ⟨by decide, by decide, by decide +kernel⟩, by decide⟩
theorem yk_X4_init : sf_Y yX4_init cX4_init 2 none 0 := ⟨tm_218, tm_8, ⟨by decide, by decide, by decide +kernel⟩, by decide⟩
theorem yk_X1_init : sf_Y yX1_init cX1_init 1 none 0 := ⟨tm_238, tm_9, ⟨by decide, by decide, by decide +kernel⟩, by decide⟩
theorem yk_X0_init : sf_Y yX0_init cX0_init 1 none 0 := ⟨tm_268, tm_10, ⟨by decide, by decide, by decide +kernel⟩, by decide⟩
theorem bo_3_3 : Cond.methodLink RX3 3 Lib.objectInit ∈ sf_tbl ∧ Cond.instanceMethod Lib.objectInit ∈ sf_tbl ∧ Cond.code Lib.objectInit ⟨#[0xb1]⟩ 1 none ∈ sf_tbl := ⟨tm_117, tm_20, tm_21⟩
theorem bf_3_9 : sq_F RX3 9 3 2 (.array .int) := ⟨TX3, 7, tyX3, rfl, by decide, tm_125, inX3, tyX3_ok, nmX3, rfl, rfl, by decide +kernel⟩
theorem bf_3_15 : sq_F RX3 15 3 3 (.array .int) := ⟨TX3, 7, tyX3, rfl, by decide, tm_129, inX3, tyX3_ok, nmX3, rfl, rfl, by decide +kernel⟩
theorem bf_3_18 : sq_F RX3 18 3 4 (.array .int) := ⟨TX3, 7, tyX3, rfl, by decide, tm_132, inX3, tyX3_ok, nmX3, rfl, rfl, by decide +kernel⟩
theorem bf_3_21 : sq_F RX3 21 3 5 (.array .int) := ⟨TX3, 7, tyX3, rfl, by decide, tm_135, inX3, tyX3_ok, nmX3, rfl, rfl, by decide +kernel⟩
theorem bf_3_24 : sq_F RX3 24 3 6 (.array .int) := ⟨TX3, 7, tyX3, rfl, by decide, tm_138, inX3, tyX3_ok, nmX3, rfl, rfl, by decide +kernel⟩
theorem bo_7_3 : Cond.methodLink RX7 3 Lib.objectInit ∈ sf_tbl ∧ Cond.instanceMethod Lib.objectInit ∈ sf_tbl ∧ Cond.code Lib.objectInit ⟨#[0xb1]⟩ 1 none ∈ sf_tbl := ⟨tm_52, tm_20, tm_21⟩
theorem bf_7_9 : sq_F RX7 9 7 4 (.array .int) := ⟨TX7, 9, tyX7, rfl, by decide, tm_70, inX7, tyX7_ok, nmX7, rfl, rfl, by decide +kernel⟩
theorem bf_7_15 : sq_F RX7 15 7 5 (.array .int) := ⟨TX7, 9, tyX7, rfl, by decide, tm_73, inX7, tyX7_ok, nmX7, rfl, rfl, by decide +kernel⟩
theorem bf_7_18 : sq_F RX7 18 7 6 (.array .int) := ⟨TX7, 9, tyX7, rfl, by decide, tm_75, inX7, tyX7_ok, nmX7, rfl, rfl, by decide +kernel⟩
theorem bf_7_21 : sq_F RX7 21 7 7 (.array .int) := ⟨TX7, 9, tyX7, rfl, by decide, tm_78, inX7, tyX7_ok, nmX7, rfl, rfl, by decide +kernel⟩
theorem bf_7_24 : sq_F RX7 24 7 8 (.array .int) := ⟨TX7, 9, tyX7, rfl, by decide, tm_82, inX7, tyX7_ok, nmX7, rfl, rfl, by decide +kernel⟩
theorem bo_5_3 : Cond.methodLink RX5 3 Lib.objectInit ∈ sf_tbl ∧ Cond.instanceMethod Lib.objectInit ∈ sf_tbl ∧ Cond.code Lib.objectInit ⟨#[0xb1]⟩ 1 none ∈ sf_tbl := ⟨tm_27, tm_20, tm_21⟩
theorem bf_5_15 : sq_F RX5 15 5 2 (.array .int) := ⟨TX5, 5, tyX5, rfl, by decide, tm_32, inX5, tyX5_ok, nmX5, rfl, rfl, by decide +kernel⟩
theorem bo_6_3 : Cond.methodLink RX6 3 Lib.objectInit ∈ sf_tbl ∧ Cond.instanceMethod Lib.objectInit ∈ sf_tbl ∧ Cond.code Lib.objectInit ⟨#[0xb1]⟩ 1 none ∈ sf_tbl := ⟨tm_109, tm_20, tm_21⟩
theorem bn_6_9 : Cond.classLink RX6 9 RX7 ∈ sf_tbl ∧ Cond.instantiable RX7 9 ∈ sf_tbl ∧ Cond.initialized RX7 ∈ sf_tbl := ⟨tm_110, tm_48, tm_3⟩
theorem bi_6_11 : Cond.methodLinkNest RX6 11 yX7_init "SaddleFit" ∈ lw_tbl ∧ Cond.instanceMethod yX7_init ∈ sf_tbl := ⟨tm_111, tm_50⟩
theorem bf_6_12 : sq_F RX6 12 6 0 (.object "SaddleFit$Shop") := ⟨TX6, 2, tyX6, rfl, by decide, tm_158, inX6, tyX6_ok, nmX6, rfl, rfl, by decide +kernel⟩
theorem bn_6_18 : Cond.classLink RX6 18 RX3 ∈ sf_tbl ∧ Cond.instantiable RX3 7 ∈ sf_tbl ∧ Cond.initialized RX3 ∈ sf_tbl := ⟨tm_112, tm_113, tm_5⟩
theorem bi_6_20 : Cond.methodLink RX6 20 yX3_init ∈ sf_tbl ∧ Cond.instanceMethod yX3_init ∈ sf_tbl := ⟨tm_114, tm_115⟩
theorem bf_6_21 : sq_F RX6 21 6 1 (.object "SaddleFit$Load") := ⟨TX6, 2, tyX6, rfl, by decide, tm_162, inX6, tyX6_ok, nmX6, rfl, rfl, by decide +kernel⟩
theorem bo_2_3 : Cond.methodLink RX2 3 Lib.objectInit ∈ sf_tbl ∧ Cond.instanceMethod Lib.objectInit ∈ sf_tbl ∧ Cond.code Lib.objectInit ⟨#[0xb1]⟩ 1 none ∈ sf_tbl := ⟨tm_176, tm_20, tm_21⟩
theorem bf_2_9 : sq_F RX2 9 2 2 (.array .int) := ⟨TX2, 6, tyX2, rfl, by decide, tm_181, inX2, tyX2_ok, nmX2, rfl, rfl, by decide +kernel⟩
theorem bf_2_15 : sq_F RX2 15 2 3 (.array .int) := ⟨TX2, 6, tyX2, rfl, by decide, tm_183, inX2, tyX2_ok, nmX2, rfl, rfl, by decide +kernel⟩
theorem bf_2_18 : sq_F RX2 18 2 4 (.array .int) := ⟨TX2, 6, tyX2, rfl, by decide, tm_184, inX2, tyX2_ok, nmX2, rfl, rfl, by decide +kernel⟩
theorem bo_8_3 : Cond.methodLink RX8 3 Lib.objectInit ∈ sf_tbl ∧ Cond.instanceMethod Lib.objectInit ∈ sf_tbl ∧ Cond.code Lib.objectInit ⟨#[0xb1]⟩ 1 none ∈ sf_tbl := ⟨tm_204, tm_20, tm_21⟩
theorem bo_4_3 : Cond.methodLink RX4 3 Lib.objectInit ∈ sf_tbl ∧ Cond.instanceMethod Lib.objectInit ∈ sf_tbl ∧ Cond.code Lib.objectInit ⟨#[0xb1]⟩ 1 none ∈ sf_tbl := ⟨tm_219, tm_20, tm_21⟩
theorem bl_4_9 : Cond.classLink RX4 9 "SaddleFit$Load" ∈ sf_tbl := tm_220
theorem bf_4_11 : sq_F RX4 11 4 2 (.array (.object "SaddleFit$Load")) := ⟨TX4, 3, tyX4, rfl, by decide, tm_226, inX4, tyX4_ok, nmX4, rfl, rfl, by decide +kernel⟩
theorem bn_4_9 : Cond.classLink RX4 9 RX3 ∈ sf_tbl ∧ Cond.instantiable RX3 7 ∈ sf_tbl ∧ Cond.initialized RX3 ∈ sf_tbl := ⟨tm_220, tm_113, tm_5⟩
theorem bi_4_17 : Cond.methodLink RX4 17 yX3_init ∈ sf_tbl ∧ Cond.instanceMethod yX3_init ∈ sf_tbl := ⟨tm_222, tm_115⟩
theorem bo_1_3 : Cond.methodLink RX1 3 Lib.objectInit ∈ sf_tbl ∧ Cond.instanceMethod Lib.objectInit ∈ sf_tbl ∧ Cond.code Lib.objectInit ⟨#[0xb1]⟩ 1 none ∈ sf_tbl := ⟨tm_239, tm_20, tm_21⟩
theorem bf_1_9 : sq_F RX1 9 1 2 (.array .int) := ⟨TX1, 7, tyX1, rfl, by decide, tm_244, inX1, tyX1_ok, nmX1, rfl, rfl, by decide +kernel⟩
theorem bf_1_15 : sq_F RX1 15 1 3 (.array .int) := ⟨TX1, 7, tyX1, rfl, by decide, tm_245, inX1, tyX1_ok, nmX1, rfl, rfl, by decide +kernel⟩
theorem bf_1_18 : sq_F RX1 18 1 4 (.array .int) := ⟨TX1, 7, tyX1, rfl, by decide, tm_246, inX1, tyX1_ok, nmX1, rfl, rfl, by decide +kernel⟩
theorem bf_1_21 : sq_F RX1 21 1 5 (.array .int) := ⟨TX1, 7, tyX1, rfl, by decide, tm_247, inX1, tyX1_ok, nmX1, rfl, rfl, by decide +kernel⟩
theorem bf_1_24 : sq_F RX1 24 1 6 (.array .int) := ⟨TX1, 7, tyX1, rfl, by decide, tm_248, inX1, tyX1_ok, nmX1, rfl, rfl, by decide +kernel⟩
theorem bo_0_3 : Cond.methodLink RX0 3 Lib.objectInit ∈ sf_tbl ∧ Cond.instanceMethod Lib.objectInit ∈ sf_tbl ∧ Cond.code Lib.objectInit ⟨#[0xb1]⟩ 1 none ∈ sf_tbl := ⟨tm_269, tm_20, tm_21⟩
theorem bf_0_9 : sq_F RX0 9 0 1 (.array .int) := ⟨TX0, 3, tyX0, rfl, by decide, tm_272, inX0, tyX0_ok, nmX0, rfl, rfl, by decide +kernel⟩
theorem bf_0_15 : sq_F RX0 15 0 2 (.array .int) := ⟨TX0, 3, tyX0, rfl, by decide, tm_273, inX0, tyX0_ok, nmX0, rfl, rfl, by decide +kernel⟩
theorem bo_9_1 : Cond.methodLink RX9 1 Lib.objectInit ∈ sf_tbl ∧ Cond.instanceMethod Lib.objectInit ∈ sf_tbl ∧ Cond.code Lib.objectInit ⟨#[0xb1]⟩ 1 none ∈ sf_tbl := ⟨tm_19, tm_20, tm_21⟩
theorem bn_9_7 : Cond.classLink RX9 7 RX5 ∈ sf_tbl ∧ Cond.instantiable RX5 5 ∈ sf_tbl ∧ Cond.initialized RX5 ∈ sf_tbl := ⟨tm_22, tm_23, tm_2⟩
theorem bi_9_9 : Cond.methodLinkNest RX9 9 yX5_init "SaddleFit" ∈ lw_tbl ∧ Cond.instanceMethod yX5_init ∈ sf_tbl := ⟨tm_24, tm_25⟩
theorem bf_9_10 : sq_F RX9 10 9 0 (.object "SaddleFit$Reader") := ⟨TX9, 14, tyX9, rfl, by decide, tm_283, inX9, tyX9_ok, nmX9, rfl, rfl, by decide +kernel⟩
theorem bn_9_16 : Cond.classLink RX9 16 RX7 ∈ sf_tbl ∧ Cond.instantiable RX7 9 ∈ sf_tbl ∧ Cond.initialized RX7 ∈ sf_tbl := ⟨tm_47, tm_48, tm_3⟩
theorem bi_9_18 : Cond.methodLinkNest RX9 18 yX7_init "SaddleFit" ∈ lw_tbl ∧ Cond.instanceMethod yX7_init ∈ sf_tbl := ⟨tm_49, tm_50⟩
theorem bf_9_19 : sq_F RX9 19 9 1 (.object "SaddleFit$Shop") := ⟨TX9, 14, tyX9, rfl, by decide, tm_284, inX9, tyX9_ok, nmX9, rfl, rfl, by decide +kernel⟩
theorem bn_9_23 : Cond.classLink RX9 23 RX6 ∈ sf_tbl ∧ Cond.instantiable RX6 2 ∈ sf_tbl ∧ Cond.initialized RX6 ∈ sf_tbl := ⟨tm_104, tm_105, tm_4⟩
theorem bi_9_25 : Cond.methodLinkNest RX9 25 yX6_init "SaddleFit" ∈ lw_tbl ∧ Cond.instanceMethod yX6_init ∈ sf_tbl := ⟨tm_106, tm_107⟩
theorem bf_9_26 : sq_F RX9 26 9 2 (.object "SaddleFit$Scale") := ⟨TX9, 14, tyX9, rfl, by decide, tm_285, inX9, tyX9_ok, nmX9, rfl, rfl, by decide +kernel⟩
theorem bf_9_33 : sq_F RX9 33 9 3 (.object "SaddleFit$Shop") := ⟨TX9, 14, tyX9, rfl, by decide, tm_286, inX9, tyX9_ok, nmX9, rfl, rfl, by decide +kernel⟩
theorem bf_9_38 : sq_F RX9 38 9 4 (.object "SaddleFit$Load") := ⟨TX9, 14, tyX9, rfl, by decide, tm_287, inX9, tyX9_ok, nmX9, rfl, rfl, by decide +kernel⟩
theorem bn_9_39 : Cond.classLink RX9 39 RX2 ∈ sf_tbl ∧ Cond.instantiable RX2 6 ∈ sf_tbl ∧ Cond.initialized RX2 ∈ sf_tbl := ⟨tm_171, tm_172, tm_6⟩
theorem bi_9_41 : Cond.methodLinkNest RX9 41 yX2_init "SaddleFit" ∈ lw_tbl ∧ Cond.instanceMethod yX2_init ∈ sf_tbl := ⟨tm_173, tm_174⟩
theorem bf_9_42 : sq_F RX9 42 9 5 (.object "SaddleFit$Fitting") := ⟨TX9, 14, tyX9, rfl, by decide, tm_288, inX9, tyX9_ok, nmX9, rfl, rfl, by decide +kernel⟩
theorem bn_9_46 : Cond.classLink RX9 46 RX8 ∈ sf_tbl ∧ Cond.instantiable RX8 2 ∈ sf_tbl ∧ Cond.initialized RX8 ∈ sf_tbl := ⟨tm_199, tm_200, tm_7⟩
theorem bi_9_48 : Cond.methodLinkNest RX9 48 yX8_init "SaddleFit" ∈ lw_tbl ∧ Cond.instanceMethod yX8_init ∈ sf_tbl := ⟨tm_201, tm_202⟩
theorem bf_9_49 : sq_F RX9 49 9 6 (.object "SaddleFit$Unloading") := ⟨TX9, 14, tyX9, rfl, by decide, tm_289, inX9, tyX9_ok, nmX9, rfl, rfl, by decide +kernel⟩
theorem bn_9_53 : Cond.classLink RX9 53 RX4 ∈ sf_tbl ∧ Cond.instantiable RX4 3 ∈ sf_tbl ∧ Cond.initialized RX4 ∈ sf_tbl := ⟨tm_214, tm_215, tm_8⟩
theorem bi_9_55 : Cond.methodLink RX9 55 yX4_init ∈ sf_tbl ∧ Cond.instanceMethod yX4_init ∈ sf_tbl := ⟨tm_216, tm_217⟩
theorem bf_9_56 : sq_F RX9 56 9 7 (.object "SaddleFit$Past") := ⟨TX9, 14, tyX9, rfl, by decide, tm_290, inX9, tyX9_ok, nmX9, rfl, rfl, by decide +kernel⟩
theorem bn_9_60 : Cond.classLink RX9 60 RX1 ∈ sf_tbl ∧ Cond.instantiable RX1 7 ∈ sf_tbl ∧ Cond.initialized RX1 ∈ sf_tbl := ⟨tm_234, tm_235, tm_9⟩
theorem bi_9_62 : Cond.methodLinkNest RX9 62 yX1_init "SaddleFit" ∈ lw_tbl ∧ Cond.instanceMethod yX1_init ∈ sf_tbl := ⟨tm_236, tm_237⟩
theorem bf_9_63 : sq_F RX9 63 9 8 (.object "SaddleFit$Feelings") := ⟨TX9, 14, tyX9, rfl, by decide, tm_291, inX9, tyX9_ok, nmX9, rfl, rfl, by decide +kernel⟩
theorem bn_9_67 : Cond.classLink RX9 67 RX0 ∈ sf_tbl ∧ Cond.instantiable RX0 3 ∈ sf_tbl ∧ Cond.initialized RX0 ∈ sf_tbl := ⟨tm_264, tm_265, tm_10⟩
theorem bi_9_69 : Cond.methodLinkNest RX9 69 yX0_init "SaddleFit" ∈ lw_tbl ∧ Cond.instanceMethod yX0_init ∈ sf_tbl := ⟨tm_266, tm_267⟩
theorem bf_9_70 : sq_F RX9 70 9 9 (.object "SaddleFit$Book") := ⟨TX9, 14, tyX9, rfl, by decide, tm_292, inX9, tyX9_ok, nmX9, rfl, rfl, by decide +kernel⟩
theorem bl_9_74 : Cond.classLink RX9 74 "SaddleFit$Load" ∈ sf_tbl := tm_281
theorem bf_9_76 : sq_F RX9 76 9 10 (.array (.object "SaddleFit$Load")) := ⟨TX9, 14, tyX9, rfl, by decide, tm_293, inX9, tyX9_ok, nmX9, rfl, rfl, by decide +kernel⟩
theorem bf_9_80 : sq_F RX9 80 9 11 (.array .int) := ⟨TX9, 14, tyX9, rfl, by decide, tm_294, inX9, tyX9_ok, nmX9, rfl, rfl, by decide +kernel⟩
theorem bf_9_84 : sq_F RX9 84 9 12 (.array .boolean) := ⟨TX9, 14, tyX9, rfl, by decide, tm_295, inX9, tyX9_ok, nmX9, rfl, rfl, by decide +kernel⟩
theorem bn_9_74 : Cond.classLink RX9 74 RX3 ∈ sf_tbl ∧ Cond.instantiable RX3 7 ∈ sf_tbl ∧ Cond.initialized RX3 ∈ sf_tbl := ⟨tm_281, tm_113, tm_5⟩
theorem bi_9_88 : Cond.methodLink RX9 88 yX3_init ∈ sf_tbl ∧ Cond.instanceMethod yX3_init ∈ sf_tbl := ⟨tm_282, tm_115⟩
theorem bo_10_1 : Cond.methodLink RX10 1 Lib.objectInit ∈ sf_tbl ∧ Cond.instanceMethod Lib.objectInit ∈ sf_tbl ∧ Cond.code Lib.objectInit ⟨#[0xb1]⟩ 1 none ∈ sf_tbl := ⟨tm_804, tm_20, tm_21⟩
theorem bf_10_7 : sq_F RX10 7 10 3 (.array .int) := ⟨TX10, 42, tyX10, rfl, by decide, tm_808, inX10, tyX10_ok, nmX10, rfl, rfl, by decide +kernel⟩
theorem bf_10_13 : sq_F RX10 13 10 4 (.array .int) := ⟨TX10, 42, tyX10, rfl, by decide, tm_809, inX10, tyX10_ok, nmX10, rfl, rfl, by decide +kernel⟩
theorem bf_10_16 : sq_F RX10 16 10 5 (.array .int) := ⟨TX10, 42, tyX10, rfl, by decide, tm_810, inX10, tyX10_ok, nmX10, rfl, rfl, by decide +kernel⟩
theorem bf_10_19 : sq_F RX10 19 10 7 (.array .int) := ⟨TX10, 42, tyX10, rfl, by decide, tm_812, inX10, tyX10_ok, nmX10, rfl, rfl, by decide +kernel⟩
theorem bf_10_22 : sq_F RX10 22 10 8 (.array .int) := ⟨TX10, 42, tyX10, rfl, by decide, tm_813, inX10, tyX10_ok, nmX10, rfl, rfl, by decide +kernel⟩
theorem bf_10_25 : sq_F RX10 25 10 9 (.array .int) := ⟨TX10, 42, tyX10, rfl, by decide, tm_814, inX10, tyX10_ok, nmX10, rfl, rfl, by decide +kernel⟩
theorem bf_10_28 : sq_F RX10 28 10 11 (.array .int) := ⟨TX10, 42, tyX10, rfl, by decide, tm_816, inX10, tyX10_ok, nmX10, rfl, rfl, by decide +kernel⟩
theorem bf_10_35 : sq_F RX10 35 10 20 (.array .int) := ⟨TX10, 42, tyX10, rfl, by decide, tm_825, inX10, tyX10_ok, nmX10, rfl, rfl, by decide +kernel⟩
theorem bf_10_38 : sq_F RX10 38 10 21 (.array .int) := ⟨TX10, 42, tyX10, rfl, by decide, tm_826, inX10, tyX10_ok, nmX10, rfl, rfl, by decide +kernel⟩
theorem bf_10_41 : sq_F RX10 41 10 22 (.array .int) := ⟨TX10, 42, tyX10, rfl, by decide, tm_827, inX10, tyX10_ok, nmX10, rfl, rfl, by decide +kernel⟩
theorem bf_10_44 : sq_F RX10 44 10 24 (.array .int) := ⟨TX10, 42, tyX10, rfl, by decide, tm_829, inX10, tyX10_ok, nmX10, rfl, rfl, by decide +kernel⟩
theorem bf_10_47 : sq_F RX10 47 10 25 (.array .int) := ⟨TX10, 42, tyX10, rfl, by decide, tm_830, inX10, tyX10_ok, nmX10, rfl, rfl, by decide +kernel⟩
theorem bf_10_50 : sq_F RX10 50 10 27 (.array .int) := ⟨TX10, 42, tyX10, rfl, by decide, tm_832, inX10, tyX10_ok, nmX10, rfl, rfl, by decide +kernel⟩
theorem bf_10_53 : sq_F RX10 53 10 28 (.array .int) := ⟨TX10, 42, tyX10, rfl, by decide, tm_833, inX10, tyX10_ok, nmX10, rfl, rfl, by decide +kernel⟩
theorem bf_10_56 : sq_F RX10 56 10 31 (.array .int) := ⟨TX10, 42, tyX10, rfl, by decide, tm_836, inX10, tyX10_ok, nmX10, rfl, rfl, by decide +kernel⟩
theorem bf_10_59 : sq_F RX10 59 10 33 (.array .int) := ⟨TX10, 42, tyX10, rfl, by decide, tm_838, inX10, tyX10_ok, nmX10, rfl, rfl, by decide +kernel⟩
theorem bf_10_62 : sq_F RX10 62 10 34 (.array .int) := ⟨TX10, 42, tyX10, rfl, by decide, tm_839, inX10, tyX10_ok, nmX10, rfl, rfl, by decide +kernel⟩
theorem bf_10_65 : sq_F RX10 65 10 35 (.array .int) := ⟨TX10, 42, tyX10, rfl, by decide, tm_840, inX10, tyX10_ok, nmX10, rfl, rfl, by decide +kernel⟩
theorem bf_10_68 : sq_F RX10 68 10 36 (.array .int) := ⟨TX10, 42, tyX10, rfl, by decide, tm_841, inX10, tyX10_ok, nmX10, rfl, rfl, by decide +kernel⟩
theorem bf_10_71 : sq_F RX10 71 10 38 (.array .int) := ⟨TX10, 42, tyX10, rfl, by decide, tm_843, inX10, tyX10_ok, nmX10, rfl, rfl, by decide +kernel⟩
theorem bf_10_74 : sq_F RX10 74 10 39 (.array .int) := ⟨TX10, 42, tyX10, rfl, by decide, tm_844, inX10, tyX10_ok, nmX10, rfl, rfl, by decide +kernel⟩
theorem bf_10_77 : sq_F RX10 77 10 40 (.array .int) := ⟨TX10, 42, tyX10, rfl, by decide, tm_845, inX10, tyX10_ok, nmX10, rfl, rfl, by decide +kernel⟩
theorem bf_10_80 : sq_F RX10 80 10 41 (.array .boolean) := ⟨TX10, 42, tyX10, rfl, by decide, tm_846, inX10, tyX10_ok, nmX10, rfl, rfl, by decide +kernel⟩
