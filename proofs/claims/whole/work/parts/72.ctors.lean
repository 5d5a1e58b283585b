/-! ===== constructors of the inner classes (gen72.py) ===== -/
theorem q39 : (Jvm.Cond.methodLink "SendRules$NameMaker" (3 : Nat) ({ cls := "java/lang/Object", name := "<init>", desc := "()V" } : Jvm.MethodName)) ∈ gtbl := gt_in (List.mem_append_right _ (List.mem_of_getElem? (i := 39) (by decide +kernel))) rfl
theorem q26 : (Jvm.Cond.instanceMethod ({ cls := "java/lang/Object", name := "<init>", desc := "()V" } : Jvm.MethodName)) ∈ gtbl := gt_in (List.mem_append_right _ (List.mem_of_getElem? (i := 26) (by decide +kernel))) rfl
theorem q27 : (Jvm.Cond.code ({ cls := "java/lang/Object", name := "<init>", desc := "()V" } : Jvm.MethodName) object_method_1_code (1 : Nat) (Option.none : Option Jvm.ClassFile.FieldType)) ∈ gtbl := gt_in (List.mem_append_right _ (List.mem_of_getElem? (i := 27) (by decide +kernel))) rfl
theorem q276 : (Jvm.Cond.methodLink "SendRules$Change" (1 : Nat) ({ cls := "java/lang/Object", name := "<init>", desc := "()V" } : Jvm.MethodName)) ∈ gtbl := gt_in (List.mem_append_right _ (List.mem_of_getElem? (i := 276) (by decide +kernel))) rfl
theorem q81 : (Jvm.Cond.methodLink "SendRules$Rule" (3 : Nat) ({ cls := "java/lang/Object", name := "<init>", desc := "()V" } : Jvm.MethodName)) ∈ gtbl := gt_in (List.mem_append_right _ (List.mem_of_getElem? (i := 81) (by decide +kernel))) rfl
theorem q100 : (Jvm.Cond.fieldLink "SendRules$Rule" (9 : Nat) "SendRules$Rule" "parts" "[I") ∈ gtbl := gt_in (List.mem_append_right _ (List.mem_of_getElem? (i := 100) (by decide +kernel))) rfl
theorem q121 : (Jvm.Cond.arrayClass Jvm.ClassFile.FieldType.int) ∈ gtbl := gt_in (List.mem_append_right _ (List.mem_of_getElem? (i := 121) (by decide +kernel))) rfl
theorem q250 : (Jvm.Cond.methodLink "SendRules$KeptCheck" (3 : Nat) ({ cls := "java/lang/Object", name := "<init>", desc := "()V" } : Jvm.MethodName)) ∈ gtbl := gt_in (List.mem_append_right _ (List.mem_of_getElem? (i := 250) (by decide +kernel))) rfl
theorem q195 : (Jvm.Cond.methodLink "SendRules$Evaluator" (3 : Nat) ({ cls := "java/lang/Object", name := "<init>", desc := "()V" } : Jvm.MethodName)) ∈ gtbl := gt_in (List.mem_append_right _ (List.mem_of_getElem? (i := 195) (by decide +kernel))) rfl
theorem q196 : (Jvm.Cond.classLink "SendRules$Evaluator" (9 : Nat) "SendRules$NameMaker") ∈ gtbl := gt_in (List.mem_append_right _ (List.mem_of_getElem? (i := 196) (by decide +kernel))) rfl
theorem q35 : (Jvm.Cond.instantiable "SendRules$NameMaker" (2 : Nat)) ∈ gtbl := gt_in (List.mem_append_right _ (List.mem_of_getElem? (i := 35) (by decide +kernel))) rfl
theorem qn197 : (Jvm.Cond.methodLinkNest "SendRules$Evaluator" (11 : Nat) ({ cls := "SendRules$NameMaker", name := "<init>", desc := "()V" } : Jvm.MethodName) "SendRules") ∈ ntbl := List.mem_filter.mpr ⟨List.mem_of_getElem? (i := 197) (by decide +kernel), rfl⟩
theorem q37 : (Jvm.Cond.instanceMethod ({ cls := "SendRules$NameMaker", name := "<init>", desc := "()V" } : Jvm.MethodName)) ∈ gtbl := gt_in (List.mem_append_right _ (List.mem_of_getElem? (i := 37) (by decide +kernel))) rfl
theorem q38 : (Jvm.Cond.code ({ cls := "SendRules$NameMaker", name := "<init>", desc := "()V" } : Jvm.MethodName) prog_8_method_1_code (1 : Nat) (Option.none : Option Jvm.ClassFile.FieldType)) ∈ gtbl := gt_in (List.mem_append_right _ (List.mem_of_getElem? (i := 38) (by decide +kernel))) rfl
theorem q33 : (Jvm.Cond.methodLink "SendRules$Reader" (3 : Nat) ({ cls := "java/lang/Object", name := "<init>", desc := "()V" } : Jvm.MethodName)) ∈ gtbl := gt_in (List.mem_append_right _ (List.mem_of_getElem? (i := 33) (by decide +kernel))) rfl
theorem q47 : (Jvm.Cond.arrayClass Jvm.ClassFile.FieldType.char) ∈ gtbl := gt_in (List.mem_append_right _ (List.mem_of_getElem? (i := 47) (by decide +kernel))) rfl
theorem q34 : (Jvm.Cond.classLink "SendRules$Reader" (15 : Nat) "SendRules$NameMaker") ∈ gtbl := gt_in (List.mem_append_right _ (List.mem_of_getElem? (i := 34) (by decide +kernel))) rfl
theorem qn36 : (Jvm.Cond.methodLinkNest "SendRules$Reader" (17 : Nat) ({ cls := "SendRules$NameMaker", name := "<init>", desc := "()V" } : Jvm.MethodName) "SendRules") ∈ ntbl := List.mem_filter.mpr ⟨List.mem_of_getElem? (i := 36) (by decide +kernel), rfl⟩
theorem q75 : (Jvm.Cond.classLink "SendRules$Domain" (15 : Nat) "SendRules$Rule") ∈ gtbl := gt_in (List.mem_append_right _ (List.mem_of_getElem? (i := 75) (by decide +kernel))) rfl
theorem q77 : (Jvm.Cond.instantiable "SendRules$Rule" (7 : Nat)) ∈ gtbl := gt_in (List.mem_append_right _ (List.mem_of_getElem? (i := 77) (by decide +kernel))) rfl
theorem qn78 : (Jvm.Cond.methodLinkNest "SendRules$Domain" (27 : Nat) ({ cls := "SendRules$Rule", name := "<init>", desc := "()V" } : Jvm.MethodName) "SendRules") ∈ ntbl := List.mem_filter.mpr ⟨List.mem_of_getElem? (i := 78) (by decide +kernel), rfl⟩
theorem q79 : (Jvm.Cond.instanceMethod ({ cls := "SendRules$Rule", name := "<init>", desc := "()V" } : Jvm.MethodName)) ∈ gtbl := gt_in (List.mem_append_right _ (List.mem_of_getElem? (i := 79) (by decide +kernel))) rfl
theorem q80 : (Jvm.Cond.code ({ cls := "SendRules$Rule", name := "<init>", desc := "()V" } : Jvm.MethodName) prog_11_method_1_code (1 : Nat) (Option.none : Option Jvm.ClassFile.FieldType)) ∈ gtbl := gt_in (List.mem_append_right _ (List.mem_of_getElem? (i := 80) (by decide +kernel))) rfl
theorem q74 : (Jvm.Cond.methodLink "SendRules$Domain" (3 : Nat) ({ cls := "java/lang/Object", name := "<init>", desc := "()V" } : Jvm.MethodName)) ∈ gtbl := gt_in (List.mem_append_right _ (List.mem_of_getElem? (i := 74) (by decide +kernel))) rfl
theorem q68 : (Jvm.Cond.classLink "SendRules$Records" (9 : Nat) "SendRules$Domain") ∈ gtbl := gt_in (List.mem_append_right _ (List.mem_of_getElem? (i := 68) (by decide +kernel))) rfl
theorem q70 : (Jvm.Cond.instantiable "SendRules$Domain" (11 : Nat)) ∈ gtbl := gt_in (List.mem_append_right _ (List.mem_of_getElem? (i := 70) (by decide +kernel))) rfl
theorem q71 : (Jvm.Cond.methodLink "SendRules$Records" (17 : Nat) ({ cls := "SendRules$Domain", name := "<init>", desc := "()V" } : Jvm.MethodName)) ∈ gtbl := gt_in (List.mem_append_right _ (List.mem_of_getElem? (i := 71) (by decide +kernel))) rfl
theorem q72 : (Jvm.Cond.instanceMethod ({ cls := "SendRules$Domain", name := "<init>", desc := "()V" } : Jvm.MethodName)) ∈ gtbl := gt_in (List.mem_append_right _ (List.mem_of_getElem? (i := 72) (by decide +kernel))) rfl
theorem q73 : (Jvm.Cond.code ({ cls := "SendRules$Domain", name := "<init>", desc := "()V" } : Jvm.MethodName) prog_3_method_1_code (2 : Nat) (Option.none : Option Jvm.ClassFile.FieldType)) ∈ gtbl := gt_in (List.mem_append_right _ (List.mem_of_getElem? (i := 73) (by decide +kernel))) rfl
theorem q67 : (Jvm.Cond.methodLink "SendRules$Records" (3 : Nat) ({ cls := "java/lang/Object", name := "<init>", desc := "()V" } : Jvm.MethodName)) ∈ gtbl := gt_in (List.mem_append_right _ (List.mem_of_getElem? (i := 67) (by decide +kernel))) rfl
theorem q244 : (Jvm.Cond.classLink "SendRules$KeptChecks" (9 : Nat) "SendRules$KeptCheck") ∈ gtbl := gt_in (List.mem_append_right _ (List.mem_of_getElem? (i := 244) (by decide +kernel))) rfl
theorem q246 : (Jvm.Cond.instantiable "SendRules$KeptCheck" (1 : Nat)) ∈ gtbl := gt_in (List.mem_append_right _ (List.mem_of_getElem? (i := 246) (by decide +kernel))) rfl
theorem qn247 : (Jvm.Cond.methodLinkNest "SendRules$KeptChecks" (17 : Nat) ({ cls := "SendRules$KeptCheck", name := "<init>", desc := "()V" } : Jvm.MethodName) "SendRules") ∈ ntbl := List.mem_filter.mpr ⟨List.mem_of_getElem? (i := 247) (by decide +kernel), rfl⟩
theorem q248 : (Jvm.Cond.instanceMethod ({ cls := "SendRules$KeptCheck", name := "<init>", desc := "()V" } : Jvm.MethodName)) ∈ gtbl := gt_in (List.mem_append_right _ (List.mem_of_getElem? (i := 248) (by decide +kernel))) rfl
theorem q249 : (Jvm.Cond.code ({ cls := "SendRules$KeptCheck", name := "<init>", desc := "()V" } : Jvm.MethodName) prog_6_method_1_code (1 : Nat) (Option.none : Option Jvm.ClassFile.FieldType)) ∈ gtbl := gt_in (List.mem_append_right _ (List.mem_of_getElem? (i := 249) (by decide +kernel))) rfl
theorem q243 : (Jvm.Cond.methodLink "SendRules$KeptChecks" (3 : Nat) ({ cls := "java/lang/Object", name := "<init>", desc := "()V" } : Jvm.MethodName)) ∈ gtbl := gt_in (List.mem_append_right _ (List.mem_of_getElem? (i := 243) (by decide +kernel))) rfl
theorem q270 : (Jvm.Cond.classLink "SendRules$History" (9 : Nat) "SendRules$Change") ∈ gtbl := gt_in (List.mem_append_right _ (List.mem_of_getElem? (i := 270) (by decide +kernel))) rfl
theorem q272 : (Jvm.Cond.instantiable "SendRules$Change" (4 : Nat)) ∈ gtbl := gt_in (List.mem_append_right _ (List.mem_of_getElem? (i := 272) (by decide +kernel))) rfl
theorem q11 : (Jvm.Cond.initialized "SendRules$Change") ∈ gtbl := gt_in (List.mem_append_right _ (List.mem_of_getElem? (i := 11) (by decide +kernel))) rfl
theorem qn273 : (Jvm.Cond.methodLinkNest "SendRules$History" (17 : Nat) ({ cls := "SendRules$Change", name := "<init>", desc := "()V" } : Jvm.MethodName) "SendRules") ∈ ntbl := List.mem_filter.mpr ⟨List.mem_of_getElem? (i := 273) (by decide +kernel), rfl⟩
theorem q274 : (Jvm.Cond.instanceMethod ({ cls := "SendRules$Change", name := "<init>", desc := "()V" } : Jvm.MethodName)) ∈ gtbl := gt_in (List.mem_append_right _ (List.mem_of_getElem? (i := 274) (by decide +kernel))) rfl
theorem q275 : (Jvm.Cond.code ({ cls := "SendRules$Change", name := "<init>", desc := "()V" } : Jvm.MethodName) prog_2_method_1_code (1 : Nat) (Option.none : Option Jvm.ClassFile.FieldType)) ∈ gtbl := gt_in (List.mem_append_right _ (List.mem_of_getElem? (i := 275) (by decide +kernel))) rfl
theorem q269 : (Jvm.Cond.methodLink "SendRules$History" (3 : Nat) ({ cls := "java/lang/Object", name := "<init>", desc := "()V" } : Jvm.MethodName)) ∈ gtbl := gt_in (List.mem_append_right _ (List.mem_of_getElem? (i := 269) (by decide +kernel))) rfl
theorem hfsX0 : ∀ j, j < 4 → defaultValue (tyX0 j) = vp_V [vi 0, vi 0, vi 0, vi 0] j := fun j hj => by
  match j, hj with
  | 0, _ => rfl
  | 1, _ => rfl
  | 2, _ => rfl
  | 3, _ => rfl
  | k + 4, h => omega
theorem hfsX1 : ∀ j, j < 11 → defaultValue (tyX1 j) = vp_V [vi 0, Value.null, vi 0, vi 0, Value.null, vi 0, vi 0, Value.null, vi 0, Value.null, vi 0] j := fun j hj => by
  match j, hj with
  | 0, _ => rfl
  | 1, _ => rfl
  | 2, _ => rfl
  | 3, _ => rfl
  | 4, _ => rfl
  | 5, _ => rfl
  | 6, _ => rfl
  | 7, _ => rfl
  | 8, _ => rfl
  | 9, _ => rfl
  | 10, _ => rfl
  | k + 11, h => omega
theorem hfsX2 : ∀ j, j < 10 → defaultValue (tyX2 j) = vp_V [Value.null, Value.null, vi 0, vi 0, vi 0, vi 0, vi 0, vi 0, vi 0, Value.null] j := fun j hj => by
  match j, hj with
  | 0, _ => rfl
  | 1, _ => rfl
  | 2, _ => rfl
  | 3, _ => rfl
  | 4, _ => rfl
  | 5, _ => rfl
  | 6, _ => rfl
  | 7, _ => rfl
  | 8, _ => rfl
  | 9, _ => rfl
  | k + 10, h => omega
theorem hfsX3 : ∀ j, j < 2 → defaultValue (tyX3 j) = vp_V [Value.null, vi 0] j := fun j hj => by
  match j, hj with
  | 0, _ => rfl
  | 1, _ => rfl
  | k + 2, h => omega
theorem hfsX4 : ∀ j, j < 1 → defaultValue (tyX4 j) = vp_V [Value.null] j := fun j hj => by
  match j, hj with
  | 0, _ => rfl
  | k + 1, h => omega
theorem hfsX5 : ∀ j, j < 2 → defaultValue (tyX5 j) = vp_V [Value.null, vi 0] j := fun j hj => by
  match j, hj with
  | 0, _ => rfl
  | 1, _ => rfl
  | k + 2, h => omega
theorem hfsX6 : ∀ j, j < 2 → defaultValue (tyX6 j) = vp_V [vi 0, vi 0] j := fun j hj => by
  match j, hj with
  | 0, _ => rfl
  | 1, _ => rfl
  | k + 2, h => omega
theorem hfsX7 : ∀ j, j < 4 → defaultValue (tyX7 j) = vp_V [Value.null, vi 0, vi 0, Value.null] j := fun j hj => by
  match j, hj with
  | 0, _ => rfl
  | 1, _ => rfl
  | 2, _ => rfl
  | 3, _ => rfl
  | k + 4, h => omega
theorem hfsX8 : ∀ j, j < 2 → defaultValue (tyX8 j) = vp_V [Value.null, vi 0] j := fun j hj => by
  match j, hj with
  | 0, _ => rfl
  | 1, _ => rfl
  | k + 2, h => omega
theorem hfsX9 : ∀ j, j < 7 → defaultValue (tyX9 j) = vp_V [vi 0, vi 0, vi 0, vi 0, vi 0, Value.null, vi 0] j := fun j hj => by
  match j, hj with
  | 0, _ => rfl
  | 1, _ => rfl
  | 2, _ => rfl
  | 3, _ => rfl
  | 4, _ => rfl
  | 5, _ => rfl
  | 6, _ => rfl
  | k + 7, h => omega
theorem hfsX10 : ∀ j, j < 6 → defaultValue (tyX10 j) = vp_V [Value.null, Value.null, Value.null, Value.null, Value.null, Value.null] j := fun j hj => by
  match j, hj with
  | 0, _ => rfl
  | 1, _ => rfl
  | 2, _ => rfl
  | 3, _ => rfl
  | 4, _ => rfl
  | 5, _ => rfl
  | k + 6, h => omega
theorem hfsX11 : ∀ j, j < 48 → defaultValue (tyX11 j) = vp_V [vi 0, Value.null, vi 0, Value.null, Value.null, Value.null, Value.null, Value.null, Value.null, Value.null, Value.null, Value.null, Value.null, Value.null, Value.null, Value.null, vi 0, vi 0, Value.null, Value.null, Value.null, Value.null, Value.null, Value.null, Value.null, Value.null, Value.null, Value.null, Value.null, Value.null, Value.null, Value.null, vi 0, vi 0, vi 0, Value.null, vi 0, vi 0, vi 0, vi 0, vi 0, vi 0, vi 0, Value.null, Value.null, vi 0, Value.null, vi 0] j := fun j hj => by
  match j, hj with
  | 0, _ => rfl
  | 1, _ => rfl
  | 2, _ => rfl
  | 3, _ => rfl
  | 4, _ => rfl
  | 5, _ => rfl
  | 6, _ => rfl
  | 7, _ => rfl
  | 8, _ => rfl
  | 9, _ => rfl
  | 10, _ => rfl
  | 11, _ => rfl
  | 12, _ => rfl
  | 13, _ => rfl
  | 14, _ => rfl
  | 15, _ => rfl
  | 16, _ => rfl
  | 17, _ => rfl
  | 18, _ => rfl
  | 19, _ => rfl
  | 20, _ => rfl
  | 21, _ => rfl
  | 22, _ => rfl
  | 23, _ => rfl
  | 24, _ => rfl
  | 25, _ => rfl
  | 26, _ => rfl
  | 27, _ => rfl
  | 28, _ => rfl
  | 29, _ => rfl
  | 30, _ => rfl
  | 31, _ => rfl
  | 32, _ => rfl
  | 33, _ => rfl
  | 34, _ => rfl
  | 35, _ => rfl
  | 36, _ => rfl
  | 37, _ => rfl
  | 38, _ => rfl
  | 39, _ => rfl
  | 40, _ => rfl
  | 41, _ => rfl
  | 42, _ => rfl
  | 43, _ => rfl
  | 44, _ => rfl
  | 45, _ => rfl
  | 46, _ => rfl
  | 47, _ => rfl
  | k + 48, h => omega
theorem n_X6 {g : Ctx} {a : Nat} {f : Nat → va_E} (hs : isMk a) (hf : f a = .inr (6, [vi 0, vi 0])) : CallsE g yX6_init cX6_init 1 (rmK 1 0 0) a (a + 1) f 0 0 (Lay0 g f a 1) := by
  refine CallsE.intro rfl (by decide) rfl ?_
  refine x_aload_n dX6_init_0 0 rfl ?_
  refine x_obj dX6_init_1 q39 q26 q27 (by decide) (by decide) ?_
  refine x_vretE dX6_init_4 rfl rfl rfl (fun q hq => ?_) rfl
  unfold blkF
  by_cases z : a ≤ q ∧ q < a + 1
  · rw [if_pos z, show q = a by omega, hf, c0_obj g (sMk hs)]; rfl
  · rw [if_neg z]
theorem n_X0 {g : Ctx} {a : Nat} {f : Nat → va_E} (hs : isCh a) (hf : f a = .inr (0, [vi 0, vi 0, vi 0, vi 0])) : CallsE g yX0_init cX0_init 1 (rmK 1 0 0) a (a + 1) f 0 0 (Lay0 g f a 1) := by
  refine CallsE.intro rfl (by decide) rfl ?_
  refine x_aload_n dX0_init_0 0 rfl ?_
  refine x_obj dX0_init_1 q276 q26 q27 (by decide) (by decide) ?_
  refine x_vretE dX0_init_4 rfl rfl rfl (fun q hq => ?_) rfl
  unfold blkF
  by_cases z : a ≤ q ∧ q < a + 1
  · rw [if_pos z, show q = a by omega, hf, c0_obj g (sCh hs)]; rfl
  · rw [if_neg z]
theorem n_X9 {g : Ctx} {a : Nat} {f : Nat → va_E} (hs : isRul a) (hf : f a = .inr (9, [vi 0, vi 0, vi 0, vi 0, vi 0, Value.null, vi 0])) : CallsE g yX9_init cX9_init 1 (rmK 1 1 8) a (a + 1) f 1 8 (Lay0 g f a 2) := by
  refine CallsE.intro rfl (by decide) rfl ?_
  refine x_aload_n dX9_init_0 0 rfl ?_
  refine x_obj dX9_init_1 q81 q26 q27 (by decide) (by decide) ?_
  refine x_aload_n dX9_init_4 0 rfl ?_
  refine x_bipush dX9_init_5 rfl ?_
  refine x_newa (t := 0) (n := 8) dX9_init_7 rfl q121 rfl (Or.inl rfl) (by decide) (by decide) (by decide) ?_
  refine x_putF (ci := 9) (k := 5) (v := vr g (a + 1)) dX9_init_9 rfl fi9 (by decide) q100 tyX9 tyX9_ok nmX9 rfl (fun _ _ h => h.2) rfl rfl rfl (by omega) ((upE_ne _ _ (by omega)).trans hf) (by simp) ?_
  refine x_vretE dX9_init_12 rfl rfl rfl (fun q hq => ?_) rfl
  unfold blkF
  by_cases z : q = a
  · rw [if_pos (by omega), z, upE_at, c0_obj g (sRul hs)]; rfl
  · rw [upE_ne _ _ z]
    by_cases z2 : q = a + 1
    · rw [if_pos (by omega), z2, upE_at, c0_arr g (sRul1 hs) (by decide)]
    · rw [if_neg (by omega), upE_ne _ _ z2]
theorem n_X4 {g : Ctx} {a : Nat} {f : Nat → va_E} (hs : isKc a) (hf : f a = .inr (4, [Value.null])) : CallsE g yX4_init cX4_init 1 (rmK 1 1 8) a (a + 1) f 1 8 (Lay0 g f a 2) := by
  refine CallsE.intro rfl (by decide) rfl ?_
  refine x_aload_n dX4_init_0 0 rfl ?_
  refine x_obj dX4_init_1 q250 q26 q27 (by decide) (by decide) ?_
  refine x_aload_n dX4_init_4 0 rfl ?_
  refine x_bipush dX4_init_5 rfl ?_
  refine x_newa (t := 0) (n := 8) dX4_init_7 rfl q121 rfl (Or.inl rfl) (by decide) (by decide) (by decide) ?_
  refine x_putF (ci := 4) (k := 0) (v := vr g (a + 1)) dX4_init_9 rfl fi4 (by decide) q251 tyX4 tyX4_ok nmX4 rfl (fun _ _ h => h.2) rfl rfl rfl (by omega) ((upE_ne _ _ (by omega)).trans hf) (by simp) ?_
  refine x_vretE dX4_init_12 rfl rfl rfl (fun q hq => ?_) rfl
  unfold blkF
  by_cases z : q = a
  · rw [if_pos (by omega), z, upE_at, c0_obj g (sKc hs)]; rfl
  · rw [upE_ne _ _ z]
    by_cases z2 : q = a + 1
    · rw [if_pos (by omega), z2, upE_at, c0_arr g (sKc1 hs) (by decide)]
    · rw [if_neg (by omega), upE_ne _ _ z2]
theorem n_X2 {g : Ctx} {f : Nat → va_E} (hf : f 258 = .inr (2, [Value.null, Value.null, vi 0, vi 0, vi 0, vi 0, vi 0, vi 0, vi 0, Value.null])) : CallsE g yX2_init cX2_init 1 (rmK 2 1 2) 258 259 f 1 2 (Lay0 g f 258 2) := by
  refine CallsE.intro rfl (by decide) rfl ?_
  refine x_aload_n dX2_init_0 0 rfl ?_
  refine x_obj dX2_init_1 q195 q26 q27 (by decide) (by decide) ?_
  refine x_aload_n dX2_init_4 0 rfl ?_
  refine x_new (ci := 6) (fs := [vi 0, vi 0]) dX2_init_5 rfl fi6 tyX6 tyX6_ok q196 q35 q3 hfsX6 (by decide) (by decide) ?_
  refine x_dup dX2_init_8 rfl ?_
  refine x_ctorEN (mc := 0) (ms := 0) (rm' := rmK 1 0 0) dX2_init_9 qn197 q37 q3 q38 rfl ⟨by decide, by decide, by decide +kernel⟩ ⟨rfl, rfl, by decide, by decide⟩ ⟨by decide, by decide⟩ (Nat.le_of_ble_eq_true rfl) (fun _ _ h => h.1) (n_X6 (Or.inr rfl) (upE_at _ _ _)) (fun f1 e1 => ?_)
  subst e1
  refine x_putF (ci := 2) (k := 9) (v := vr g 259) dX2_init_12 rfl fi2 (by decide) q216 tyX2 tyX2_ok nmX2 rfl (fun _ _ h => h.2) rfl rfl rfl (by omega) (((if_neg (by omega)).trans (upE_ne _ _ (by omega))).trans hf) (by simp) ?_
  refine x_vretE dX2_init_15 rfl rfl rfl (fun q hq => ?_) rfl
  unfold blkF
  by_cases z : q = 258
  · rw [if_pos (by omega), z, upE_at, c0_obj g s258]; rfl
  · rw [upE_ne _ _ z]
    by_cases z2 : q = 259
    · rw [if_pos (by omega), if_pos (by omega)]
    · rw [if_neg (by omega), if_neg (by omega), upE_ne _ _ z2]
theorem n_X7 {g : Ctx} {f : Nat → va_E} (hf : f 1 = .inr (7, [Value.null, vi 0, vi 0, Value.null])) : CallsE g yX7_init cX7_init 1 (rmK 2 2 242) 1 2 f 2 242 (Lay0 g f 1 3) := by
  refine CallsE.intro rfl (by decide) rfl ?_
  refine x_aload_n dX7_init_0 0 rfl ?_
  refine x_obj dX7_init_1 q33 q26 q27 (by decide) (by decide) ?_
  refine x_aload_n dX7_init_4 0 rfl ?_
  refine x_sipush dX7_init_5 rfl ?_
  refine x_newa (t := 1) (n := 240) dX7_init_8 rfl q47 rfl (Or.inr rfl) (by decide) (by decide) (by decide) ?_
  refine x_putF (ci := 7) (k := 0) (v := vr g 2) dX7_init_10 rfl fi7 (by decide) q48 tyX7 tyX7_ok nmX7 rfl (fun _ _ h => h.2) rfl rfl rfl (by omega) ((upE_ne _ _ (by omega)).trans hf) (by simp) ?_
  refine x_aload_n dX7_init_13 0 rfl ?_
  refine x_new (ci := 6) (fs := [vi 0, vi 0]) dX7_init_14 rfl fi6 tyX6 tyX6_ok q34 q35 q3 hfsX6 (by decide) (by decide) ?_
  refine x_dup dX7_init_17 rfl ?_
  refine x_ctorEN (mc := 0) (ms := 0) (rm' := rmK 1 0 0) dX7_init_18 qn36 q37 q3 q38 rfl ⟨by decide, by decide, by decide +kernel⟩ ⟨rfl, rfl, by decide, by decide⟩ ⟨by decide, by decide⟩ (Nat.le_of_ble_eq_true rfl) (fun _ _ h => h.1) (n_X6 (a := 3) (Or.inl rfl) (upE_at _ _ _)) (fun f1 e1 => ?_)
  subst e1
  refine x_putF (ci := 7) (k := 3) (v := vr g 3) dX7_init_21 rfl fi7 (by decide) q52 tyX7 tyX7_ok nmX7 rfl (fun _ _ h => h.2) rfl rfl rfl (by omega) (((if_neg (by omega)).trans (upE_ne _ _ (by omega))).trans (upE_at _ _ _)) (by simp) ?_
  refine x_vretE dX7_init_24 rfl rfl rfl (fun q hq => ?_) rfl
  unfold blkF
  by_cases z : q = 1
  · rw [if_pos (by omega), z, upE_at, c0_obj g s1]; rfl
  · rw [upE_ne _ _ z]
    by_cases z2 : q = 3
    · rw [if_pos (by omega), if_pos (by omega)]
    · rw [if_neg (by omega), upE_ne _ _ z2, upE_ne _ _ z]
      by_cases z3 : q = 2
      · rw [if_pos (by omega), z3, upE_at, c0_arr g s2 (by decide)]
      · rw [if_neg (by omega), upE_ne _ _ z3]
theorem lp_X1 {g : Ctx} {d : Nat} {f0 f' : Nat → va_E} {fs : List Value} {F : (Nat → va_E) → Prop} (hs : isDom d) (h0 : f0 (d) = .inr (1, fs)) (h1 : fs[4]? = some (vr g (d + 2))) (hend : ∀ q, q < d + 21 → lpF g f0 (d + 2) 2 8 2 (d + 5) 8 q = f' q) (hF : F f') : ∀ (w i : Nat), i + w = 8 → WG g yX1_init cX1_init 2 none (rmK 2 20 142) Xc (d + 5 + 2 * i) (4 + 2 * i) (22 + 15 * i) 37 [(1, vi (i : Int)), (0, vr g d)] [] (lpF g f0 (d + 2) 2 8 2 (d + 5) i) (ZE g (d + 1 + 20) F 20 142) := by
  intro w
  induction w with
  | zero =>
    intro i hi
    obtain rfl : i = 8 := by omega
    refine x_iload_n dX1_init_37 0 rfl (x_bipush dX1_init_38 rfl (x_icmp_ge dX1_init_40 rfl (by decide) (by decide) (fun _ => ?_) (fun z => absurd (by decide) z)))
    exact x_vretE dX1_init_62 rfl rfl (by omega) (fun q hq => hend q (by omega)) hF
  | succ w ih =>
    intro i hi
    refine x_iload_n dX1_init_37 0 rfl (x_bipush dX1_init_38 rfl (x_icmp_ge dX1_init_40 rfl (by omega) (by decide) (fun z => absurd z (by omega)) (fun _ => ?_)))
    refine x_aload_n dX1_init_43 1 rfl ?_
    refine x_get (ci := 1) (k := 4) (a := d) (v := vr g (d + 2)) dX1_init_44 rfl fi1 (by decide) q134 (by omega) ((lpF_lo g f0 (by omega) (by omega)).trans h0) h1 ?_
    refine x_iload_n dX1_init_47 0 rfl ?_
    refine x_new (ci := 9) (fs := [vi 0, vi 0, vi 0, vi 0, vi 0, Value.null, vi 0]) dX1_init_48 rfl fi9 tyX9 tyX9_ok q75 q77 q6 hfsX9 (by show _ ≤ 20; omega) (by show _ ≤ 142; omega) ?_
    refine x_dup dX1_init_51 rfl ?_
    refine x_ctorEN (mc := 1) (ms := 8) (rm' := rmK 1 1 8) dX1_init_52 qn78 q79 q6 q80 rfl ⟨by decide, by decide, by decide +kernel⟩ ⟨rfl, rfl, by decide, by decide⟩ ⟨by show _ ≤ 20; omega, by show _ ≤ 142; omega⟩ (Nat.le_of_ble_eq_true rfl) (fun _ _ h => h.1) (n_X9 ⟨d, i, hs, by omega, rfl⟩ (upE_at _ _ _)) (fun f1 e1 => ?_)
    subst e1
    refine x_aast (t := 2) (ci := 9) (n := 8) (v := d + 5 + 2 * i) (a := d + 2) (i := i) dX1_init_55 rfl (by omega) (lp_hfa g f0 (by omega)) (by omega) (by decide) (by omega) (blk_obj g _ (sRul ⟨d, i, hs, by omega, rfl⟩) (by decide)) rfl ?_
    rw [lpF_step g f0 (by omega) (by decide)]
    refine x_iinc dX1_init_56 0 rfl (by decide) rfl (x_goto dX1_init_59 rfl ?_)
    have nx := ih (i + 1) (by omega)
    rw [show ((i + 1 : Nat) : Int) = (i : Int) + 1 by omega, show 4 + 2 * (i + 1) = 4 + 2 * i + 1 + 1 by omega, show d + 5 + 2 * (i + 1) = d + 5 + 2 * i + 1 + 1 by omega, show 22 + 15 * (i + 1) = 22 + 15 * i + 7 + 8 by omega] at nx
    exact nx
theorem n_X1 {g : Ctx} {d : Nat} {f : Nat → va_E} (hs : isDom d) (hf : f d = .inr (1, [vi 0, Value.null, vi 0, vi 0, Value.null, vi 0, vi 0, Value.null, vi 0, Value.null, vi 0])) : CallsE g yX1_init cX1_init 2 (rmK 2 20 142) d (d + 1) f 20 142 (Lay0 g f d 21) := by
  refine CallsE.intro rfl (by decide) rfl ?_
  refine x_aload_n dX1_init_0 0 rfl ?_
  refine x_obj dX1_init_1 q74 q26 q27 (by decide) (by decide) ?_
  refine x_aload_n dX1_init_4 0 rfl ?_
  refine x_bipush dX1_init_5 rfl ?_
  refine x_newa (t := 0) (n := 7) dX1_init_7 rfl q121 rfl (Or.inl rfl) (by decide) (by decide) (by decide) ?_
  refine x_putF (ci := 1) (k := 1) (v := vr g (d + 1)) dX1_init_9 rfl fi1 (by decide) q124 tyX1 tyX1_ok nmX1 rfl (fun _ _ h => h.2) rfl rfl rfl (by omega) ((upE_ne _ _ (by omega)).trans hf) (by simp) ?_
  refine x_aload_n dX1_init_12 0 rfl ?_
  refine x_bipush dX1_init_13 rfl ?_
  refine x_anew (t := 2) (n := 8) dX1_init_15 q75 (fun _ _ h => h.1.1) rfl (by decide) (by decide) (by decide) ?_
  refine x_putF (ci := 1) (k := 4) (v := vr g (d + 2)) dX1_init_18 rfl fi1 (by decide) q134 tyX1 tyX1_ok nmX1 rfl (fun _ _ h => h.2) rfl rfl rfl (by omega) ((upE_ne _ _ (by omega)).trans (upE_at _ _ _)) (by simp) ?_
  refine x_aload_n dX1_init_21 0 rfl ?_
  refine x_iconst dX1_init_22 ?_
  refine x_newa (t := 0) (n := 4) dX1_init_23 rfl q121 rfl (Or.inl rfl) (by decide) (by decide) (by decide) ?_
  refine x_putF (ci := 1) (k := 7) (v := vr g (d + 3)) dX1_init_25 rfl fi1 (by decide) q146 tyX1 tyX1_ok nmX1 rfl (fun _ _ h => h.2) rfl rfl rfl (by omega) ((upE_ne _ _ (by omega)).trans (upE_at _ _ _)) (by simp) ?_
  refine x_aload_n dX1_init_28 0 rfl ?_
  refine x_iconst dX1_init_29 ?_
  refine x_newa (t := 0) (n := 3) dX1_init_30 rfl q121 rfl (Or.inl rfl) (by decide) (by decide) (by decide) ?_
  refine x_putF (ci := 1) (k := 9) (v := vr g (d + 4)) dX1_init_32 rfl fi1 (by decide) q153 tyX1 tyX1_ok nmX1 rfl (fun _ _ h => h.2) rfl rfl rfl (by omega) ((upE_ne _ _ (by omega)).trans (upE_at _ _ _)) (by simp) ?_
  refine x_iconst dX1_init_35 (x_istore_n (lv' := [(1, vi 0), (0, vr g d)]) dX1_init_36 rfl (by decide) rfl ?_)
  refine x_lp (d + 2) 2 8 2 (d + 5) ?_ (lp_X1 (F := Lay0 g f d 21) hs (upE_at _ _ _) (by rfl) (lp_end g (by omega) (by omega) (sDom2 hs) (by decide) (fun j => R0_dom hs) ?_ ?_ (by omega)) rfl 8 0 rfl)
  · rw [upE_ne _ _ (by omega), upE_ne _ _ (by omega), upE_ne _ _ (by omega), upE_ne _ _ (by omega), upE_ne _ _ (by omega), upE_at]
  · intro q h1 h2 h3
    rcases (show q = d ∨ q = d + 1 ∨ q = d + 3 ∨ q = d + 4 by omega) with z | z | z | z <;> rw [z]
    · rw [upE_at, c0_obj g (sDom hs)]; rfl
    · rw [c0_arr g (sDom1 hs) (by decide)]; iterate 7 rw [upE_ne _ _ (by omega)]
      rw [upE_at]
    · rw [c0_arr g (sDom3 hs) (by decide)]; iterate 3 rw [upE_ne _ _ (by omega)]
      rw [upE_at]
    · rw [c0_arr g (sDom4 hs) (by decide)]; iterate 1 rw [upE_ne _ _ (by omega)]
      rw [upE_at]
  · intro q h1
    iterate 8 rw [upE_ne _ _ (by omega)]
theorem lp_X8 {g : Ctx} {b : Nat} {f0 f' : Nat → va_E} {fs : List Value} {F : (Nat → va_E) → Prop} (hs : isRec b) (h0 : f0 (b) = .inr (8, fs)) (h1 : fs[0]? = some (vr g (b + 1))) (hend : ∀ q, q < b + 254 → lpF g f0 (b + 1) 3 12 21 (b + 2) 12 q = f' q) (hF : F f') : ∀ (w i : Nat), i + w = 12 → WG g yX8_init cX8_init 2 none (rmK 3 253 1848) Xc (b + 2 + 21 * i) (1 + 21 * i) (12 + 153 * i) 15 [(1, vi (i : Int)), (0, vr g b)] [] (lpF g f0 (b + 1) 3 12 21 (b + 2) i) (ZE g (b + 1 + 253) F 253 1848) := by
  intro w
  induction w with
  | zero =>
    intro i hi
    obtain rfl : i = 12 := by omega
    refine x_iload_n dX8_init_15 0 rfl (x_bipush dX8_init_16 rfl (x_icmp_ge dX8_init_18 rfl (by decide) (by decide) (fun _ => ?_) (fun z => absurd (by decide) z)))
    exact x_vretE dX8_init_40 rfl rfl (by omega) (fun q hq => hend q (by omega)) hF
  | succ w ih =>
    intro i hi
    refine x_iload_n dX8_init_15 0 rfl (x_bipush dX8_init_16 rfl (x_icmp_ge dX8_init_18 rfl (by omega) (by decide) (fun z => absurd z (by omega)) (fun _ => ?_)))
    refine x_aload_n dX8_init_21 1 rfl ?_
    refine x_get (ci := 8) (k := 0) (a := b) (v := vr g (b + 1)) dX8_init_22 rfl fi8 (by decide) q182 (by omega) ((lpF_lo g f0 (by omega) (by omega)).trans h0) h1 ?_
    refine x_iload_n dX8_init_25 0 rfl ?_
    refine x_new (ci := 1) (fs := [vi 0, Value.null, vi 0, vi 0, Value.null, vi 0, vi 0, Value.null, vi 0, Value.null, vi 0]) dX8_init_26 rfl fi1 tyX1 tyX1_ok q68 q70 q5 hfsX1 (by show _ ≤ 253; omega) (by show _ ≤ 1848; omega) ?_
    refine x_dup dX8_init_29 rfl ?_
    refine x_ctorE (mc := 20) (ms := 142) (rm' := rmK 2 20 142) dX8_init_30 q71 q72 q5 q73 rfl ⟨by decide, by decide, by decide +kernel⟩ ⟨rfl, rfl, by decide, by decide⟩ ⟨by show _ ≤ 253; omega, by show _ ≤ 1848; omega⟩ (Nat.le_of_ble_eq_true rfl) (fun _ _ h => h.1) (n_X1 ⟨b, i, hs, by omega, rfl⟩ (upE_at _ _ _)) (fun f1 e1 => ?_)
    subst e1
    refine x_aast (t := 3) (ci := 1) (n := 12) (v := b + 2 + 21 * i) (a := b + 1) (i := i) dX8_init_33 rfl (by omega) (lp_hfa g f0 (by omega)) (by omega) (by decide) (by omega) (blk_obj g _ (sDom ⟨b, i, hs, by omega, rfl⟩) (by decide)) rfl ?_
    rw [lpF_step g f0 (by omega) (by decide)]
    refine x_iinc dX8_init_34 0 rfl (by decide) rfl (x_goto dX8_init_37 rfl ?_)
    have nx := ih (i + 1) (by omega)
    rw [show ((i + 1 : Nat) : Int) = (i : Int) + 1 by omega, show 1 + 21 * (i + 1) = 1 + 21 * i + 1 + 20 by omega, show b + 2 + 21 * (i + 1) = b + 2 + 21 * i + 1 + 20 by omega, show 12 + 153 * (i + 1) = 12 + 153 * i + 11 + 142 by omega] at nx
    exact nx
theorem n_X8 {g : Ctx} {b : Nat} {f : Nat → va_E} (hs : isRec b) (hf : f (b) = .inr (8, [Value.null, vi 0])) : CallsE g yX8_init cX8_init 2 (rmK 3 253 1848) (b) (b + 1) f 253 1848 (Lay0 g f (b) 254) := by
  refine CallsE.intro rfl (by decide) rfl ?_
  refine x_aload_n dX8_init_0 0 rfl ?_
  refine x_obj dX8_init_1 q67 q26 q27 (by decide) (by decide) ?_
  refine x_aload_n dX8_init_4 0 rfl ?_
  refine x_bipush dX8_init_5 rfl ?_
  refine x_anew (t := 3) (n := 12) dX8_init_7 q68 (fun _ _ h => h.1.2.1) rfl (by decide) (by decide) (by decide) ?_
  refine x_putF (ci := 8) (k := 0) (v := vr g (b + 1)) dX8_init_10 rfl fi8 (by decide) q182 tyX8 tyX8_ok nmX8 rfl (fun _ _ h => h.2) rfl rfl rfl (by omega) ((upE_ne _ _ (by omega)).trans hf) (by simp) ?_
  refine x_iconst dX8_init_13 (x_istore_n (lv' := [(1, vi 0), (0, vr g (b))]) dX8_init_14 rfl (by decide) rfl ?_)
  refine x_lp (b + 1) 3 12 21 (b + 2) ?_ (lp_X8 (F := Lay0 g f (b) 254) hs (upE_at _ _ _) (by rfl) (lp_end g (by omega) (by omega) (sRec1 hs) (by decide) (fun j => R0_rec hs) ?_ ?_ (by omega)) rfl 12 0 rfl)
  · rw [upE_ne _ _ (by omega), upE_at]
  · intro q h1 h2 h3
    rw [show q = b by omega, upE_at, c0_obj g (sRec hs)]; rfl
  · intro q h1
    rw [upE_ne _ _ (by omega), upE_ne _ _ (by omega)]
theorem lp_X5 {g : Ctx} {f0 f' : Nat → va_E} {fs : List Value} {F : (Nat → va_E) → Prop} (h0 : f0 (260) = .inr (5, fs)) (h1 : fs[0]? = some (vr g (261))) (hend : ∀ q, q < 260 + 10 → lpF g f0 (261) 4 4 2 (262) 4 q = f' q) (hF : F f') : ∀ (w i : Nat), i + w = 4 → WG g yX5_init cX5_init 2 none (rmK 2 9 40) Xc (262 + 2 * i) (1 + 2 * i) (4 + 9 * i) 14 [(1, vi (i : Int)), (0, vr g 260)] [] (lpF g f0 (261) 4 4 2 (262) i) (ZE g (260 + 1 + 9) F 9 40) := by
  intro w
  induction w with
  | zero =>
    intro i hi
    obtain rfl : i = 4 := by omega
    refine x_iload_n dX5_init_14 0 rfl (x_iconst dX5_init_15 (x_icmp_ge dX5_init_16 rfl (by decide) (by decide) (fun _ => ?_) (fun z => absurd (by decide) z)))
    exact x_vretE dX5_init_38 rfl rfl (by omega) (fun q hq => hend q (by omega)) hF
  | succ w ih =>
    intro i hi
    refine x_iload_n dX5_init_14 0 rfl (x_iconst dX5_init_15 (x_icmp_ge dX5_init_16 rfl (by omega) (by decide) (fun z => absurd z (by omega)) (fun _ => ?_)))
    refine x_aload_n dX5_init_19 1 rfl ?_
    refine x_get (ci := 5) (k := 0) (a := 260) (v := vr g (261)) dX5_init_20 rfl fi5 (by decide) q256 (by omega) ((lpF_lo g f0 (by omega) (by omega)).trans h0) h1 ?_
    refine x_iload_n dX5_init_23 0 rfl ?_
    refine x_new (ci := 4) (fs := [Value.null]) dX5_init_24 rfl fi4 tyX4 tyX4_ok q244 q246 q9 hfsX4 (by show _ ≤ 9; omega) (by show _ ≤ 40; omega) ?_
    refine x_dup dX5_init_27 rfl ?_
    refine x_ctorEN (mc := 1) (ms := 8) (rm' := rmK 1 1 8) dX5_init_28 qn247 q248 q9 q249 rfl ⟨by decide, by decide, by decide +kernel⟩ ⟨rfl, rfl, by decide, by decide⟩ ⟨by show _ ≤ 9; omega, by show _ ≤ 40; omega⟩ (Nat.le_of_ble_eq_true rfl) (fun _ _ h => h.1) (n_X4 ⟨i, by omega, rfl⟩ (upE_at _ _ _)) (fun f1 e1 => ?_)
    subst e1
    refine x_aast (t := 4) (ci := 4) (n := 4) (v := 262 + 2 * i) (a := 261) (i := i) dX5_init_31 rfl (by omega) (lp_hfa g f0 (by omega)) (by omega) (by decide) (by omega) (blk_obj g _ (sKc ⟨i, by omega, rfl⟩) (by decide)) rfl ?_
    rw [lpF_step g f0 (by omega) (by decide)]
    refine x_iinc dX5_init_32 0 rfl (by decide) rfl (x_goto dX5_init_35 rfl ?_)
    have nx := ih (i + 1) (by omega)
    rw [show ((i + 1 : Nat) : Int) = (i : Int) + 1 by omega, show 1 + 2 * (i + 1) = 1 + 2 * i + 1 + 1 by omega, show 262 + 2 * (i + 1) = 262 + 2 * i + 1 + 1 by omega, show 4 + 9 * (i + 1) = 4 + 9 * i + 1 + 8 by omega] at nx
    exact nx
theorem n_X5 {g : Ctx} {f : Nat → va_E} (hf : f (260) = .inr (5, [Value.null, vi 0])) : CallsE g yX5_init cX5_init 2 (rmK 2 9 40) (260) (260 + 1) f 9 40 (Lay0 g f (260) 10) := by
  refine CallsE.intro rfl (by decide) rfl ?_
  refine x_aload_n dX5_init_0 0 rfl ?_
  refine x_obj dX5_init_1 q243 q26 q27 (by decide) (by decide) ?_
  refine x_aload_n dX5_init_4 0 rfl ?_
  refine x_iconst dX5_init_5 ?_
  refine x_anew (t := 4) (n := 4) dX5_init_6 q244 (fun _ _ h => h.1.2.2.1) rfl (by decide) (by decide) (by decide) ?_
  refine x_putF (ci := 5) (k := 0) (v := vr g (261)) dX5_init_9 rfl fi5 (by decide) q256 tyX5 tyX5_ok nmX5 rfl (fun _ _ h => h.2) rfl rfl rfl (by omega) ((upE_ne _ _ (by omega)).trans hf) (by simp) ?_
  refine x_iconst dX5_init_12 (x_istore_n (lv' := [(1, vi 0), (0, vr g (260))]) dX5_init_13 rfl (by decide) rfl ?_)
  refine x_lp (261) 4 4 2 (262) ?_ (lp_X5 (F := Lay0 g f (260) 10) (upE_at _ _ _) (by rfl) (lp_end g (by omega) (by omega) s261 (by decide) (fun j => rfl) ?_ ?_ (by omega)) rfl 4 0 rfl)
  · rw [upE_ne _ _ (by omega), upE_at]
  · intro q h1 h2 h3
    rw [show q = 260 by omega, upE_at, c0_obj g s260]; rfl
  · intro q h1
    rw [upE_ne _ _ (by omega), upE_ne _ _ (by omega)]
theorem lp_X3 {g : Ctx} {f0 f' : Nat → va_E} {fs : List Value} {F : (Nat → va_E) → Prop} (h0 : f0 (270) = .inr (3, fs)) (h1 : fs[0]? = some (vr g (271))) (hend : ∀ q, q < 270 + 6 → lpF g f0 (271) 5 4 1 (272) 4 q = f' q) (hF : F f') : ∀ (w i : Nat), i + w = 4 → WG g yX3_init cX3_init 2 none (rmK 2 5 20) Xc (272 + 1 * i) (1 + 1 * i) (4 + 4 * i) 14 [(1, vi (i : Int)), (0, vr g 270)] [] (lpF g f0 (271) 5 4 1 (272) i) (ZE g (270 + 1 + 5) F 5 20) := by
  intro w
  induction w with
  | zero =>
    intro i hi
    obtain rfl : i = 4 := by omega
    refine x_iload_n dX3_init_14 0 rfl (x_iconst dX3_init_15 (x_icmp_ge dX3_init_16 rfl (by decide) (by decide) (fun _ => ?_) (fun z => absurd (by decide) z)))
    exact x_vretE dX3_init_38 rfl rfl (by omega) (fun q hq => hend q (by omega)) hF
  | succ w ih =>
    intro i hi
    refine x_iload_n dX3_init_14 0 rfl (x_iconst dX3_init_15 (x_icmp_ge dX3_init_16 rfl (by omega) (by decide) (fun z => absurd z (by omega)) (fun _ => ?_)))
    refine x_aload_n dX3_init_19 1 rfl ?_
    refine x_get (ci := 3) (k := 0) (a := 270) (v := vr g (271)) dX3_init_20 rfl fi3 (by decide) q290 (by omega) ((lpF_lo g f0 (by omega) (by omega)).trans h0) h1 ?_
    refine x_iload_n dX3_init_23 0 rfl ?_
    refine x_new (ci := 0) (fs := [vi 0, vi 0, vi 0, vi 0]) dX3_init_24 rfl fi0 tyX0 tyX0_ok q270 q272 q11 hfsX0 (by show _ ≤ 5; omega) (by show _ ≤ 20; omega) ?_
    refine x_dup dX3_init_27 rfl ?_
    refine x_ctorEN (mc := 0) (ms := 0) (rm' := rmK 1 0 0) dX3_init_28 qn273 q274 q11 q275 rfl ⟨by decide, by decide, by decide +kernel⟩ ⟨rfl, rfl, by decide, by decide⟩ ⟨by show _ ≤ 5; omega, by show _ ≤ 20; omega⟩ (Nat.le_of_ble_eq_true rfl) (fun _ _ h => h.1) (n_X0 ⟨i, by omega, by omega⟩ (upE_at _ _ _)) (fun f1 e1 => ?_)
    subst e1
    refine x_aast (t := 5) (ci := 0) (n := 4) (v := 272 + 1 * i) (a := 271) (i := i) dX3_init_31 rfl (by omega) (lp_hfa g f0 (by omega)) (by omega) (by decide) (by omega) (blk_obj g _ (sCh ⟨i, by omega, by omega⟩) (by decide)) rfl ?_
    rw [lpF_step g f0 (by omega) (by decide)]
    refine x_iinc dX3_init_32 0 rfl (by decide) rfl (x_goto dX3_init_35 rfl ?_)
    have nx := ih (i + 1) (by omega)
    rw [show ((i + 1 : Nat) : Int) = (i : Int) + 1 by omega, show 1 + 1 * (i + 1) = 1 + 1 * i + 1 + 0 by omega, show 272 + 1 * (i + 1) = 272 + 1 * i + 1 + 0 by omega, show 4 + 4 * (i + 1) = 4 + 4 * i + 4 + 0 by omega] at nx
    exact nx
theorem n_X3 {g : Ctx} {f : Nat → va_E} (hf : f (270) = .inr (3, [Value.null, vi 0])) : CallsE g yX3_init cX3_init 2 (rmK 2 5 20) (270) (270 + 1) f 5 20 (Lay0 g f (270) 6) := by
  refine CallsE.intro rfl (by decide) rfl ?_
  refine x_aload_n dX3_init_0 0 rfl ?_
  refine x_obj dX3_init_1 q269 q26 q27 (by decide) (by decide) ?_
  refine x_aload_n dX3_init_4 0 rfl ?_
  refine x_iconst dX3_init_5 ?_
  refine x_anew (t := 5) (n := 4) dX3_init_6 q270 (fun _ _ h => h.1.2.2.2) rfl (by decide) (by decide) (by decide) ?_
  refine x_putF (ci := 3) (k := 0) (v := vr g (271)) dX3_init_9 rfl fi3 (by decide) q290 tyX3 tyX3_ok nmX3 rfl (fun _ _ h => h.2) rfl rfl rfl (by omega) ((upE_ne _ _ (by omega)).trans hf) (by simp) ?_
  refine x_iconst dX3_init_12 (x_istore_n (lv' := [(1, vi 0), (0, vr g (270))]) dX3_init_13 rfl (by decide) rfl ?_)
  refine x_lp (271) 5 4 1 (272) ?_ (lp_X3 (F := Lay0 g f (270) 6) (upE_at _ _ _) (by rfl) (lp_end g (by omega) (by omega) s271 (by decide) (fun j => by show (if j < 4 then 272 + j else 0) = _; split <;> omega) ?_ ?_ (by omega)) rfl 4 0 rfl)
  · rw [upE_ne _ _ (by omega), upE_at]
  · intro q h1 h2 h3
    rw [show q = 270 by omega, upE_at, c0_obj g s270]; rfl
  · intro q h1
    rw [upE_ne _ _ (by omega), upE_ne _ _ (by omega)]
