/-! ===== the texts' own methods ===== -/
def bV (i k : Nat) : Int := ((sByt.getD i []).getD k 0).toInt
theorem bV_ok : ∀ i : Fin 4, ∀ k : Fin 92, (k : Nat) < sLen.getD i 0 → 32 ≤ bV i k ∧ bV i k ≤ 126 := by decide +kernel
theorem bV_rng {i k : Nat} (hi : i < 4) (hk : k < sLen.getD i 0) : 32 ≤ bV i k ∧ bV i k ≤ 126 := by
  have h92 : sLen.getD i 0 ≤ 92 := by
    match i, hi with
    | 0, _ => decide
    | 1, _ => decide
    | 2, _ => decide
    | 3, _ => decide
  exact bV_ok ⟨i, hi⟩ ⟨k, by omega⟩ hk
theorem sLen_rng {i : Nat} (hi : i < 4) : 4 ≤ sLen.getD i 0 ∧ sLen.getD i 0 ≤ 92 := by
  match i, hi with
  | 0, _ => decide
  | 1, _ => decide
  | 2, _ => decide
  | 3, _ => decide
def jb (x : Int) : Int := ((Int32.ofInt x).toInt8.toInt32).toInt
theorem jb_ok : ∀ x : Fin 256, jb ((x : Nat) : Int) = if (x : Nat) < 128 then ((x : Nat) : Int) else ((x : Nat) : Int) - 256 := by decide +kernel
theorem jand255 : ∀ x : Fin 128, jand ((x : Nat) : Int) 255 = ((x : Nat) : Int) := by decide +kernel
theorem jshr0 : ∀ x : Fin 93, jshr ((x : Nat) : Int) 0 = ((x : Nat) : Int) := by decide +kernel
section JRows
variable {g : Ctx} {y : MethodName} {cc : ByteArray} {nL : Nat} {ret : Option FieldType} {rm : Room} {N pc : Nat} {lv : List (Nat × Value)} {st : List Value} {M : Mem} {Q : Option Value → Mem → Prop}
theorem w_aloadR {q : Fin 4} {x : Nat} (hd : decode cc pc = .ok (.aload_n q, 1)) (j : Nat) (hj : lv[j]? = some ((q : Nat), Value.ref x)) (k : WP g y cc nL ret rm N (pc + 1) lv (Value.ref x :: st) M Q) : WP g y cc nL ret rm N pc lv st M Q := by
  intro p e s m args below meth c H locs ls F hP hT hS hl
  exact lv_aload_n F.1 F.2.1 hd rfl (lv_at hl j hj) (k p e s m args below meth c H locs ls F hP hT hS hl)
theorem w_jval {idx i : Nat} (hd : decode cc pc = .ok (.getfield idx, 3)) (hw : Cond.fieldLink y.cls idx "java/lang/String" "value" "[B" ∈ gtbl) (hi : i < 4) (k : WP g y cc nL ret rm N (pc + 3) lv (Value.ref (gV g i) :: st) M Q) : WP g y cc nL ret rm N pc lv (Value.ref (gK g i) :: st) M Q := by
  intro p e s m args below meth c H locs ls F hP hT hS hl
  exact vk_getf F.1 F.2.1 (F.2.2.2.2.2.2.2.2.2.1.1 i hi).2.2.1 hS F.2.2.2.2.1 (F.2.2.2.2.2.1 _ hw) (fun _ h => h) hd (k p e s m args below meth c H locs ls F hP hT hS hl)
theorem w_jcod {idx i : Nat} (hd : decode cc pc = .ok (.getfield idx, 3)) (hw : Cond.fieldLink y.cls idx "java/lang/String" "coder" "B" ∈ gtbl) (hi : i < 4) (k : WP g y cc nL ret rm N (pc + 3) lv (vi 0 :: st) M Q) : WP g y cc nL ret rm N pc lv (Value.ref (gK g i) :: st) M Q := by
  intro p e s m args below meth c H locs ls F hP hT hS hl
  exact vk_getf F.1 F.2.1 (F.2.2.2.2.2.2.2.2.2.1.1 i hi).2.1 hS F.2.2.2.2.1 (F.2.2.2.2.2.1 _ hw) (fun _ h => h) hd (k p e s m args below meth c H locs ls F hP hT hS hl)
theorem w_jlen {i : Nat} (hd : decode cc pc = .ok (.arraylength, 1)) (hi : i < 4) (k : WP g y cc nL ret rm N (pc + 1) lv (vi ((sLen.getD i 0 : Nat) : Int) :: st) M Q) : WP g y cc nL ret rm N pc lv (Value.ref (gV g i) :: st) M Q := by
  intro p e s m args below meth c H locs ls F hP hT hS hl
  exact va_tlen F.1 F.2.1 (F.2.2.2.2.2.2.2.2.2.1.1 i hi).2.2.2 hS (v := Int32.ofInt ((sLen.getD i 0 : Nat) : Int)) Int32.ofInt_eq_ofNat.symm hd (k p e s m args below meth c H locs ls F hP hT hS hl)
theorem w_jbal {i j : Nat} (hd : decode cc pc = .ok (.baload, 1)) (hi : i < 4) (hj : j < sLen.getD i 0) (k : WP g y cc nL ret rm N (pc + 1) lv (vi (bV i j) :: st) M Q) : WP g y cc nL ret rm N pc lv (vi ((j : Nat) : Int) :: Value.ref (gV g i) :: st) M Q := by
  intro p e s m args below meth c H locs ls F hP hT hS hl
  have hr := sLen_rng hi
  have k1 := k p e s m args below meth c H locs ls F hP hT hS hl
  unfold vi bV at k1
  rw [vi_self] at k1
  exact va_tb F.1 F.2.1 (F.2.2.2.2.2.2.2.2.2.1.1 i hi).2.2.2 hS (i := Int32.ofInt ((j : Nat) : Int)) (vi_in (by omega) (by omega) (by omega)) (by rw [vi_clamp (by omega) (by omega), Int.toNat_natCast]) hd k1
theorem w_jcomp {idx : Nat} (hd : decode cc pc = .ok (.getstatic idx, 3)) (hw : Cond.fieldLink y.cls idx "java/lang/String" "COMPACT_STRINGS" "Z" ∈ gtbl) (k : WP g y cc nL ret rm N (pc + 3) lv (vi 1 :: st) M Q) : WP g y cc nL ret rm N pc lv st M Q := by
  intro p e s m args below meth c H locs ls F hP hT hS hl
  exact va_gets F.1 F.2.1 F.2.2.2.2.2.2.2.2.2.2.2.1 hS F.2.2.2.2.1 (F.2.2.2.2.2.1 _ hw) (fun _ h => h) hd (k p e s m args below meth c H locs ls F hP hT hS hl)
theorem w_jfmt {idx : Nat} (hd : decode cc pc = .ok (.getstatic idx, 3)) (hw : Cond.fieldLink y.cls idx "jdk/internal/util/Preconditions" "SIOOBE_FORMATTER" "Ljava/util/function/BiFunction;" ∈ gtbl) (k0 : WP g y cc nL ret rm N (pc + 3) lv (Value.null :: st) M Q) (k1 : ∀ x : Nat, WP g y cc nL ret rm N (pc + 3) lv (Value.ref x :: st) M Q) : WP g y cc nL ret rm N pc lv st M Q := by
  intro p e s m args below meth c H locs ls F hP hT hS hl
  rcases F.2.2.2.2.2.2.2.2.2.2.2.2 with z | ⟨x, z⟩
  · exact va_gets F.1 F.2.1 z hS F.2.2.2.2.1 (F.2.2.2.2.2.1 _ hw) (fun _ h => h) hd (k0 p e s m args below meth c H locs ls F hP hT hS hl)
  · exact va_gets F.1 F.2.1 z hS F.2.2.2.2.1 (F.2.2.2.2.2.1 _ hw) (fun _ h => h) hd (k1 x p e s m args below meth c H locs ls F hP hT hS hl)
theorem w_i2b {x : Int} (hd : decode cc pc = .ok (.i2b, 1)) (k : WP g y cc nL ret rm N (pc + 1) lv (vi (jb x) :: st) M Q) : WP g y cc nL ret rm N pc lv (vi x :: st) M Q := by
  intro p e s m args below meth c H locs ls F hP hT hS hl
  have k1 := k p e s m args below meth c H locs ls F hP hT hS hl
  unfold vi jb at k1
  rw [vi_self] at k1
  exact lv_i2b F.1 F.2.1 hd rfl k1
theorem w_bret {x : Int} (hd : decode cc pc = .ok (.ireturn, 1)) (hx : narrow .byte (vi x) = vi x) (hq : Q (some (vi x)) M) : WP g y cc nL (some .byte) rm N pc lv [vi x] M Q := by
  intro p e s m args below meth c H locs ls F hP hT hS hl
  exact W.zret F.1 F.2.1 F.2.2.1 hx (fun t ht hW => ⟨⟨(some (vi x)), M, rfl, hq, by rw [ht]; exact hP, hT, F.2.2.2.2.2.2.2.at hS ht hW⟩, hS.F ht⟩) hS.2.2 hd F.2.2.2.2.2.2.1
theorem w_mmax {i : Nat} {x z : Int} (hd : decode cc pc = .ok (.invokestatic i, 3)) (hw : Cond.methodLink y.cls i Lib.Math.max.name ∈ gtbl) (hw2 : Cond.static Lib.Math.max.name ∈ gtbl) (hw3 : Cond.initialized "java/lang/Math" ∈ gtbl) (hw4 : Cond.code Lib.Math.max.name Lib.Math.max.code 2 (some .int) ∈ gtbl) (hf : 1 ≤ rm.frames) (hlo : (st.map fun v => v.category).sum + 13 ≤ rm.locals) (hx : InR x) (hy : InR z) (k : WP g y cc nL ret rm N (pc + 3) lv (vi (if x < z then z else x) :: st) M Q) : WP g y cc nL ret rm N pc lv (vi z :: vi x :: st) M Q := by
  intro p e s m args below meth c H locs ls F hP hT hS hl
  refine va_mmax F.1 F.2.1 (F.2.2.2.1.trans hl.1.symm) F.2.2.2.2.1 (F.2.2.2.2.2.1 _ hw) (F.2.2.2.2.2.1 _ hw2) (F.2.2.2.2.2.1 _ hw3) (F.2.2.2.2.2.1 _ hw4) hf hlo (Nat.zero_le _) (Nat.zero_le _) hd ?_
  have k1 := k p e s m args below meth c H locs ls F hP hT hS hl
  have e1 : (if Int32.ofInt x < Int32.ofInt z then Int32.ofInt z else Int32.ofInt x) = Int32.ofInt (if x < z then z else x) := by
    by_cases h : x < z
    · rw [if_pos h, if_pos ((vi_lt hx hy).mpr h)]
    · rw [if_neg h, if_neg (fun q => h ((vi_lt hx hy).mp q))]
  rw [e1]
  exact k1
end JRows
theorem q13 : (Jvm.Cond.initialized "java/lang/StringLatin1") ∈ gtbl := gt_in (List.mem_append_right _ (List.mem_of_getElem? (i := 13) (by decide +kernel))) rfl
theorem q14 : (Jvm.Cond.initialized "jdk/internal/util/Preconditions") ∈ gtbl := gt_in (List.mem_append_right _ (List.mem_of_getElem? (i := 14) (by decide +kernel))) rfl
theorem q303 : (Jvm.Cond.methodLink "java/lang/String" (335 : Nat) ({ cls := "java/lang/String", name := "coder", desc := "()B" } : Jvm.MethodName)) ∈ gtbl := gt_in (List.mem_append_right _ (List.mem_of_getElem? (i := 303) (by decide +kernel))) rfl
theorem q304 : (Jvm.Cond.instanceMethod ({ cls := "java/lang/String", name := "coder", desc := "()B" } : Jvm.MethodName)) ∈ gtbl := gt_in (List.mem_append_right _ (List.mem_of_getElem? (i := 304) (by decide +kernel))) rfl
theorem q305 : (Jvm.Cond.selects "java/lang/String" ({ cls := "java/lang/String", name := "coder", desc := "()B" } : Jvm.MethodName) ({ cls := "java/lang/String", name := "coder", desc := "()B" } : Jvm.MethodName)) ∈ gtbl := gt_in (List.mem_append_right _ (List.mem_of_getElem? (i := 305) (by decide +kernel))) rfl
theorem q306 : (Jvm.Cond.code ({ cls := "java/lang/String", name := "coder", desc := "()B" } : Jvm.MethodName) prog_17_method_152_code (1 : Nat) (Option.some Jvm.ClassFile.FieldType.byte)) ∈ gtbl := gt_in (List.mem_append_right _ (List.mem_of_getElem? (i := 306) (by decide +kernel))) rfl
theorem q307 : (Jvm.Cond.fieldLink "java/lang/String" (38 : Nat) "java/lang/String" "COMPACT_STRINGS" "Z") ∈ gtbl := gt_in (List.mem_append_right _ (List.mem_of_getElem? (i := 307) (by decide +kernel))) rfl
theorem q313 : (Jvm.Cond.methodLink "java/lang/String" (492 : Nat) ({ cls := "java/lang/String", name := "isLatin1", desc := "()Z" } : Jvm.MethodName)) ∈ gtbl := gt_in (List.mem_append_right _ (List.mem_of_getElem? (i := 313) (by decide +kernel))) rfl
theorem q314 : (Jvm.Cond.instanceMethod ({ cls := "java/lang/String", name := "isLatin1", desc := "()Z" } : Jvm.MethodName)) ∈ gtbl := gt_in (List.mem_append_right _ (List.mem_of_getElem? (i := 314) (by decide +kernel))) rfl
theorem q315 : (Jvm.Cond.selects "java/lang/String" ({ cls := "java/lang/String", name := "isLatin1", desc := "()Z" } : Jvm.MethodName) ({ cls := "java/lang/String", name := "isLatin1", desc := "()Z" } : Jvm.MethodName)) ∈ gtbl := gt_in (List.mem_append_right _ (List.mem_of_getElem? (i := 315) (by decide +kernel))) rfl
theorem q316 : (Jvm.Cond.code ({ cls := "java/lang/String", name := "isLatin1", desc := "()Z" } : Jvm.MethodName) prog_17_method_154_code (1 : Nat) (Option.some Jvm.ClassFile.FieldType.boolean)) ∈ gtbl := gt_in (List.mem_append_right _ (List.mem_of_getElem? (i := 316) (by decide +kernel))) rfl
theorem q317 : (Jvm.Cond.methodLink "java/lang/String" (495 : Nat) ({ cls := "java/lang/StringLatin1", name := "charAt", desc := "([BI)C" } : Jvm.MethodName)) ∈ gtbl := gt_in (List.mem_append_right _ (List.mem_of_getElem? (i := 317) (by decide +kernel))) rfl
theorem q318 : (Jvm.Cond.static ({ cls := "java/lang/StringLatin1", name := "charAt", desc := "([BI)C" } : Jvm.MethodName)) ∈ gtbl := gt_in (List.mem_append_right _ (List.mem_of_getElem? (i := 318) (by decide +kernel))) rfl
theorem q319 : (Jvm.Cond.code ({ cls := "java/lang/StringLatin1", name := "charAt", desc := "([BI)C" } : Jvm.MethodName) prog_18_method_2_code (2 : Nat) (Option.some Jvm.ClassFile.FieldType.char)) ∈ gtbl := gt_in (List.mem_append_right _ (List.mem_of_getElem? (i := 319) (by decide +kernel))) rfl
theorem q320 : (Jvm.Cond.methodLink "java/lang/StringLatin1" (9 : Nat) ({ cls := "java/lang/String", name := "checkIndex", desc := "(II)V" } : Jvm.MethodName)) ∈ gtbl := gt_in (List.mem_append_right _ (List.mem_of_getElem? (i := 320) (by decide +kernel))) rfl
theorem q321 : (Jvm.Cond.static ({ cls := "java/lang/String", name := "checkIndex", desc := "(II)V" } : Jvm.MethodName)) ∈ gtbl := gt_in (List.mem_append_right _ (List.mem_of_getElem? (i := 321) (by decide +kernel))) rfl
theorem q322 : (Jvm.Cond.code ({ cls := "java/lang/String", name := "checkIndex", desc := "(II)V" } : Jvm.MethodName) prog_17_method_155_code (2 : Nat) (Option.none : Option Jvm.ClassFile.FieldType)) ∈ gtbl := gt_in (List.mem_append_right _ (List.mem_of_getElem? (i := 322) (by decide +kernel))) rfl
theorem q323 : (Jvm.Cond.fieldLink "java/lang/String" (1053 : Nat) "jdk/internal/util/Preconditions" "SIOOBE_FORMATTER" "Ljava/util/function/BiFunction;") ∈ gtbl := gt_in (List.mem_append_right _ (List.mem_of_getElem? (i := 323) (by decide +kernel))) rfl
theorem q325 : (Jvm.Cond.methodLink "java/lang/String" (1059 : Nat) ({ cls := "jdk/internal/util/Preconditions", name := "checkIndex", desc := "(IILjava/util/function/BiFunction;)I" } : Jvm.MethodName)) ∈ gtbl := gt_in (List.mem_append_right _ (List.mem_of_getElem? (i := 325) (by decide +kernel))) rfl
theorem q326 : (Jvm.Cond.static ({ cls := "jdk/internal/util/Preconditions", name := "checkIndex", desc := "(IILjava/util/function/BiFunction;)I" } : Jvm.MethodName)) ∈ gtbl := gt_in (List.mem_append_right _ (List.mem_of_getElem? (i := 326) (by decide +kernel))) rfl
theorem q327 : (Jvm.Cond.code ({ cls := "jdk/internal/util/Preconditions", name := "checkIndex", desc := "(IILjava/util/function/BiFunction;)I" } : Jvm.MethodName) prog_20_method_11_code (3 : Nat) (Option.some Jvm.ClassFile.FieldType.int)) ∈ gtbl := gt_in (List.mem_append_right _ (List.mem_of_getElem? (i := 327) (by decide +kernel))) rfl
theorem q436 : (Jvm.Cond.methodLink "java/lang/String" (633 : Nat) ({ cls := "java/lang/String", name := "indexOf", desc := "(II)I" } : Jvm.MethodName)) ∈ gtbl := gt_in (List.mem_append_right _ (List.mem_of_getElem? (i := 436) (by decide +kernel))) rfl
theorem q437 : (Jvm.Cond.instanceMethod ({ cls := "java/lang/String", name := "indexOf", desc := "(II)I" } : Jvm.MethodName)) ∈ gtbl := gt_in (List.mem_append_right _ (List.mem_of_getElem? (i := 437) (by decide +kernel))) rfl
theorem q438 : (Jvm.Cond.selects "java/lang/String" ({ cls := "java/lang/String", name := "indexOf", desc := "(II)I" } : Jvm.MethodName) ({ cls := "java/lang/String", name := "indexOf", desc := "(II)I" } : Jvm.MethodName)) ∈ gtbl := gt_in (List.mem_append_right _ (List.mem_of_getElem? (i := 438) (by decide +kernel))) rfl
theorem q439 : (Jvm.Cond.code ({ cls := "java/lang/String", name := "indexOf", desc := "(II)I" } : Jvm.MethodName) prog_17_method_80_code (3 : Nat) (Option.some Jvm.ClassFile.FieldType.int)) ∈ gtbl := gt_in (List.mem_append_right _ (List.mem_of_getElem? (i := 439) (by decide +kernel))) rfl
theorem q440 : (Jvm.Cond.methodLink "java/lang/String" (505 : Nat) ({ cls := "java/lang/String", name := "length", desc := "()I" } : Jvm.MethodName)) ∈ gtbl := gt_in (List.mem_append_right _ (List.mem_of_getElem? (i := 440) (by decide +kernel))) rfl
theorem q441 : (Jvm.Cond.methodLink "java/lang/String" (637 : Nat) ({ cls := "java/lang/StringLatin1", name := "indexOf", desc := "([BIII)I" } : Jvm.MethodName)) ∈ gtbl := gt_in (List.mem_append_right _ (List.mem_of_getElem? (i := 441) (by decide +kernel))) rfl
theorem q442 : (Jvm.Cond.static ({ cls := "java/lang/StringLatin1", name := "indexOf", desc := "([BIII)I" } : Jvm.MethodName)) ∈ gtbl := gt_in (List.mem_append_right _ (List.mem_of_getElem? (i := 442) (by decide +kernel))) rfl
theorem q443 : (Jvm.Cond.code ({ cls := "java/lang/StringLatin1", name := "indexOf", desc := "([BIII)I" } : Jvm.MethodName) prog_18_method_22_code (4 : Nat) (Option.some Jvm.ClassFile.FieldType.int)) ∈ gtbl := gt_in (List.mem_append_right _ (List.mem_of_getElem? (i := 443) (by decide +kernel))) rfl
theorem q444 : (Jvm.Cond.methodLink "java/lang/StringLatin1" (88 : Nat) ({ cls := "java/lang/StringLatin1", name := "canEncode", desc := "(I)Z" } : Jvm.MethodName)) ∈ gtbl := gt_in (List.mem_append_right _ (List.mem_of_getElem? (i := 444) (by decide +kernel))) rfl
theorem q445 : (Jvm.Cond.static ({ cls := "java/lang/StringLatin1", name := "canEncode", desc := "(I)Z" } : Jvm.MethodName)) ∈ gtbl := gt_in (List.mem_append_right _ (List.mem_of_getElem? (i := 445) (by decide +kernel))) rfl
theorem q446 : (Jvm.Cond.code ({ cls := "java/lang/StringLatin1", name := "canEncode", desc := "(I)Z" } : Jvm.MethodName) prog_18_method_4_code (1 : Nat) (Option.some Jvm.ClassFile.FieldType.boolean)) ∈ gtbl := gt_in (List.mem_append_right _ (List.mem_of_getElem? (i := 446) (by decide +kernel))) rfl
theorem q447 : (Jvm.Cond.methodLink "java/lang/StringLatin1" (92 : Nat) ({ cls := "java/lang/Math", name := "max", desc := "(II)I" } : Jvm.MethodName)) ∈ gtbl := gt_in (List.mem_append_right _ (List.mem_of_getElem? (i := 447) (by decide +kernel))) rfl
theorem q448 : (Jvm.Cond.static ({ cls := "java/lang/Math", name := "max", desc := "(II)I" } : Jvm.MethodName)) ∈ gtbl := gt_in (List.mem_append_right _ (List.mem_of_getElem? (i := 448) (by decide +kernel))) rfl
theorem q449 : (Jvm.Cond.code ({ cls := "java/lang/Math", name := "max", desc := "(II)I" } : Jvm.MethodName) prog_16_method_65_code (2 : Nat) (Option.some Jvm.ClassFile.FieldType.int)) ∈ gtbl := gt_in (List.mem_append_right _ (List.mem_of_getElem? (i := 449) (by decide +kernel))) rfl
theorem q450 : (Jvm.Cond.methodLink "java/lang/StringLatin1" (38 : Nat) ({ cls := "java/lang/Math", name := "min", desc := "(II)I" } : Jvm.MethodName)) ∈ gtbl := gt_in (List.mem_append_right _ (List.mem_of_getElem? (i := 450) (by decide +kernel))) rfl
theorem q453 : (Jvm.Cond.methodLink "java/lang/StringLatin1" (95 : Nat) ({ cls := "java/lang/StringLatin1", name := "indexOfChar", desc := "([BIII)I" } : Jvm.MethodName)) ∈ gtbl := gt_in (List.mem_append_right _ (List.mem_of_getElem? (i := 453) (by decide +kernel))) rfl
theorem q454 : (Jvm.Cond.static ({ cls := "java/lang/StringLatin1", name := "indexOfChar", desc := "([BIII)I" } : Jvm.MethodName)) ∈ gtbl := gt_in (List.mem_append_right _ (List.mem_of_getElem? (i := 454) (by decide +kernel))) rfl
theorem q455 : (Jvm.Cond.code ({ cls := "java/lang/StringLatin1", name := "indexOfChar", desc := "([BIII)I" } : Jvm.MethodName) prog_18_method_23_code (6 : Nat) (Option.some Jvm.ClassFile.FieldType.int)) ∈ gtbl := gt_in (List.mem_append_right _ (List.mem_of_getElem? (i := 455) (by decide +kernel))) rfl
theorem q1212 : (Jvm.Cond.fieldLink "java/lang/String" (9 : Nat) "java/lang/String" "value" "[B") ∈ gtbl := gt_in (List.mem_append_right _ (List.mem_of_getElem? (i := 1212) (by decide +kernel))) rfl
theorem q1213 : (Jvm.Cond.fieldLink "java/lang/String" (15 : Nat) "java/lang/String" "coder" "B") ∈ gtbl := gt_in (List.mem_append_right _ (List.mem_of_getElem? (i := 1213) (by decide +kernel))) rfl
theorem jd_coder {g : Ctx} {d N i : Nat} {M : Mem} {Q : Option Value → Mem → Prop} (hi : i < 4) (h : Q (some (vi 0)) M) : CallsM g yJ0_coder_7d493 cJ0_coder_7d493 1 (some .byte) (rmD d) N [Value.ref (gK g i)] M Q := by
  refine CallsM.intro rfl (Nat.le_of_ble_eq_true rfl) (w_jcomp dJ0_coder_7d493_0 q307 ?_)
  refine w_if_eq (tgt := 13) dJ0_coder_7d493_3 (by decide) (by omega) (fun c => absurd c (by decide)) (fun _ => ?_)
  refine w_aloadR dJ0_coder_7d493_6 0 rfl (w_jcod dJ0_coder_7d493_7 q1213 hi ?_)
  refine w_goto (tgt := 14) dJ0_coder_7d493_10 (by decide) ?_
  exact w_bret dJ0_coder_7d493_14 rfl h
theorem jd_latin {g : Ctx} {d N i : Nat} {M : Mem} {Q : Option Value → Mem → Prop} (hi : i < 4) (h : Q (some (vi 1)) M) : CallsM g yJ0_isLatin1_aae02 cJ0_isLatin1_aae02 1 (some .boolean) (rmD d) N [Value.ref (gK g i)] M Q := by
  refine CallsM.intro rfl (Nat.le_of_ble_eq_true rfl) (w_jcomp dJ0_isLatin1_aae02_0 q307 ?_)
  refine w_if_eq (tgt := 17) dJ0_isLatin1_aae02_3 (by decide) (by omega) (fun c => absurd c (by decide)) (fun _ => ?_)
  refine w_aloadR dJ0_isLatin1_aae02_6 0 rfl (w_jcod dJ0_isLatin1_aae02_7 q1213 hi ?_)
  refine w_if_ne (tgt := 17) dJ0_isLatin1_aae02_10 (by decide) (by omega) (fun c => absurd rfl c) (fun _ => ?_)
  refine w_iconst dJ0_isLatin1_aae02_13 (w_goto (tgt := 18) dJ0_isLatin1_aae02_14 (by decide) ?_)
  exact w_zret dJ0_isLatin1_aae02_18 (Or.inr rfl) h
theorem jd_length {g : Ctx} {d N i : Nat} {M : Mem} {Q : Option Value → Mem → Prop} (hd : 1 ≤ d) (hi : i < 4) (h : Q (some (vi ((sLen.getD i 0 : Nat) : Int))) M) : CallsM g yJ0_length_8abf5 cJ0_length_8abf5 1 (some .int) (rmD d) N [Value.ref (gK g i)] M Q := by
  have hr := sLen_rng hi
  refine CallsM.intro rfl (Nat.le_of_ble_eq_true rfl) (w_aloadR dJ0_length_8abf5_0 0 rfl (w_jval dJ0_length_8abf5_1 q1212 hi (w_jlen dJ0_length_8abf5_4 hi (w_aloadR dJ0_length_8abf5_5 0 rfl ?_))))
  refine w_callJ (n := 0) (As := []) (rest := [vi ((sLen.getD i 0 : Nat) : Int)]) (i := i) (rm' := rmD 0) dJ0_length_8abf5_6 q303 q304 q305 q12 q306 (by decide +kernel) (room_ok (by omega) (by decide)) rfl (Nat.le_of_ble_eq_true rfl) rfl hi (jd_coder hi ?_)
  refine w_ishr dJ0_length_8abf5_9 ?_
  rw [jshr0 ⟨sLen.getD i 0, by omega⟩]
  exact w_iret dJ0_length_8abf5_10 h
theorem jd_pre {g : Ctx} {d N k L : Nat} {M : Mem} {Q : Option Value → Mem → Prop} {fv : Value} (hv : fv = .null ∨ ∃ x : Nat, fv = .ref x) (hk : k < L) (hL : L ≤ 1000) (h : Q (some (vi ((k : Nat) : Int))) M) : CallsM g yJ3_checkIndex_8e157 cJ3_checkIndex_8e157 3 (some .int) (rmD d) N [vi ((k : Nat) : Int), vi ((L : Nat) : Int), fv] M Q := by
  have go : WP g yJ3_checkIndex_8e157 cJ3_checkIndex_8e157 3 (some .int) (rmD d) N 0 [(0, vi ((k : Nat) : Int)), (1, vi ((L : Nat) : Int)), (2, fv)] [] M Q := by
    refine w_iload_n dJ3_checkIndex_8e157_0 0 rfl (w_if_lt (tgt := 9) dJ3_checkIndex_8e157_1 (by decide) (by omega) (fun c => by omega) (fun _ => ?_))
    refine w_iload_n dJ3_checkIndex_8e157_4 0 rfl (w_iload_n dJ3_checkIndex_8e157_5 1 rfl (w_icmp_lt (tgt := 16) dJ3_checkIndex_8e157_6 (by decide) (by omega) (by omega) (fun _ => ?_) (fun c => by omega)))
    exact w_iload_n dJ3_checkIndex_8e157_16 0 rfl (w_iret dJ3_checkIndex_8e157_17 h)
  rcases hv with rfl | ⟨x, rfl⟩
  · exact CallsM.intro rfl (Nat.le_of_ble_eq_true rfl) go
  · exact CallsM.intro rfl (Nat.le_of_ble_eq_true rfl) go
theorem jd_check {g : Ctx} {d N k L : Nat} {M : Mem} {Q : Option Value → Mem → Prop} (hd : 1 ≤ d) (hk : k < L) (hL : L ≤ 1000) (h : Q none M) : CallsM g yJ0_checkIndex_df160 cJ0_checkIndex_df160 2 none (rmD d) N [vi ((k : Nat) : Int), vi ((L : Nat) : Int)] M Q := by
  refine CallsM.intro rfl (Nat.le_of_ble_eq_true rfl) (w_iload_n dJ0_checkIndex_df160_0 0 rfl (w_iload_n dJ0_checkIndex_df160_1 1 rfl ?_))
  have go : ∀ fv : Value, (fv = .null ∨ ∃ x : Nat, fv = .ref x) → WP g yJ0_checkIndex_df160 cJ0_checkIndex_df160 2 none (rmD d) N 5 (lv_args 0 [vi ((k : Nat) : Int), vi ((L : Nat) : Int)]) [fv, vi ((L : Nat) : Int), vi ((k : Nat) : Int)] M Q := by
    intro fv hv
    refine w_callS (n := 3) (As := [vi ((k : Nat) : Int), vi ((L : Nat) : Int), fv]) (rest := []) (rm' := rmD 0) dJ0_checkIndex_df160_5 q325 q326 q14 q327 (by decide +kernel) (room_ok (by omega) (by decide)) rfl (Nat.le_of_ble_eq_true rfl) rfl (jd_pre hv hk hL ?_)
    exact w_pop dJ0_checkIndex_df160_8 rfl (w_vret dJ0_checkIndex_df160_9 h)
  exact w_jfmt dJ0_checkIndex_df160_2 q323 (go _ (Or.inl rfl)) (fun x => go _ (Or.inr ⟨x, rfl⟩))
theorem jd_char1 {g : Ctx} {d N i k : Nat} {M : Mem} {Q : Option Value → Mem → Prop} (hd : 2 ≤ d) (hi : i < 4) (hk : k < sLen.getD i 0) (h : Q (some (vi (bV i k))) M) : CallsM g yJ1_charAt_3b067 cJ1_charAt_3b067 2 (some .char) (rmD d) N [Value.ref (gV g i), vi ((k : Nat) : Int)] M Q := by
  have hr := sLen_rng hi
  have hb := bV_rng hi hk
  refine CallsM.intro rfl (Nat.le_of_ble_eq_true rfl) (w_iload_n dJ1_charAt_3b067_0 1 rfl (w_aloadR dJ1_charAt_3b067_1 0 rfl (w_jlen dJ1_charAt_3b067_2 hi ?_)))
  refine w_callS (n := 2) (As := [vi ((k : Nat) : Int), vi ((sLen.getD i 0 : Nat) : Int)]) (rest := []) (rm' := rmD 1) dJ1_charAt_3b067_3 q320 q321 q12 q322 (by decide +kernel) (room_ok (by omega) (by decide)) rfl (Nat.le_of_ble_eq_true rfl) rfl (jd_check (by omega) hk (by omega) ?_)
  refine w_aloadR dJ1_charAt_3b067_6 0 rfl (w_iload_n dJ1_charAt_3b067_7 1 rfl (w_jbal dJ1_charAt_3b067_8 hi hk (w_sipush dJ1_charAt_3b067_9 rfl (w_iand dJ1_charAt_3b067_12 ?_))))
  obtain ⟨b, eb⟩ := Int.eq_ofNat_of_zero_le (show 0 ≤ bV i k by omega)
  rw [eb] at h hb ⊢
  rw [jand255 ⟨b, by omega⟩]
  exact w_i2c dJ1_charAt_3b067_13 (by omega) (by omega) (w_cret dJ1_charAt_3b067_14 (by omega) (by omega) h)
theorem jd_charAt {g : Ctx} {d N i k : Nat} {M : Mem} {Q : Option Value → Mem → Prop} (hd : 3 ≤ d) (hi : i < 4) (hk : k < sLen.getD i 0) (h : Q (some (vi (bV i k))) M) : CallsM g yJ0_charAt_5068e cJ0_charAt_5068e 2 (some .char) (rmD d) N [Value.ref (gK g i), vi ((k : Nat) : Int)] M Q := by
  have hb := bV_rng hi hk
  refine CallsM.intro rfl (Nat.le_of_ble_eq_true rfl) (w_aloadR dJ0_charAt_5068e_0 0 rfl ?_)
  refine w_callJ (n := 0) (As := []) (rest := []) (i := i) (rm' := rmD 0) dJ0_charAt_5068e_1 q313 q314 q315 q12 q316 (by decide +kernel) (room_ok (by omega) (by decide)) rfl (Nat.le_of_ble_eq_true rfl) rfl hi (jd_latin hi ?_)
  refine w_if_eq (tgt := 16) dJ0_charAt_5068e_4 (by decide) (by omega) (fun c => absurd c (by decide)) (fun _ => ?_)
  refine w_aloadR dJ0_charAt_5068e_7 0 rfl (w_jval dJ0_charAt_5068e_8 q1212 hi (w_iload_n dJ0_charAt_5068e_11 1 rfl ?_))
  refine w_callS (n := 2) (As := [Value.ref (gV g i), vi ((k : Nat) : Int)]) (rest := []) (rm' := rmD 2) dJ0_charAt_5068e_12 q317 q318 q13 q319 (by decide +kernel) (room_ok (by omega) (by decide)) rfl (Nat.le_of_ble_eq_true rfl) rfl (jd_char1 (by omega) hi hk ?_)
  exact w_cret dJ0_charAt_5068e_15 (by omega) (by omega) h
theorem jd_can {g : Ctx} {d N : Nat} {x : Int} {M : Mem} {Q : Option Value → Mem → Prop} (hx : 0 ≤ x ∧ x < 65536) (h1 : x ≤ 255 → Q (some (vi 1)) M) (h0 : 255 < x → Q (some (vi 0)) M) : CallsM g yJ1_canEncode_9a6ad cJ1_canEncode_9a6ad 1 (some .boolean) (rmD d) N [vi x] M Q := by
  refine CallsM.intro rfl (Nat.le_of_ble_eq_true rfl) (w_iload_n dJ1_canEncode_9a6ad_0 0 rfl (w_if_lt (tgt := 15) dJ1_canEncode_9a6ad_1 (by decide) (by omega) (fun c => by omega) (fun _ => ?_)))
  refine w_iload_n dJ1_canEncode_9a6ad_4 0 rfl (w_sipush dJ1_canEncode_9a6ad_5 rfl (w_icmp_gt (tgt := 15) dJ1_canEncode_9a6ad_8 (by decide) (by omega) (by omega) (fun c => ?_) (fun c => ?_)))
  · exact w_iconst dJ1_canEncode_9a6ad_15 (w_zret dJ1_canEncode_9a6ad_16 (Or.inl rfl) (h0 c))
  · exact w_iconst dJ1_canEncode_9a6ad_11 (w_goto (tgt := 16) dJ1_canEncode_9a6ad_12 (by decide) (w_zret dJ1_canEncode_9a6ad_16 (Or.inr rfl) (h1 (by omega))))
theorem jd_ixc {g : Ctx} {d N i : Nat} {x : Int} {M : Mem} {Q : Option Value → Mem → Prop} (hi : i < 4) (hx : 0 ≤ x ∧ x ≤ 255) (h : Q (some (vi (m1F (noF (bV i) x (sLen.getD i 0))))) M) : CallsM g yJ1_indexOfChar_4cfef cJ1_indexOfChar_4cfef 6 (some .int) (rmD d) N [Value.ref (gV g i), vi x, vi 0, vi ((sLen.getD i 0 : Nat) : Int)] M Q := by
  have hr := sLen_rng hi
  have jx : jb x = if x < 128 then x else x - 256 := by
    obtain ⟨n, rfl⟩ := Int.eq_ofNat_of_zero_le hx.1
    have := jb_ok ⟨n, by omega⟩
    rw [this]
    by_cases z : n < 128
    · rw [if_pos z, if_pos (by omega)]
    · rw [if_neg z, if_neg (by omega)]
  have jr : InR (jb x) := vi_InR _
  have loop : ∀ (w k : Nat), k + w = sLen.getD i 0 → (∀ j, j < k → bV i j ≠ x) → WP g yJ1_indexOfChar_4cfef cJ1_indexOfChar_4cfef 6 (some .int) (rmD d) N 7 [(5, vi ((k : Nat) : Int)), (4, vi (jb x)), (0, Value.ref (gV g i)), (1, vi x), (2, vi 0), (3, vi ((sLen.getD i 0 : Nat) : Int))] [] M Q := by
    intro w
    induction w with
    | zero =>
      intro k hk hno
      refine w_iload dJ1_indexOfChar_4cfef_7 0 rfl (w_iload_n dJ1_indexOfChar_4cfef_9 5 rfl (w_icmp_ge (tgt := 31) dJ1_indexOfChar_4cfef_10 (by decide) (by omega) (by omega) (fun _ => ?_) (fun c => by omega)))
      rw [noF_none (fun j hj => hno j (by omega))] at h
      exact w_iconst dJ1_indexOfChar_4cfef_31 (w_iret dJ1_indexOfChar_4cfef_32 h)
    | succ w ih =>
      intro k hk hno
      have hb := bV_rng hi (k := k) (by omega)
      refine w_iload dJ1_indexOfChar_4cfef_7 0 rfl (w_iload_n dJ1_indexOfChar_4cfef_9 5 rfl (w_icmp_ge (tgt := 31) dJ1_indexOfChar_4cfef_10 (by decide) (by omega) (by omega) (fun c => by omega) (fun _ => ?_)))
      refine w_aloadR dJ1_indexOfChar_4cfef_13 2 rfl (w_iload dJ1_indexOfChar_4cfef_14 0 rfl (w_jbal dJ1_indexOfChar_4cfef_16 hi (by omega) (w_iload dJ1_indexOfChar_4cfef_17 1 rfl (w_icmp_ne (tgt := 25) dJ1_indexOfChar_4cfef_19 (by decide) (by omega) jr (fun c => ?_) (fun c => ?_)))))
      · refine w_iinc (lv' := [(5, vi (((k : Nat) : Int) + 1)), (4, vi (jb x)), (0, Value.ref (gV g i)), (1, vi x), (2, vi 0), (3, vi ((sLen.getD i 0 : Nat) : Int))]) dJ1_indexOfChar_4cfef_25 0 rfl (by decide) rfl (w_goto (tgt := 7) dJ1_indexOfChar_4cfef_28 (by decide) ?_)
        rw [show ((k : Nat) : Int) + 1 = ((k + 1 : Nat) : Int) by omega]
        refine ih (k + 1) (by omega) (fun j hj e => ?_)
        by_cases z : j = k
        · rw [z] at e
          apply c
          rw [jx, if_pos (by omega), e]
        · exact hno j (by omega) e
      · have ex : bV i k = x := by
          rw [jx] at c
          by_cases z : x < 128
          · rw [if_pos z] at c; omega
          · rw [if_neg z] at c; omega
        rw [noF_at (i := k) (by omega) ex hno, m1F, if_neg (by omega)] at h
        exact w_iload dJ1_indexOfChar_4cfef_22 0 rfl (w_iret dJ1_indexOfChar_4cfef_24 h)
  refine CallsM.intro rfl (Nat.le_of_ble_eq_true rfl) (w_iload_n dJ1_indexOfChar_4cfef_0 1 rfl (w_i2b dJ1_indexOfChar_4cfef_1 ?_))
  refine w_istore (lv' := [(4, vi (jb x)), (0, Value.ref (gV g i)), (1, vi x), (2, vi 0), (3, vi ((sLen.getD i 0 : Nat) : Int))]) dJ1_indexOfChar_4cfef_2 (by decide) rfl (w_iload_n dJ1_indexOfChar_4cfef_4 3 rfl ?_)
  exact w_istore (lv' := [(5, vi 0), (4, vi (jb x)), (0, Value.ref (gV g i)), (1, vi x), (2, vi 0), (3, vi ((sLen.getD i 0 : Nat) : Int))]) dJ1_indexOfChar_4cfef_5 (by decide) rfl (loop (sLen.getD i 0) 0 (by omega) (fun j hj => by omega))
theorem jd_ix1 {g : Ctx} {d N i : Nat} {x : Int} {M : Mem} {Q : Option Value → Mem → Prop} (hd : 1 ≤ d) (hi : i < 4) (hx : 0 ≤ x ∧ x < 65536) (h : Q (some (vi (m1F (noF (bV i) x (sLen.getD i 0))))) M) : CallsM g yJ1_indexOf_4cfef cJ1_indexOf_4cfef 4 (some .int) (rmD d) N [Value.ref (gV g i), vi x, vi 0, vi ((sLen.getD i 0 : Nat) : Int)] M Q := by
  have hr := sLen_rng hi
  refine CallsM.intro rfl (Nat.le_of_ble_eq_true rfl) (w_iload_n dJ1_indexOf_4cfef_0 1 rfl ?_)
  refine w_callS (n := 1) (As := [vi x]) (rest := []) (rm' := rmD 0) dJ1_indexOf_4cfef_1 q444 q445 q13 q446 (by decide +kernel) (room_ok (by omega) (by decide)) rfl (Nat.le_of_ble_eq_true rfl) rfl (jd_can hx (fun h1 => ?_) (fun h1 => ?_))
  · refine w_if_ne (tgt := 9) dJ1_indexOf_4cfef_4 (by decide) (by omega) (fun _ => ?_) (fun c => absurd c (by decide))
    refine w_iload_n dJ1_indexOf_4cfef_9 2 rfl (w_iconst dJ1_indexOf_4cfef_10 (w_mmax dJ1_indexOf_4cfef_11 q447 q448 q16 q449 hd (by show 0 + 13 ≤ 40 * d; omega) (by omega) (by omega) ?_))
    rw [if_neg (by omega)]
    refine w_istore_n (i := 2) (lv' := [(2, vi 0), (0, Value.ref (gV g i)), (1, vi x), (3, vi ((sLen.getD i 0 : Nat) : Int))]) dJ1_indexOf_4cfef_14 rfl (by decide) rfl (w_iload_n dJ1_indexOf_4cfef_15 3 rfl (w_aloadR dJ1_indexOf_4cfef_16 1 rfl (w_jlen dJ1_indexOf_4cfef_17 hi ?_)))
    refine w_mmin dJ1_indexOf_4cfef_18 q450 q451 q16 q452 hd (by show 0 + 13 ≤ 40 * d; omega) (by omega) (by omega) ?_
    rw [if_neg (by omega)]
    refine w_istore_n (i := 3) (lv' := [(3, vi ((sLen.getD i 0 : Nat) : Int)), (2, vi 0), (0, Value.ref (gV g i)), (1, vi x)]) dJ1_indexOf_4cfef_21 rfl (by decide) rfl (w_iload_n dJ1_indexOf_4cfef_22 1 rfl (w_iload_n dJ1_indexOf_4cfef_23 0 rfl ?_))
    refine w_icmp_lt (tgt := 29) dJ1_indexOf_4cfef_24 (by decide) (by omega) (by omega) (fun _ => ?_) (fun c => by omega)
    refine w_aloadR dJ1_indexOf_4cfef_29 2 rfl (w_iload_n dJ1_indexOf_4cfef_30 3 rfl (w_iload_n dJ1_indexOf_4cfef_31 1 rfl (w_iload_n dJ1_indexOf_4cfef_32 0 rfl ?_)))
    refine w_callS (n := 4) (As := [Value.ref (gV g i), vi x, vi 0, vi ((sLen.getD i 0 : Nat) : Int)]) (rest := []) (rm' := rmD 0) dJ1_indexOf_4cfef_33 q453 q454 q13 q455 (by decide +kernel) (room_ok (by omega) (by decide)) rfl (Nat.le_of_ble_eq_true rfl) rfl (jd_ixc hi (by omega) ?_)
    exact w_iret dJ1_indexOf_4cfef_36 h
  · refine w_if_ne (tgt := 9) dJ1_indexOf_4cfef_4 (by decide) (by omega) (fun c => absurd rfl c) (fun _ => ?_)
    rw [noF_none (fun j hj => by have := bV_rng hi hj; omega)] at h
    exact w_iconst dJ1_indexOf_4cfef_7 (w_iret dJ1_indexOf_4cfef_8 h)
theorem jd_ix2 {g : Ctx} {d N i : Nat} {x : Int} {M : Mem} {Q : Option Value → Mem → Prop} (hd : 2 ≤ d) (hi : i < 4) (hx : 0 ≤ x ∧ x < 65536) (h : Q (some (vi (m1F (noF (bV i) x (sLen.getD i 0))))) M) : CallsM g yJ0_indexOf_7cf53 cJ0_indexOf_7cf53 3 (some .int) (rmD d) N [Value.ref (gK g i), vi x, vi 0] M Q := by
  refine CallsM.intro rfl (Nat.le_of_ble_eq_true rfl) (w_aloadR dJ0_indexOf_7cf53_0 0 rfl ?_)
  refine w_callJ (n := 0) (As := []) (rest := []) (i := i) (rm' := rmD 0) dJ0_indexOf_7cf53_1 q313 q314 q315 q12 q316 (by decide +kernel) (room_ok (by omega) (by decide)) rfl (Nat.le_of_ble_eq_true rfl) rfl hi (jd_latin hi ?_)
  refine w_if_eq (tgt := 23) dJ0_indexOf_7cf53_4 (by decide) (by omega) (fun c => absurd c (by decide)) (fun _ => ?_)
  refine w_aloadR dJ0_indexOf_7cf53_7 0 rfl (w_jval dJ0_indexOf_7cf53_8 q1212 hi (w_iload_n dJ0_indexOf_7cf53_11 1 rfl (w_iload_n dJ0_indexOf_7cf53_12 2 rfl (w_aloadR dJ0_indexOf_7cf53_13 0 rfl ?_))))
  refine w_callJ (n := 0) (As := []) (rest := [vi 0, vi x, Value.ref (gV g i)]) (i := i) (rm' := rmD 1) dJ0_indexOf_7cf53_14 q440 q300 q301 q12 q302 (by decide +kernel) (room_ok (by omega) (by decide)) rfl (Nat.le_of_ble_eq_true rfl) rfl hi (jd_length (by omega) hi ?_)
  refine w_callS (n := 4) (As := [Value.ref (gV g i), vi x, vi 0, vi ((sLen.getD i 0 : Nat) : Int)]) (rest := []) (rm' := rmD 1) dJ0_indexOf_7cf53_17 q441 q442 q13 q443 (by decide +kernel) (room_ok (by omega) (by decide)) rfl (Nat.le_of_ble_eq_true rfl) rfl (jd_ix1 (by omega) hi hx ?_)
  exact w_goto (tgt := 36) dJ0_indexOf_7cf53_20 (by decide) (w_iret dJ0_indexOf_7cf53_36 h)
theorem jd_ix {g : Ctx} {d N i : Nat} {x : Int} {M : Mem} {Q : Option Value → Mem → Prop} (hd : 3 ≤ d) (hi : i < 4) (hx : 0 ≤ x ∧ x < 65536) (h : Q (some (vi (m1F (noF (bV i) x (sLen.getD i 0))))) M) : CallsM g yJ0_indexOf_0f7a4 cJ0_indexOf_0f7a4 2 (some .int) (rmD d) N [Value.ref (gK g i), vi x] M Q := by
  refine CallsM.intro rfl (Nat.le_of_ble_eq_true rfl) (w_aloadR dJ0_indexOf_0f7a4_0 0 rfl (w_iload_n dJ0_indexOf_0f7a4_1 1 rfl (w_iconst dJ0_indexOf_0f7a4_2 ?_)))
  refine w_callJ (n := 2) (As := [vi x, vi 0]) (rest := []) (i := i) (rm' := rmD 2) dJ0_indexOf_0f7a4_3 q436 q437 q438 q12 q439 (by decide +kernel) (room_ok (by omega) (by decide)) rfl (Nat.le_of_ble_eq_true rfl) rfl hi (jd_ix2 (by omega) hi hx ?_)
  exact w_iret dJ0_indexOf_0f7a4_6 h
theorem k_J_length {g : Ctx} {n : Nat} {M : Mem} {Q : Int → Mem → Prop} {i : Nat} (hi : i < 4) (h : Q ((sLen.getD i 0 : Nat) : Int) M) : K_J_length g n i M Q := by
  have := sLen_rng hi
  exact jd_length (by omega) hi ⟨_, rfl, by omega, h⟩
theorem k_J_charAt {g : Ctx} {n : Nat} {M : Mem} {Q : Int → Mem → Prop} {i k : Nat} (hi : i < 4) (hk : k < sLen.getD i 0) (h : Q (bV i k) M) : K_J_charAt g n i ((k : Nat) : Int) M Q := by
  have := bV_rng hi hk
  exact jd_charAt (by omega) hi hk ⟨_, rfl, by omega, h⟩
theorem k_J_indexOf {g : Ctx} {n : Nat} {M : Mem} {Q : Int → Mem → Prop} {i : Nat} {x : Int} (hi : i < 4) (hx : 0 ≤ x ∧ x < 65536) (h : Q (m1F (noF (bV i) x (sLen.getD i 0))) M) : K_J_indexOf g n i x M Q := by
  have := sLen_rng hi
  refine jd_ix (by omega) hi hx ⟨_, rfl, ?_, h⟩
  rcases noF_cases (bV i) x (sLen.getD i 0) with ⟨e, _⟩ | ⟨k, hk, e, _⟩
  · rw [e]; exact ⟨by decide, by decide⟩
  · rw [e, m1F, if_neg (by omega)]; omega
