/-! ===== longs ===== -/
def vl (x : Int) : Value := .long (Int64.ofInt x)
abbrev InL (x : Int) : Prop := -9223372036854775808 ≤ x ∧ x ≤ 9223372036854775807
def jcmp (x z : Int) : Int := if z < x then 1 else if x = z then 0 else -1
theorem inr_jcmp (x z : Int) : InR (jcmp x z) := by unfold jcmp; split; omega; split <;> omega
theorem vl_toInt {x : Int} (h : InL x) : (Int64.ofInt x).toInt = x := Int64.toInt_ofInt_of_le (by omega) (by omega)
section Rows
variable {g : Ctx} {y : MethodName} {cc : ByteArray} {nL : Nat} {ret : Option FieldType} {rm : Room} {N pc : Nat} {lv : List (Nat × Value)} {st : List Value} {M : Mem} {Q : Option Value → Mem → Prop}
theorem w_i2l {x : Int} (hd : decode cc pc = .ok (.i2l, 1)) (hx : InR x) (k : WP g y cc nL ret rm N (pc + 1) lv (vl x :: st) M Q) : WP g y cc nL ret rm N pc lv (vi x :: st) M Q := by
  intro p e s m args below meth c H locs ls F hP hT hS hl
  refine lv_i2l F.1 F.2.1 hd (v := Int64.ofInt x) ?_ (k p e s m args below meth c H locs ls F hP hT hS hl)
  rw [← Int64.toInt_inj, Int32.toInt_toInt64, vi_toInt hx, vl_toInt ⟨by omega, by omega⟩]
theorem w_l2i {x : Int} (hd : decode cc pc = .ok (.l2i, 1)) (k : WP g y cc nL ret rm N (pc + 1) lv (vi x :: st) M Q) : WP g y cc nL ret rm N pc lv (vl x :: st) M Q := by
  intro p e s m args below meth c H locs ls F hP hT hS hl
  exact lv_l2i F.1 F.2.1 hd (v := Int32.ofInt x) (by simp) (k p e s m args below meth c H locs ls F hP hT hS hl)
theorem w_lmul {x z : Int} (hd : decode cc pc = .ok (.lmul, 1)) (k : WP g y cc nL ret rm N (pc + 1) lv (vl (x * z) :: st) M Q) : WP g y cc nL ret rm N pc lv (vl z :: vl x :: st) M Q := by
  intro p e s m args below meth c H locs ls F hP hT hS hl
  refine lv_lmul F.1 F.2.1 hd ?_
  rw [← Int64.ofInt_mul]
  exact k p e s m args below meth c H locs ls F hP hT hS hl
theorem w_lstore {i : Nat} {x : Int} {lv' : List (Nat × Value)} (hd : decode cc pc = .ok (.lstore i, 2)) (hn : i + 1 < nL) (hlv : (i, vl x) :: lv.filter (fun q => !(q.1 == i) && (!(q.1 == i + 1) && !(q.1 + 1 == i && q.2.category == 2))) = lv') (k : WP g y cc nL ret rm N (pc + 2) lv' st M Q) : WP g y cc nL ret rm N pc lv (vl x :: st) M Q := by
  intro p e s m args below meth c H locs ls F hP hT hS hl
  exact lv_lstore F.1 F.2.1 hd hl hn hlv (fun ls' hl' => k p e s m args below meth c H locs ls' F hP hT hS hl')
theorem w_lload {q : Nat} {x : Int} (hd : decode cc pc = .ok (.lload q, 2)) (j : Nat) (hj : lv[j]? = some (q, vl x)) (k : WP g y cc nL ret rm N (pc + 2) lv (vl x :: st) M Q) : WP g y cc nL ret rm N pc lv st M Q := by
  intro p e s m args below meth c H locs ls F hP hT hS hl
  exact lv_lload F.1 F.2.1 hd (lv_at hl j hj) (k p e s m args below meth c H locs ls F hP hT hS hl)
theorem w_ldc2 {i : Nat} {n : Int} (hd : decode cc pc = .ok (.ldc2_w i, 3)) (hw : Cond.constantLong y.cls i (Int64.ofInt n) ∈ gtbl) (k : WP g y cc nL ret rm N (pc + 3) lv (vl n :: st) M Q) : WP g y cc nL ret rm N pc lv st M Q := by
  intro p e s m args below meth c H locs ls F hP hT hS hl
  exact lv_ldc2 F.1 F.2.1 F.2.2.2.2.1 (F.2.2.2.2.2.1 _ hw) hd (k p e s m args below meth c H locs ls F hP hT hS hl)
theorem w_lcmp {x z : Int} (hd : decode cc pc = .ok (.lcmp, 1)) (hx : InL x) (hz : InL z) (k : WP g y cc nL ret rm N (pc + 1) lv (vi (jcmp x z) :: st) M Q) : WP g y cc nL ret rm N pc lv (vl z :: vl x :: st) M Q := by
  intro p e s m args below meth c H locs ls F hP hT hS hl
  refine W.lcmp F.1 F.2.1 hd ?_
  have e1 : lg_cmp (Int64.ofInt x) (Int64.ofInt z) = Int32.ofInt (jcmp x z) := by
    unfold lg_cmp jcmp
    have a1 : (Int64.ofInt x > Int64.ofInt z) ↔ z < x := by rw [gt_iff_lt, Int64.lt_iff_toInt_lt, vl_toInt hx, vl_toInt hz]
    have a2 : (Int64.ofInt x = Int64.ofInt z) ↔ x = z := by rw [← Int64.toInt_inj, vl_toInt hx, vl_toInt hz]
    by_cases h1 : z < x
    · rw [if_pos (a1.mpr h1), if_pos h1]; rfl
    · rw [if_neg (fun q => h1 (a1.mp q)), if_neg h1]
      by_cases h2 : x = z
      · rw [if_pos (a2.mpr h2), if_pos h2]; rfl
      · rw [if_neg (fun q => h2 (a2.mp q)), if_neg h2]; rfl
  rw [e1]
  exact k p e s m args below meth c H locs ls F hP hT hS hl
end Rows
theorem q785 : (Jvm.Cond.methodLink "SendRules" (210 : Nat) ({ cls := "SendRules", name := "floatBitsOfMean", desc := "(I)I" } : Jvm.MethodName)) ∈ gtbl := gt_in (List.mem_append_right _ (List.mem_of_getElem? (i := 785) (by decide +kernel))) rfl
theorem q792 : (Jvm.Cond.constantLong "SendRules" (213 : Nat) (2147483647 : Int64)) ∈ gtbl := gt_in (List.mem_append_right _ (List.mem_of_getElem? (i := 792) (by decide +kernel))) rfl
theorem q1196 : (Jvm.Cond.methodLink "SendRulesModel" (293 : Nat) ({ cls := "SendRulesModel", name := "floats", desc := "(I)I" } : Jvm.MethodName)) ∈ gtbl := gt_in (List.mem_append_right _ (List.mem_of_getElem? (i := 1196) (by decide +kernel))) rfl
theorem q1199 : (Jvm.Cond.constantLong "SendRulesModel" (296 : Nat) (2147483647 : Int64)) ∈ gtbl := gt_in (List.mem_append_right _ (List.mem_of_getElem? (i := 1199) (by decide +kernel))) rfl
theorem qn206 : (Jvm.Cond.fieldLinkNest "SendRules" (207 : Nat) "SendRules$Evaluator" "lookupCount" "I" "SendRules") ∈ ntbl := List.mem_filter.mpr ⟨List.mem_of_getElem? (i := 206) (by decide +kernel), rfl⟩
set_option maxHeartbeats 4000000 in
set_option maxRecDepth 100000 in
theorem b_Sr_lookups_0 {g : Ctx} {n : Nat} {p0 : Int} {p1 : Int} {p2 : Int} {p3 : Int} {M : Mem} {Q : Int → Mem → Prop} (hp0 : InR p0) (hp1 : InR p1) (hp2 : InR p2) (hp3 : InR p3) (h : K_Sr_isKnown g n p0 M (fun r1 M2 => (r1 = 0 ∨ r1 = 1) → WT M2 → (((r1 = 0) → Q (-1) M2) ∧ ((¬ (r1 = 0)) → K_Sr_isLetter g n p1 M2 (fun r4 M5 => (r4 = 0 ∨ r4 = 1) → WT M5 → (((r4 = 0) → Q (-1) M5) ∧ ((¬ (r4 = 0)) → (((p3 < 0) → Q (-1) M5) ∧ ((¬ (p3 < 0)) → (((1 < p3) → Q (-1) M5) ∧ ((¬ (1 < p3)) → (((¬ p3 = 0) → P_Sr_lookups g n 43 [(0, vr g (0)), (1, vi (p0)), (2, vi (p1)), (3, vi (p2)), (4, vi (p3)), (5, vi (0)), (6, vi (0))] [] M5 Q) ∧ ((p3 = 0) → (((0 ≤ p2) → P_Sr_lookups g n 43 [(0, vr g (0)), (1, vi (p0)), (2, vi (p1)), (3, vi (p2)), (4, vi (p3)), (5, vi (0)), (6, vi (0))] [] M5 Q) ∧ ((¬ (0 ≤ p2)) → Q (-1) M5))))))))))))))) : P_Sr_lookups g n 0 [(0, vr g (0)), (1, vi (p0)), (2, vi (p1)), (3, vi (p2)), (4, vi (p3))] [] M Q := by
  refine w_wt (fun hw => ?_)
  refine w_aload_n dX10_lookups_0 0 rfl ?_
  refine w_iload_n dX10_lookups_1 1 rfl ?_
  refine c_Sr_isKnown dX10_lookups_2 q595 (by decide) (Nat.le_of_ble_eq_true rfl) h (fun r1 M2 h hr1 hwM2 => ?_)
  replace h := h hr1 hwM2
  refine w_if_eq (tgt := 35) dX10_lookups_5 (by decide) (inr_z hr1) (fun c3 => ?_) (fun c3 => ?_)
  · replace h := h.1 c3
    refine w_iconst dX10_lookups_35 ?_
    exact w_iret dX10_lookups_36 ⟨_, rfl, ⟨by decide, by decide⟩, h⟩
  · replace h := h.2 c3
    refine w_iload_n dX10_lookups_8 2 rfl ?_
    refine c_Sr_isLetter dX10_lookups_9 q602 (by decide) (Nat.le_of_ble_eq_true rfl) h (fun r4 M5 h hr4 hwM5 => ?_)
    replace h := h hr4 hwM5
    refine w_if_eq (tgt := 35) dX10_lookups_12 (by decide) (inr_z hr4) (fun c6 => ?_) (fun c6 => ?_)
    · replace h := h.1 c6
      refine w_iconst dX10_lookups_35 ?_
      exact w_iret dX10_lookups_36 ⟨_, rfl, ⟨by decide, by decide⟩, h⟩
    · replace h := h.2 c6
      refine w_iload dX10_lookups_15 4 rfl ?_
      refine w_if_lt (tgt := 35) dX10_lookups_17 (by decide) hp3 (fun c7 => ?_) (fun c7 => ?_)
      · replace h := h.1 c7
        refine w_iconst dX10_lookups_35 ?_
        exact w_iret dX10_lookups_36 ⟨_, rfl, ⟨by decide, by decide⟩, h⟩
      · replace h := h.2 c7
        refine w_iload dX10_lookups_20 4 rfl ?_
        refine w_iconst dX10_lookups_22 ?_
        refine w_icmp_gt (tgt := 35) dX10_lookups_23 (by decide) hp3 ⟨by decide, by decide⟩ (fun c8 => ?_) (fun c8 => ?_)
        · replace h := h.1 c8
          refine w_iconst dX10_lookups_35 ?_
          exact w_iret dX10_lookups_36 ⟨_, rfl, ⟨by decide, by decide⟩, h⟩
        · replace h := h.2 c8
          refine w_iload dX10_lookups_26 4 rfl ?_
          refine w_if_ne (tgt := 37) dX10_lookups_28 (by decide) hp3 (fun c9 => ?_) (fun c9 => ?_)
          · replace h := h.1 c9
            refine w_iconst dX10_lookups_37 ?_
            refine w_istore (lv' := [(5, vi (0)), (0, vr g (0)), (1, vi (p0)), (2, vi (p1)), (3, vi (p2)), (4, vi (p3))]) dX10_lookups_38 (by decide) rfl ?_
            refine w_iconst dX10_lookups_40 ?_
            refine w_istore (lv' := [(6, vi (0)), (5, vi (0)), (0, vr g (0)), (1, vi (p0)), (2, vi (p1)), (3, vi (p2)), (4, vi (p3))]) dX10_lookups_41 (by decide) rfl ?_
            refine w_lv [2, 3, 4, 5, 6, 1, 0] rfl ?_
            exact h
          · replace h := h.2 c9
            refine w_iload_n dX10_lookups_31 3 rfl ?_
            refine w_if_ge (tgt := 37) dX10_lookups_32 (by decide) hp2 (fun c10 => ?_) (fun c10 => ?_)
            · replace h := h.1 c10
              refine w_iconst dX10_lookups_37 ?_
              refine w_istore (lv' := [(5, vi (0)), (0, vr g (0)), (1, vi (p0)), (2, vi (p1)), (3, vi (p2)), (4, vi (p3))]) dX10_lookups_38 (by decide) rfl ?_
              refine w_iconst dX10_lookups_40 ?_
              refine w_istore (lv' := [(6, vi (0)), (5, vi (0)), (0, vr g (0)), (1, vi (p0)), (2, vi (p1)), (3, vi (p2)), (4, vi (p3))]) dX10_lookups_41 (by decide) rfl ?_
              refine w_lv [2, 3, 4, 5, 6, 1, 0] rfl ?_
              exact h
            · replace h := h.2 c10
              refine w_iconst dX10_lookups_35 ?_
              exact w_iret dX10_lookups_36 ⟨_, rfl, ⟨by decide, by decide⟩, h⟩
set_option maxHeartbeats 4000000 in
set_option maxRecDepth 100000 in
theorem b_Sr_lookups_43 {g : Ctx} {n : Nat} {x1 : Int} {x2 : Int} {x3 : Int} {x4 : Int} {x5 : Int} {x6 : Int} {M : Mem} {Q : Int → Mem → Prop} (hx1 : InR x1) (hx2 : InR x2) (hx3 : InR x3) (hx4 : InR x4) (hx5 : InR x5) (hx6 : InR x6) (h : (((256 ≤ x6) → (((¬ x4 = 1) → (InL (x3 * x5)) ∧ ((((jcmp (x3 * x5) 2147483647) ≤ 0) → (InR (x3 * x5)) ∧ Q (x3 * x5) M) ∧ ((¬ ((jcmp (x3 * x5) 2147483647) ≤ 0)) → Q (-3) M))) ∧ ((x4 = 1) → K_Sr_floatBitsOfMean g n x5 M (fun r6 M7 => InR r6 → WT M7 → Q r6 M7)))) ∧ ((¬ (256 ≤ x6)) → (isRec (gP M (0) (1))) ∧ K_Ev_evaluate g n (gP M (0) (1)) x1 x6 x2 M (fun r9 M10 => InR r9 → WT M10 → P_Sr_lookups g n 43 [(0, vr g (0)), (1, vi (x1)), (2, vi (x2)), (3, vi (x3)), (4, vi (x4)), (5, vi (x5 + (gI M10 (258) (4)))), (6, vi (x6 + 1))] [] M10 Q)))) : P_Sr_lookups g n 43 [(0, vr g (0)), (1, vi (x1)), (2, vi (x2)), (3, vi (x3)), (4, vi (x4)), (5, vi (x5)), (6, vi (x6))] [] M Q := by
  refine w_wt (fun hw => ?_)
  refine w_iload dX10_lookups_43 6 rfl ?_
  refine w_sipush dX10_lookups_45 rfl ?_
  refine w_icmp_ge (tgt := 85) dX10_lookups_48 (by decide) hx6 ⟨by decide, by decide⟩ (fun c1 => ?_) (fun c1 => ?_)
  · replace h := h.1 c1
    refine w_iload dX10_lookups_85 4 rfl ?_
    refine w_iconst dX10_lookups_87 ?_
    refine w_icmp_ne (tgt := 97) dX10_lookups_88 (by decide) hx4 ⟨by decide, by decide⟩ (fun c2 => ?_) (fun c2 => ?_)
    · replace h := h.1 c2
      refine w_iload_n dX10_lookups_97 3 rfl ?_
      refine w_i2l dX10_lookups_98 hx3 ?_
      refine w_iload dX10_lookups_99 5 rfl ?_
      refine w_i2l dX10_lookups_101 hx5 ?_
      refine w_lmul dX10_lookups_102 ?_
      refine w_lstore (lv' := [(6, vl (x3 * x5)), (0, vr g (0)), (1, vi (x1)), (2, vi (x2)), (3, vi (x3)), (4, vi (x4)), (5, vi (x5))]) dX10_lookups_103 (by decide) rfl ?_
      refine w_lload dX10_lookups_105 0 rfl ?_
      refine w_ldc2 (n := 2147483647) dX10_lookups_107 q792 ?_
      obtain ⟨i3, h⟩ := h
      refine w_lcmp dX10_lookups_110 i3 (by decide) ?_
      refine w_if_le (tgt := 119) dX10_lookups_111 (by decide) (inr_jcmp _ _) (fun c4 => ?_) (fun c4 => ?_)
      · replace h := h.1 c4
        refine w_lload dX10_lookups_119 0 rfl ?_
        refine w_l2i dX10_lookups_121 ?_
        obtain ⟨i5, h⟩ := h
        exact w_iret dX10_lookups_122 ⟨_, rfl, i5, h⟩
      · replace h := h.2 c4
        refine w_bipush dX10_lookups_114 rfl ?_
        refine w_goto (tgt := 122) dX10_lookups_116 (by decide) ?_
        exact w_iret dX10_lookups_122 ⟨_, rfl, ⟨by decide, by decide⟩, h⟩
    · replace h := h.2 c2
      refine w_iload dX10_lookups_91 5 rfl ?_
      refine c_Sr_floatBitsOfMean dX10_lookups_93 q785 (by decide) (Nat.le_of_ble_eq_true rfl) h (fun r6 M7 h hr6 hwM7 => ?_)
      replace h := h hr6 hwM7
      exact w_iret dX10_lookups_96 ⟨_, rfl, hr6, h⟩
  · replace h := h.2 c1
    refine w_aload_n dX10_lookups_51 0 rfl ?_
    refine w_getS (ci := 10) (k := 3) dX10_lookups_52 rfl fi10 (by decide) q536 s0 rfl l0 ?_
    refine w_aload_n dX10_lookups_55 0 rfl ?_
    refine w_getQ (ci := 10) (k := 1) dX10_lookups_56 rfl fi10 (by decide) q534 s0 rfl l0 ?_
    obtain ⟨t8, h⟩ := h
    refine w_top (vq_ne (nRec t8)) ?_
    refine w_iload_n dX10_lookups_59 1 rfl ?_
    refine w_iload dX10_lookups_60 6 rfl ?_
    refine w_iload_n dX10_lookups_62 2 rfl ?_
    refine c_Ev_evaluate dX10_lookups_63 q605 (by decide) (Nat.le_of_ble_eq_true rfl) h (fun r9 M10 h hr9 hwM10 => ?_)
    replace h := h hr9 hwM10
    refine w_pop dX10_lookups_66 rfl ?_
    refine w_iload dX10_lookups_67 5 rfl ?_
    refine w_aload_n dX10_lookups_69 0 rfl ?_
    refine w_getS (ci := 10) (k := 3) dX10_lookups_70 rfl fi10 (by decide) q536 s0 rfl l0 ?_
    refine w_getIN (ci := 2) (k := 4) dX10_lookups_73 rfl fi2 (by decide) qn206 s258 rfl l258 ?_
    refine w_iadd dX10_lookups_76 ?_
    refine w_istore (lv' := [(5, vi (x5 + (gI M10 (258) (4)))), (0, vr g (0)), (1, vi (x1)), (2, vi (x2)), (3, vi (x3)), (4, vi (x4)), (6, vi (x6))]) dX10_lookups_77 (by decide) rfl ?_
    refine w_iinc (lv' := [(6, vi (x6 + 1)), (5, vi (x5 + (gI M10 (258) (4)))), (0, vr g (0)), (1, vi (x1)), (2, vi (x2)), (3, vi (x3)), (4, vi (x4))]) dX10_lookups_79 6 rfl (by decide) rfl ?_
    refine w_goto (tgt := 43) dX10_lookups_82 (by decide) ?_
    refine w_lv [2, 3, 4, 5, 6, 1, 0] rfl ?_
    exact h
set_option maxHeartbeats 4000000 in
set_option maxRecDepth 100000 in
theorem b_Mo_lookups_0 {g : Ctx} {p0 : Int} {p1 : Int} {p2 : Int} {p3 : Int} {M : Mem} {Q : Int → Mem → Prop} (hp0 : InR p0) (hp1 : InR p1) (hp2 : InR p2) (hp3 : InR p3) (h : K_Mo_isName g p0 M (fun r1 M2 => (r1 = 0 ∨ r1 = 1) → WT M2 → (((r1 = 0) → Q (-1) M2) ∧ ((¬ (r1 = 0)) → K_Mo_isIn g p1 0 15 M2 (fun r4 M5 => (r4 = 0 ∨ r4 = 1) → WT M5 → (((r4 = 0) → Q (-1) M5) ∧ ((¬ (r4 = 0)) → K_Mo_isIn g p3 0 1 M5 (fun r7 M8 => (r7 = 0 ∨ r7 = 1) → WT M8 → (((r7 = 0) → Q (-1) M8) ∧ ((¬ (r7 = 0)) → (((¬ p3 = 0) → P_Mo_lookups g 45 [(0, vr g (530)), (1, vi (p0)), (2, vi (p1)), (3, vi (p2)), (4, vi (p3)), (5, vi (0)), (6, vi (0))] [] M8 Q) ∧ ((p3 = 0) → (((0 ≤ p2) → P_Mo_lookups g 45 [(0, vr g (530)), (1, vi (p0)), (2, vi (p1)), (3, vi (p2)), (4, vi (p3)), (5, vi (0)), (6, vi (0))] [] M8 Q) ∧ ((¬ (0 ≤ p2)) → Q (-1) M8)))))))))))))) : P_Mo_lookups g 0 [(0, vr g (530)), (1, vi (p0)), (2, vi (p1)), (3, vi (p2)), (4, vi (p3))] [] M Q := by
  refine w_wt (fun hw => ?_)
  refine w_aload_n dX11_lookups_0 0 rfl ?_
  refine w_iload_n dX11_lookups_1 1 rfl ?_
  refine c_Mo_isName dX11_lookups_2 q1067 (by decide) (Nat.le_of_ble_eq_true rfl) h (fun r1 M2 h hr1 hwM2 => ?_)
  replace h := h hr1 hwM2
  refine w_if_eq (tgt := 37) dX11_lookups_5 (by decide) (inr_z hr1) (fun c3 => ?_) (fun c3 => ?_)
  · replace h := h.1 c3
    refine w_iconst dX11_lookups_37 ?_
    exact w_iret dX11_lookups_38 ⟨_, rfl, ⟨by decide, by decide⟩, h⟩
  · replace h := h.2 c3
    refine w_iload_n dX11_lookups_8 2 rfl ?_
    refine w_iconst dX11_lookups_9 ?_
    refine w_bipush dX11_lookups_10 rfl ?_
    refine c_Mo_isIn dX11_lookups_12 q851 (by decide) (Nat.le_of_ble_eq_true rfl) h (fun r4 M5 h hr4 hwM5 => ?_)
    replace h := h hr4 hwM5
    refine w_if_eq (tgt := 37) dX11_lookups_15 (by decide) (inr_z hr4) (fun c6 => ?_) (fun c6 => ?_)
    · replace h := h.1 c6
      refine w_iconst dX11_lookups_37 ?_
      exact w_iret dX11_lookups_38 ⟨_, rfl, ⟨by decide, by decide⟩, h⟩
    · replace h := h.2 c6
      refine w_iload dX11_lookups_18 4 rfl ?_
      refine w_iconst dX11_lookups_20 ?_
      refine w_iconst dX11_lookups_21 ?_
      refine c_Mo_isIn dX11_lookups_22 q851 (by decide) (Nat.le_of_ble_eq_true rfl) h (fun r7 M8 h hr7 hwM8 => ?_)
      replace h := h hr7 hwM8
      refine w_if_eq (tgt := 37) dX11_lookups_25 (by decide) (inr_z hr7) (fun c9 => ?_) (fun c9 => ?_)
      · replace h := h.1 c9
        refine w_iconst dX11_lookups_37 ?_
        exact w_iret dX11_lookups_38 ⟨_, rfl, ⟨by decide, by decide⟩, h⟩
      · replace h := h.2 c9
        refine w_iload dX11_lookups_28 4 rfl ?_
        refine w_if_ne (tgt := 39) dX11_lookups_30 (by decide) hp3 (fun c10 => ?_) (fun c10 => ?_)
        · replace h := h.1 c10
          refine w_iconst dX11_lookups_39 ?_
          refine w_istore (lv' := [(5, vi (0)), (0, vr g (530)), (1, vi (p0)), (2, vi (p1)), (3, vi (p2)), (4, vi (p3))]) dX11_lookups_40 (by decide) rfl ?_
          refine w_iconst dX11_lookups_42 ?_
          refine w_istore (lv' := [(6, vi (0)), (5, vi (0)), (0, vr g (530)), (1, vi (p0)), (2, vi (p1)), (3, vi (p2)), (4, vi (p3))]) dX11_lookups_43 (by decide) rfl ?_
          refine w_lv [2, 3, 4, 5, 6, 1, 0] rfl ?_
          exact h
        · replace h := h.2 c10
          refine w_iload_n dX11_lookups_33 3 rfl ?_
          refine w_if_ge (tgt := 39) dX11_lookups_34 (by decide) hp2 (fun c11 => ?_) (fun c11 => ?_)
          · replace h := h.1 c11
            refine w_iconst dX11_lookups_39 ?_
            refine w_istore (lv' := [(5, vi (0)), (0, vr g (530)), (1, vi (p0)), (2, vi (p1)), (3, vi (p2)), (4, vi (p3))]) dX11_lookups_40 (by decide) rfl ?_
            refine w_iconst dX11_lookups_42 ?_
            refine w_istore (lv' := [(6, vi (0)), (5, vi (0)), (0, vr g (530)), (1, vi (p0)), (2, vi (p1)), (3, vi (p2)), (4, vi (p3))]) dX11_lookups_43 (by decide) rfl ?_
            refine w_lv [2, 3, 4, 5, 6, 1, 0] rfl ?_
            exact h
          · replace h := h.2 c11
            refine w_iconst dX11_lookups_37 ?_
            exact w_iret dX11_lookups_38 ⟨_, rfl, ⟨by decide, by decide⟩, h⟩
set_option maxHeartbeats 4000000 in
set_option maxRecDepth 100000 in
theorem b_Mo_lookups_45 {g : Ctx} {x1 : Int} {x2 : Int} {x3 : Int} {x4 : Int} {x5 : Int} {x6 : Int} {M : Mem} {Q : Int → Mem → Prop} (hx1 : InR x1) (hx2 : InR x2) (hx3 : InR x3) (hx4 : InR x4) (hx5 : InR x5) (hx6 : InR x6) (h : (((256 ≤ x6) → (((¬ x4 = 1) → (InL (x5 * x3)) ∧ ((((jcmp (x5 * x3) 2147483647) ≤ 0) → (InR (x5 * x3)) ∧ Q (x5 * x3) M) ∧ ((¬ ((jcmp (x5 * x3) 2147483647) ≤ 0)) → Q (-3) M))) ∧ ((x4 = 1) → K_Mo_floats g x5 M (fun r6 M7 => InR r6 → WT M7 → Q r6 M7)))) ∧ ((¬ (256 ≤ x6)) → K_Mo_goes g x1 x6 x2 M (fun r8 M9 => InR r8 → WT M9 → P_Mo_lookups g 45 [(0, vr g (530)), (1, vi (x1)), (2, vi (x2)), (3, vi (x3)), (4, vi (x4)), (5, vi (x5 + (gI M9 (530) (39)))), (6, vi (x6 + 1))] [] M9 Q)))) : P_Mo_lookups g 45 [(0, vr g (530)), (1, vi (x1)), (2, vi (x2)), (3, vi (x3)), (4, vi (x4)), (5, vi (x5)), (6, vi (x6))] [] M Q := by
  refine w_wt (fun hw => ?_)
  refine w_iload dX11_lookups_45 6 rfl ?_
  refine w_sipush dX11_lookups_47 rfl ?_
  refine w_icmp_ge (tgt := 77) dX11_lookups_50 (by decide) hx6 ⟨by decide, by decide⟩ (fun c1 => ?_) (fun c1 => ?_)
  · replace h := h.1 c1
    refine w_iload dX11_lookups_77 4 rfl ?_
    refine w_iconst dX11_lookups_79 ?_
    refine w_icmp_ne (tgt := 89) dX11_lookups_80 (by decide) hx4 ⟨by decide, by decide⟩ (fun c2 => ?_) (fun c2 => ?_)
    · replace h := h.1 c2
      refine w_iload dX11_lookups_89 5 rfl ?_
      refine w_i2l dX11_lookups_91 hx5 ?_
      refine w_iload_n dX11_lookups_92 3 rfl ?_
      refine w_i2l dX11_lookups_93 hx3 ?_
      refine w_lmul dX11_lookups_94 ?_
      refine w_lstore (lv' := [(6, vl (x5 * x3)), (0, vr g (530)), (1, vi (x1)), (2, vi (x2)), (3, vi (x3)), (4, vi (x4)), (5, vi (x5))]) dX11_lookups_95 (by decide) rfl ?_
      refine w_lload dX11_lookups_97 0 rfl ?_
      refine w_ldc2 (n := 2147483647) dX11_lookups_99 q1199 ?_
      obtain ⟨i3, h⟩ := h
      refine w_lcmp dX11_lookups_102 i3 (by decide) ?_
      refine w_if_le (tgt := 111) dX11_lookups_103 (by decide) (inr_jcmp _ _) (fun c4 => ?_) (fun c4 => ?_)
      · replace h := h.1 c4
        refine w_lload dX11_lookups_111 0 rfl ?_
        refine w_l2i dX11_lookups_113 ?_
        obtain ⟨i5, h⟩ := h
        exact w_iret dX11_lookups_114 ⟨_, rfl, i5, h⟩
      · replace h := h.2 c4
        refine w_bipush dX11_lookups_106 rfl ?_
        refine w_goto (tgt := 114) dX11_lookups_108 (by decide) ?_
        exact w_iret dX11_lookups_114 ⟨_, rfl, ⟨by decide, by decide⟩, h⟩
    · replace h := h.2 c2
      refine w_iload dX11_lookups_83 5 rfl ?_
      refine c_Mo_floats dX11_lookups_85 q1196 (by decide) (Nat.le_of_ble_eq_true rfl) h (fun r6 M7 h hr6 hwM7 => ?_)
      replace h := h hr6 hwM7
      exact w_iret dX11_lookups_88 ⟨_, rfl, hr6, h⟩
  · replace h := h.2 c1
    refine w_aload_n dX11_lookups_53 0 rfl ?_
    refine w_iload_n dX11_lookups_54 1 rfl ?_
    refine w_iload dX11_lookups_55 6 rfl ?_
    refine w_iload_n dX11_lookups_57 2 rfl ?_
    refine c_Mo_goes dX11_lookups_58 q1071 (by decide) (Nat.le_of_ble_eq_true rfl) h (fun r8 M9 h hr8 hwM9 => ?_)
    replace h := h hr8 hwM9
    refine w_pop dX11_lookups_61 rfl ?_
    refine w_iload dX11_lookups_62 5 rfl ?_
    refine w_aload_n dX11_lookups_64 0 rfl ?_
    refine w_getI (ci := 11) (k := 39) dX11_lookups_65 rfl fi11 (by decide) q943 s530 rfl l530 ?_
    refine w_iadd dX11_lookups_68 ?_
    refine w_istore (lv' := [(5, vi (x5 + (gI M9 (530) (39)))), (0, vr g (530)), (1, vi (x1)), (2, vi (x2)), (3, vi (x3)), (4, vi (x4)), (6, vi (x6))]) dX11_lookups_69 (by decide) rfl ?_
    refine w_iinc (lv' := [(6, vi (x6 + 1)), (5, vi (x5 + (gI M9 (530) (39)))), (0, vr g (530)), (1, vi (x1)), (2, vi (x2)), (3, vi (x3)), (4, vi (x4))]) dX11_lookups_71 6 rfl (by decide) rfl ?_
    refine w_goto (tgt := 45) dX11_lookups_74 (by decide) ?_
    refine w_lv [2, 3, 4, 5, 6, 1, 0] rfl ?_
    exact h
