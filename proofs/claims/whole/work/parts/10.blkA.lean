set_option maxHeartbeats 4000000 in
set_option maxRecDepth 100000 in
theorem b_Rd_append_0 {g : Ctx} {n : Nat} {p0 : Int} {M : Mem} {Q : Int → Mem → Prop} (hp0 : 0 ≤ p0 ∧ p0 < 65536) (h : ((((gI M (1) (1)) < 240) → (0 ≤ (gI M (1) (1)) ∧ (gI M (1) (1)) < 240) ∧ (InR ((gI M (1) (1)) + 1)) ∧ Q 1 (sI (sI M (2) ((gI M (1) (1)).toNat) (p0)) (1) (1) ((gI M (1) (1)) + 1))) ∧ ((¬ ((gI M (1) (1)) < 240)) → Q 0 M))) : P_Rd_append g n 0 [(0, vr g (1)), (1, vi (p0))] [] M Q := by
  refine w_wt (fun hw => ?_)
  refine w_aload_n dX7_append_0 0 rfl ?_
  refine w_getI (ci := 7) (k := 1) dX7_append_1 rfl fi7 (by decide) q49 s1 rfl l1 ?_
  refine w_sipush dX7_append_4 rfl ?_
  refine w_icmp_lt (tgt := 12) dX7_append_7 (by decide) (hw.int _ _) ⟨by decide, by decide⟩ (fun c1 => ?_) (fun c1 => ?_)
  · replace h := h.1 c1
    refine w_aload_n dX7_append_12 0 rfl ?_
    refine w_getS (ci := 7) (k := 0) dX7_append_13 rfl fi7 (by decide) q48 s1 rfl l1 ?_
    refine w_aload_n dX7_append_16 0 rfl ?_
    refine w_getI (ci := 7) (k := 1) dX7_append_17 rfl fi7 (by decide) q49 s1 rfl l1 ?_
    refine w_iload_n dX7_append_20 1 rfl ?_
    obtain ⟨i2, h⟩ := h
    refine w_cast dX7_append_21 s2 l2 (by decide) i2.1 i2.2 (inr_c hp0) hp0.1 hp0.2 ?_
    have hw3 : WT (sI M (2) ((gI M (1) (1)).toNat) (p0)) := hw.sI (inr_c hp0)
    refine w_aload_n dX7_append_22 0 rfl ?_
    refine w_dup dX7_append_23 rfl ?_
    refine w_getI (ci := 7) (k := 1) dX7_append_24 rfl fi7 (by decide) q49 s1 rfl l1 ?_
    refine w_top (congrArg vi ((gI_ne _ _ _ _ _ _ (by omega)).trans rfl)) ?_
    have u4 : InR (gI M (1) (1)) := hw.int _ _
    refine w_iconst dX7_append_27 ?_
    refine w_iadd dX7_append_28 ?_
    obtain ⟨i5, h⟩ := h
    refine w_putI (ci := 7) (k := 1) dX7_append_29 rfl fi7 (by decide) q49 tyX7 tyX7_ok nmX7 rfl rfl rfl i5 s1 rfl l1 ?_
    have hw6 : WT (sI (sI M (2) ((gI M (1) (1)).toNat) (p0)) (1) (1) ((gI M (1) (1)) + 1)) := hw3.sI i5
    refine w_iconst dX7_append_32 ?_
    exact w_zret dX7_append_33 (Or.inr rfl) ⟨_, rfl, (Or.inr rfl), h⟩
  · replace h := h.2 c1
    refine w_iconst dX7_append_10 ?_
    exact w_zret dX7_append_11 (Or.inl rfl) ⟨_, rfl, (Or.inl rfl), h⟩
set_option maxHeartbeats 4000000 in
set_option maxRecDepth 100000 in
theorem b_Rd_readAll_0 {g : Ctx} {n : Nat} {p0 : Nat} {M : Mem} {Q : Int → Mem → Prop} (hp0 : isRec p0) (h : K_Rc_clear g n p0 (sI M (1) (2) (0)) (fun M3 => WT M3 → P_Rd_readAll g n 11 [(0, vr g (1)), (1, vr g (p0)), (2, vi (0))] [] M3 Q)) : P_Rd_readAll g n 0 [(0, vr g (1)), (1, vr g (p0))] [] M Q := by
  refine w_wt (fun hw => ?_)
  refine w_aload_n dX7_readAll_0 0 rfl ?_
  refine w_iconst dX7_readAll_1 ?_
  refine w_putI (ci := 7) (k := 2) dX7_readAll_2 rfl fi7 (by decide) q51 tyX7 tyX7_ok nmX7 rfl rfl rfl ⟨by decide, by decide⟩ s1 rfl l1 ?_
  have hw1 : WT (sI M (1) (2) (0)) := hw.sI ⟨by decide, by decide⟩
  refine w_aload_n dX7_readAll_5 1 rfl ?_
  refine c_Rc_clear dX7_readAll_6 q355 (by decide) (Nat.le_of_ble_eq_true rfl) hp0 h (fun M3 h hwM3 => ?_)
  replace h := h hwM3
  refine w_iconst dX7_readAll_9 ?_
  refine w_istore_n (lv' := [(2, vi (0)), (0, vr g (1)), (1, vr g (p0))]) (i := 2) dX7_readAll_10 rfl (by decide) rfl ?_
  refine w_lv [1, 2, 0] rfl ?_
  exact h
set_option maxHeartbeats 4000000 in
set_option maxRecDepth 100000 in
theorem b_Rd_readAll_11 {g : Ctx} {n : Nat} {a1 : Nat} {x2 : Int} {M : Mem} {Q : Int → Mem → Prop} (ha1 : isRec a1) (hx2 : InR x2) (h : (((240 ≤ x2) → Q (-4) M) ∧ ((¬ (240 ≤ x2)) → ((((gI M (1) (1)) ≤ (gI M (1) (2))) → Q (-4) M) ∧ ((¬ ((gI M (1) (1)) ≤ (gI M (1) (2)))) → K_Rd_readItem g n a1 M (fun r3 M4 => (r3 = 0 ∨ r3 = 1) → WT M4 → (((¬ r3 = 0) → P_Rd_readAll g n 11 [(0, vr g (1)), (1, vr g (a1)), (2, vi (x2 + 1))] [] M4 Q) ∧ ((r3 = 0) → Q (gI M (1) (2)) M4)))))))) : P_Rd_readAll g n 11 [(0, vr g (1)), (1, vr g (a1)), (2, vi (x2))] [] M Q := by
  refine w_wt (fun hw => ?_)
  refine w_iload_n dX7_readAll_11 2 rfl ?_
  refine w_sipush dX7_readAll_12 rfl ?_
  refine w_icmp_ge (tgt := 50) dX7_readAll_15 (by decide) hx2 ⟨by decide, by decide⟩ (fun c1 => ?_) (fun c1 => ?_)
  · replace h := h.1 c1
    refine w_bipush dX7_readAll_50 rfl ?_
    exact w_iret dX7_readAll_52 ⟨_, rfl, ⟨by decide, by decide⟩, h⟩
  · replace h := h.2 c1
    refine w_aload_n dX7_readAll_18 0 rfl ?_
    refine w_getI (ci := 7) (k := 2) dX7_readAll_19 rfl fi7 (by decide) q51 s1 rfl l1 ?_
    refine w_aload_n dX7_readAll_22 0 rfl ?_
    refine w_getI (ci := 7) (k := 1) dX7_readAll_23 rfl fi7 (by decide) q49 s1 rfl l1 ?_
    refine w_icmp_ge (tgt := 50) dX7_readAll_26 (by decide) (hw.int _ _) (hw.int _ _) (fun c2 => ?_) (fun c2 => ?_)
    · replace h := h.1 c2
      refine w_bipush dX7_readAll_50 rfl ?_
      exact w_iret dX7_readAll_52 ⟨_, rfl, ⟨by decide, by decide⟩, h⟩
    · replace h := h.2 c2
      refine w_aload_n dX7_readAll_29 0 rfl ?_
      refine w_getI (ci := 7) (k := 2) dX7_readAll_30 rfl fi7 (by decide) q51 s1 rfl l1 ?_
      refine w_istore_n (lv' := [(3, vi (gI M (1) (2))), (0, vr g (1)), (1, vr g (a1)), (2, vi (x2))]) (i := 3) dX7_readAll_33 rfl (by decide) rfl ?_
      refine w_aload_n dX7_readAll_34 1 rfl ?_
      refine w_aload_n dX7_readAll_35 2 rfl ?_
      refine c_Rd_readItem dX7_readAll_36 q359 (by decide) (Nat.le_of_ble_eq_true rfl) h (fun r3 M4 h hr3 hwM4 => ?_)
      replace h := h hr3 hwM4
      refine w_if_ne (tgt := 44) dX7_readAll_39 (by decide) (inr_z hr3) (fun c5 => ?_) (fun c5 => ?_)
      · replace h := h.1 c5
        refine w_iinc (lv' := [(2, vi (x2 + 1)), (3, vi (gI M (1) (2))), (0, vr g (1)), (1, vr g (a1))]) dX7_readAll_44 3 rfl (by decide) rfl ?_
        refine w_goto (tgt := 11) dX7_readAll_47 (by decide) ?_
        refine w_lv [2, 3, 0] rfl ?_
        exact h
      · replace h := h.2 c5
        refine w_iload_n dX7_readAll_42 0 rfl ?_
        exact w_iret dX7_readAll_43 ⟨_, rfl, (hw.int _ _), h⟩
set_option maxHeartbeats 4000000 in
set_option maxRecDepth 100000 in
theorem b_Rc_clear_0 {g : Ctx} {n : Nat} {o : Nat} {M : Mem} {Q : Mem → Prop} (ho : isRec o) (h : Q (sI M (o) (1) (0))) : P_Rc_clear g n 0 [(0, vr g (o))] [] M Q := by
  refine w_wt (fun hw => ?_)
  refine w_aload_n dX8_clear_0 0 rfl ?_
  refine w_iconst dX8_clear_1 ?_
  refine w_putI (ci := 8) (k := 1) dX8_clear_2 rfl fi8 (by decide) q183 tyX8 tyX8_ok nmX8 rfl rfl rfl ⟨by decide, by decide⟩ (sRec ho) rfl (bRec ho (Nat.le_add_right _ _)) ?_
  have hw1 : WT (sI M (o) (1) (0)) := hw.sI ⟨by decide, by decide⟩
  exact w_vret dX8_clear_5 ⟨rfl, h⟩
set_option maxHeartbeats 4000000 in
set_option maxRecDepth 100000 in
theorem b_Rd_readItem_0 {g : Ctx} {n : Nat} {p0 : Nat} {M : Mem} {Q : Int → Mem → Prop} (hp0 : isRec p0) (h : K_Rd_next g n  M (fun r1 M2 => (0 ≤ r1 ∧ r1 < 65536) → WT M2 → K_Rd_readName g n  M2 (fun r3 M4 => InR r3 → WT M4 → (((r3 = 0) → Q 0 M4) ∧ ((¬ (r3 = 0)) → K_Rd_take g n 58 M4 (fun r6 M7 => (r6 = 0 ∨ r6 = 1) → WT M7 → (((¬ r6 = 0) → K_Rc_findOrAdd g n p0 r3 M7 (fun r9 M10 => (r9 = 0 ∨ isDom r9) → WT M10 → (((¬ r9 = 0) → (((r1 = 97) → K_Rd_readHosts g n r9 M10 (fun r13 M14 => (r13 = 0 ∨ r13 = 1) → WT M14 → (((r13 = 0) → Q 0 M14) ∧ ((¬ (r13 = 0)) → K_Rd_take g n 59 M14 (fun r16 M17 => (r16 = 0 ∨ r16 = 1) → WT M17 → (((r16 = 0) → Q 0 M17) ∧ ((¬ (r16 = 0)) → Q 1 M17))))))) ∧ ((¬ (r1 = 97)) → (((r1 = 110) → K_Rd_readPolicy g n r9 M10 (fun r20 M21 => (r20 = 0 ∨ r20 = 1) → WT M21 → (((r20 = 0) → Q 0 M21) ∧ ((¬ (r20 = 0)) → K_Rd_take g n 59 M21 (fun r23 M24 => (r23 = 0 ∨ r23 = 1) → WT M24 → (((r23 = 0) → Q 0 M24) ∧ ((¬ (r23 = 0)) → Q 1 M24))))))) ∧ ((¬ (r1 = 110)) → (((r1 = 120) → K_Rd_readExchangers g n r9 M10 (fun r27 M28 => (r27 = 0 ∨ r27 = 1) → WT M28 → (((r27 = 0) → Q 0 M28) ∧ ((¬ (r27 = 0)) → K_Rd_take g n 59 M28 (fun r30 M31 => (r30 = 0 ∨ r30 = 1) → WT M31 → (((r30 = 0) → Q 0 M31) ∧ ((¬ (r30 = 0)) → Q 1 M31))))))) ∧ ((¬ (r1 = 120)) → Q 0 M10))))))) ∧ ((r9 = 0) → Q 0 M10)))) ∧ ((r6 = 0) → Q 0 M7)))))))) : P_Rd_readItem g n 0 [(0, vr g (1)), (1, vr g (p0))] [] M Q := by
  refine w_wt (fun hw => ?_)
  refine w_aload_n dX7_readItem_0 0 rfl ?_
  refine c_Rd_next dX7_readItem_1 q363 (by decide) (Nat.le_of_ble_eq_true rfl) h (fun r1 M2 h hr1 hwM2 => ?_)
  replace h := h hr1 hwM2
  refine w_istore_n (lv' := [(2, vi (r1)), (0, vr g (1)), (1, vr g (p0))]) (i := 2) dX7_readItem_4 rfl (by decide) rfl ?_
  refine w_aload_n dX7_readItem_5 1 rfl ?_
  refine c_Rd_readName dX7_readItem_6 q367 (by decide) (Nat.le_of_ble_eq_true rfl) h (fun r3 M4 h hr3 hwM4 => ?_)
  replace h := h hr3 hwM4
  refine w_istore_n (lv' := [(3, vi (r3)), (2, vi (r1)), (0, vr g (1)), (1, vr g (p0))]) (i := 3) dX7_readItem_9 rfl (by decide) rfl ?_
  refine w_iload_n dX7_readItem_10 0 rfl ?_
  refine w_if_eq (tgt := 23) dX7_readItem_11 (by decide) hr3 (fun c5 => ?_) (fun c5 => ?_)
  · replace h := h.1 c5
    refine w_iconst dX7_readItem_23 ?_
    exact w_zret dX7_readItem_24 (Or.inl rfl) ⟨_, rfl, (Or.inl rfl), h⟩
  · replace h := h.2 c5
    refine w_aload_n dX7_readItem_14 2 rfl ?_
    refine w_bipush dX7_readItem_15 rfl ?_
    refine c_Rd_take dX7_readItem_17 q387 (by decide) (Nat.le_of_ble_eq_true rfl) h (fun r6 M7 h hr6 hwM7 => ?_)
    replace h := h hr6 hwM7
    refine w_if_ne (tgt := 25) dX7_readItem_20 (by decide) (inr_z hr6) (fun c8 => ?_) (fun c8 => ?_)
    · replace h := h.1 c8
      refine w_aload_n dX7_readItem_25 3 rfl ?_
      refine w_iload_n dX7_readItem_26 0 rfl ?_
      refine c_Rc_findOrAdd dX7_readItem_27 q391 (by decide) (Nat.le_of_ble_eq_true rfl) hp0 h (fun r9 M10 h hr9 hwM10 => ?_)
      replace h := h hr9 hwM10
      refine w_astoreq (lv' := [(4, vq g (r9)), (3, vi (r3)), (2, vi (r1)), (0, vr g (1)), (1, vr g (p0))]) dX7_readItem_30 (by decide) rfl ?_
      refine w_aloadq dX7_readItem_32 0 rfl ?_
      refine w_ifnonnull (tgt := 39) dX7_readItem_34 (by decide) (fun c11 => ?_) (fun c11 => ?_)
      · replace h := h.1 c11
        rw [vq_ne c11]
        refine w_iload_n dX7_readItem_39 2 rfl ?_
        by_cases c12 : r1 = 97
        · replace h := h.1 c12
          refine w_look (off := 60) (tgt := 100) dX7_readItem_40 (inr_c hr1) (by decide) (by rw [c12]; first | done | rfl | decide | simp [Op.lookupswitch.offset]) (by decide) ?_
          refine w_aload_n dX7_readItem_100 3 rfl ?_
          refine w_aload dX7_readItem_101 0 rfl ?_
          refine c_Rd_readHosts dX7_readItem_103 q513 (by decide) (Nat.le_of_ble_eq_true rfl) h (fun r13 M14 h hr13 hwM14 => ?_)
          replace h := h hr13 hwM14
          refine w_if_eq (tgt := 122) dX7_readItem_106 (by decide) (inr_z hr13) (fun c15 => ?_) (fun c15 => ?_)
          · replace h := h.1 c15
            refine w_iconst dX7_readItem_122 ?_
            exact w_zret dX7_readItem_123 (Or.inl rfl) ⟨_, rfl, (Or.inl rfl), h⟩
          · replace h := h.2 c15
            refine w_aload_n dX7_readItem_109 3 rfl ?_
            refine w_bipush dX7_readItem_110 rfl ?_
            refine c_Rd_take dX7_readItem_112 q387 (by decide) (Nat.le_of_ble_eq_true rfl) h (fun r16 M17 h hr16 hwM17 => ?_)
            replace h := h hr16 hwM17
            refine w_if_eq (tgt := 122) dX7_readItem_115 (by decide) (inr_z hr16) (fun c18 => ?_) (fun c18 => ?_)
            · replace h := h.1 c18
              refine w_iconst dX7_readItem_122 ?_
              exact w_zret dX7_readItem_123 (Or.inl rfl) ⟨_, rfl, (Or.inl rfl), h⟩
            · replace h := h.2 c18
              refine w_iconst dX7_readItem_118 ?_
              refine w_goto (tgt := 123) dX7_readItem_119 (by decide) ?_
              exact w_zret dX7_readItem_123 (Or.inr rfl) ⟨_, rfl, (Or.inr rfl), h⟩
        replace h := h.2 c12
        by_cases c19 : r1 = 110
        · replace h := h.1 c19
          refine w_look (off := 36) (tgt := 76) dX7_readItem_40 (inr_c hr1) (by decide) (by rw [c19]; first | done | rfl | decide | simp [Op.lookupswitch.offset]) (by decide) ?_
          refine w_aload_n dX7_readItem_76 3 rfl ?_
          refine w_aload dX7_readItem_77 0 rfl ?_
          refine c_Rd_readPolicy dX7_readItem_79 q415 (by decide) (Nat.le_of_ble_eq_true rfl) h (fun r20 M21 h hr20 hwM21 => ?_)
          replace h := h hr20 hwM21
          refine w_if_eq (tgt := 98) dX7_readItem_82 (by decide) (inr_z hr20) (fun c22 => ?_) (fun c22 => ?_)
          · replace h := h.1 c22
            refine w_iconst dX7_readItem_98 ?_
            exact w_zret dX7_readItem_99 (Or.inl rfl) ⟨_, rfl, (Or.inl rfl), h⟩
          · replace h := h.2 c22
            refine w_aload_n dX7_readItem_85 3 rfl ?_
            refine w_bipush dX7_readItem_86 rfl ?_
            refine c_Rd_take dX7_readItem_88 q387 (by decide) (Nat.le_of_ble_eq_true rfl) h (fun r23 M24 h hr23 hwM24 => ?_)
            replace h := h hr23 hwM24
            refine w_if_eq (tgt := 98) dX7_readItem_91 (by decide) (inr_z hr23) (fun c25 => ?_) (fun c25 => ?_)
            · replace h := h.1 c25
              refine w_iconst dX7_readItem_98 ?_
              exact w_zret dX7_readItem_99 (Or.inl rfl) ⟨_, rfl, (Or.inl rfl), h⟩
            · replace h := h.2 c25
              refine w_iconst dX7_readItem_94 ?_
              refine w_goto (tgt := 99) dX7_readItem_95 (by decide) ?_
              exact w_zret dX7_readItem_99 (Or.inr rfl) ⟨_, rfl, (Or.inr rfl), h⟩
        replace h := h.2 c19
        by_cases c26 : r1 = 120
        · replace h := h.1 c26
          refine w_look (off := 84) (tgt := 124) dX7_readItem_40 (inr_c hr1) (by decide) (by rw [c26]; first | done | rfl | decide | simp [Op.lookupswitch.offset]) (by decide) ?_
          refine w_aload_n dX7_readItem_124 3 rfl ?_
          refine w_aload dX7_readItem_125 0 rfl ?_
          refine c_Rd_readExchangers dX7_readItem_127 q521 (by decide) (Nat.le_of_ble_eq_true rfl) h (fun r27 M28 h hr27 hwM28 => ?_)
          replace h := h hr27 hwM28
          refine w_if_eq (tgt := 146) dX7_readItem_130 (by decide) (inr_z hr27) (fun c29 => ?_) (fun c29 => ?_)
          · replace h := h.1 c29
            refine w_iconst dX7_readItem_146 ?_
            exact w_zret dX7_readItem_147 (Or.inl rfl) ⟨_, rfl, (Or.inl rfl), h⟩
          · replace h := h.2 c29
            refine w_aload_n dX7_readItem_133 3 rfl ?_
            refine w_bipush dX7_readItem_134 rfl ?_
            refine c_Rd_take dX7_readItem_136 q387 (by decide) (Nat.le_of_ble_eq_true rfl) h (fun r30 M31 h hr30 hwM31 => ?_)
            replace h := h hr30 hwM31
            refine w_if_eq (tgt := 146) dX7_readItem_139 (by decide) (inr_z hr30) (fun c32 => ?_) (fun c32 => ?_)
            · replace h := h.1 c32
              refine w_iconst dX7_readItem_146 ?_
              exact w_zret dX7_readItem_147 (Or.inl rfl) ⟨_, rfl, (Or.inl rfl), h⟩
            · replace h := h.2 c32
              refine w_iconst dX7_readItem_142 ?_
              refine w_goto (tgt := 147) dX7_readItem_143 (by decide) ?_
              exact w_zret dX7_readItem_147 (Or.inr rfl) ⟨_, rfl, (Or.inr rfl), h⟩
        replace h := h.2 c26
        refine w_look (off := 108) (tgt := 148) dX7_readItem_40 (inr_c hr1) (by decide) (by simp only [Array.toList, Op.lookupswitch.offset]; simp [Ne.symm c12, c12, Ne.symm c19, c19, Ne.symm c26, c26]) (by decide) ?_
        refine w_iconst dX7_readItem_148 ?_
        exact w_zret dX7_readItem_149 (Or.inl rfl) ⟨_, rfl, (Or.inl rfl), h⟩
      · replace h := h.2 c11
        refine w_iconst dX7_readItem_37 ?_
        exact w_zret dX7_readItem_38 (Or.inl rfl) ⟨_, rfl, (Or.inl rfl), h⟩
    · replace h := h.2 c8
      refine w_iconst dX7_readItem_23 ?_
      exact w_zret dX7_readItem_24 (Or.inl rfl) ⟨_, rfl, (Or.inl rfl), h⟩
set_option maxHeartbeats 4000000 in
set_option maxRecDepth 100000 in
theorem b_Rd_next_0 {g : Ctx} {n : Nat}  {M : Mem} {Q : Int → Mem → Prop}  (h : ((((gI M (1) (2)) < (gI M (1) (1))) → (InR ((gI M (1) (2)) + 1)) ∧ (0 ≤ (gI M (1) (2)) ∧ (gI M (1) (2)) < 240) ∧ (0 ≤ (gI M (2) ((gI M (1) (2)).toNat)) ∧ (gI M (2) ((gI M (1) (2)).toNat)) < 65536) ∧ Q (gI M (2) ((gI M (1) (2)).toNat)) (sI M (1) (2) ((gI M (1) (2)) + 1))) ∧ ((¬ ((gI M (1) (2)) < (gI M (1) (1)))) → Q 0 M))) : P_Rd_next g n 0 [(0, vr g (1))] [] M Q := by
  refine w_wt (fun hw => ?_)
  refine w_aload_n dX7_next_0 0 rfl ?_
  refine w_getI (ci := 7) (k := 2) dX7_next_1 rfl fi7 (by decide) q51 s1 rfl l1 ?_
  refine w_aload_n dX7_next_4 0 rfl ?_
  refine w_getI (ci := 7) (k := 1) dX7_next_5 rfl fi7 (by decide) q49 s1 rfl l1 ?_
  refine w_icmp_lt (tgt := 13) dX7_next_8 (by decide) (hw.int _ _) (hw.int _ _) (fun c1 => ?_) (fun c1 => ?_)
  · replace h := h.1 c1
    refine w_aload_n dX7_next_13 0 rfl ?_
    refine w_dup dX7_next_14 rfl ?_
    refine w_getI (ci := 7) (k := 2) dX7_next_15 rfl fi7 (by decide) q51 s1 rfl l1 ?_
    refine w_iconst dX7_next_18 ?_
    refine w_iadd dX7_next_19 ?_
    obtain ⟨i2, h⟩ := h
    refine w_putI (ci := 7) (k := 2) dX7_next_20 rfl fi7 (by decide) q51 tyX7 tyX7_ok nmX7 rfl rfl rfl i2 s1 rfl l1 ?_
    have hw3 : WT (sI M (1) (2) ((gI M (1) (2)) + 1)) := hw.sI i2
    refine w_aload_n dX7_next_23 0 rfl ?_
    refine w_getS (ci := 7) (k := 0) dX7_next_24 rfl fi7 (by decide) q48 s1 rfl l1 ?_
    refine w_aload_n dX7_next_27 0 rfl ?_
    refine w_getI (ci := 7) (k := 2) dX7_next_28 rfl fi7 (by decide) q51 s1 rfl l1 ?_
    refine w_top (congrArg vi (gI_same _ _ _ _)) ?_
    refine w_iconst dX7_next_31 ?_
    refine w_isub dX7_next_32 ?_
    refine w_top (congrArg vi (Int.add_sub_cancel _ _)) ?_
    obtain ⟨i4, h⟩ := h
    refine w_cald dX7_next_33 s2 l2 (by decide) i4.1 i4.2 ?_
    refine w_top (congrArg vi ((gI_ne _ _ _ _ _ _ (by omega)).trans rfl)) ?_
    have u5 : InR (gI M (2) ((gI M (1) (2)).toNat)) := hw.int _ _
    obtain ⟨i6, h⟩ := h
    exact w_cret dX7_next_34 i6.1 i6.2 ⟨_, rfl, i6, h⟩
  · replace h := h.2 c1
    refine w_iconst dX7_next_11 ?_
    exact w_cret dX7_next_12 (by decide) (by decide) ⟨_, rfl, ⟨by decide, by decide⟩, h⟩
set_option maxHeartbeats 4000000 in
set_option maxRecDepth 100000 in
theorem b_Rd_readName_0 {g : Ctx} {n : Nat}  {M : Mem} {Q : Int → Mem → Prop}  (h : P_Rd_readName g n 7 [(0, vr g (1)), (1, vi (gI M (1) (2))), (2, vi (0))] [] M Q) : P_Rd_readName g n 0 [(0, vr g (1))] [] M Q := by
  refine w_wt (fun hw => ?_)
  refine w_aload_n dX7_readName_0 0 rfl ?_
  refine w_getI (ci := 7) (k := 2) dX7_readName_1 rfl fi7 (by decide) q51 s1 rfl l1 ?_
  refine w_istore_n (lv' := [(1, vi (gI M (1) (2))), (0, vr g (1))]) (i := 1) dX7_readName_4 rfl (by decide) rfl ?_
  refine w_iconst dX7_readName_5 ?_
  refine w_istore_n (lv' := [(2, vi (0)), (1, vi (gI M (1) (2))), (0, vr g (1))]) (i := 2) dX7_readName_6 rfl (by decide) rfl ?_
  refine w_lv [2, 1, 0] rfl ?_
  exact h
set_option maxHeartbeats 4000000 in
set_option maxRecDepth 100000 in
theorem b_Rd_readName_7 {g : Ctx} {n : Nat} {x1 : Int} {x2 : Int} {M : Mem} {Q : Int → Mem → Prop} (hx1 : InR x1) (hx2 : InR x2) (h : (((7 ≤ x2) → K_Nm_clear g n 3 M (fun M3 => WT M3 → P_Rd_readName g n 61 [(0, vr g (1)), (1, vi (x1)), (2, vi ((gI M3 (1) (2)) - 1))] [] M3 Q)) ∧ ((¬ (7 ≤ x2)) → K_Rd_peek g n  M (fun r4 M5 => (0 ≤ r4 ∧ r4 < 65536) → WT M5 → (((r4 < 97) → K_Nm_clear g n 3 M5 (fun M8 => WT M8 → P_Rd_readName g n 61 [(0, vr g (1)), (1, vi (x1)), (2, vi ((gI M8 (1) (2)) - 1))] [] M8 Q)) ∧ ((¬ (r4 < 97)) → K_Rd_peek g n  M5 (fun r9 M10 => (0 ≤ r9 ∧ r9 < 65536) → WT M10 → (((112 < r9) → K_Nm_clear g n 3 M10 (fun M13 => WT M13 → P_Rd_readName g n 61 [(0, vr g (1)), (1, vi (x1)), (2, vi ((gI M13 (1) (2)) - 1))] [] M13 Q)) ∧ ((¬ (112 < r9)) → (InR ((gI M10 (1) (2)) + 1)) ∧ P_Rd_readName g n 7 [(0, vr g (1)), (1, vi (x1)), (2, vi (x2 + 1))] [] (sI M10 (1) (2) ((gI M10 (1) (2)) + 1)) Q))))))))) : P_Rd_readName g n 7 [(0, vr g (1)), (1, vi (x1)), (2, vi (x2))] [] M Q := by
  refine w_wt (fun hw => ?_)
  refine w_iload_n dX7_readName_7 2 rfl ?_
  refine w_bipush dX7_readName_8 rfl ?_
  refine w_icmp_ge (tgt := 47) dX7_readName_10 (by decide) hx2 ⟨by decide, by decide⟩ (fun c1 => ?_) (fun c1 => ?_)
  · replace h := h.1 c1
    refine w_aload_n dX7_readName_47 0 rfl ?_
    refine w_getS (ci := 7) (k := 3) dX7_readName_48 rfl fi7 (by decide) q52 s1 rfl l1 ?_
    refine c_Nm_clear dX7_readName_51 q375 (by decide) (Nat.le_of_ble_eq_true rfl) (Or.inl rfl) h (fun M3 h hwM3 => ?_)
    replace h := h hwM3
    refine w_aload_n dX7_readName_54 0 rfl ?_
    refine w_getI (ci := 7) (k := 2) dX7_readName_55 rfl fi7 (by decide) q51 s1 rfl l1 ?_
    refine w_iconst dX7_readName_58 ?_
    refine w_isub dX7_readName_59 ?_
    refine w_istore_n (lv' := [(2, vi ((gI M3 (1) (2)) - 1)), (0, vr g (1)), (1, vi (x1))]) (i := 2) dX7_readName_60 rfl (by decide) rfl ?_
    refine w_lv [1, 2, 0] rfl ?_
    exact h
  · replace h := h.2 c1
    refine w_aload_n dX7_readName_13 0 rfl ?_
    refine c_Rd_peek dX7_readName_14 q371 (by decide) (Nat.le_of_ble_eq_true rfl) h (fun r4 M5 h hr4 hwM5 => ?_)
    replace h := h hr4 hwM5
    refine w_bipush dX7_readName_17 rfl ?_
    refine w_icmp_lt (tgt := 47) dX7_readName_19 (by decide) (inr_c hr4) ⟨by decide, by decide⟩ (fun c6 => ?_) (fun c6 => ?_)
    · replace h := h.1 c6
      refine w_aload_n dX7_readName_47 0 rfl ?_
      refine w_getS (ci := 7) (k := 3) dX7_readName_48 rfl fi7 (by decide) q52 s1 rfl l1 ?_
      refine c_Nm_clear dX7_readName_51 q375 (by decide) (Nat.le_of_ble_eq_true rfl) (Or.inl rfl) h (fun M8 h hwM8 => ?_)
      replace h := h hwM8
      refine w_aload_n dX7_readName_54 0 rfl ?_
      refine w_getI (ci := 7) (k := 2) dX7_readName_55 rfl fi7 (by decide) q51 s1 rfl l1 ?_
      refine w_iconst dX7_readName_58 ?_
      refine w_isub dX7_readName_59 ?_
      refine w_istore_n (lv' := [(2, vi ((gI M8 (1) (2)) - 1)), (0, vr g (1)), (1, vi (x1))]) (i := 2) dX7_readName_60 rfl (by decide) rfl ?_
      refine w_lv [1, 2, 0] rfl ?_
      exact h
    · replace h := h.2 c6
      refine w_aload_n dX7_readName_22 0 rfl ?_
      refine c_Rd_peek dX7_readName_23 q371 (by decide) (Nat.le_of_ble_eq_true rfl) h (fun r9 M10 h hr9 hwM10 => ?_)
      replace h := h hr9 hwM10
      refine w_bipush dX7_readName_26 rfl ?_
      refine w_icmp_gt (tgt := 47) dX7_readName_28 (by decide) (inr_c hr9) ⟨by decide, by decide⟩ (fun c11 => ?_) (fun c11 => ?_)
      · replace h := h.1 c11
        refine w_aload_n dX7_readName_47 0 rfl ?_
        refine w_getS (ci := 7) (k := 3) dX7_readName_48 rfl fi7 (by decide) q52 s1 rfl l1 ?_
        refine c_Nm_clear dX7_readName_51 q375 (by decide) (Nat.le_of_ble_eq_true rfl) (Or.inl rfl) h (fun M13 h hwM13 => ?_)
        replace h := h hwM13
        refine w_aload_n dX7_readName_54 0 rfl ?_
        refine w_getI (ci := 7) (k := 2) dX7_readName_55 rfl fi7 (by decide) q51 s1 rfl l1 ?_
        refine w_iconst dX7_readName_58 ?_
        refine w_isub dX7_readName_59 ?_
        refine w_istore_n (lv' := [(2, vi ((gI M13 (1) (2)) - 1)), (0, vr g (1)), (1, vi (x1))]) (i := 2) dX7_readName_60 rfl (by decide) rfl ?_
        refine w_lv [1, 2, 0] rfl ?_
        exact h
      · replace h := h.2 c11
        refine w_aload_n dX7_readName_31 0 rfl ?_
        refine w_dup dX7_readName_32 rfl ?_
        refine w_getI (ci := 7) (k := 2) dX7_readName_33 rfl fi7 (by decide) q51 s1 rfl l1 ?_
        refine w_iconst dX7_readName_36 ?_
        refine w_iadd dX7_readName_37 ?_
        obtain ⟨i14, h⟩ := h
        refine w_putI (ci := 7) (k := 2) dX7_readName_38 rfl fi7 (by decide) q51 tyX7 tyX7_ok nmX7 rfl rfl rfl i14 s1 rfl l1 ?_
        have hw15 : WT (sI M10 (1) (2) ((gI M10 (1) (2)) + 1)) := hwM10.sI i14
        refine w_iinc (lv' := [(2, vi (x2 + 1)), (0, vr g (1)), (1, vi (x1))]) dX7_readName_41 2 rfl (by decide) rfl ?_
        refine w_goto (tgt := 7) dX7_readName_44 (by decide) ?_
        refine w_lv [1, 2, 0] rfl ?_
        exact h
set_option maxHeartbeats 4000000 in
set_option maxRecDepth 100000 in
theorem b_Rd_readName_61 {g : Ctx} {n : Nat} {x1 : Int} {x2 : Int} {M : Mem} {Q : Int → Mem → Prop} (hx1 : InR x1) (hx2 : InR x2) (h : (((x2 < x1) → K_Nm_finished g n 3 M (fun r2 M3 => InR r2 → WT M3 → Q r2 M3)) ∧ ((¬ (x2 < x1)) → (0 ≤ x2 ∧ x2 < 240) ∧ K_Nm_putBefore g n 3 ((gI M (2) (x2.toNat)) - 97) M (fun M6 => WT M6 → P_Rd_readName g n 61 [(0, vr g (1)), (1, vi (x1)), (2, vi (x2 + (-1)))] [] M6 Q)))) : P_Rd_readName g n 61 [(0, vr g (1)), (1, vi (x1)), (2, vi (x2))] [] M Q := by
  refine w_wt (fun hw => ?_)
  refine w_iload_n dX7_readName_61 2 rfl ?_
  refine w_iload_n dX7_readName_62 1 rfl ?_
  refine w_icmp_lt (tgt := 88) dX7_readName_63 (by decide) hx2 hx1 (fun c1 => ?_) (fun c1 => ?_)
  · replace h := h.1 c1
    refine w_aload_n dX7_readName_88 0 rfl ?_
    refine w_getS (ci := 7) (k := 3) dX7_readName_89 rfl fi7 (by decide) q52 s1 rfl l1 ?_
    refine c_Nm_finished dX7_readName_92 q383 (by decide) (Nat.le_of_ble_eq_true rfl) (Or.inl rfl) h (fun r2 M3 h hr2 hwM3 => ?_)
    replace h := h hr2 hwM3
    exact w_iret dX7_readName_95 ⟨_, rfl, hr2, h⟩
  · replace h := h.2 c1
    refine w_aload_n dX7_readName_66 0 rfl ?_
    refine w_getS (ci := 7) (k := 3) dX7_readName_67 rfl fi7 (by decide) q52 s1 rfl l1 ?_
    refine w_aload_n dX7_readName_70 0 rfl ?_
    refine w_getS (ci := 7) (k := 0) dX7_readName_71 rfl fi7 (by decide) q48 s1 rfl l1 ?_
    refine w_iload_n dX7_readName_74 2 rfl ?_
    obtain ⟨i4, h⟩ := h
    refine w_cald dX7_readName_75 s2 l2 (by decide) i4.1 i4.2 ?_
    refine w_bipush dX7_readName_76 rfl ?_
    refine w_isub dX7_readName_78 ?_
    refine c_Nm_putBefore dX7_readName_79 q379 (by decide) (Nat.le_of_ble_eq_true rfl) (Or.inl rfl) h (fun M6 h hwM6 => ?_)
    replace h := h hwM6
    refine w_iinc (lv' := [(2, vi (x2 + (-1))), (0, vr g (1)), (1, vi (x1))]) dX7_readName_82 2 rfl (by decide) rfl ?_
    refine w_goto (tgt := 61) dX7_readName_85 (by decide) ?_
    refine w_lv [1, 2, 0] rfl ?_
    exact h
set_option maxHeartbeats 4000000 in
set_option maxRecDepth 100000 in
theorem b_Rd_peek_0 {g : Ctx} {n : Nat}  {M : Mem} {Q : Int → Mem → Prop}  (h : ((((gI M (1) (1)) ≤ (gI M (1) (2))) → Q 0 M) ∧ ((¬ ((gI M (1) (1)) ≤ (gI M (1) (2)))) → (0 ≤ (gI M (1) (2)) ∧ (gI M (1) (2)) < 240) ∧ (0 ≤ (gI M (2) ((gI M (1) (2)).toNat)) ∧ (gI M (2) ((gI M (1) (2)).toNat)) < 65536) ∧ Q (gI M (2) ((gI M (1) (2)).toNat)) M))) : P_Rd_peek g n 0 [(0, vr g (1))] [] M Q := by
  refine w_wt (fun hw => ?_)
  refine w_aload_n dX7_peek_0 0 rfl ?_
  refine w_getI (ci := 7) (k := 2) dX7_peek_1 rfl fi7 (by decide) q51 s1 rfl l1 ?_
  refine w_aload_n dX7_peek_4 0 rfl ?_
  refine w_getI (ci := 7) (k := 1) dX7_peek_5 rfl fi7 (by decide) q49 s1 rfl l1 ?_
  refine w_icmp_ge (tgt := 23) dX7_peek_8 (by decide) (hw.int _ _) (hw.int _ _) (fun c1 => ?_) (fun c1 => ?_)
  · replace h := h.1 c1
    refine w_iconst dX7_peek_23 ?_
    exact w_cret dX7_peek_24 (by decide) (by decide) ⟨_, rfl, ⟨by decide, by decide⟩, h⟩
  · replace h := h.2 c1
    refine w_aload_n dX7_peek_11 0 rfl ?_
    refine w_getS (ci := 7) (k := 0) dX7_peek_12 rfl fi7 (by decide) q48 s1 rfl l1 ?_
    refine w_aload_n dX7_peek_15 0 rfl ?_
    refine w_getI (ci := 7) (k := 2) dX7_peek_16 rfl fi7 (by decide) q51 s1 rfl l1 ?_
    obtain ⟨i2, h⟩ := h
    refine w_cald dX7_peek_19 s2 l2 (by decide) i2.1 i2.2 ?_
    refine w_goto (tgt := 24) dX7_peek_20 (by decide) ?_
    obtain ⟨i3, h⟩ := h
    exact w_cret dX7_peek_24 i3.1 i3.2 ⟨_, rfl, i3, h⟩
set_option maxHeartbeats 4000000 in
set_option maxRecDepth 100000 in
theorem b_Nm_clear_0 {g : Ctx} {n : Nat} {o : Nat} {M : Mem} {Q : Mem → Prop} (ho : isMk o) (h : Q (sI (sI M (o) (0) (0)) (o) (1) (0))) : P_Nm_clear g n 0 [(0, vr g (o))] [] M Q := by
  refine w_wt (fun hw => ?_)
  refine w_aload_n dX6_clear_0 0 rfl ?_
  refine w_iconst dX6_clear_1 ?_
  refine w_putI (ci := 6) (k := 0) dX6_clear_2 rfl fi6 (by decide) q40 tyX6 tyX6_ok nmX6 rfl rfl rfl ⟨by decide, by decide⟩ (sMk ho) rfl (bMk ho (Nat.le_add_right _ _)) ?_
  have hw1 : WT (sI M (o) (0) (0)) := hw.sI ⟨by decide, by decide⟩
  refine w_aload_n dX6_clear_5 0 rfl ?_
  refine w_iconst dX6_clear_6 ?_
  refine w_putI (ci := 6) (k := 1) dX6_clear_7 rfl fi6 (by decide) q41 tyX6 tyX6_ok nmX6 rfl rfl rfl ⟨by decide, by decide⟩ (sMk ho) rfl (bMk ho (Nat.le_add_right _ _)) ?_
  have hw2 : WT (sI (sI M (o) (0) (0)) (o) (1) (0)) := hw1.sI ⟨by decide, by decide⟩
  exact w_vret dX6_clear_10 ⟨rfl, h⟩
set_option maxHeartbeats 4000000 in
set_option maxRecDepth 100000 in
theorem b_Nm_putBefore_0 {g : Ctx} {n : Nat} {o : Nat} {p0 : Int} {M : Mem} {Q : Mem → Prop} (ho : isMk o) (hp0 : InR p0) (h : (((7 ≤ (gI M (o) (1))) → Q M) ∧ ((¬ (7 ≤ (gI M (o) (1)))) → (InR ((((gI M (o) (0)) * 17) + p0) + 1)) ∧ (InR ((gI M (o) (1)) + 1)) ∧ Q (sI (sI M (o) (0) ((((gI M (o) (0)) * 17) + p0) + 1)) (o) (1) ((gI M (o) (1)) + 1))))) : P_Nm_putBefore g n 0 [(0, vr g (o)), (1, vi (p0))] [] M Q := by
  refine w_wt (fun hw => ?_)
  refine w_aload_n dX6_putBefore_0 0 rfl ?_
  refine w_getI (ci := 6) (k := 1) dX6_putBefore_1 rfl fi6 (by decide) q41 (sMk ho) rfl (bMk ho (Nat.le_add_right _ _)) ?_
  refine w_bipush dX6_putBefore_4 rfl ?_
  refine w_icmp_ge (tgt := 34) dX6_putBefore_6 (by decide) (hw.int _ _) ⟨by decide, by decide⟩ (fun c1 => ?_) (fun c1 => ?_)
  · replace h := h.1 c1
    exact w_vret dX6_putBefore_34 ⟨rfl, h⟩
  · replace h := h.2 c1
    refine w_aload_n dX6_putBefore_9 0 rfl ?_
    refine w_aload_n dX6_putBefore_10 0 rfl ?_
    refine w_getI (ci := 6) (k := 0) dX6_putBefore_11 rfl fi6 (by decide) q40 (sMk ho) rfl (bMk ho (Nat.le_add_right _ _)) ?_
    refine w_bipush dX6_putBefore_14 rfl ?_
    refine w_imul dX6_putBefore_16 ?_
    refine w_iload_n dX6_putBefore_17 1 rfl ?_
    refine w_iadd dX6_putBefore_18 ?_
    refine w_iconst dX6_putBefore_19 ?_
    refine w_iadd dX6_putBefore_20 ?_
    obtain ⟨i2, h⟩ := h
    refine w_putI (ci := 6) (k := 0) dX6_putBefore_21 rfl fi6 (by decide) q40 tyX6 tyX6_ok nmX6 rfl rfl rfl i2 (sMk ho) rfl (bMk ho (Nat.le_add_right _ _)) ?_
    have hw3 : WT (sI M (o) (0) ((((gI M (o) (0)) * 17) + p0) + 1)) := hw.sI i2
    refine w_aload_n dX6_putBefore_24 0 rfl ?_
    refine w_dup dX6_putBefore_25 rfl ?_
    refine w_getI (ci := 6) (k := 1) dX6_putBefore_26 rfl fi6 (by decide) q41 (sMk ho) rfl (bMk ho (Nat.le_add_right _ _)) ?_
    refine w_top (congrArg vi ((gI_ne _ _ _ _ _ _ (by omega)).trans rfl)) ?_
    have u4 : InR (gI M (o) (1)) := hw.int _ _
    refine w_iconst dX6_putBefore_29 ?_
    refine w_iadd dX6_putBefore_30 ?_
    obtain ⟨i5, h⟩ := h
    refine w_putI (ci := 6) (k := 1) dX6_putBefore_31 rfl fi6 (by decide) q41 tyX6 tyX6_ok nmX6 rfl rfl rfl i5 (sMk ho) rfl (bMk ho (Nat.le_add_right _ _)) ?_
    have hw6 : WT (sI (sI M (o) (0) ((((gI M (o) (0)) * 17) + p0) + 1)) (o) (1) ((gI M (o) (1)) + 1)) := hw3.sI i5
    exact w_vret dX6_putBefore_34 ⟨rfl, h⟩
set_option maxHeartbeats 4000000 in
set_option maxRecDepth 100000 in
theorem b_Nm_finished_0 {g : Ctx} {n : Nat} {o : Nat} {M : Mem} {Q : Int → Mem → Prop} (ho : isMk o) (h : P_Nm_finished g n 10 [(1, vi (gI M (o) (0))), (2, vi (gI M (o) (1)))] [] M Q) : P_Nm_finished g n 0 [(0, vr g (o))] [] M Q := by
  refine w_wt (fun hw => ?_)
  refine w_aload_n dX6_finished_0 0 rfl ?_
  refine w_getI (ci := 6) (k := 0) dX6_finished_1 rfl fi6 (by decide) q40 (sMk ho) rfl (bMk ho (Nat.le_add_right _ _)) ?_
  refine w_istore_n (lv' := [(1, vi (gI M (o) (0))), (0, vr g (o))]) (i := 1) dX6_finished_4 rfl (by decide) rfl ?_
  refine w_aload_n dX6_finished_5 1 rfl ?_
  refine w_getI (ci := 6) (k := 1) dX6_finished_6 rfl fi6 (by decide) q41 (sMk ho) rfl (bMk ho (Nat.le_add_right _ _)) ?_
  refine w_istore_n (lv' := [(2, vi (gI M (o) (1))), (1, vi (gI M (o) (0))), (0, vr g (o))]) (i := 2) dX6_finished_9 rfl (by decide) rfl ?_
  refine w_lv [1, 0] rfl ?_
  exact h
set_option maxHeartbeats 4000000 in
set_option maxRecDepth 100000 in
theorem b_Nm_finished_10 {g : Ctx} {n : Nat} {x1 : Int} {x2 : Int} {M : Mem} {Q : Int → Mem → Prop} (hx1 : InR x1) (hx2 : InR x2) (h : (((7 ≤ x2) → Q x1 M) ∧ ((¬ (7 ≤ x2)) → P_Nm_finished g n 10 [(1, vi (x1 * 17)), (2, vi (x2 + 1))] [] M Q))) : P_Nm_finished g n 10 [(1, vi (x1)), (2, vi (x2))] [] M Q := by
  refine w_wt (fun hw => ?_)
  refine w_iload_n dX6_finished_10 1 rfl ?_
  refine w_bipush dX6_finished_11 rfl ?_
  refine w_icmp_ge (tgt := 27) dX6_finished_13 (by decide) hx2 ⟨by decide, by decide⟩ (fun c1 => ?_) (fun c1 => ?_)
  · replace h := h.1 c1
    refine w_iload_n dX6_finished_27 0 rfl ?_
    exact w_iret dX6_finished_28 ⟨_, rfl, hx1, h⟩
  · replace h := h.2 c1
    refine w_iload_n dX6_finished_16 0 rfl ?_
    refine w_bipush dX6_finished_17 rfl ?_
    refine w_imul dX6_finished_19 ?_
    refine w_istore_n (lv' := [(1, vi (x1 * 17)), (2, vi (x2))]) (i := 1) dX6_finished_20 rfl (by decide) rfl ?_
    refine w_iinc (lv' := [(2, vi (x2 + 1)), (1, vi (x1 * 17))]) dX6_finished_21 1 rfl (by decide) rfl ?_
    refine w_goto (tgt := 10) dX6_finished_24 (by decide) ?_
    refine w_lv [1, 0] rfl ?_
    exact h
set_option maxHeartbeats 4000000 in
set_option maxRecDepth 100000 in
theorem b_Rd_take_0 {g : Ctx} {n : Nat} {p0 : Int} {M : Mem} {Q : Int → Mem → Prop} (hp0 : 0 ≤ p0 ∧ p0 < 65536) (h : ((((gI M (1) (1)) ≤ (gI M (1) (2))) → Q 0 M) ∧ ((¬ ((gI M (1) (1)) ≤ (gI M (1) (2)))) → (0 ≤ (gI M (1) (2)) ∧ (gI M (1) (2)) < 240) ∧ ((((gI M (2) ((gI M (1) (2)).toNat)) = p0) → (InR ((gI M (1) (2)) + 1)) ∧ Q 1 (sI M (1) (2) ((gI M (1) (2)) + 1))) ∧ ((¬ ((gI M (2) ((gI M (1) (2)).toNat)) = p0)) → Q 0 M))))) : P_Rd_take g n 0 [(0, vr g (1)), (1, vi (p0))] [] M Q := by
  refine w_wt (fun hw => ?_)
  refine w_aload_n dX7_take_0 0 rfl ?_
  refine w_getI (ci := 7) (k := 2) dX7_take_1 rfl fi7 (by decide) q51 s1 rfl l1 ?_
  refine w_aload_n dX7_take_4 0 rfl ?_
  refine w_getI (ci := 7) (k := 1) dX7_take_5 rfl fi7 (by decide) q49 s1 rfl l1 ?_
  refine w_icmp_ge (tgt := 24) dX7_take_8 (by decide) (hw.int _ _) (hw.int _ _) (fun c1 => ?_) (fun c1 => ?_)
  · replace h := h.1 c1
    refine w_iconst dX7_take_24 ?_
    exact w_zret dX7_take_25 (Or.inl rfl) ⟨_, rfl, (Or.inl rfl), h⟩
  · replace h := h.2 c1
    refine w_aload_n dX7_take_11 0 rfl ?_
    refine w_getS (ci := 7) (k := 0) dX7_take_12 rfl fi7 (by decide) q48 s1 rfl l1 ?_
    refine w_aload_n dX7_take_15 0 rfl ?_
    refine w_getI (ci := 7) (k := 2) dX7_take_16 rfl fi7 (by decide) q51 s1 rfl l1 ?_
    obtain ⟨i2, h⟩ := h
    refine w_cald dX7_take_19 s2 l2 (by decide) i2.1 i2.2 ?_
    refine w_iload_n dX7_take_20 1 rfl ?_
    refine w_icmp_eq (tgt := 26) dX7_take_21 (by decide) (hw.int _ _) (inr_c hp0) (fun c3 => ?_) (fun c3 => ?_)
    · replace h := h.1 c3
      refine w_aload_n dX7_take_26 0 rfl ?_
      refine w_dup dX7_take_27 rfl ?_
      refine w_getI (ci := 7) (k := 2) dX7_take_28 rfl fi7 (by decide) q51 s1 rfl l1 ?_
      refine w_iconst dX7_take_31 ?_
      refine w_iadd dX7_take_32 ?_
      obtain ⟨i4, h⟩ := h
      refine w_putI (ci := 7) (k := 2) dX7_take_33 rfl fi7 (by decide) q51 tyX7 tyX7_ok nmX7 rfl rfl rfl i4 s1 rfl l1 ?_
      have hw5 : WT (sI M (1) (2) ((gI M (1) (2)) + 1)) := hw.sI i4
      refine w_iconst dX7_take_36 ?_
      exact w_zret dX7_take_37 (Or.inr rfl) ⟨_, rfl, (Or.inr rfl), h⟩
    · replace h := h.2 c3
      refine w_iconst dX7_take_24 ?_
      exact w_zret dX7_take_25 (Or.inl rfl) ⟨_, rfl, (Or.inl rfl), h⟩
set_option maxHeartbeats 4000000 in
set_option maxRecDepth 100000 in
theorem b_Rc_findOrAdd_0 {g : Ctx} {n : Nat} {o : Nat} {p0 : Int} {M : Mem} {Q : Nat → Mem → Prop} (ho : isRec o) (hp0 : InR p0) (h : K_Rc_domainOf g n o p0 M (fun r1 M2 => (r1 = 0 ∨ isDom r1) → WT M2 → (((¬ r1 = 0) → Q r1 M2) ∧ ((r1 = 0) → ((((gI M2 (o) (1)) < 12) → K_Rc_firstNotBefore g n o p0 M2 (fun r5 M6 => InR r5 → WT M6 → (0 ≤ (gI M6 (o) (1)) ∧ (gI M6 (o) (1)) < 12) ∧ P_Rc_findOrAdd g n 44 [(0, vr g (o)), (1, vi (p0)), (3, vi (r5)), (4, vr g (gP M6 (o + 1) ((gI M6 (o) (1)).toNat))), (5, vi (gI M6 (o) (1)))] [] M6 Q)) ∧ ((¬ ((gI M2 (o) (1)) < 12)) → Q r1 M2)))))) : P_Rc_findOrAdd g n 0 [(0, vr g (o)), (1, vi (p0))] [] M Q := by
  refine w_wt (fun hw => ?_)
  refine w_aload_n dX8_findOrAdd_0 0 rfl ?_
  refine w_iload_n dX8_findOrAdd_1 1 rfl ?_
  refine c_Rc_domainOf dX8_findOrAdd_2 q395 (by decide) (Nat.le_of_ble_eq_true rfl) ho h (fun r1 M2 h hr1 hwM2 => ?_)
  replace h := h hr1 hwM2
  refine w_astore_nq (lv' := [(2, vq g (r1)), (0, vr g (o)), (1, vi (p0))]) (i := 2) dX8_findOrAdd_5 rfl (by decide) rfl ?_
  refine w_aload_nq dX8_findOrAdd_6 0 rfl ?_
  refine w_ifnonnull (tgt := 19) dX8_findOrAdd_7 (by decide) (fun c3 => ?_) (fun c3 => ?_)
  · replace h := h.1 c3
    rw [vq_ne c3]
    refine w_aload_n dX8_findOrAdd_19 0 rfl ?_
    refine w_top (vq_ne (nDom (hr1.resolve_left c3))).symm ?_
    exact w_aret dX8_findOrAdd_20 ⟨_, rfl, (Or.inr (hr1.resolve_left c3)), h⟩
  · replace h := h.2 c3
    refine w_aload_n dX8_findOrAdd_10 1 rfl ?_
    refine w_getI (ci := 8) (k := 1) dX8_findOrAdd_11 rfl fi8 (by decide) q183 (sRec ho) rfl (bRec ho (Nat.le_add_right _ _)) ?_
    refine w_bipush dX8_findOrAdd_14 rfl ?_
    refine w_icmp_lt (tgt := 21) dX8_findOrAdd_16 (by decide) (hwM2.int _ _) ⟨by decide, by decide⟩ (fun c4 => ?_) (fun c4 => ?_)
    · replace h := h.1 c4
      refine w_aload_n dX8_findOrAdd_21 1 rfl ?_
      refine w_iload_n dX8_findOrAdd_22 2 rfl ?_
      refine c_Rc_firstNotBefore dX8_findOrAdd_23 q407 (by decide) (Nat.le_of_ble_eq_true rfl) ho h (fun r5 M6 h hr5 hwM6 => ?_)
      replace h := h hr5 hwM6
      refine w_istore_n (lv' := [(3, vi (r5)), (2, vq g (r1)), (0, vr g (o)), (1, vi (p0))]) (i := 3) dX8_findOrAdd_26 rfl (by decide) (by simp [cat_q]) ?_
      refine w_aload_n dX8_findOrAdd_27 2 rfl ?_
      refine w_getS (ci := 8) (k := 0) dX8_findOrAdd_28 rfl fi8 (by decide) q182 (sRec ho) rfl (bRec ho (Nat.le_add_right _ _)) ?_
      refine w_aload_n dX8_findOrAdd_31 2 rfl ?_
      refine w_getI (ci := 8) (k := 1) dX8_findOrAdd_32 rfl fi8 (by decide) q183 (sRec ho) rfl (bRec ho (Nat.le_add_right _ _)) ?_
      obtain ⟨i7, h⟩ := h
      have t8 : isDom (gP M6 (o + 1) ((gI M6 (o) (1)).toNat)) := (hwM6.dom ho (by omega))
      refine w_aald (t := 3) dX8_findOrAdd_35 (sRec1 ho) (by decide) rfl (bRec1 ho (Nat.le_add_right _ _)) (by decide) i7.1 i7.2 (nDom t8) ?_
      refine w_astore (lv' := [(4, vr g (gP M6 (o + 1) ((gI M6 (o) (1)).toNat))), (3, vi (r5)), (2, vq g (r1)), (0, vr g (o)), (1, vi (p0))]) dX8_findOrAdd_36 (by decide) rfl ?_
      refine w_aload_n dX8_findOrAdd_38 3 rfl ?_
      refine w_getI (ci := 8) (k := 1) dX8_findOrAdd_39 rfl fi8 (by decide) q183 (sRec ho) rfl (bRec ho (Nat.le_add_right _ _)) ?_
      refine w_istore (lv' := [(5, vi (gI M6 (o) (1))), (4, vr g (gP M6 (o + 1) ((gI M6 (o) (1)).toNat))), (3, vi (r5)), (2, vq g (r1)), (0, vr g (o)), (1, vi (p0))]) dX8_findOrAdd_42 (by decide) rfl ?_
      refine w_lv [4, 5, 2, 1, 0] rfl ?_
      exact h
    · replace h := h.2 c4
      refine w_aload_nq dX8_findOrAdd_19 0 rfl ?_
      exact w_aret dX8_findOrAdd_20 ⟨_, rfl, hr1, h⟩
set_option maxHeartbeats 4000000 in
set_option maxRecDepth 100000 in
theorem b_Rc_findOrAdd_44 {g : Ctx} {n : Nat} {a0 : Nat} {x1 : Int} {x3 : Int} {a4 : Nat} {x5 : Int} {M : Mem} {Q : Nat → Mem → Prop} (ha0 : isRec a0) (hx1 : InR x1) (hx3 : InR x3) (ha4 : isDom a4) (hx5 : InR x5) (h : (((x5 ≤ x3) → (0 ≤ x3 ∧ x3 < 12) ∧ (InR ((gI M (a0) (1)) + 1)) ∧ K_Dm_start g n a4 x1 (sI (sP M (a0 + 1) (x3.toNat) (a4)) (a0) (1) ((gI M (a0) (1)) + 1)) (fun M8 => WT M8 → Q a4 M8)) ∧ ((¬ (x5 ≤ x3)) → (0 ≤ (x5 - 1) ∧ (x5 - 1) < 12) ∧ (0 ≤ x5 ∧ x5 < 12) ∧ P_Rc_findOrAdd g n 44 [(0, vr g (a0)), (1, vi (x1)), (3, vi (x3)), (4, vr g (a4)), (5, vi (x5 + (-1)))] [] (sP M (a0 + 1) (x5.toNat) (gP M (a0 + 1) ((x5 - 1).toNat))) Q))) : P_Rc_findOrAdd g n 44 [(0, vr g (a0)), (1, vi (x1)), (3, vi (x3)), (4, vr g (a4)), (5, vi (x5))] [] M Q := by
  refine w_wt (fun hw => ?_)
  refine w_iload dX8_findOrAdd_44 4 rfl ?_
  refine w_iload_n dX8_findOrAdd_46 2 rfl ?_
  refine w_icmp_le (tgt := 72) dX8_findOrAdd_47 (by decide) hx5 hx3 (fun c1 => ?_) (fun c1 => ?_)
  · replace h := h.1 c1
    refine w_aload_n dX8_findOrAdd_72 0 rfl ?_
    refine w_getS (ci := 8) (k := 0) dX8_findOrAdd_73 rfl fi8 (by decide) q182 (sRec ha0) rfl (bRec ha0 (Nat.le_add_right _ _)) ?_
    refine w_iload_n dX8_findOrAdd_76 2 rfl ?_
    refine w_aload dX8_findOrAdd_77 3 rfl ?_
    obtain ⟨i2, h⟩ := h
    refine w_aast (t := 3) (ci := 1) dX8_findOrAdd_79 (sRec1 ha0) (by decide) rfl (bRec1 ha0 (Nat.le_add_right _ _)) (by decide) i2.1 i2.2 (sDom ha4) (bDom ha4 (Nat.le_add_right _ _)) (nDom ha4) rfl (fun hw => hw.sPdom ha0 ha4) ?_
    have hw3 : WT (sP M (a0 + 1) (x3.toNat) (a4)) := hw.sPdom ha0 ha4
    refine w_aload_n dX8_findOrAdd_80 0 rfl ?_
    refine w_dup dX8_findOrAdd_81 rfl ?_
    refine w_getI (ci := 8) (k := 1) dX8_findOrAdd_82 rfl fi8 (by decide) q183 (sRec ha0) rfl (bRec ha0 (Nat.le_add_right _ _)) ?_
    refine w_top (u := vi (gI M (a0) (1))) rfl ?_
    have u4 : InR (gI M (a0) (1)) := hw.int _ _
    refine w_iconst dX8_findOrAdd_85 ?_
    refine w_iadd dX8_findOrAdd_86 ?_
    obtain ⟨i5, h⟩ := h
    refine w_putI (ci := 8) (k := 1) dX8_findOrAdd_87 rfl fi8 (by decide) q183 tyX8 tyX8_ok nmX8 rfl rfl rfl i5 (sRec ha0) rfl (bRec ha0 (Nat.le_add_right _ _)) ?_
    have hw6 : WT (sI (sP M (a0 + 1) (x3.toNat) (a4)) (a0) (1) ((gI M (a0) (1)) + 1)) := hw3.sI i5
    refine w_aload dX8_findOrAdd_90 3 rfl ?_
    refine w_iload_n dX8_findOrAdd_92 1 rfl ?_
    refine c_Dm_start dX8_findOrAdd_93 q411 (by decide) (Nat.le_of_ble_eq_true rfl) ha4 h (fun M8 h hwM8 => ?_)
    replace h := h hwM8
    refine w_aload dX8_findOrAdd_96 3 rfl ?_
    refine w_top (vq_ne (nDom ha4)).symm ?_
    exact w_aret dX8_findOrAdd_98 ⟨_, rfl, (Or.inr ha4), h⟩
  · replace h := h.2 c1
    refine w_aload_n dX8_findOrAdd_50 0 rfl ?_
    refine w_getS (ci := 8) (k := 0) dX8_findOrAdd_51 rfl fi8 (by decide) q182 (sRec ha0) rfl (bRec ha0 (Nat.le_add_right _ _)) ?_
    refine w_iload dX8_findOrAdd_54 4 rfl ?_
    refine w_aload_n dX8_findOrAdd_56 0 rfl ?_
    refine w_getS (ci := 8) (k := 0) dX8_findOrAdd_57 rfl fi8 (by decide) q182 (sRec ha0) rfl (bRec ha0 (Nat.le_add_right _ _)) ?_
    refine w_iload dX8_findOrAdd_60 4 rfl ?_
    refine w_iconst dX8_findOrAdd_62 ?_
    refine w_isub dX8_findOrAdd_63 ?_
    obtain ⟨i9, h⟩ := h
    have t10 : isDom (gP M (a0 + 1) ((x5 - 1).toNat)) := (hw.dom ha0 (by omega))
    refine w_aald (t := 3) dX8_findOrAdd_64 (sRec1 ha0) (by decide) rfl (bRec1 ha0 (Nat.le_add_right _ _)) (by decide) i9.1 i9.2 (nDom t10) ?_
    obtain ⟨i11, h⟩ := h
    refine w_aast (t := 3) (ci := 1) dX8_findOrAdd_65 (sRec1 ha0) (by decide) rfl (bRec1 ha0 (Nat.le_add_right _ _)) (by decide) i11.1 i11.2 (sDom t10) (bDom t10 (Nat.le_add_right _ _)) (nDom t10) rfl (fun hw => hw.sPdom ha0 t10) ?_
    have hw12 : WT (sP M (a0 + 1) (x5.toNat) (gP M (a0 + 1) ((x5 - 1).toNat))) := hw.sPdom ha0 t10
    refine w_iinc (lv' := [(5, vi (x5 + (-1))), (0, vr g (a0)), (1, vi (x1)), (3, vi (x3)), (4, vr g (a4))]) dX8_findOrAdd_66 4 rfl (by decide) rfl ?_
    refine w_goto (tgt := 44) dX8_findOrAdd_69 (by decide) ?_
    refine w_lv [1, 2, 3, 4, 0] rfl ?_
    exact h
set_option maxHeartbeats 4000000 in
set_option maxRecDepth 100000 in
theorem b_Rc_domainOf_0 {g : Ctx} {n : Nat} {o : Nat} {p0 : Int} {M : Mem} {Q : Nat → Mem → Prop} (ho : isRec o) (hp0 : InR p0) (h : K_Rc_find g n o p0 M (fun r1 M2 => InR r1 → WT M2 → K_Rc_domainAt g n o r1 M2 (fun r3 M4 => (r3 = 0 ∨ isDom r3) → WT M4 → Q r3 M4))) : P_Rc_domainOf g n 0 [(0, vr g (o)), (1, vi (p0))] [] M Q := by
  refine w_wt (fun hw => ?_)
  refine w_aload_n dX8_domainOf_0 0 rfl ?_
  refine w_aload_n dX8_domainOf_1 0 rfl ?_
  refine w_iload_n dX8_domainOf_2 1 rfl ?_
  refine c_Rc_find dX8_domainOf_3 q399 (by decide) (Nat.le_of_ble_eq_true rfl) ho h (fun r1 M2 h hr1 hwM2 => ?_)
  replace h := h hr1 hwM2
  refine c_Rc_domainAt dX8_domainOf_6 q403 (by decide) (Nat.le_of_ble_eq_true rfl) ho h (fun r3 M4 h hr3 hwM4 => ?_)
  replace h := h hr3 hwM4
  exact w_aret dX8_domainOf_9 ⟨_, rfl, hr3, h⟩
set_option maxHeartbeats 4000000 in
set_option maxRecDepth 100000 in
theorem b_Rc_find_0 {g : Ctx} {n : Nat} {o : Nat} {p0 : Int} {M : Mem} {Q : Int → Mem → Prop} (ho : isRec o) (hp0 : InR p0) (h : P_Rc_find g n 2 [(0, vr g (o)), (1, vi (p0)), (2, vi (0))] [] M Q) : P_Rc_find g n 0 [(0, vr g (o)), (1, vi (p0))] [] M Q := by
  refine w_wt (fun hw => ?_)
  refine w_iconst dX8_find_0 ?_
  refine w_istore_n (lv' := [(2, vi (0)), (0, vr g (o)), (1, vi (p0))]) (i := 2) dX8_find_1 rfl (by decide) rfl ?_
  refine w_lv [1, 2, 0] rfl ?_
  exact h
set_option maxHeartbeats 4000000 in
set_option maxRecDepth 100000 in
theorem b_Rc_find_2 {g : Ctx} {n : Nat} {a0 : Nat} {x1 : Int} {x2 : Int} {M : Mem} {Q : Int → Mem → Prop} (ha0 : isRec a0) (hx1 : InR x1) (hx2 : InR x2) (h : ((((gI M (a0) (1)) ≤ x2) → Q (-1) M) ∧ ((¬ ((gI M (a0) (1)) ≤ x2)) → (0 ≤ x2 ∧ x2 < 12) ∧ (((¬ (gI M (gP M (a0 + 1) (x2.toNat)) (0)) = x1) → P_Rc_find g n 2 [(0, vr g (a0)), (1, vi (x1)), (2, vi (x2 + 1))] [] M Q) ∧ (((gI M (gP M (a0 + 1) (x2.toNat)) (0)) = x1) → Q x2 M))))) : P_Rc_find g n 2 [(0, vr g (a0)), (1, vi (x1)), (2, vi (x2))] [] M Q := by
  refine w_wt (fun hw => ?_)
  refine w_iload_n dX8_find_2 2 rfl ?_
  refine w_aload_n dX8_find_3 0 rfl ?_
  refine w_getI (ci := 8) (k := 1) dX8_find_4 rfl fi8 (by decide) q183 (sRec ha0) rfl (bRec ha0 (Nat.le_add_right _ _)) ?_
  refine w_icmp_ge (tgt := 31) dX8_find_7 (by decide) hx2 (hw.int _ _) (fun c1 => ?_) (fun c1 => ?_)
  · replace h := h.1 c1
    refine w_iconst dX8_find_31 ?_
    exact w_iret dX8_find_32 ⟨_, rfl, ⟨by decide, by decide⟩, h⟩
  · replace h := h.2 c1
    refine w_aload_n dX8_find_10 0 rfl ?_
    refine w_getS (ci := 8) (k := 0) dX8_find_11 rfl fi8 (by decide) q182 (sRec ha0) rfl (bRec ha0 (Nat.le_add_right _ _)) ?_
    refine w_iload_n dX8_find_14 2 rfl ?_
    obtain ⟨i2, h⟩ := h
    have t3 : isDom (gP M (a0 + 1) (x2.toNat)) := (hw.dom ha0 (by omega))
    refine w_aald (t := 3) dX8_find_15 (sRec1 ha0) (by decide) rfl (bRec1 ha0 (Nat.le_add_right _ _)) (by decide) i2.1 i2.2 (nDom t3) ?_
    refine w_getIN (ci := 1) (k := 0) dX8_find_16 rfl fi1 (by decide) qn123 (sDom t3) rfl (bDom t3 (Nat.le_add_right _ _)) ?_
    refine w_iload_n dX8_find_19 1 rfl ?_
    refine w_icmp_ne (tgt := 25) dX8_find_20 (by decide) (hw.int _ _) hx1 (fun c4 => ?_) (fun c4 => ?_)
    · replace h := h.1 c4
      refine w_iinc (lv' := [(2, vi (x2 + 1)), (0, vr g (a0)), (1, vi (x1))]) dX8_find_25 2 rfl (by decide) rfl ?_
      refine w_goto (tgt := 2) dX8_find_28 (by decide) ?_
      refine w_lv [1, 2, 0] rfl ?_
      exact h
    · replace h := h.2 c4
      refine w_iload_n dX8_find_23 2 rfl ?_
      exact w_iret dX8_find_24 ⟨_, rfl, hx2, h⟩
set_option maxHeartbeats 4000000 in
set_option maxRecDepth 100000 in
theorem b_Rc_domainAt_0 {g : Ctx} {n : Nat} {o : Nat} {p0 : Int} {M : Mem} {Q : Nat → Mem → Prop} (ho : isRec o) (hp0 : InR p0) (h : (((p0 < 0) → Q 0 M) ∧ ((¬ (p0 < 0)) → ((((gI M (o) (1)) ≤ p0) → Q 0 M) ∧ ((¬ ((gI M (o) (1)) ≤ p0)) → (0 ≤ p0 ∧ p0 < 12) ∧ Q (gP M (o + 1) (p0.toNat)) M))))) : P_Rc_domainAt g n 0 [(0, vr g (o)), (1, vi (p0))] [] M Q := by
  refine w_wt (fun hw => ?_)
  refine w_iload_n dX8_domainAt_0 1 rfl ?_
  refine w_if_lt (tgt := 21) dX8_domainAt_1 (by decide) hp0 (fun c1 => ?_) (fun c1 => ?_)
  · replace h := h.1 c1
    refine w_null dX8_domainAt_21 ?_
    exact w_aret dX8_domainAt_22 ⟨_, rfl, (Or.inl rfl), h⟩
  · replace h := h.2 c1
    refine w_iload_n dX8_domainAt_4 1 rfl ?_
    refine w_aload_n dX8_domainAt_5 0 rfl ?_
    refine w_getI (ci := 8) (k := 1) dX8_domainAt_6 rfl fi8 (by decide) q183 (sRec ho) rfl (bRec ho (Nat.le_add_right _ _)) ?_
    refine w_icmp_ge (tgt := 21) dX8_domainAt_9 (by decide) hp0 (hw.int _ _) (fun c2 => ?_) (fun c2 => ?_)
    · replace h := h.1 c2
      refine w_null dX8_domainAt_21 ?_
      exact w_aret dX8_domainAt_22 ⟨_, rfl, (Or.inl rfl), h⟩
    · replace h := h.2 c2
      refine w_aload_n dX8_domainAt_12 0 rfl ?_
      refine w_getS (ci := 8) (k := 0) dX8_domainAt_13 rfl fi8 (by decide) q182 (sRec ho) rfl (bRec ho (Nat.le_add_right _ _)) ?_
      refine w_iload_n dX8_domainAt_16 1 rfl ?_
      obtain ⟨i3, h⟩ := h
      have t4 : isDom (gP M (o + 1) (p0.toNat)) := (hw.dom ho (by omega))
      refine w_aald (t := 3) dX8_domainAt_17 (sRec1 ho) (by decide) rfl (bRec1 ho (Nat.le_add_right _ _)) (by decide) i3.1 i3.2 (nDom t4) ?_
      refine w_goto (tgt := 22) dX8_domainAt_18 (by decide) ?_
      refine w_top (vq_ne (nDom t4)).symm ?_
      exact w_aret dX8_domainAt_22 ⟨_, rfl, (Or.inr t4), h⟩
set_option maxHeartbeats 4000000 in
set_option maxRecDepth 100000 in
theorem b_Rc_firstNotBefore_0 {g : Ctx} {n : Nat} {o : Nat} {p0 : Int} {M : Mem} {Q : Int → Mem → Prop} (ho : isRec o) (hp0 : InR p0) (h : P_Rc_firstNotBefore g n 2 [(0, vr g (o)), (1, vi (p0)), (2, vi (0))] [] M Q) : P_Rc_firstNotBefore g n 0 [(0, vr g (o)), (1, vi (p0))] [] M Q := by
  refine w_wt (fun hw => ?_)
  refine w_iconst dX8_firstNotBefore_0 ?_
  refine w_istore_n (lv' := [(2, vi (0)), (0, vr g (o)), (1, vi (p0))]) (i := 2) dX8_firstNotBefore_1 rfl (by decide) rfl ?_
  refine w_lv [1, 2, 0] rfl ?_
  exact h
set_option maxHeartbeats 4000000 in
set_option maxRecDepth 100000 in
theorem b_Rc_firstNotBefore_2 {g : Ctx} {n : Nat} {a0 : Nat} {x1 : Int} {x2 : Int} {M : Mem} {Q : Int → Mem → Prop} (ha0 : isRec a0) (hx1 : InR x1) (hx2 : InR x2) (h : ((((gI M (a0) (1)) ≤ x2) → Q x2 M) ∧ ((¬ ((gI M (a0) (1)) ≤ x2)) → (0 ≤ x2 ∧ x2 < 12) ∧ (((x1 ≤ (gI M (gP M (a0 + 1) (x2.toNat)) (0))) → Q x2 M) ∧ ((¬ (x1 ≤ (gI M (gP M (a0 + 1) (x2.toNat)) (0)))) → P_Rc_firstNotBefore g n 2 [(0, vr g (a0)), (1, vi (x1)), (2, vi (x2 + 1))] [] M Q))))) : P_Rc_firstNotBefore g n 2 [(0, vr g (a0)), (1, vi (x1)), (2, vi (x2))] [] M Q := by
  refine w_wt (fun hw => ?_)
  refine w_iload_n dX8_firstNotBefore_2 2 rfl ?_
  refine w_aload_n dX8_firstNotBefore_3 0 rfl ?_
  refine w_getI (ci := 8) (k := 1) dX8_firstNotBefore_4 rfl fi8 (by decide) q183 (sRec ha0) rfl (bRec ha0 (Nat.le_add_right _ _)) ?_
  refine w_icmp_ge (tgt := 29) dX8_firstNotBefore_7 (by decide) hx2 (hw.int _ _) (fun c1 => ?_) (fun c1 => ?_)
  · replace h := h.1 c1
    refine w_iload_n dX8_firstNotBefore_29 2 rfl ?_
    exact w_iret dX8_firstNotBefore_30 ⟨_, rfl, hx2, h⟩
  · replace h := h.2 c1
    refine w_aload_n dX8_firstNotBefore_10 0 rfl ?_
    refine w_getS (ci := 8) (k := 0) dX8_firstNotBefore_11 rfl fi8 (by decide) q182 (sRec ha0) rfl (bRec ha0 (Nat.le_add_right _ _)) ?_
    refine w_iload_n dX8_firstNotBefore_14 2 rfl ?_
    obtain ⟨i2, h⟩ := h
    have t3 : isDom (gP M (a0 + 1) (x2.toNat)) := (hw.dom ha0 (by omega))
    refine w_aald (t := 3) dX8_firstNotBefore_15 (sRec1 ha0) (by decide) rfl (bRec1 ha0 (Nat.le_add_right _ _)) (by decide) i2.1 i2.2 (nDom t3) ?_
    refine w_getIN (ci := 1) (k := 0) dX8_firstNotBefore_16 rfl fi1 (by decide) qn123 (sDom t3) rfl (bDom t3 (Nat.le_add_right _ _)) ?_
    refine w_iload_n dX8_firstNotBefore_19 1 rfl ?_
    refine w_icmp_ge (tgt := 29) dX8_firstNotBefore_20 (by decide) (hw.int _ _) hx1 (fun c4 => ?_) (fun c4 => ?_)
    · replace h := h.1 c4
      refine w_iload_n dX8_firstNotBefore_29 2 rfl ?_
      exact w_iret dX8_firstNotBefore_30 ⟨_, rfl, hx2, h⟩
    · replace h := h.2 c4
      refine w_iinc (lv' := [(2, vi (x2 + 1)), (0, vr g (a0)), (1, vi (x1))]) dX8_firstNotBefore_23 2 rfl (by decide) rfl ?_
      refine w_goto (tgt := 2) dX8_firstNotBefore_26 (by decide) ?_
      refine w_lv [1, 2, 0] rfl ?_
      exact h
set_option maxHeartbeats 4000000 in
set_option maxRecDepth 100000 in
theorem b_Dm_start_0 {g : Ctx} {n : Nat} {o : Nat} {p0 : Int} {M : Mem} {Q : Mem → Prop} (ho : isDom o) (hp0 : InR p0) (h : P_Dm_start g n 15 [(0, vr g (o)), (2, vi (p0)), (3, vi (6))] [] (sI (sI M (o) (0) (p0)) (o) (2) (0)) Q) : P_Dm_start g n 0 [(0, vr g (o)), (1, vi (p0))] [] M Q := by
  refine w_wt (fun hw => ?_)
  refine w_aload_n dX1_start_0 0 rfl ?_
  refine w_iload_n dX1_start_1 1 rfl ?_
  refine w_putI (ci := 1) (k := 0) dX1_start_2 rfl fi1 (by decide) q122 tyX1 tyX1_ok nmX1 rfl rfl rfl hp0 (sDom ho) rfl (bDom ho (Nat.le_add_right _ _)) ?_
  have hw1 : WT (sI M (o) (0) (p0)) := hw.sI hp0
  refine w_aload_n dX1_start_5 0 rfl ?_
  refine w_iconst dX1_start_6 ?_
  refine w_putI (ci := 1) (k := 2) dX1_start_7 rfl fi1 (by decide) q127 tyX1 tyX1_ok nmX1 rfl rfl rfl ⟨by decide, by decide⟩ (sDom ho) rfl (bDom ho (Nat.le_add_right _ _)) ?_
  have hw2 : WT (sI (sI M (o) (0) (p0)) (o) (2) (0)) := hw1.sI ⟨by decide, by decide⟩
  refine w_iload_n dX1_start_10 1 rfl ?_
  refine w_istore_n (lv' := [(2, vi (p0)), (0, vr g (o)), (1, vi (p0))]) (i := 2) dX1_start_11 rfl (by decide) rfl ?_
  refine w_bipush dX1_start_12 rfl ?_
  refine w_istore_n (lv' := [(3, vi (6)), (2, vi (p0)), (0, vr g (o)), (1, vi (p0))]) (i := 3) dX1_start_14 rfl (by decide) rfl ?_
  refine w_lv [2, 1, 0] rfl ?_
  exact h
set_option maxHeartbeats 4000000 in
set_option maxRecDepth 100000 in
theorem b_Dm_start_15 {g : Ctx} {n : Nat} {a0 : Nat} {x2 : Int} {x3 : Int} {M : Mem} {Q : Mem → Prop} (ha0 : isDom a0) (hx2 : InR x2) (hx3 : InR x3) (h : (((x3 < 0) → Q (sI (sI (sI (sI (sI M (a0) (3) (0)) (a0) (5) (0)) (a0) (6) (0)) (a0) (8) (0)) (a0) (10) (0))) ∧ ((¬ (x3 < 0)) → (0 ≤ x2) ∧ (0 ≤ x2) ∧ (0 ≤ x3 ∧ x3 < 7) ∧ (InR ((x2 % 17) - 1)) ∧ (InR (x2 % 17)) ∧ ((((x2 % 17) ≤ 0) → P_Dm_start g n 15 [(0, vr g (a0)), (2, vi (x2 / 17)), (3, vi (x3 + (-1)))] [] (sI M (a0 + 1) (x3.toNat) ((x2 % 17) - 1)) Q) ∧ ((¬ ((x2 % 17) ≤ 0)) → (InR ((gI M (a0) (2)) + 1)) ∧ P_Dm_start g n 15 [(0, vr g (a0)), (2, vi (x2 / 17)), (3, vi (x3 + (-1)))] [] (sI (sI M (a0 + 1) (x3.toNat) ((x2 % 17) - 1)) (a0) (2) ((gI M (a0) (2)) + 1)) Q))))) : P_Dm_start g n 15 [(0, vr g (a0)), (2, vi (x2)), (3, vi (x3))] [] M Q := by
  refine w_wt (fun hw => ?_)
  refine w_iload_n dX1_start_15 2 rfl ?_
  refine w_if_lt (tgt := 61) dX1_start_16 (by decide) hx3 (fun c1 => ?_) (fun c1 => ?_)
  · replace h := h.1 c1
    refine w_aload_n dX1_start_61 0 rfl ?_
    refine w_iconst dX1_start_62 ?_
    refine w_putI (ci := 1) (k := 3) dX1_start_63 rfl fi1 (by decide) q130 tyX1 tyX1_ok nmX1 rfl (nar_z (Or.inl rfl)) (fit_z (Or.inl rfl)) ⟨by decide, by decide⟩ (sDom ha0) rfl (bDom ha0 (Nat.le_add_right _ _)) ?_
    have hw2 : WT (sI M (a0) (3) (0)) := hw.sI ⟨by decide, by decide⟩
    refine w_aload_n dX1_start_66 0 rfl ?_
    refine w_iconst dX1_start_67 ?_
    refine w_putI (ci := 1) (k := 5) dX1_start_68 rfl fi1 (by decide) q137 tyX1 tyX1_ok nmX1 rfl rfl rfl ⟨by decide, by decide⟩ (sDom ha0) rfl (bDom ha0 (Nat.le_add_right _ _)) ?_
    have hw3 : WT (sI (sI M (a0) (3) (0)) (a0) (5) (0)) := hw2.sI ⟨by decide, by decide⟩
    refine w_aload_n dX1_start_71 0 rfl ?_
    refine w_iconst dX1_start_72 ?_
    refine w_putI (ci := 1) (k := 6) dX1_start_73 rfl fi1 (by decide) q141 tyX1 tyX1_ok nmX1 rfl rfl rfl ⟨by decide, by decide⟩ (sDom ha0) rfl (bDom ha0 (Nat.le_add_right _ _)) ?_
    have hw4 : WT (sI (sI (sI M (a0) (3) (0)) (a0) (5) (0)) (a0) (6) (0)) := hw3.sI ⟨by decide, by decide⟩
    refine w_aload_n dX1_start_76 0 rfl ?_
    refine w_iconst dX1_start_77 ?_
    refine w_putI (ci := 1) (k := 8) dX1_start_78 rfl fi1 (by decide) q148 tyX1 tyX1_ok nmX1 rfl rfl rfl ⟨by decide, by decide⟩ (sDom ha0) rfl (bDom ha0 (Nat.le_add_right _ _)) ?_
    have hw5 : WT (sI (sI (sI (sI M (a0) (3) (0)) (a0) (5) (0)) (a0) (6) (0)) (a0) (8) (0)) := hw4.sI ⟨by decide, by decide⟩
    refine w_aload_n dX1_start_81 0 rfl ?_
    refine w_iconst dX1_start_82 ?_
    refine w_putI (ci := 1) (k := 10) dX1_start_83 rfl fi1 (by decide) q155 tyX1 tyX1_ok nmX1 rfl rfl rfl ⟨by decide, by decide⟩ (sDom ha0) rfl (bDom ha0 (Nat.le_add_right _ _)) ?_
    have hw6 : WT (sI (sI (sI (sI (sI M (a0) (3) (0)) (a0) (5) (0)) (a0) (6) (0)) (a0) (8) (0)) (a0) (10) (0)) := hw5.sI ⟨by decide, by decide⟩
    exact w_vret dX1_start_86 ⟨rfl, h⟩
  · replace h := h.2 c1
    refine w_iload_n dX1_start_19 1 rfl ?_
    refine w_bipush dX1_start_20 rfl ?_
    obtain ⟨i7, h⟩ := h
    refine w_irem dX1_start_22 hx2 ⟨by decide, by decide⟩ i7 (by decide) ?_
    refine w_istore (lv' := [(4, vi (x2 % 17)), (0, vr g (a0)), (2, vi (x2)), (3, vi (x3))]) dX1_start_23 (by decide) rfl ?_
    refine w_iload_n dX1_start_25 2 rfl ?_
    refine w_bipush dX1_start_26 rfl ?_
    obtain ⟨i8, h⟩ := h
    refine w_idiv dX1_start_28 hx2 ⟨by decide, by decide⟩ i8 (by decide) ?_
    refine w_istore_n (lv' := [(2, vi (x2 / 17)), (4, vi (x2 % 17)), (0, vr g (a0)), (3, vi (x3))]) (i := 2) dX1_start_29 rfl (by decide) rfl ?_
    refine w_aload_n dX1_start_30 2 rfl ?_
    refine w_getS (ci := 1) (k := 1) dX1_start_31 rfl fi1 (by decide) q124 (sDom ha0) rfl (bDom ha0 (Nat.le_add_right _ _)) ?_
    refine w_iload_n dX1_start_34 3 rfl ?_
    refine w_iload dX1_start_35 1 rfl ?_
    refine w_iconst dX1_start_37 ?_
    refine w_isub dX1_start_38 ?_
    obtain ⟨i9, h⟩ := h
    obtain ⟨i10, h⟩ := h
    refine w_iast dX1_start_39 (sDom1 ha0) (bDom1 ha0 (Nat.le_add_right _ _)) (by decide) i9.1 i9.2 i10 ?_
    have hw11 : WT (sI M (a0 + 1) (x3.toNat) ((x2 % 17) - 1)) := hw.sI i10
    refine w_iload dX1_start_40 1 rfl ?_
    obtain ⟨i12, h⟩ := h
    refine w_if_le (tgt := 55) dX1_start_42 (by decide) i12 (fun c13 => ?_) (fun c13 => ?_)
    · replace h := h.1 c13
      refine w_iinc (lv' := [(3, vi (x3 + (-1))), (2, vi (x2 / 17)), (4, vi (x2 % 17)), (0, vr g (a0))]) dX1_start_55 3 rfl (by decide) rfl ?_
      refine w_goto (tgt := 15) dX1_start_58 (by decide) ?_
      refine w_lv [3, 1, 0] rfl ?_
      exact h
    · replace h := h.2 c13
      refine w_aload_n dX1_start_45 2 rfl ?_
      refine w_dup dX1_start_46 rfl ?_
      refine w_getI (ci := 1) (k := 2) dX1_start_47 rfl fi1 (by decide) q127 (sDom ha0) rfl (bDom ha0 (Nat.le_add_right _ _)) ?_
      refine w_top (congrArg vi ((gI_ne _ _ _ _ _ _ (by omega)).trans rfl)) ?_
      have u14 : InR (gI M (a0) (2)) := hw.int _ _
      refine w_iconst dX1_start_50 ?_
      refine w_iadd dX1_start_51 ?_
      obtain ⟨i15, h⟩ := h
      refine w_putI (ci := 1) (k := 2) dX1_start_52 rfl fi1 (by decide) q127 tyX1 tyX1_ok nmX1 rfl rfl rfl i15 (sDom ha0) rfl (bDom ha0 (Nat.le_add_right _ _)) ?_
      have hw16 : WT (sI (sI M (a0 + 1) (x3.toNat) ((x2 % 17) - 1)) (a0) (2) ((gI M (a0) (2)) + 1)) := hw11.sI i15
      refine w_iinc (lv' := [(3, vi (x3 + (-1))), (2, vi (x2 / 17)), (4, vi (x2 % 17)), (0, vr g (a0))]) dX1_start_55 3 rfl (by decide) rfl ?_
      refine w_goto (tgt := 15) dX1_start_58 (by decide) ?_
      refine w_lv [3, 1, 0] rfl ?_
      exact h
set_option maxHeartbeats 4000000 in
set_option maxRecDepth 100000 in
theorem b_Rd_readPolicy_0 {g : Ctx} {n : Nat} {p0 : Nat} {M : Mem} {Q : Int → Mem → Prop} (hp0 : isDom p0) (h : K_Dm_startPolicy g n p0 M (fun M2 => WT M2 → P_Rd_readPolicy g n 6 [(0, vr g (1)), (1, vr g (p0)), (2, vi (0))] [] M2 Q)) : P_Rd_readPolicy g n 0 [(0, vr g (1)), (1, vr g (p0))] [] M Q := by
  refine w_wt (fun hw => ?_)
  refine w_aload_n dX7_readPolicy_0 1 rfl ?_
  refine c_Dm_startPolicy dX7_readPolicy_1 q419 (by decide) (Nat.le_of_ble_eq_true rfl) hp0 h (fun M2 h hwM2 => ?_)
  replace h := h hwM2
  refine w_iconst dX7_readPolicy_4 ?_
  refine w_istore_n (lv' := [(2, vi (0)), (0, vr g (1)), (1, vr g (p0))]) (i := 2) dX7_readPolicy_5 rfl (by decide) rfl ?_
  refine w_lv [1, 2, 0] rfl ?_
  exact h
set_option maxHeartbeats 4000000 in
set_option maxRecDepth 100000 in
theorem b_Rd_readPolicy_6 {g : Ctx} {n : Nat} {a1 : Nat} {x2 : Int} {M : Mem} {Q : Int → Mem → Prop} (ha1 : isDom a1) (hx2 : InR x2) (h : (((8 < x2) → Q 0 M) ∧ ((¬ (8 < x2)) → (((x2 ≤ 0) → K_Dm_addRule g n a1 M (fun r3 M4 => (r3 = 0 ∨ isRul r3) → WT M4 → (((r3 = 0) → Q 0 M4) ∧ ((¬ (r3 = 0)) → K_Rd_readRule g n r3 M4 (fun r6 M7 => (r6 = 0 ∨ r6 = 1) → WT M7 → (((¬ r6 = 0) → K_Rd_take g n 44 M7 (fun r9 M10 => (r9 = 0 ∨ r9 = 1) → WT M10 → (((¬ r9 = 0) → P_Rd_readPolicy g n 6 [(0, vr g (1)), (1, vr g (a1)), (2, vi (x2 + 1))] [] M10 Q) ∧ ((r9 = 0) → Q 1 M10)))) ∧ ((r6 = 0) → Q 0 M7))))))) ∧ ((¬ (x2 ≤ 0)) → K_Rd_take g n 114 M (fun r12 M13 => (r12 = 0 ∨ r12 = 1) → WT M13 → (((r12 = 0) → K_Dm_addRule g n a1 M13 (fun r15 M16 => (r15 = 0 ∨ isRul r15) → WT M16 → (((r15 = 0) → Q 0 M16) ∧ ((¬ (r15 = 0)) → K_Rd_readRule g n r15 M16 (fun r18 M19 => (r18 = 0 ∨ r18 = 1) → WT M19 → (((¬ r18 = 0) → K_Rd_take g n 44 M19 (fun r21 M22 => (r21 = 0 ∨ r21 = 1) → WT M22 → (((¬ r21 = 0) → P_Rd_readPolicy g n 6 [(0, vr g (1)), (1, vr g (a1)), (2, vi (x2 + 1))] [] M22 Q) ∧ ((r21 = 0) → Q 1 M22)))) ∧ ((r18 = 0) → Q 0 M19))))))) ∧ ((¬ (r12 = 0)) → K_Rd_readName g n  M13 (fun r24 M25 => InR r24 → WT M25 → (((r24 = 0) → Q 0 (sI M25 (a1) (6) (r24))) ∧ ((¬ (r24 = 0)) → Q 1 (sI M25 (a1) (6) (r24))))))))))))) : P_Rd_readPolicy g n 6 [(0, vr g (1)), (1, vr g (a1)), (2, vi (x2))] [] M Q := by
  refine w_wt (fun hw => ?_)
  refine w_iload_n dX7_readPolicy_6 2 rfl ?_
  refine w_bipush dX7_readPolicy_7 rfl ?_
  refine w_icmp_gt (tgt := 82) dX7_readPolicy_9 (by decide) hx2 ⟨by decide, by decide⟩ (fun c1 => ?_) (fun c1 => ?_)
  · replace h := h.1 c1
    refine w_iconst dX7_readPolicy_82 ?_
    exact w_zret dX7_readPolicy_83 (Or.inl rfl) ⟨_, rfl, (Or.inl rfl), h⟩
  · replace h := h.2 c1
    refine w_iload_n dX7_readPolicy_12 2 rfl ?_
    refine w_if_le (tgt := 46) dX7_readPolicy_13 (by decide) hx2 (fun c2 => ?_) (fun c2 => ?_)
    · replace h := h.1 c2
      refine w_aload_n dX7_readPolicy_46 1 rfl ?_
      refine c_Dm_addRule dX7_readPolicy_47 q423 (by decide) (Nat.le_of_ble_eq_true rfl) ha1 h (fun r3 M4 h hr3 hwM4 => ?_)
      replace h := h hr3 hwM4
      refine w_astore_nq (lv' := [(3, vq g (r3)), (0, vr g (1)), (1, vr g (a1)), (2, vi (x2))]) (i := 3) dX7_readPolicy_50 rfl (by decide) rfl ?_
      refine w_aload_nq dX7_readPolicy_51 0 rfl ?_
      refine w_ifnull (tgt := 63) dX7_readPolicy_52 (by decide) (fun c5 => ?_) (fun c5 => ?_)
      · replace h := h.1 c5
        refine w_iconst dX7_readPolicy_63 ?_
        exact w_zret dX7_readPolicy_64 (Or.inl rfl) ⟨_, rfl, (Or.inl rfl), h⟩
      · replace h := h.2 c5
        rw [vq_ne c5]
        refine w_aload_n dX7_readPolicy_55 1 rfl ?_
        refine w_aload_n dX7_readPolicy_56 0 rfl ?_
        refine c_Rd_readRule dX7_readPolicy_57 q427 (by decide) (Nat.le_of_ble_eq_true rfl) h (fun r6 M7 h hr6 hwM7 => ?_)
        replace h := h hr6 hwM7
        refine w_if_ne (tgt := 65) dX7_readPolicy_60 (by decide) (inr_z hr6) (fun c8 => ?_) (fun c8 => ?_)
        · replace h := h.1 c8
          refine w_aload_n dX7_readPolicy_65 1 rfl ?_
          refine w_bipush dX7_readPolicy_66 rfl ?_
          refine c_Rd_take dX7_readPolicy_68 q387 (by decide) (Nat.le_of_ble_eq_true rfl) h (fun r9 M10 h hr9 hwM10 => ?_)
          replace h := h hr9 hwM10
          refine w_if_ne (tgt := 76) dX7_readPolicy_71 (by decide) (inr_z hr9) (fun c11 => ?_) (fun c11 => ?_)
          · replace h := h.1 c11
            refine w_iinc (lv' := [(2, vi (x2 + 1)), (3, vr g (r3)), (0, vr g (1)), (1, vr g (a1))]) dX7_readPolicy_76 3 rfl (by decide) rfl ?_
            refine w_goto (tgt := 6) dX7_readPolicy_79 (by decide) ?_
            refine w_lv [2, 3, 0] rfl ?_
            exact h
          · replace h := h.2 c11
            refine w_iconst dX7_readPolicy_74 ?_
            exact w_zret dX7_readPolicy_75 (Or.inr rfl) ⟨_, rfl, (Or.inr rfl), h⟩
        · replace h := h.2 c8
          refine w_iconst dX7_readPolicy_63 ?_
          exact w_zret dX7_readPolicy_64 (Or.inl rfl) ⟨_, rfl, (Or.inl rfl), h⟩
    · replace h := h.2 c2
      refine w_aload_n dX7_readPolicy_16 0 rfl ?_
      refine w_bipush dX7_readPolicy_17 rfl ?_
      refine c_Rd_take dX7_readPolicy_19 q387 (by decide) (Nat.le_of_ble_eq_true rfl) h (fun r12 M13 h hr12 hwM13 => ?_)
      replace h := h hr12 hwM13
      refine w_if_eq (tgt := 46) dX7_readPolicy_22 (by decide) (inr_z hr12) (fun c14 => ?_) (fun c14 => ?_)
      · replace h := h.1 c14
        refine w_aload_n dX7_readPolicy_46 1 rfl ?_
        refine c_Dm_addRule dX7_readPolicy_47 q423 (by decide) (Nat.le_of_ble_eq_true rfl) ha1 h (fun r15 M16 h hr15 hwM16 => ?_)
        replace h := h hr15 hwM16
        refine w_astore_nq (lv' := [(3, vq g (r15)), (0, vr g (1)), (1, vr g (a1)), (2, vi (x2))]) (i := 3) dX7_readPolicy_50 rfl (by decide) rfl ?_
        refine w_aload_nq dX7_readPolicy_51 0 rfl ?_
        refine w_ifnull (tgt := 63) dX7_readPolicy_52 (by decide) (fun c17 => ?_) (fun c17 => ?_)
        · replace h := h.1 c17
          refine w_iconst dX7_readPolicy_63 ?_
          exact w_zret dX7_readPolicy_64 (Or.inl rfl) ⟨_, rfl, (Or.inl rfl), h⟩
        · replace h := h.2 c17
          rw [vq_ne c17]
          refine w_aload_n dX7_readPolicy_55 1 rfl ?_
          refine w_aload_n dX7_readPolicy_56 0 rfl ?_
          refine c_Rd_readRule dX7_readPolicy_57 q427 (by decide) (Nat.le_of_ble_eq_true rfl) h (fun r18 M19 h hr18 hwM19 => ?_)
          replace h := h hr18 hwM19
          refine w_if_ne (tgt := 65) dX7_readPolicy_60 (by decide) (inr_z hr18) (fun c20 => ?_) (fun c20 => ?_)
          · replace h := h.1 c20
            refine w_aload_n dX7_readPolicy_65 1 rfl ?_
            refine w_bipush dX7_readPolicy_66 rfl ?_
            refine c_Rd_take dX7_readPolicy_68 q387 (by decide) (Nat.le_of_ble_eq_true rfl) h (fun r21 M22 h hr21 hwM22 => ?_)
            replace h := h hr21 hwM22
            refine w_if_ne (tgt := 76) dX7_readPolicy_71 (by decide) (inr_z hr21) (fun c23 => ?_) (fun c23 => ?_)
            · replace h := h.1 c23
              refine w_iinc (lv' := [(2, vi (x2 + 1)), (3, vr g (r15)), (0, vr g (1)), (1, vr g (a1))]) dX7_readPolicy_76 3 rfl (by decide) rfl ?_
              refine w_goto (tgt := 6) dX7_readPolicy_79 (by decide) ?_
              refine w_lv [2, 3, 0] rfl ?_
              exact h
            · replace h := h.2 c23
              refine w_iconst dX7_readPolicy_74 ?_
              exact w_zret dX7_readPolicy_75 (Or.inr rfl) ⟨_, rfl, (Or.inr rfl), h⟩
          · replace h := h.2 c20
            refine w_iconst dX7_readPolicy_63 ?_
            exact w_zret dX7_readPolicy_64 (Or.inl rfl) ⟨_, rfl, (Or.inl rfl), h⟩
      · replace h := h.2 c14
        refine w_aload_n dX7_readPolicy_25 1 rfl ?_
        refine w_aload_n dX7_readPolicy_26 0 rfl ?_
        refine c_Rd_readName dX7_readPolicy_27 q367 (by decide) (Nat.le_of_ble_eq_true rfl) h (fun r24 M25 h hr24 hwM25 => ?_)
        replace h := h hr24 hwM25
        refine w_putIN (ci := 1) (k := 6) dX7_readPolicy_30 rfl fi1 (by decide) qn143 tyX1 tyX1_ok nmX1 rfl rfl rfl hr24 (sDom ha1) rfl (bDom ha1 (Nat.le_add_right _ _)) ?_
        have hw26 : WT (sI M25 (a1) (6) (r24)) := hwM25.sI hr24
        refine w_aload_n dX7_readPolicy_33 1 rfl ?_
        refine w_getIN (ci := 1) (k := 6) dX7_readPolicy_34 rfl fi1 (by decide) qn143 (sDom ha1) rfl (bDom ha1 (Nat.le_add_right _ _)) ?_
        refine w_top (congrArg vi (gI_same _ _ _ _)) ?_
        refine w_if_eq (tgt := 44) dX7_readPolicy_37 (by decide) hr24 (fun c27 => ?_) (fun c27 => ?_)
        · replace h := h.1 c27
          refine w_iconst dX7_readPolicy_44 ?_
          exact w_zret dX7_readPolicy_45 (Or.inl rfl) ⟨_, rfl, (Or.inl rfl), h⟩
        · replace h := h.2 c27
          refine w_iconst dX7_readPolicy_40 ?_
          refine w_goto (tgt := 45) dX7_readPolicy_41 (by decide) ?_
          exact w_zret dX7_readPolicy_45 (Or.inr rfl) ⟨_, rfl, (Or.inr rfl), h⟩
set_option maxHeartbeats 4000000 in
set_option maxRecDepth 100000 in
theorem b_Dm_startPolicy_0 {g : Ctx} {n : Nat} {o : Nat} {M : Mem} {Q : Mem → Prop} (ho : isDom o) (h : Q (sI (sI (sI M (o) (3) (1)) (o) (5) (0)) (o) (6) (0))) : P_Dm_startPolicy g n 0 [(0, vr g (o))] [] M Q := by
  refine w_wt (fun hw => ?_)
  refine w_aload_n dX1_startPolicy_0 0 rfl ?_
  refine w_iconst dX1_startPolicy_1 ?_
  refine w_putI (ci := 1) (k := 3) dX1_startPolicy_2 rfl fi1 (by decide) q130 tyX1 tyX1_ok nmX1 rfl (nar_z (Or.inr rfl)) (fit_z (Or.inr rfl)) ⟨by decide, by decide⟩ (sDom ho) rfl (bDom ho (Nat.le_add_right _ _)) ?_
  have hw1 : WT (sI M (o) (3) (1)) := hw.sI ⟨by decide, by decide⟩
  refine w_aload_n dX1_startPolicy_5 0 rfl ?_
  refine w_iconst dX1_startPolicy_6 ?_
  refine w_putI (ci := 1) (k := 5) dX1_startPolicy_7 rfl fi1 (by decide) q137 tyX1 tyX1_ok nmX1 rfl rfl rfl ⟨by decide, by decide⟩ (sDom ho) rfl (bDom ho (Nat.le_add_right _ _)) ?_
  have hw2 : WT (sI (sI M (o) (3) (1)) (o) (5) (0)) := hw1.sI ⟨by decide, by decide⟩
  refine w_aload_n dX1_startPolicy_10 0 rfl ?_
  refine w_iconst dX1_startPolicy_11 ?_
  refine w_putI (ci := 1) (k := 6) dX1_startPolicy_12 rfl fi1 (by decide) q141 tyX1 tyX1_ok nmX1 rfl rfl rfl ⟨by decide, by decide⟩ (sDom ho) rfl (bDom ho (Nat.le_add_right _ _)) ?_
  have hw3 : WT (sI (sI (sI M (o) (3) (1)) (o) (5) (0)) (o) (6) (0)) := hw2.sI ⟨by decide, by decide⟩
  exact w_vret dX1_startPolicy_15 ⟨rfl, h⟩
set_option maxHeartbeats 4000000 in
set_option maxRecDepth 100000 in
theorem b_Dm_addRule_0 {g : Ctx} {n : Nat} {o : Nat} {M : Mem} {Q : Nat → Mem → Prop} (ho : isDom o) (h : ((((gI M (o) (5)) < 8) → (InR ((gI M (o) (5)) + 1)) ∧ (0 ≤ (gI M (o) (5)) ∧ (gI M (o) (5)) < 8) ∧ Q (gP M (o + 2) ((gI M (o) (5)).toNat)) (sI M (o) (5) ((gI M (o) (5)) + 1))) ∧ ((¬ ((gI M (o) (5)) < 8)) → Q 0 M))) : P_Dm_addRule g n 0 [(0, vr g (o))] [] M Q := by
  refine w_wt (fun hw => ?_)
  refine w_aload_n dX1_addRule_0 0 rfl ?_
  refine w_getI (ci := 1) (k := 5) dX1_addRule_1 rfl fi1 (by decide) q137 (sDom ho) rfl (bDom ho (Nat.le_add_right _ _)) ?_
  refine w_bipush dX1_addRule_4 rfl ?_
  refine w_icmp_lt (tgt := 11) dX1_addRule_6 (by decide) (hw.int _ _) ⟨by decide, by decide⟩ (fun c1 => ?_) (fun c1 => ?_)
  · replace h := h.1 c1
    refine w_aload_n dX1_addRule_11 0 rfl ?_
    refine w_dup dX1_addRule_12 rfl ?_
    refine w_getI (ci := 1) (k := 5) dX1_addRule_13 rfl fi1 (by decide) q137 (sDom ho) rfl (bDom ho (Nat.le_add_right _ _)) ?_
    refine w_iconst dX1_addRule_16 ?_
    refine w_iadd dX1_addRule_17 ?_
    obtain ⟨i2, h⟩ := h
    refine w_putI (ci := 1) (k := 5) dX1_addRule_18 rfl fi1 (by decide) q137 tyX1 tyX1_ok nmX1 rfl rfl rfl i2 (sDom ho) rfl (bDom ho (Nat.le_add_right _ _)) ?_
    have hw3 : WT (sI M (o) (5) ((gI M (o) (5)) + 1)) := hw.sI i2
    refine w_aload_n dX1_addRule_21 0 rfl ?_
    refine w_getS (ci := 1) (k := 4) dX1_addRule_22 rfl fi1 (by decide) q134 (sDom ho) rfl (bDom ho (Nat.le_add_right _ _)) ?_
    refine w_aload_n dX1_addRule_25 0 rfl ?_
    refine w_getI (ci := 1) (k := 5) dX1_addRule_26 rfl fi1 (by decide) q137 (sDom ho) rfl (bDom ho (Nat.le_add_right _ _)) ?_
    refine w_top (congrArg vi (gI_same _ _ _ _)) ?_
    refine w_iconst dX1_addRule_29 ?_
    refine w_isub dX1_addRule_30 ?_
    refine w_top (congrArg vi (Int.add_sub_cancel _ _)) ?_
    obtain ⟨i4, h⟩ := h
    have t5 : isRul (gP (sI M (o) (5) ((gI M (o) (5)) + 1)) (o + 2) ((gI M (o) (5)).toNat)) := (hw3.rul ho (by omega))
    refine w_aald (t := 2) dX1_addRule_31 (sDom2 ho) (by decide) rfl (bDom2 ho (Nat.le_add_right _ _)) (by decide) i4.1 i4.2 (nRul t5) ?_
    have t5e : gP (sI M (o) (5) ((gI M (o) (5)) + 1)) (o + 2) ((gI M (o) (5)).toNat) = gP M (o + 2) ((gI M (o) (5)).toNat) := rfl
    rw [t5e] at t5 ⊢
    refine w_top (vq_ne (nRul t5)).symm ?_
    exact w_aret dX1_addRule_32 ⟨_, rfl, (Or.inr t5), h⟩
  · replace h := h.2 c1
    refine w_null dX1_addRule_9 ?_
    exact w_aret dX1_addRule_10 ⟨_, rfl, (Or.inl rfl), h⟩
set_option maxHeartbeats 4000000 in
set_option maxRecDepth 100000 in
theorem b_Rd_readRule_0 {g : Ctx} {n : Nat} {p0 : Nat} {M : Mem} {Q : Int → Mem → Prop} (hp0 : isRul p0) (h : K_Rd_next g n  M (fun r1 M2 => (0 ≤ r1 ∧ r1 < 65536) → WT M2 → K_J_indexOf g n 1 r1 M2 (fun r3 M4 => InR r3 → WT M4 → K_Rd_next g n  M4 (fun r5 M6 => (0 ≤ r5 ∧ r5 < 65536) → WT M6 → K_J_indexOf g n 2 r5 M6 (fun r7 M8 => InR r7 → WT M8 → (((0 ≤ r3) → K_Ru_start g n p0 r3 r7 M8 (fun M11 => WT M11 → (((r7 = 0) → Q 1 M11) ∧ ((¬ (r7 = 0)) → (((r7 = 1) → K_Rd_readPrefix g n p0 M11 (fun r14 M15 => (r14 = 0 ∨ r14 = 1) → WT M15 → Q r14 M15)) ∧ ((¬ (r7 = 1)) → (((r7 = 2) → K_Rd_readName g n  M11 (fun r17 M18 => InR r17 → WT M18 → (((r17 = 0) → Q 0 (sI M18 (p0) (4) (r17))) ∧ ((¬ (r17 = 0)) → Q 1 (sI M18 (p0) (4) (r17)))))) ∧ ((¬ (r7 = 2)) → (((r7 = 3) → K_Rd_readName g n  M11 (fun r22 M23 => InR r22 → WT M23 → (((r22 = 0) → Q 0 (sI M23 (p0) (4) (r22))) ∧ ((¬ (r22 = 0)) → Q 1 (sI M23 (p0) (4) (r22)))))) ∧ ((¬ (r7 = 3)) → (((r7 = 4) → K_Rd_readName g n  M11 (fun r27 M28 => InR r27 → WT M28 → (((r27 = 0) → Q 0 (sI M28 (p0) (4) (r27))) ∧ ((¬ (r27 = 0)) → Q 1 (sI M28 (p0) (4) (r27)))))) ∧ ((¬ (r7 = 4)) → (((r7 = 5) → K_Rd_readMacro g n p0 M11 (fun r32 M33 => (r32 = 0 ∨ r32 = 1) → WT M33 → Q r32 M33)) ∧ ((¬ (r7 = 5)) → Q 0 M11)))))))))))))) ∧ ((¬ (0 ≤ r3)) → Q 0 M8))))))) : P_Rd_readRule g n 0 [(0, vr g (1)), (1, vr g (p0))] [] M Q := by
  refine w_wt (fun hw => ?_)
  refine w_ldcS_Rd98 dX7_readRule_0 ?_
  refine w_aload_n dX7_readRule_2 0 rfl ?_
  refine c_Rd_next dX7_readRule_3 q363 (by decide) (Nat.le_of_ble_eq_true rfl) h (fun r1 M2 h hr1 hwM2 => ?_)
  replace h := h hr1 hwM2
  refine c_J_indexOf dX7_readRule_6 q432 (by decide) (Nat.le_of_ble_eq_true rfl) (by decide) h (fun r3 M4 h hr3 hwM4 => ?_)
  replace h := h hr3 hwM4
  refine w_istore_n (lv' := [(2, vi (r3)), (0, vr g (1)), (1, vr g (p0))]) (i := 2) dX7_readRule_9 rfl (by decide) rfl ?_
  refine w_ldcS_Rd105 dX7_readRule_10 ?_
  refine w_aload_n dX7_readRule_12 1 rfl ?_
  refine c_Rd_next dX7_readRule_13 q363 (by decide) (Nat.le_of_ble_eq_true rfl) h (fun r5 M6 h hr5 hwM6 => ?_)
  replace h := h hr5 hwM6
  refine c_J_indexOf dX7_readRule_16 q432 (by decide) (Nat.le_of_ble_eq_true rfl) (by decide) h (fun r7 M8 h hr7 hwM8 => ?_)
  replace h := h hr7 hwM8
  refine w_istore_n (lv' := [(3, vi (r7)), (2, vi (r3)), (0, vr g (1)), (1, vr g (p0))]) (i := 3) dX7_readRule_19 rfl (by decide) rfl ?_
  refine w_iload_n dX7_readRule_20 1 rfl ?_
  refine w_if_ge (tgt := 26) dX7_readRule_21 (by decide) hr3 (fun c9 => ?_) (fun c9 => ?_)
  · replace h := h.1 c9
    refine w_aload_n dX7_readRule_26 3 rfl ?_
    refine w_iload_n dX7_readRule_27 1 rfl ?_
    refine w_iload_n dX7_readRule_28 0 rfl ?_
    refine c_Ru_start dX7_readRule_29 q492 (by decide) (Nat.le_of_ble_eq_true rfl) hp0 h (fun M11 h hwM11 => ?_)
    replace h := h hwM11
    refine w_iload_n dX7_readRule_32 0 rfl ?_
    by_cases c12 : r7 = 0
    · replace h := h.1 c12
      refine w_tabIn (tgt := 72) dX7_readRule_33 c12 ⟨by decide, by decide⟩ (by decide) (by decide) rfl (by decide) ?_
      refine w_iconst dX7_readRule_72 ?_
      exact w_zret dX7_readRule_73 (Or.inr rfl) ⟨_, rfl, (Or.inr rfl), h⟩
    replace h := h.2 c12
    by_cases c13 : r7 = 1
    · replace h := h.1 c13
      refine w_tabIn (tgt := 74) dX7_readRule_33 c13 ⟨by decide, by decide⟩ (by decide) (by decide) rfl (by decide) ?_
      refine w_aload_n dX7_readRule_74 2 rfl ?_
      refine w_aload_n dX7_readRule_75 3 rfl ?_
      refine c_Rd_readPrefix dX7_readRule_76 q496 (by decide) (Nat.le_of_ble_eq_true rfl) h (fun r14 M15 h hr14 hwM15 => ?_)
      replace h := h hr14 hwM15
      exact w_zret dX7_readRule_79 hr14 ⟨_, rfl, hr14, h⟩
    replace h := h.2 c13
    by_cases c16 : r7 = 2
    · replace h := h.1 c16
      refine w_tabIn (tgt := 80) dX7_readRule_33 c16 ⟨by decide, by decide⟩ (by decide) (by decide) rfl (by decide) ?_
      refine w_aload_n dX7_readRule_80 3 rfl ?_
      refine w_aload_n dX7_readRule_81 2 rfl ?_
      refine c_Rd_readName dX7_readRule_82 q367 (by decide) (Nat.le_of_ble_eq_true rfl) h (fun r17 M18 h hr17 hwM18 => ?_)
      replace h := h hr17 hwM18
      refine w_putIN (ci := 9) (k := 4) dX7_readRule_85 rfl fi9 (by decide) qn98 tyX9 tyX9_ok nmX9 rfl rfl rfl hr17 (sRul hp0) rfl (bRul hp0 (Nat.le_add_right _ _)) ?_
      have hw19 : WT (sI M18 (p0) (4) (r17)) := hwM18.sI hr17
      refine w_aload_n dX7_readRule_88 3 rfl ?_
      refine w_getIN (ci := 9) (k := 4) dX7_readRule_89 rfl fi9 (by decide) qn98 (sRul hp0) rfl (bRul hp0 (Nat.le_add_right _ _)) ?_
      refine w_top (congrArg vi (gI_same _ _ _ _)) ?_
      refine w_if_eq (tgt := 99) dX7_readRule_92 (by decide) hr17 (fun c20 => ?_) (fun c20 => ?_)
      · replace h := h.1 c20
        refine w_iconst dX7_readRule_99 ?_
        exact w_zret dX7_readRule_100 (Or.inl rfl) ⟨_, rfl, (Or.inl rfl), h⟩
      · replace h := h.2 c20
        refine w_iconst dX7_readRule_95 ?_
        refine w_goto (tgt := 100) dX7_readRule_96 (by decide) ?_
        exact w_zret dX7_readRule_100 (Or.inr rfl) ⟨_, rfl, (Or.inr rfl), h⟩
    replace h := h.2 c16
    by_cases c21 : r7 = 3
    · replace h := h.1 c21
      refine w_tabIn (tgt := 80) dX7_readRule_33 c21 ⟨by decide, by decide⟩ (by decide) (by decide) rfl (by decide) ?_
      refine w_aload_n dX7_readRule_80 3 rfl ?_
      refine w_aload_n dX7_readRule_81 2 rfl ?_
      refine c_Rd_readName dX7_readRule_82 q367 (by decide) (Nat.le_of_ble_eq_true rfl) h (fun r22 M23 h hr22 hwM23 => ?_)
      replace h := h hr22 hwM23
      refine w_putIN (ci := 9) (k := 4) dX7_readRule_85 rfl fi9 (by decide) qn98 tyX9 tyX9_ok nmX9 rfl rfl rfl hr22 (sRul hp0) rfl (bRul hp0 (Nat.le_add_right _ _)) ?_
      have hw24 : WT (sI M23 (p0) (4) (r22)) := hwM23.sI hr22
      refine w_aload_n dX7_readRule_88 3 rfl ?_
      refine w_getIN (ci := 9) (k := 4) dX7_readRule_89 rfl fi9 (by decide) qn98 (sRul hp0) rfl (bRul hp0 (Nat.le_add_right _ _)) ?_
      refine w_top (congrArg vi (gI_same _ _ _ _)) ?_
      refine w_if_eq (tgt := 99) dX7_readRule_92 (by decide) hr22 (fun c25 => ?_) (fun c25 => ?_)
      · replace h := h.1 c25
        refine w_iconst dX7_readRule_99 ?_
        exact w_zret dX7_readRule_100 (Or.inl rfl) ⟨_, rfl, (Or.inl rfl), h⟩
      · replace h := h.2 c25
        refine w_iconst dX7_readRule_95 ?_
        refine w_goto (tgt := 100) dX7_readRule_96 (by decide) ?_
        exact w_zret dX7_readRule_100 (Or.inr rfl) ⟨_, rfl, (Or.inr rfl), h⟩
    replace h := h.2 c21
    by_cases c26 : r7 = 4
    · replace h := h.1 c26
      refine w_tabIn (tgt := 80) dX7_readRule_33 c26 ⟨by decide, by decide⟩ (by decide) (by decide) rfl (by decide) ?_
      refine w_aload_n dX7_readRule_80 3 rfl ?_
      refine w_aload_n dX7_readRule_81 2 rfl ?_
      refine c_Rd_readName dX7_readRule_82 q367 (by decide) (Nat.le_of_ble_eq_true rfl) h (fun r27 M28 h hr27 hwM28 => ?_)
      replace h := h hr27 hwM28
      refine w_putIN (ci := 9) (k := 4) dX7_readRule_85 rfl fi9 (by decide) qn98 tyX9 tyX9_ok nmX9 rfl rfl rfl hr27 (sRul hp0) rfl (bRul hp0 (Nat.le_add_right _ _)) ?_
      have hw29 : WT (sI M28 (p0) (4) (r27)) := hwM28.sI hr27
      refine w_aload_n dX7_readRule_88 3 rfl ?_
      refine w_getIN (ci := 9) (k := 4) dX7_readRule_89 rfl fi9 (by decide) qn98 (sRul hp0) rfl (bRul hp0 (Nat.le_add_right _ _)) ?_
      refine w_top (congrArg vi (gI_same _ _ _ _)) ?_
      refine w_if_eq (tgt := 99) dX7_readRule_92 (by decide) hr27 (fun c30 => ?_) (fun c30 => ?_)
      · replace h := h.1 c30
        refine w_iconst dX7_readRule_99 ?_
        exact w_zret dX7_readRule_100 (Or.inl rfl) ⟨_, rfl, (Or.inl rfl), h⟩
      · replace h := h.2 c30
        refine w_iconst dX7_readRule_95 ?_
        refine w_goto (tgt := 100) dX7_readRule_96 (by decide) ?_
        exact w_zret dX7_readRule_100 (Or.inr rfl) ⟨_, rfl, (Or.inr rfl), h⟩
    replace h := h.2 c26
    by_cases c31 : r7 = 5
    · replace h := h.1 c31
      refine w_tabIn (tgt := 101) dX7_readRule_33 c31 ⟨by decide, by decide⟩ (by decide) (by decide) rfl (by decide) ?_
      refine w_aload_n dX7_readRule_101 2 rfl ?_
      refine w_aload_n dX7_readRule_102 3 rfl ?_
      refine c_Rd_readMacro dX7_readRule_103 q504 (by decide) (Nat.le_of_ble_eq_true rfl) h (fun r32 M33 h hr32 hwM33 => ?_)
      replace h := h hr32 hwM33
      exact w_zret dX7_readRule_106 hr32 ⟨_, rfl, hr32, h⟩
    replace h := h.2 c31
    refine w_tabOut (tgt := 107) dX7_readRule_33 hr7 (by omega) (by decide) ?_
    refine w_iconst dX7_readRule_107 ?_
    exact w_zret dX7_readRule_108 (Or.inl rfl) ⟨_, rfl, (Or.inl rfl), h⟩
  · replace h := h.2 c9
    refine w_iconst dX7_readRule_24 ?_
    exact w_zret dX7_readRule_25 (Or.inl rfl) ⟨_, rfl, (Or.inl rfl), h⟩
set_option maxHeartbeats 4000000 in
set_option maxRecDepth 100000 in
theorem b_Ru_start_0 {g : Ctx} {n : Nat} {o : Nat} {p0 : Int} {p1 : Int} {M : Mem} {Q : Mem → Prop} (ho : isRul o) (hp0 : InR p0) (hp1 : InR p1) (h : Q (sI (sI (sI (sI (sI (sI M (o) (0) (p0)) (o) (1) (p1)) (o) (2) (0)) (o) (3) (0)) (o) (4) (0)) (o) (6) (0))) : P_Ru_start g n 0 [(0, vr g (o)), (1, vi (p0)), (2, vi (p1))] [] M Q := by
  refine w_wt (fun hw => ?_)
  refine w_aload_n dX9_start_0 0 rfl ?_
  refine w_iload_n dX9_start_1 1 rfl ?_
  refine w_putI (ci := 9) (k := 0) dX9_start_2 rfl fi9 (by decide) q82 tyX9 tyX9_ok nmX9 rfl rfl rfl hp0 (sRul ho) rfl (bRul ho (Nat.le_add_right _ _)) ?_
  have hw1 : WT (sI M (o) (0) (p0)) := hw.sI hp0
  refine w_aload_n dX9_start_5 0 rfl ?_
  refine w_iload_n dX9_start_6 2 rfl ?_
  refine w_putI (ci := 9) (k := 1) dX9_start_7 rfl fi9 (by decide) q85 tyX9 tyX9_ok nmX9 rfl rfl rfl hp1 (sRul ho) rfl (bRul ho (Nat.le_add_right _ _)) ?_
  have hw2 : WT (sI (sI M (o) (0) (p0)) (o) (1) (p1)) := hw1.sI hp1
  refine w_aload_n dX9_start_10 0 rfl ?_
  refine w_iconst dX9_start_11 ?_
  refine w_putI (ci := 9) (k := 2) dX9_start_12 rfl fi9 (by decide) q89 tyX9 tyX9_ok nmX9 rfl rfl rfl ⟨by decide, by decide⟩ (sRul ho) rfl (bRul ho (Nat.le_add_right _ _)) ?_
  have hw3 : WT (sI (sI (sI M (o) (0) (p0)) (o) (1) (p1)) (o) (2) (0)) := hw2.sI ⟨by decide, by decide⟩
  refine w_aload_n dX9_start_15 0 rfl ?_
  refine w_iconst dX9_start_16 ?_
  refine w_putI (ci := 9) (k := 3) dX9_start_17 rfl fi9 (by decide) q92 tyX9 tyX9_ok nmX9 rfl rfl rfl ⟨by decide, by decide⟩ (sRul ho) rfl (bRul ho (Nat.le_add_right _ _)) ?_
  have hw4 : WT (sI (sI (sI (sI M (o) (0) (p0)) (o) (1) (p1)) (o) (2) (0)) (o) (3) (0)) := hw3.sI ⟨by decide, by decide⟩
  refine w_aload_n dX9_start_20 0 rfl ?_
  refine w_iconst dX9_start_21 ?_
  refine w_putI (ci := 9) (k := 4) dX9_start_22 rfl fi9 (by decide) q95 tyX9 tyX9_ok nmX9 rfl rfl rfl ⟨by decide, by decide⟩ (sRul ho) rfl (bRul ho (Nat.le_add_right _ _)) ?_
  have hw5 : WT (sI (sI (sI (sI (sI M (o) (0) (p0)) (o) (1) (p1)) (o) (2) (0)) (o) (3) (0)) (o) (4) (0)) := hw4.sI ⟨by decide, by decide⟩
  refine w_aload_n dX9_start_25 0 rfl ?_
  refine w_iconst dX9_start_26 ?_
  refine w_putI (ci := 9) (k := 6) dX9_start_27 rfl fi9 (by decide) q103 tyX9 tyX9_ok nmX9 rfl rfl rfl ⟨by decide, by decide⟩ (sRul ho) rfl (bRul ho (Nat.le_add_right _ _)) ?_
  have hw6 : WT (sI (sI (sI (sI (sI (sI M (o) (0) (p0)) (o) (1) (p1)) (o) (2) (0)) (o) (3) (0)) (o) (4) (0)) (o) (6) (0)) := hw5.sI ⟨by decide, by decide⟩
  exact w_vret dX9_start_30 ⟨rfl, h⟩
set_option maxHeartbeats 4000000 in
set_option maxRecDepth 100000 in
theorem b_Rd_readPrefix_0 {g : Ctx} {n : Nat} {p0 : Nat} {M : Mem} {Q : Int → Mem → Prop} (hp0 : isRul p0) (h : K_Rd_readNumber g n 255 M (fun r1 M2 => InR r1 → WT M2 → (((r1 < 0) → Q 0 (sI M2 (p0) (2) (r1))) ∧ ((¬ (r1 < 0)) → K_Rd_take g n 47 (sI M2 (p0) (2) (r1)) (fun r5 M6 => (r5 = 0 ∨ r5 = 1) → WT M6 → (((¬ r5 = 0) → K_Rd_readNumber g n 8 M6 (fun r8 M9 => InR r8 → WT M9 → (((r8 < 0) → Q 0 (sI M9 (p0) (3) (r8))) ∧ ((¬ (r8 < 0)) → Q 1 (sI M9 (p0) (3) (r8)))))) ∧ ((r5 = 0) → Q 0 M6))))))) : P_Rd_readPrefix g n 0 [(0, vr g (1)), (1, vr g (p0))] [] M Q := by
  refine w_wt (fun hw => ?_)
  refine w_aload_n dX7_readPrefix_0 1 rfl ?_
  refine w_aload_n dX7_readPrefix_1 0 rfl ?_
  refine w_sipush dX7_readPrefix_2 rfl ?_
  refine c_Rd_readNumber dX7_readPrefix_5 q500 (by decide) (Nat.le_of_ble_eq_true rfl) h (fun r1 M2 h hr1 hwM2 => ?_)
  replace h := h hr1 hwM2
  refine w_putIN (ci := 9) (k := 2) dX7_readPrefix_8 rfl fi9 (by decide) qn90 tyX9 tyX9_ok nmX9 rfl rfl rfl hr1 (sRul hp0) rfl (bRul hp0 (Nat.le_add_right _ _)) ?_
  have hw3 : WT (sI M2 (p0) (2) (r1)) := hwM2.sI hr1
  refine w_aload_n dX7_readPrefix_11 1 rfl ?_
  refine w_getIN (ci := 9) (k := 2) dX7_readPrefix_12 rfl fi9 (by decide) qn90 (sRul hp0) rfl (bRul hp0 (Nat.le_add_right _ _)) ?_
  refine w_top (congrArg vi (gI_same _ _ _ _)) ?_
  refine w_if_lt (tgt := 27) dX7_readPrefix_15 (by decide) hr1 (fun c4 => ?_) (fun c4 => ?_)
  · replace h := h.1 c4
    refine w_iconst dX7_readPrefix_27 ?_
    exact w_zret dX7_readPrefix_28 (Or.inl rfl) ⟨_, rfl, (Or.inl rfl), h⟩
  · replace h := h.2 c4
    refine w_aload_n dX7_readPrefix_18 0 rfl ?_
    refine w_bipush dX7_readPrefix_19 rfl ?_
    refine c_Rd_take dX7_readPrefix_21 q387 (by decide) (Nat.le_of_ble_eq_true rfl) h (fun r5 M6 h hr5 hwM6 => ?_)
    replace h := h hr5 hwM6
    refine w_if_ne (tgt := 29) dX7_readPrefix_24 (by decide) (inr_z hr5) (fun c7 => ?_) (fun c7 => ?_)
    · replace h := h.1 c7
      refine w_aload_n dX7_readPrefix_29 1 rfl ?_
      refine w_aload_n dX7_readPrefix_30 0 rfl ?_
      refine w_bipush dX7_readPrefix_31 rfl ?_
      refine c_Rd_readNumber dX7_readPrefix_33 q500 (by decide) (Nat.le_of_ble_eq_true rfl) h (fun r8 M9 h hr8 hwM9 => ?_)
      replace h := h hr8 hwM9
      refine w_putIN (ci := 9) (k := 3) dX7_readPrefix_36 rfl fi9 (by decide) qn93 tyX9 tyX9_ok nmX9 rfl rfl rfl hr8 (sRul hp0) rfl (bRul hp0 (Nat.le_add_right _ _)) ?_
      have hw10 : WT (sI M9 (p0) (3) (r8)) := hwM9.sI hr8
      refine w_aload_n dX7_readPrefix_39 1 rfl ?_
      refine w_getIN (ci := 9) (k := 3) dX7_readPrefix_40 rfl fi9 (by decide) qn93 (sRul hp0) rfl (bRul hp0 (Nat.le_add_right _ _)) ?_
      refine w_top (congrArg vi (gI_same _ _ _ _)) ?_
      refine w_if_lt (tgt := 50) dX7_readPrefix_43 (by decide) hr8 (fun c11 => ?_) (fun c11 => ?_)
      · replace h := h.1 c11
        refine w_iconst dX7_readPrefix_50 ?_
        exact w_zret dX7_readPrefix_51 (Or.inl rfl) ⟨_, rfl, (Or.inl rfl), h⟩
      · replace h := h.2 c11
        refine w_iconst dX7_readPrefix_46 ?_
        refine w_goto (tgt := 51) dX7_readPrefix_47 (by decide) ?_
        exact w_zret dX7_readPrefix_51 (Or.inr rfl) ⟨_, rfl, (Or.inr rfl), h⟩
    · replace h := h.2 c7
      refine w_iconst dX7_readPrefix_27 ?_
      exact w_zret dX7_readPrefix_28 (Or.inl rfl) ⟨_, rfl, (Or.inl rfl), h⟩
set_option maxHeartbeats 4000000 in
set_option maxRecDepth 100000 in
theorem b_Rd_readNumber_0 {g : Ctx} {n : Nat} {p0 : Int} {M : Mem} {Q : Int → Mem → Prop} (hp0 : InR p0) (h : P_Rd_readNumber g n 4 [(0, vr g (1)), (1, vi (p0)), (2, vi (0)), (3, vi (0))] [] M Q) : P_Rd_readNumber g n 0 [(0, vr g (1)), (1, vi (p0))] [] M Q := by
  refine w_wt (fun hw => ?_)
  refine w_iconst dX7_readNumber_0 ?_
  refine w_istore_n (lv' := [(2, vi (0)), (0, vr g (1)), (1, vi (p0))]) (i := 2) dX7_readNumber_1 rfl (by decide) rfl ?_
  refine w_iconst dX7_readNumber_2 ?_
  refine w_istore_n (lv' := [(3, vi (0)), (2, vi (0)), (0, vr g (1)), (1, vi (p0))]) (i := 3) dX7_readNumber_3 rfl (by decide) rfl ?_
  refine w_lv [2, 3, 1, 0] rfl ?_
  exact h
set_option maxHeartbeats 4000000 in
set_option maxRecDepth 100000 in
theorem b_Rd_readNumber_4 {g : Ctx} {n : Nat} {x1 : Int} {x2 : Int} {x3 : Int} {M : Mem} {Q : Int → Mem → Prop} (hx1 : InR x1) (hx2 : InR x2) (hx3 : InR x3) (h : (((3 ≤ x3) → (((x3 = 0) → Q (-1) M) ∧ ((¬ (x3 = 0)) → (((x2 ≤ x1) → Q x2 M) ∧ ((¬ (x2 ≤ x1)) → Q (-1) M))))) ∧ ((¬ (3 ≤ x3)) → K_Rd_peek g n  M (fun r4 M5 => (0 ≤ r4 ∧ r4 < 65536) → WT M5 → (((r4 < 48) → (((x3 = 0) → Q (-1) M5) ∧ ((¬ (x3 = 0)) → (((x2 ≤ x1) → Q x2 M5) ∧ ((¬ (x2 ≤ x1)) → Q (-1) M5))))) ∧ ((¬ (r4 < 48)) → K_Rd_peek g n  M5 (fun r9 M10 => (0 ≤ r9 ∧ r9 < 65536) → WT M10 → (((57 < r9) → (((x3 = 0) → Q (-1) M10) ∧ ((¬ (x3 = 0)) → (((x2 ≤ x1) → Q x2 M10) ∧ ((¬ (x2 ≤ x1)) → Q (-1) M10))))) ∧ ((¬ (57 < r9)) → K_Rd_next g n  M10 (fun r14 M15 => (0 ≤ r14 ∧ r14 < 65536) → WT M15 → P_Rd_readNumber g n 4 [(0, vr g (1)), (1, vi (x1)), (2, vi (((x2 * 10) + r14) - 48)), (3, vi (x3 + 1))] [] M15 Q)))))))))) : P_Rd_readNumber g n 4 [(0, vr g (1)), (1, vi (x1)), (2, vi (x2)), (3, vi (x3))] [] M Q := by
  refine w_wt (fun hw => ?_)
  refine w_iload_n dX7_readNumber_4 3 rfl ?_
  refine w_iconst dX7_readNumber_5 ?_
  refine w_icmp_ge (tgt := 46) dX7_readNumber_6 (by decide) hx3 ⟨by decide, by decide⟩ (fun c1 => ?_) (fun c1 => ?_)
  · replace h := h.1 c1
    refine w_iload_n dX7_readNumber_46 3 rfl ?_
    refine w_if_eq (tgt := 55) dX7_readNumber_47 (by decide) hx3 (fun c2 => ?_) (fun c2 => ?_)
    · replace h := h.1 c2
      refine w_iconst dX7_readNumber_55 ?_
      refine w_goto (tgt := 60) dX7_readNumber_56 (by decide) ?_
      exact w_iret dX7_readNumber_60 ⟨_, rfl, ⟨by decide, by decide⟩, h⟩
    · replace h := h.2 c2
      refine w_iload_n dX7_readNumber_50 2 rfl ?_
      refine w_iload_n dX7_readNumber_51 1 rfl ?_
      refine w_icmp_le (tgt := 59) dX7_readNumber_52 (by decide) hx2 hx1 (fun c3 => ?_) (fun c3 => ?_)
      · replace h := h.1 c3
        refine w_iload_n dX7_readNumber_59 2 rfl ?_
        exact w_iret dX7_readNumber_60 ⟨_, rfl, hx2, h⟩
      · replace h := h.2 c3
        refine w_iconst dX7_readNumber_55 ?_
        refine w_goto (tgt := 60) dX7_readNumber_56 (by decide) ?_
        exact w_iret dX7_readNumber_60 ⟨_, rfl, ⟨by decide, by decide⟩, h⟩
  · replace h := h.2 c1
    refine w_aload_n dX7_readNumber_9 0 rfl ?_
    refine c_Rd_peek dX7_readNumber_10 q371 (by decide) (Nat.le_of_ble_eq_true rfl) h (fun r4 M5 h hr4 hwM5 => ?_)
    replace h := h hr4 hwM5
    refine w_bipush dX7_readNumber_13 rfl ?_
    refine w_icmp_lt (tgt := 46) dX7_readNumber_15 (by decide) (inr_c hr4) ⟨by decide, by decide⟩ (fun c6 => ?_) (fun c6 => ?_)
    · replace h := h.1 c6
      refine w_iload_n dX7_readNumber_46 3 rfl ?_
      refine w_if_eq (tgt := 55) dX7_readNumber_47 (by decide) hx3 (fun c7 => ?_) (fun c7 => ?_)
      · replace h := h.1 c7
        refine w_iconst dX7_readNumber_55 ?_
        refine w_goto (tgt := 60) dX7_readNumber_56 (by decide) ?_
        exact w_iret dX7_readNumber_60 ⟨_, rfl, ⟨by decide, by decide⟩, h⟩
      · replace h := h.2 c7
        refine w_iload_n dX7_readNumber_50 2 rfl ?_
        refine w_iload_n dX7_readNumber_51 1 rfl ?_
        refine w_icmp_le (tgt := 59) dX7_readNumber_52 (by decide) hx2 hx1 (fun c8 => ?_) (fun c8 => ?_)
        · replace h := h.1 c8
          refine w_iload_n dX7_readNumber_59 2 rfl ?_
          exact w_iret dX7_readNumber_60 ⟨_, rfl, hx2, h⟩
        · replace h := h.2 c8
          refine w_iconst dX7_readNumber_55 ?_
          refine w_goto (tgt := 60) dX7_readNumber_56 (by decide) ?_
          exact w_iret dX7_readNumber_60 ⟨_, rfl, ⟨by decide, by decide⟩, h⟩
    · replace h := h.2 c6
      refine w_aload_n dX7_readNumber_18 0 rfl ?_
      refine c_Rd_peek dX7_readNumber_19 q371 (by decide) (Nat.le_of_ble_eq_true rfl) h (fun r9 M10 h hr9 hwM10 => ?_)
      replace h := h hr9 hwM10
      refine w_bipush dX7_readNumber_22 rfl ?_
      refine w_icmp_gt (tgt := 46) dX7_readNumber_24 (by decide) (inr_c hr9) ⟨by decide, by decide⟩ (fun c11 => ?_) (fun c11 => ?_)
      · replace h := h.1 c11
        refine w_iload_n dX7_readNumber_46 3 rfl ?_
        refine w_if_eq (tgt := 55) dX7_readNumber_47 (by decide) hx3 (fun c12 => ?_) (fun c12 => ?_)
        · replace h := h.1 c12
          refine w_iconst dX7_readNumber_55 ?_
          refine w_goto (tgt := 60) dX7_readNumber_56 (by decide) ?_
          exact w_iret dX7_readNumber_60 ⟨_, rfl, ⟨by decide, by decide⟩, h⟩
        · replace h := h.2 c12
          refine w_iload_n dX7_readNumber_50 2 rfl ?_
          refine w_iload_n dX7_readNumber_51 1 rfl ?_
          refine w_icmp_le (tgt := 59) dX7_readNumber_52 (by decide) hx2 hx1 (fun c13 => ?_) (fun c13 => ?_)
          · replace h := h.1 c13
            refine w_iload_n dX7_readNumber_59 2 rfl ?_
            exact w_iret dX7_readNumber_60 ⟨_, rfl, hx2, h⟩
          · replace h := h.2 c13
            refine w_iconst dX7_readNumber_55 ?_
            refine w_goto (tgt := 60) dX7_readNumber_56 (by decide) ?_
            exact w_iret dX7_readNumber_60 ⟨_, rfl, ⟨by decide, by decide⟩, h⟩
      · replace h := h.2 c11
        refine w_iload_n dX7_readNumber_27 2 rfl ?_
        refine w_bipush dX7_readNumber_28 rfl ?_
        refine w_imul dX7_readNumber_30 ?_
        refine w_aload_n dX7_readNumber_31 0 rfl ?_
        refine c_Rd_next dX7_readNumber_32 q363 (by decide) (Nat.le_of_ble_eq_true rfl) h (fun r14 M15 h hr14 hwM15 => ?_)
        replace h := h hr14 hwM15
        refine w_iadd dX7_readNumber_35 ?_
        refine w_bipush dX7_readNumber_36 rfl ?_
        refine w_isub dX7_readNumber_38 ?_
        refine w_istore_n (lv' := [(2, vi (((x2 * 10) + r14) - 48)), (0, vr g (1)), (1, vi (x1)), (3, vi (x3))]) (i := 2) dX7_readNumber_39 rfl (by decide) rfl ?_
        refine w_iinc (lv' := [(3, vi (x3 + 1)), (2, vi (((x2 * 10) + r14) - 48)), (0, vr g (1)), (1, vi (x1))]) dX7_readNumber_40 3 rfl (by decide) rfl ?_
        refine w_goto (tgt := 4) dX7_readNumber_43 (by decide) ?_
        refine w_lv [2, 3, 1, 0] rfl ?_
        exact h
set_option maxHeartbeats 4000000 in
set_option maxRecDepth 100000 in
theorem b_Rd_readMacro_0 {g : Ctx} {n : Nat} {p0 : Nat} {M : Mem} {Q : Int → Mem → Prop} (hp0 : isRul p0) (h : P_Rd_readMacro g n 2 [(0, vr g (1)), (1, vr g (p0)), (2, vi (0))] [] M Q) : P_Rd_readMacro g n 0 [(0, vr g (1)), (1, vr g (p0))] [] M Q := by
  refine w_wt (fun hw => ?_)
  refine w_iconst dX7_readMacro_0 ?_
  refine w_istore_n (lv' := [(2, vi (0)), (0, vr g (1)), (1, vr g (p0))]) (i := 2) dX7_readMacro_1 rfl (by decide) rfl ?_
  refine w_lv [1, 2, 0] rfl ?_
  exact h
set_option maxHeartbeats 4000000 in
set_option maxRecDepth 100000 in
theorem b_Rd_readMacro_2 {g : Ctx} {n : Nat} {a1 : Nat} {x2 : Int} {M : Mem} {Q : Int → Mem → Prop} (ha1 : isRul a1) (hx2 : InR x2) (h : (((8 ≤ x2) → ((((gI M (a1) (6)) ≤ 0) → Q 0 M) ∧ ((¬ ((gI M (a1) (6)) ≤ 0)) → Q 1 M))) ∧ ((¬ (8 ≤ x2)) → K_Rd_peek g n  M (fun r3 M4 => (0 ≤ r3 ∧ r3 < 65536) → WT M4 → (((r3 = 37) → K_Rd_readPart g n  M4 (fun r6 M7 => InR r6 → WT M7 → (((0 ≤ r6) → (0 ≤ x2 ∧ x2 < 8) ∧ (InR (x2 + 1)) ∧ P_Rd_readMacro g n 2 [(0, vr g (1)), (1, vr g (a1)), (2, vi (x2 + 1))] [] (sI (sI M7 (a1 + 1) (x2.toNat) (r6)) (a1) (6) (x2 + 1)) Q) ∧ ((¬ (0 ≤ r6)) → Q 0 M7)))) ∧ ((¬ (r3 = 37)) → (((r3 < 97) → ((((gI M4 (a1) (6)) ≤ 0) → Q 0 M4) ∧ ((¬ ((gI M4 (a1) (6)) ≤ 0)) → Q 1 M4))) ∧ ((¬ (r3 < 97)) → (((r3 ≤ 112) → K_Rd_readPart g n  M4 (fun r16 M17 => InR r16 → WT M17 → (((0 ≤ r16) → (0 ≤ x2 ∧ x2 < 8) ∧ (InR (x2 + 1)) ∧ P_Rd_readMacro g n 2 [(0, vr g (1)), (1, vr g (a1)), (2, vi (x2 + 1))] [] (sI (sI M17 (a1 + 1) (x2.toNat) (r16)) (a1) (6) (x2 + 1)) Q) ∧ ((¬ (0 ≤ r16)) → Q 0 M17)))) ∧ ((¬ (r3 ≤ 112)) → ((((gI M4 (a1) (6)) ≤ 0) → Q 0 M4) ∧ ((¬ ((gI M4 (a1) (6)) ≤ 0)) → Q 1 M4)))))))))))) : P_Rd_readMacro g n 2 [(0, vr g (1)), (1, vr g (a1)), (2, vi (x2))] [] M Q := by
  refine w_wt (fun hw => ?_)
  refine w_iload_n dX7_readMacro_2 2 rfl ?_
  refine w_bipush dX7_readMacro_3 rfl ?_
  refine w_icmp_ge (tgt := 68) dX7_readMacro_5 (by decide) hx2 ⟨by decide, by decide⟩ (fun c1 => ?_) (fun c1 => ?_)
  · replace h := h.1 c1
    refine w_aload_n dX7_readMacro_68 1 rfl ?_
    refine w_getIN (ci := 9) (k := 6) dX7_readMacro_69 rfl fi9 (by decide) qn105 (sRul ha1) rfl (bRul ha1 (Nat.le_add_right _ _)) ?_
    refine w_if_le (tgt := 79) dX7_readMacro_72 (by decide) (hw.int _ _) (fun c2 => ?_) (fun c2 => ?_)
    · replace h := h.1 c2
      refine w_iconst dX7_readMacro_79 ?_
      exact w_zret dX7_readMacro_80 (Or.inl rfl) ⟨_, rfl, (Or.inl rfl), h⟩
    · replace h := h.2 c2
      refine w_iconst dX7_readMacro_75 ?_
      refine w_goto (tgt := 80) dX7_readMacro_76 (by decide) ?_
      exact w_zret dX7_readMacro_80 (Or.inr rfl) ⟨_, rfl, (Or.inr rfl), h⟩
  · replace h := h.2 c1
    refine w_aload_n dX7_readMacro_8 0 rfl ?_
    refine c_Rd_peek dX7_readMacro_9 q371 (by decide) (Nat.le_of_ble_eq_true rfl) h (fun r3 M4 h hr3 hwM4 => ?_)
    replace h := h hr3 hwM4
    refine w_istore_n (lv' := [(3, vi (r3)), (0, vr g (1)), (1, vr g (a1)), (2, vi (x2))]) (i := 3) dX7_readMacro_12 rfl (by decide) rfl ?_
    refine w_iload_n dX7_readMacro_13 0 rfl ?_
    refine w_bipush dX7_readMacro_14 rfl ?_
    refine w_icmp_eq (tgt := 34) dX7_readMacro_16 (by decide) (inr_c hr3) ⟨by decide, by decide⟩ (fun c5 => ?_) (fun c5 => ?_)
    · replace h := h.1 c5
      refine w_aload_n dX7_readMacro_34 1 rfl ?_
      refine c_Rd_readPart dX7_readMacro_35 q508 (by decide) (Nat.le_of_ble_eq_true rfl) h (fun r6 M7 h hr6 hwM7 => ?_)
      replace h := h hr6 hwM7
      refine w_istore (lv' := [(4, vi (r6)), (3, vi (r3)), (0, vr g (1)), (1, vr g (a1)), (2, vi (x2))]) dX7_readMacro_38 (by decide) rfl ?_
      refine w_iload dX7_readMacro_40 0 rfl ?_
      refine w_if_ge (tgt := 47) dX7_readMacro_42 (by decide) hr6 (fun c8 => ?_) (fun c8 => ?_)
      · replace h := h.1 c8
        refine w_aload_n dX7_readMacro_47 3 rfl ?_
        refine w_getSN (ci := 9) (k := 5) dX7_readMacro_48 rfl fi9 (by decide) qn102 (sRul ha1) rfl (bRul ha1 (Nat.le_add_right _ _)) ?_
        refine w_iload_n dX7_readMacro_51 4 rfl ?_
        refine w_iload dX7_readMacro_52 0 rfl ?_
        obtain ⟨i9, h⟩ := h
        refine w_iast dX7_readMacro_54 (sRul1 ha1) (bRul1 ha1 (Nat.le_add_right _ _)) (by decide) i9.1 i9.2 hr6 ?_
        have hw10 : WT (sI M7 (a1 + 1) (x2.toNat) (r6)) := hwM7.sI hr6
        refine w_aload_n dX7_readMacro_55 3 rfl ?_
        refine w_iload_n dX7_readMacro_56 4 rfl ?_
        refine w_iconst dX7_readMacro_57 ?_
        refine w_iadd dX7_readMacro_58 ?_
        obtain ⟨i11, h⟩ := h
        refine w_putIN (ci := 9) (k := 6) dX7_readMacro_59 rfl fi9 (by decide) qn105 tyX9 tyX9_ok nmX9 rfl rfl rfl i11 (sRul ha1) rfl (bRul ha1 (Nat.le_add_right _ _)) ?_
        have hw12 : WT (sI (sI M7 (a1 + 1) (x2.toNat) (r6)) (a1) (6) (x2 + 1)) := hw10.sI i11
        refine w_iinc (lv' := [(2, vi (x2 + 1)), (4, vi (r6)), (3, vi (r3)), (0, vr g (1)), (1, vr g (a1))]) dX7_readMacro_62 4 rfl (by decide) rfl ?_
        refine w_goto (tgt := 2) dX7_readMacro_65 (by decide) ?_
        refine w_lv [3, 4, 0] rfl ?_
        exact h
      · replace h := h.2 c8
        refine w_iconst dX7_readMacro_45 ?_
        exact w_zret dX7_readMacro_46 (Or.inl rfl) ⟨_, rfl, (Or.inl rfl), h⟩
    · replace h := h.2 c5
      refine w_iload_n dX7_readMacro_19 0 rfl ?_
      refine w_bipush dX7_readMacro_20 rfl ?_
      refine w_icmp_lt (tgt := 68) dX7_readMacro_22 (by decide) (inr_c hr3) ⟨by decide, by decide⟩ (fun c13 => ?_) (fun c13 => ?_)
      · replace h := h.1 c13
        refine w_aload_n dX7_readMacro_68 2 rfl ?_
        refine w_getIN (ci := 9) (k := 6) dX7_readMacro_69 rfl fi9 (by decide) qn105 (sRul ha1) rfl (bRul ha1 (Nat.le_add_right _ _)) ?_
        refine w_if_le (tgt := 79) dX7_readMacro_72 (by decide) (hwM4.int _ _) (fun c14 => ?_) (fun c14 => ?_)
        · replace h := h.1 c14
          refine w_iconst dX7_readMacro_79 ?_
          exact w_zret dX7_readMacro_80 (Or.inl rfl) ⟨_, rfl, (Or.inl rfl), h⟩
        · replace h := h.2 c14
          refine w_iconst dX7_readMacro_75 ?_
          refine w_goto (tgt := 80) dX7_readMacro_76 (by decide) ?_
          exact w_zret dX7_readMacro_80 (Or.inr rfl) ⟨_, rfl, (Or.inr rfl), h⟩
      · replace h := h.2 c13
        refine w_iload_n dX7_readMacro_25 0 rfl ?_
        refine w_bipush dX7_readMacro_26 rfl ?_
        refine w_icmp_le (tgt := 34) dX7_readMacro_28 (by decide) (inr_c hr3) ⟨by decide, by decide⟩ (fun c15 => ?_) (fun c15 => ?_)
        · replace h := h.1 c15
          refine w_aload_n dX7_readMacro_34 1 rfl ?_
          refine c_Rd_readPart dX7_readMacro_35 q508 (by decide) (Nat.le_of_ble_eq_true rfl) h (fun r16 M17 h hr16 hwM17 => ?_)
          replace h := h hr16 hwM17
          refine w_istore (lv' := [(4, vi (r16)), (3, vi (r3)), (0, vr g (1)), (1, vr g (a1)), (2, vi (x2))]) dX7_readMacro_38 (by decide) rfl ?_
          refine w_iload dX7_readMacro_40 0 rfl ?_
          refine w_if_ge (tgt := 47) dX7_readMacro_42 (by decide) hr16 (fun c18 => ?_) (fun c18 => ?_)
          · replace h := h.1 c18
            refine w_aload_n dX7_readMacro_47 3 rfl ?_
            refine w_getSN (ci := 9) (k := 5) dX7_readMacro_48 rfl fi9 (by decide) qn102 (sRul ha1) rfl (bRul ha1 (Nat.le_add_right _ _)) ?_
            refine w_iload_n dX7_readMacro_51 4 rfl ?_
            refine w_iload dX7_readMacro_52 0 rfl ?_
            obtain ⟨i19, h⟩ := h
            refine w_iast dX7_readMacro_54 (sRul1 ha1) (bRul1 ha1 (Nat.le_add_right _ _)) (by decide) i19.1 i19.2 hr16 ?_
            have hw20 : WT (sI M17 (a1 + 1) (x2.toNat) (r16)) := hwM17.sI hr16
            refine w_aload_n dX7_readMacro_55 3 rfl ?_
            refine w_iload_n dX7_readMacro_56 4 rfl ?_
            refine w_iconst dX7_readMacro_57 ?_
            refine w_iadd dX7_readMacro_58 ?_
            obtain ⟨i21, h⟩ := h
            refine w_putIN (ci := 9) (k := 6) dX7_readMacro_59 rfl fi9 (by decide) qn105 tyX9 tyX9_ok nmX9 rfl rfl rfl i21 (sRul ha1) rfl (bRul ha1 (Nat.le_add_right _ _)) ?_
            have hw22 : WT (sI (sI M17 (a1 + 1) (x2.toNat) (r16)) (a1) (6) (x2 + 1)) := hw20.sI i21
            refine w_iinc (lv' := [(2, vi (x2 + 1)), (4, vi (r16)), (3, vi (r3)), (0, vr g (1)), (1, vr g (a1))]) dX7_readMacro_62 4 rfl (by decide) rfl ?_
            refine w_goto (tgt := 2) dX7_readMacro_65 (by decide) ?_
            refine w_lv [3, 4, 0] rfl ?_
            exact h
          · replace h := h.2 c18
            refine w_iconst dX7_readMacro_45 ?_
            exact w_zret dX7_readMacro_46 (Or.inl rfl) ⟨_, rfl, (Or.inl rfl), h⟩
        · replace h := h.2 c15
          refine w_goto (tgt := 68) dX7_readMacro_31 (by decide) ?_
          refine w_aload_n dX7_readMacro_68 2 rfl ?_
          refine w_getIN (ci := 9) (k := 6) dX7_readMacro_69 rfl fi9 (by decide) qn105 (sRul ha1) rfl (bRul ha1 (Nat.le_add_right _ _)) ?_
          refine w_if_le (tgt := 79) dX7_readMacro_72 (by decide) (hwM4.int _ _) (fun c23 => ?_) (fun c23 => ?_)
          · replace h := h.1 c23
            refine w_iconst dX7_readMacro_79 ?_
            exact w_zret dX7_readMacro_80 (Or.inl rfl) ⟨_, rfl, (Or.inl rfl), h⟩
          · replace h := h.2 c23
            refine w_iconst dX7_readMacro_75 ?_
            refine w_goto (tgt := 80) dX7_readMacro_76 (by decide) ?_
            exact w_zret dX7_readMacro_80 (Or.inr rfl) ⟨_, rfl, (Or.inr rfl), h⟩
set_option maxHeartbeats 4000000 in
set_option maxRecDepth 100000 in
theorem b_Rd_readPart_0 {g : Ctx} {n : Nat}  {M : Mem} {Q : Int → Mem → Prop}  (h : K_Rd_next g n  M (fun r1 M2 => (0 ≤ r1 ∧ r1 < 65536) → WT M2 → (((r1 = 37) → K_Rd_take g n 45 M2 (fun r4 M5 => (r4 = 0 ∨ r4 = 1) → WT M5 → (((r4 = 0) → K_Rd_peek g n  M5 (fun r7 M8 => (0 ≤ r7 ∧ r7 < 65536) → WT M8 → (((r7 < 49) → K_Rd_next g n  M8 (fun r10 M11 => (0 ≤ r10 ∧ r10 < 65536) → WT M11 → K_J_indexOf g n 3 r10 M11 (fun r12 M13 => InR r12 → WT M13 → (((0 ≤ r12) → Q (jor (jor (jshl (16 + r12) 4) (jshl 0 1)) 0) M13) ∧ ((¬ (0 ≤ r12)) → Q (-1) M13))))) ∧ ((¬ (r7 < 49)) → K_Rd_peek g n  M8 (fun r15 M16 => (0 ≤ r15 ∧ r15 < 65536) → WT M16 → (((55 < r15) → K_Rd_next g n  M16 (fun r18 M19 => (0 ≤ r18 ∧ r18 < 65536) → WT M19 → K_J_indexOf g n 3 r18 M19 (fun r20 M21 => InR r20 → WT M21 → (((0 ≤ r20) → Q (jor (jor (jshl (16 + r20) 4) (jshl 0 1)) 0) M21) ∧ ((¬ (0 ≤ r20)) → Q (-1) M21))))) ∧ ((¬ (55 < r15)) → K_Rd_next g n  M16 (fun r23 M24 => (0 ≤ r23 ∧ r23 < 65536) → WT M24 → K_Rd_next g n  M24 (fun r25 M26 => (0 ≤ r25 ∧ r25 < 65536) → WT M26 → K_J_indexOf g n 3 r25 M26 (fun r27 M28 => InR r27 → WT M28 → (((0 ≤ r27) → Q (jor (jor (jshl (16 + r27) 4) (jshl (r23 - 48) 1)) 0) M28) ∧ ((¬ (0 ≤ r27)) → Q (-1) M28)))))))))))) ∧ ((¬ (r4 = 0)) → K_Rd_peek g n  M5 (fun r30 M31 => (0 ≤ r30 ∧ r30 < 65536) → WT M31 → (((r30 < 49) → K_Rd_next g n  M31 (fun r33 M34 => (0 ≤ r33 ∧ r33 < 65536) → WT M34 → K_J_indexOf g n 3 r33 M34 (fun r35 M36 => InR r35 → WT M36 → (((0 ≤ r35) → Q (jor (jor (jshl (16 + r35) 4) (jshl 0 1)) 1) M36) ∧ ((¬ (0 ≤ r35)) → Q (-1) M36))))) ∧ ((¬ (r30 < 49)) → K_Rd_peek g n  M31 (fun r38 M39 => (0 ≤ r38 ∧ r38 < 65536) → WT M39 → (((55 < r38) → K_Rd_next g n  M39 (fun r41 M42 => (0 ≤ r41 ∧ r41 < 65536) → WT M42 → K_J_indexOf g n 3 r41 M42 (fun r43 M44 => InR r43 → WT M44 → (((0 ≤ r43) → Q (jor (jor (jshl (16 + r43) 4) (jshl 0 1)) 1) M44) ∧ ((¬ (0 ≤ r43)) → Q (-1) M44))))) ∧ ((¬ (55 < r38)) → K_Rd_next g n  M39 (fun r46 M47 => (0 ≤ r46 ∧ r46 < 65536) → WT M47 → K_Rd_next g n  M47 (fun r48 M49 => (0 ≤ r48 ∧ r48 < 65536) → WT M49 → K_J_indexOf g n 3 r48 M49 (fun r50 M51 => InR r50 → WT M51 → (((0 ≤ r50) → Q (jor (jor (jshl (16 + r50) 4) (jshl (r46 - 48) 1)) 1) M51) ∧ ((¬ (0 ≤ r50)) → Q (-1) M51))))))))))))))) ∧ ((¬ (r1 = 37)) → Q (jshl (r1 - 97) 4) M2)))) : P_Rd_readPart g n 0 [(0, vr g (1))] [] M Q := by
  refine w_wt (fun hw => ?_)
  refine w_aload_n dX7_readPart_0 0 rfl ?_
  refine c_Rd_next dX7_readPart_1 q363 (by decide) (Nat.le_of_ble_eq_true rfl) h (fun r1 M2 h hr1 hwM2 => ?_)
  replace h := h hr1 hwM2
  refine w_istore_n (lv' := [(1, vi (r1)), (0, vr g (1))]) (i := 1) dX7_readPart_4 rfl (by decide) rfl ?_
  refine w_iload_n dX7_readPart_5 0 rfl ?_
  refine w_bipush dX7_readPart_6 rfl ?_
  refine w_icmp_eq (tgt := 18) dX7_readPart_8 (by decide) (inr_c hr1) ⟨by decide, by decide⟩ (fun c3 => ?_) (fun c3 => ?_)
  · replace h := h.1 c3
    refine w_aload_n dX7_readPart_18 1 rfl ?_
    refine w_bipush dX7_readPart_19 rfl ?_
    refine c_Rd_take dX7_readPart_21 q387 (by decide) (Nat.le_of_ble_eq_true rfl) h (fun r4 M5 h hr4 hwM5 => ?_)
    replace h := h hr4 hwM5
    refine w_if_eq (tgt := 31) dX7_readPart_24 (by decide) (inr_z hr4) (fun c6 => ?_) (fun c6 => ?_)
    · replace h := h.1 c6
      refine w_iconst dX7_readPart_31 ?_
      refine w_istore_n (lv' := [(2, vi (0)), (1, vi (r1)), (0, vr g (1))]) (i := 2) dX7_readPart_32 rfl (by decide) rfl ?_
      refine w_iconst dX7_readPart_33 ?_
      refine w_istore_n (lv' := [(3, vi (0)), (2, vi (0)), (1, vi (r1)), (0, vr g (1))]) (i := 3) dX7_readPart_34 rfl (by decide) rfl ?_
      refine w_aload_n dX7_readPart_35 3 rfl ?_
      refine c_Rd_peek dX7_readPart_36 q371 (by decide) (Nat.le_of_ble_eq_true rfl) h (fun r7 M8 h hr7 hwM8 => ?_)
      replace h := h hr7 hwM8
      refine w_bipush dX7_readPart_39 rfl ?_
      refine w_icmp_lt (tgt := 61) dX7_readPart_41 (by decide) (inr_c hr7) ⟨by decide, by decide⟩ (fun c9 => ?_) (fun c9 => ?_)
      · replace h := h.1 c9
        refine w_ldcS_Rd141 dX7_readPart_61 ?_
        refine w_aload_n dX7_readPart_63 3 rfl ?_
        refine c_Rd_next dX7_readPart_64 q363 (by decide) (Nat.le_of_ble_eq_true rfl) h (fun r10 M11 h hr10 hwM11 => ?_)
        replace h := h hr10 hwM11
        refine c_J_indexOf dX7_readPart_67 q432 (by decide) (Nat.le_of_ble_eq_true rfl) (by decide) h (fun r12 M13 h hr12 hwM13 => ?_)
        replace h := h hr12 hwM13
        refine w_istore (lv' := [(4, vi (r12)), (3, vi (0)), (2, vi (0)), (1, vi (r1)), (0, vr g (1))]) dX7_readPart_70 (by decide) rfl ?_
        refine w_iload dX7_readPart_72 0 rfl ?_
        refine w_if_ge (tgt := 81) dX7_readPart_74 (by decide) hr12 (fun c14 => ?_) (fun c14 => ?_)
        · replace h := h.1 c14
          refine w_bipush dX7_readPart_81 rfl ?_
          refine w_iload dX7_readPart_83 0 rfl ?_
          refine w_iadd dX7_readPart_85 ?_
          refine w_iconst dX7_readPart_86 ?_
          refine w_ishl dX7_readPart_87 ?_
          refine w_iload_n dX7_readPart_88 1 rfl ?_
          refine w_iconst dX7_readPart_89 ?_
          refine w_ishl dX7_readPart_90 ?_
          refine w_ior dX7_readPart_91 ?_
          refine w_iload_n dX7_readPart_92 2 rfl ?_
          refine w_ior dX7_readPart_93 ?_
          exact w_iret dX7_readPart_94 ⟨_, rfl, (inr_jor _ _), h⟩
        · replace h := h.2 c14
          refine w_iconst dX7_readPart_77 ?_
          refine w_goto (tgt := 94) dX7_readPart_78 (by decide) ?_
          exact w_iret dX7_readPart_94 ⟨_, rfl, ⟨by decide, by decide⟩, h⟩
      · replace h := h.2 c9
        refine w_aload_n dX7_readPart_44 3 rfl ?_
        refine c_Rd_peek dX7_readPart_45 q371 (by decide) (Nat.le_of_ble_eq_true rfl) h (fun r15 M16 h hr15 hwM16 => ?_)
        replace h := h hr15 hwM16
        refine w_bipush dX7_readPart_48 rfl ?_
        refine w_icmp_gt (tgt := 61) dX7_readPart_50 (by decide) (inr_c hr15) ⟨by decide, by decide⟩ (fun c17 => ?_) (fun c17 => ?_)
        · replace h := h.1 c17
          refine w_ldcS_Rd141 dX7_readPart_61 ?_
          refine w_aload_n dX7_readPart_63 3 rfl ?_
          refine c_Rd_next dX7_readPart_64 q363 (by decide) (Nat.le_of_ble_eq_true rfl) h (fun r18 M19 h hr18 hwM19 => ?_)
          replace h := h hr18 hwM19
          refine c_J_indexOf dX7_readPart_67 q432 (by decide) (Nat.le_of_ble_eq_true rfl) (by decide) h (fun r20 M21 h hr20 hwM21 => ?_)
          replace h := h hr20 hwM21
          refine w_istore (lv' := [(4, vi (r20)), (3, vi (0)), (2, vi (0)), (1, vi (r1)), (0, vr g (1))]) dX7_readPart_70 (by decide) rfl ?_
          refine w_iload dX7_readPart_72 0 rfl ?_
          refine w_if_ge (tgt := 81) dX7_readPart_74 (by decide) hr20 (fun c22 => ?_) (fun c22 => ?_)
          · replace h := h.1 c22
            refine w_bipush dX7_readPart_81 rfl ?_
            refine w_iload dX7_readPart_83 0 rfl ?_
            refine w_iadd dX7_readPart_85 ?_
            refine w_iconst dX7_readPart_86 ?_
            refine w_ishl dX7_readPart_87 ?_
            refine w_iload_n dX7_readPart_88 1 rfl ?_
            refine w_iconst dX7_readPart_89 ?_
            refine w_ishl dX7_readPart_90 ?_
            refine w_ior dX7_readPart_91 ?_
            refine w_iload_n dX7_readPart_92 2 rfl ?_
            refine w_ior dX7_readPart_93 ?_
            exact w_iret dX7_readPart_94 ⟨_, rfl, (inr_jor _ _), h⟩
          · replace h := h.2 c22
            refine w_iconst dX7_readPart_77 ?_
            refine w_goto (tgt := 94) dX7_readPart_78 (by decide) ?_
            exact w_iret dX7_readPart_94 ⟨_, rfl, ⟨by decide, by decide⟩, h⟩
        · replace h := h.2 c17
          refine w_aload_n dX7_readPart_53 3 rfl ?_
          refine c_Rd_next dX7_readPart_54 q363 (by decide) (Nat.le_of_ble_eq_true rfl) h (fun r23 M24 h hr23 hwM24 => ?_)
          replace h := h hr23 hwM24
          refine w_bipush dX7_readPart_57 rfl ?_
          refine w_isub dX7_readPart_59 ?_
          refine w_istore_n (lv' := [(3, vi (r23 - 48)), (2, vi (0)), (1, vi (r1)), (0, vr g (1))]) (i := 3) dX7_readPart_60 rfl (by decide) rfl ?_
          refine w_ldcS_Rd141 dX7_readPart_61 ?_
          refine w_aload_n dX7_readPart_63 3 rfl ?_
          refine c_Rd_next dX7_readPart_64 q363 (by decide) (Nat.le_of_ble_eq_true rfl) h (fun r25 M26 h hr25 hwM26 => ?_)
          replace h := h hr25 hwM26
          refine c_J_indexOf dX7_readPart_67 q432 (by decide) (Nat.le_of_ble_eq_true rfl) (by decide) h (fun r27 M28 h hr27 hwM28 => ?_)
          replace h := h hr27 hwM28
          refine w_istore (lv' := [(4, vi (r27)), (3, vi (r23 - 48)), (2, vi (0)), (1, vi (r1)), (0, vr g (1))]) dX7_readPart_70 (by decide) rfl ?_
          refine w_iload dX7_readPart_72 0 rfl ?_
          refine w_if_ge (tgt := 81) dX7_readPart_74 (by decide) hr27 (fun c29 => ?_) (fun c29 => ?_)
          · replace h := h.1 c29
            refine w_bipush dX7_readPart_81 rfl ?_
            refine w_iload dX7_readPart_83 0 rfl ?_
            refine w_iadd dX7_readPart_85 ?_
            refine w_iconst dX7_readPart_86 ?_
            refine w_ishl dX7_readPart_87 ?_
            refine w_iload_n dX7_readPart_88 1 rfl ?_
            refine w_iconst dX7_readPart_89 ?_
            refine w_ishl dX7_readPart_90 ?_
            refine w_ior dX7_readPart_91 ?_
            refine w_iload_n dX7_readPart_92 2 rfl ?_
            refine w_ior dX7_readPart_93 ?_
            exact w_iret dX7_readPart_94 ⟨_, rfl, (inr_jor _ _), h⟩
          · replace h := h.2 c29
            refine w_iconst dX7_readPart_77 ?_
            refine w_goto (tgt := 94) dX7_readPart_78 (by decide) ?_
            exact w_iret dX7_readPart_94 ⟨_, rfl, ⟨by decide, by decide⟩, h⟩
    · replace h := h.2 c6
      refine w_iconst dX7_readPart_27 ?_
      refine w_goto (tgt := 32) dX7_readPart_28 (by decide) ?_
      refine w_istore_n (lv' := [(2, vi (1)), (1, vi (r1)), (0, vr g (1))]) (i := 2) dX7_readPart_32 rfl (by decide) rfl ?_
      refine w_iconst dX7_readPart_33 ?_
      refine w_istore_n (lv' := [(3, vi (0)), (2, vi (1)), (1, vi (r1)), (0, vr g (1))]) (i := 3) dX7_readPart_34 rfl (by decide) rfl ?_
      refine w_aload_n dX7_readPart_35 3 rfl ?_
      refine c_Rd_peek dX7_readPart_36 q371 (by decide) (Nat.le_of_ble_eq_true rfl) h (fun r30 M31 h hr30 hwM31 => ?_)
      replace h := h hr30 hwM31
      refine w_bipush dX7_readPart_39 rfl ?_
      refine w_icmp_lt (tgt := 61) dX7_readPart_41 (by decide) (inr_c hr30) ⟨by decide, by decide⟩ (fun c32 => ?_) (fun c32 => ?_)
      · replace h := h.1 c32
        refine w_ldcS_Rd141 dX7_readPart_61 ?_
        refine w_aload_n dX7_readPart_63 3 rfl ?_
        refine c_Rd_next dX7_readPart_64 q363 (by decide) (Nat.le_of_ble_eq_true rfl) h (fun r33 M34 h hr33 hwM34 => ?_)
        replace h := h hr33 hwM34
        refine c_J_indexOf dX7_readPart_67 q432 (by decide) (Nat.le_of_ble_eq_true rfl) (by decide) h (fun r35 M36 h hr35 hwM36 => ?_)
        replace h := h hr35 hwM36
        refine w_istore (lv' := [(4, vi (r35)), (3, vi (0)), (2, vi (1)), (1, vi (r1)), (0, vr g (1))]) dX7_readPart_70 (by decide) rfl ?_
        refine w_iload dX7_readPart_72 0 rfl ?_
        refine w_if_ge (tgt := 81) dX7_readPart_74 (by decide) hr35 (fun c37 => ?_) (fun c37 => ?_)
        · replace h := h.1 c37
          refine w_bipush dX7_readPart_81 rfl ?_
          refine w_iload dX7_readPart_83 0 rfl ?_
          refine w_iadd dX7_readPart_85 ?_
          refine w_iconst dX7_readPart_86 ?_
          refine w_ishl dX7_readPart_87 ?_
          refine w_iload_n dX7_readPart_88 1 rfl ?_
          refine w_iconst dX7_readPart_89 ?_
          refine w_ishl dX7_readPart_90 ?_
          refine w_ior dX7_readPart_91 ?_
          refine w_iload_n dX7_readPart_92 2 rfl ?_
          refine w_ior dX7_readPart_93 ?_
          exact w_iret dX7_readPart_94 ⟨_, rfl, (inr_jor _ _), h⟩
        · replace h := h.2 c37
          refine w_iconst dX7_readPart_77 ?_
          refine w_goto (tgt := 94) dX7_readPart_78 (by decide) ?_
          exact w_iret dX7_readPart_94 ⟨_, rfl, ⟨by decide, by decide⟩, h⟩
      · replace h := h.2 c32
        refine w_aload_n dX7_readPart_44 3 rfl ?_
        refine c_Rd_peek dX7_readPart_45 q371 (by decide) (Nat.le_of_ble_eq_true rfl) h (fun r38 M39 h hr38 hwM39 => ?_)
        replace h := h hr38 hwM39
        refine w_bipush dX7_readPart_48 rfl ?_
        refine w_icmp_gt (tgt := 61) dX7_readPart_50 (by decide) (inr_c hr38) ⟨by decide, by decide⟩ (fun c40 => ?_) (fun c40 => ?_)
        · replace h := h.1 c40
          refine w_ldcS_Rd141 dX7_readPart_61 ?_
          refine w_aload_n dX7_readPart_63 3 rfl ?_
          refine c_Rd_next dX7_readPart_64 q363 (by decide) (Nat.le_of_ble_eq_true rfl) h (fun r41 M42 h hr41 hwM42 => ?_)
          replace h := h hr41 hwM42
          refine c_J_indexOf dX7_readPart_67 q432 (by decide) (Nat.le_of_ble_eq_true rfl) (by decide) h (fun r43 M44 h hr43 hwM44 => ?_)
          replace h := h hr43 hwM44
          refine w_istore (lv' := [(4, vi (r43)), (3, vi (0)), (2, vi (1)), (1, vi (r1)), (0, vr g (1))]) dX7_readPart_70 (by decide) rfl ?_
          refine w_iload dX7_readPart_72 0 rfl ?_
          refine w_if_ge (tgt := 81) dX7_readPart_74 (by decide) hr43 (fun c45 => ?_) (fun c45 => ?_)
          · replace h := h.1 c45
            refine w_bipush dX7_readPart_81 rfl ?_
            refine w_iload dX7_readPart_83 0 rfl ?_
            refine w_iadd dX7_readPart_85 ?_
            refine w_iconst dX7_readPart_86 ?_
            refine w_ishl dX7_readPart_87 ?_
            refine w_iload_n dX7_readPart_88 1 rfl ?_
            refine w_iconst dX7_readPart_89 ?_
            refine w_ishl dX7_readPart_90 ?_
            refine w_ior dX7_readPart_91 ?_
            refine w_iload_n dX7_readPart_92 2 rfl ?_
            refine w_ior dX7_readPart_93 ?_
            exact w_iret dX7_readPart_94 ⟨_, rfl, (inr_jor _ _), h⟩
          · replace h := h.2 c45
            refine w_iconst dX7_readPart_77 ?_
            refine w_goto (tgt := 94) dX7_readPart_78 (by decide) ?_
            exact w_iret dX7_readPart_94 ⟨_, rfl, ⟨by decide, by decide⟩, h⟩
        · replace h := h.2 c40
          refine w_aload_n dX7_readPart_53 3 rfl ?_
          refine c_Rd_next dX7_readPart_54 q363 (by decide) (Nat.le_of_ble_eq_true rfl) h (fun r46 M47 h hr46 hwM47 => ?_)
          replace h := h hr46 hwM47
          refine w_bipush dX7_readPart_57 rfl ?_
          refine w_isub dX7_readPart_59 ?_
          refine w_istore_n (lv' := [(3, vi (r46 - 48)), (2, vi (1)), (1, vi (r1)), (0, vr g (1))]) (i := 3) dX7_readPart_60 rfl (by decide) rfl ?_
          refine w_ldcS_Rd141 dX7_readPart_61 ?_
          refine w_aload_n dX7_readPart_63 3 rfl ?_
          refine c_Rd_next dX7_readPart_64 q363 (by decide) (Nat.le_of_ble_eq_true rfl) h (fun r48 M49 h hr48 hwM49 => ?_)
          replace h := h hr48 hwM49
          refine c_J_indexOf dX7_readPart_67 q432 (by decide) (Nat.le_of_ble_eq_true rfl) (by decide) h (fun r50 M51 h hr50 hwM51 => ?_)
          replace h := h hr50 hwM51
          refine w_istore (lv' := [(4, vi (r50)), (3, vi (r46 - 48)), (2, vi (1)), (1, vi (r1)), (0, vr g (1))]) dX7_readPart_70 (by decide) rfl ?_
          refine w_iload dX7_readPart_72 0 rfl ?_
          refine w_if_ge (tgt := 81) dX7_readPart_74 (by decide) hr50 (fun c52 => ?_) (fun c52 => ?_)
          · replace h := h.1 c52
            refine w_bipush dX7_readPart_81 rfl ?_
            refine w_iload dX7_readPart_83 0 rfl ?_
            refine w_iadd dX7_readPart_85 ?_
            refine w_iconst dX7_readPart_86 ?_
            refine w_ishl dX7_readPart_87 ?_
            refine w_iload_n dX7_readPart_88 1 rfl ?_
            refine w_iconst dX7_readPart_89 ?_
            refine w_ishl dX7_readPart_90 ?_
            refine w_ior dX7_readPart_91 ?_
            refine w_iload_n dX7_readPart_92 2 rfl ?_
            refine w_ior dX7_readPart_93 ?_
            exact w_iret dX7_readPart_94 ⟨_, rfl, (inr_jor _ _), h⟩
          · replace h := h.2 c52
            refine w_iconst dX7_readPart_77 ?_
            refine w_goto (tgt := 94) dX7_readPart_78 (by decide) ?_
            exact w_iret dX7_readPart_94 ⟨_, rfl, ⟨by decide, by decide⟩, h⟩
  · replace h := h.2 c3
    refine w_iload_n dX7_readPart_11 0 rfl ?_
    refine w_bipush dX7_readPart_12 rfl ?_
    refine w_isub dX7_readPart_14 ?_
    refine w_iconst dX7_readPart_15 ?_
    refine w_ishl dX7_readPart_16 ?_
    exact w_iret dX7_readPart_17 ⟨_, rfl, (inr_jshl _ _), h⟩
set_option maxHeartbeats 4000000 in
set_option maxRecDepth 100000 in
theorem b_Rd_readHosts_0 {g : Ctx} {n : Nat} {p0 : Nat} {M : Mem} {Q : Int → Mem → Prop} (hp0 : isDom p0) (h : P_Rd_readHosts g n 7 [(0, vr g (1)), (1, vr g (p0)), (2, vi (0))] [] (sI M (p0) (8) (0)) Q) : P_Rd_readHosts g n 0 [(0, vr g (1)), (1, vr g (p0))] [] M Q := by
  refine w_wt (fun hw => ?_)
  refine w_aload_n dX7_readHosts_0 1 rfl ?_
  refine w_iconst dX7_readHosts_1 ?_
  refine w_putIN (ci := 1) (k := 8) dX7_readHosts_2 rfl fi1 (by decide) qn150 tyX1 tyX1_ok nmX1 rfl rfl rfl ⟨by decide, by decide⟩ (sDom hp0) rfl (bDom hp0 (Nat.le_add_right _ _)) ?_
  have hw1 : WT (sI M (p0) (8) (0)) := hw.sI ⟨by decide, by decide⟩
  refine w_iconst dX7_readHosts_5 ?_
  refine w_istore_n (lv' := [(2, vi (0)), (0, vr g (1)), (1, vr g (p0))]) (i := 2) dX7_readHosts_6 rfl (by decide) rfl ?_
  refine w_lv [1, 2, 0] rfl ?_
  exact h
set_option maxHeartbeats 4000000 in
set_option maxRecDepth 100000 in
theorem b_Rd_readHosts_7 {g : Ctx} {n : Nat} {a1 : Nat} {x2 : Int} {M : Mem} {Q : Int → Mem → Prop} (ha1 : isDom a1) (hx2 : InR x2) (h : (((4 ≤ x2) → Q 0 M) ∧ ((¬ (4 ≤ x2)) → K_Rd_readNumber g n 255 M (fun r2 M3 => InR r2 → WT M3 → (((r2 < 0) → Q 0 M3) ∧ ((¬ (r2 < 0)) → K_Dm_insertHost g n a1 x2 r2 M3 (fun r5 M6 => (r5 = 0 ∨ r5 = 1) → WT M6 → (((¬ r5 = 0) → K_Rd_take g n 44 M6 (fun r8 M9 => (r8 = 0 ∨ r8 = 1) → WT M9 → (((¬ r8 = 0) → P_Rd_readHosts g n 7 [(0, vr g (1)), (1, vr g (a1)), (2, vi (x2 + 1))] [] M9 Q) ∧ ((r8 = 0) → Q 1 M9)))) ∧ ((r5 = 0) → Q 0 M6))))))))) : P_Rd_readHosts g n 7 [(0, vr g (1)), (1, vr g (a1)), (2, vi (x2))] [] M Q := by
  refine w_wt (fun hw => ?_)
  refine w_iload_n dX7_readHosts_7 2 rfl ?_
  refine w_iconst dX7_readHosts_8 ?_
  refine w_icmp_ge (tgt := 52) dX7_readHosts_9 (by decide) hx2 ⟨by decide, by decide⟩ (fun c1 => ?_) (fun c1 => ?_)
  · replace h := h.1 c1
    refine w_iconst dX7_readHosts_52 ?_
    exact w_zret dX7_readHosts_53 (Or.inl rfl) ⟨_, rfl, (Or.inl rfl), h⟩
  · replace h := h.2 c1
    refine w_aload_n dX7_readHosts_12 0 rfl ?_
    refine w_sipush dX7_readHosts_13 rfl ?_
    refine c_Rd_readNumber dX7_readHosts_16 q500 (by decide) (Nat.le_of_ble_eq_true rfl) h (fun r2 M3 h hr2 hwM3 => ?_)
    replace h := h hr2 hwM3
    refine w_istore_n (lv' := [(3, vi (r2)), (0, vr g (1)), (1, vr g (a1)), (2, vi (x2))]) (i := 3) dX7_readHosts_19 rfl (by decide) rfl ?_
    refine w_iload_n dX7_readHosts_20 0 rfl ?_
    refine w_if_lt (tgt := 33) dX7_readHosts_21 (by decide) hr2 (fun c4 => ?_) (fun c4 => ?_)
    · replace h := h.1 c4
      refine w_iconst dX7_readHosts_33 ?_
      exact w_zret dX7_readHosts_34 (Or.inl rfl) ⟨_, rfl, (Or.inl rfl), h⟩
    · replace h := h.2 c4
      refine w_aload_n dX7_readHosts_24 2 rfl ?_
      refine w_iload_n dX7_readHosts_25 3 rfl ?_
      refine w_iload_n dX7_readHosts_26 0 rfl ?_
      refine c_Dm_insertHost dX7_readHosts_27 q517 (by decide) (Nat.le_of_ble_eq_true rfl) ha1 h (fun r5 M6 h hr5 hwM6 => ?_)
      replace h := h hr5 hwM6
      refine w_if_ne (tgt := 35) dX7_readHosts_30 (by decide) (inr_z hr5) (fun c7 => ?_) (fun c7 => ?_)
      · replace h := h.1 c7
        refine w_aload_n dX7_readHosts_35 1 rfl ?_
        refine w_bipush dX7_readHosts_36 rfl ?_
        refine c_Rd_take dX7_readHosts_38 q387 (by decide) (Nat.le_of_ble_eq_true rfl) h (fun r8 M9 h hr8 hwM9 => ?_)
        replace h := h hr8 hwM9
        refine w_if_ne (tgt := 46) dX7_readHosts_41 (by decide) (inr_z hr8) (fun c10 => ?_) (fun c10 => ?_)
        · replace h := h.1 c10
          refine w_iinc (lv' := [(2, vi (x2 + 1)), (3, vi (r2)), (0, vr g (1)), (1, vr g (a1))]) dX7_readHosts_46 3 rfl (by decide) rfl ?_
          refine w_goto (tgt := 7) dX7_readHosts_49 (by decide) ?_
          refine w_lv [2, 3, 0] rfl ?_
          exact h
        · replace h := h.2 c10
          refine w_iconst dX7_readHosts_44 ?_
          exact w_zret dX7_readHosts_45 (Or.inr rfl) ⟨_, rfl, (Or.inr rfl), h⟩
      · replace h := h.2 c7
        refine w_iconst dX7_readHosts_33 ?_
        exact w_zret dX7_readHosts_34 (Or.inl rfl) ⟨_, rfl, (Or.inl rfl), h⟩
set_option maxHeartbeats 4000000 in
set_option maxRecDepth 100000 in
theorem b_Dm_insertHost_0 {g : Ctx} {n : Nat} {o : Nat} {p0 : Int} {p1 : Int} {M : Mem} {Q : Int → Mem → Prop} (ho : isDom o) (hp0 : InR p0) (hp1 : InR p1) (h : (((4 ≤ (gI M (o) (8))) → Q 0 M) ∧ ((¬ (4 ≤ (gI M (o) (8)))) → (((p0 < 0) → Q 0 M) ∧ ((¬ (p0 < 0)) → (((p0 ≤ (gI M (o) (8))) → P_Dm_insertHost g n 27 [(0, vr g (o)), (1, vi (p0)), (2, vi (p1)), (3, vi (gI M (o) (8)))] [] M Q) ∧ ((¬ (p0 ≤ (gI M (o) (8)))) → Q 0 M))))))) : P_Dm_insertHost g n 0 [(0, vr g (o)), (1, vi (p0)), (2, vi (p1))] [] M Q := by
  refine w_wt (fun hw => ?_)
  refine w_aload_n dX1_insertHost_0 0 rfl ?_
  refine w_getI (ci := 1) (k := 8) dX1_insertHost_1 rfl fi1 (by decide) q148 (sDom ho) rfl (bDom ho (Nat.le_add_right _ _)) ?_
  refine w_iconst dX1_insertHost_4 ?_
  refine w_icmp_ge (tgt := 20) dX1_insertHost_5 (by decide) (hw.int _ _) ⟨by decide, by decide⟩ (fun c1 => ?_) (fun c1 => ?_)
  · replace h := h.1 c1
    refine w_iconst dX1_insertHost_20 ?_
    exact w_zret dX1_insertHost_21 (Or.inl rfl) ⟨_, rfl, (Or.inl rfl), h⟩
  · replace h := h.2 c1
    refine w_iload_n dX1_insertHost_8 1 rfl ?_
    refine w_if_lt (tgt := 20) dX1_insertHost_9 (by decide) hp0 (fun c2 => ?_) (fun c2 => ?_)
    · replace h := h.1 c2
      refine w_iconst dX1_insertHost_20 ?_
      exact w_zret dX1_insertHost_21 (Or.inl rfl) ⟨_, rfl, (Or.inl rfl), h⟩
    · replace h := h.2 c2
      refine w_iload_n dX1_insertHost_12 1 rfl ?_
      refine w_aload_n dX1_insertHost_13 0 rfl ?_
      refine w_getI (ci := 1) (k := 8) dX1_insertHost_14 rfl fi1 (by decide) q148 (sDom ho) rfl (bDom ho (Nat.le_add_right _ _)) ?_
      refine w_icmp_le (tgt := 22) dX1_insertHost_17 (by decide) hp0 (hw.int _ _) (fun c3 => ?_) (fun c3 => ?_)
      · replace h := h.1 c3
        refine w_aload_n dX1_insertHost_22 0 rfl ?_
        refine w_getI (ci := 1) (k := 8) dX1_insertHost_23 rfl fi1 (by decide) q148 (sDom ho) rfl (bDom ho (Nat.le_add_right _ _)) ?_
        refine w_istore_n (lv' := [(3, vi (gI M (o) (8))), (0, vr g (o)), (1, vi (p0)), (2, vi (p1))]) (i := 3) dX1_insertHost_26 rfl (by decide) rfl ?_
        refine w_lv [1, 2, 3, 0] rfl ?_
        exact h
      · replace h := h.2 c3
        refine w_iconst dX1_insertHost_20 ?_
        exact w_zret dX1_insertHost_21 (Or.inl rfl) ⟨_, rfl, (Or.inl rfl), h⟩
set_option maxHeartbeats 4000000 in
set_option maxRecDepth 100000 in
theorem b_Dm_insertHost_27 {g : Ctx} {n : Nat} {a0 : Nat} {x1 : Int} {x2 : Int} {x3 : Int} {M : Mem} {Q : Int → Mem → Prop} (ha0 : isDom a0) (hx1 : InR x1) (hx2 : InR x2) (hx3 : InR x3) (h : (((x3 ≤ x1) → (0 ≤ x1 ∧ x1 < 4) ∧ (InR ((gI M (a0) (8)) + 1)) ∧ Q 1 (sI (sI M (a0 + 3) (x1.toNat) (x2)) (a0) (8) ((gI M (a0) (8)) + 1))) ∧ ((¬ (x3 ≤ x1)) → (0 ≤ (x3 - 1) ∧ (x3 - 1) < 4) ∧ (0 ≤ x3 ∧ x3 < 4) ∧ P_Dm_insertHost g n 27 [(0, vr g (a0)), (1, vi (x1)), (2, vi (x2)), (3, vi (x3 + (-1)))] [] (sI M (a0 + 3) (x3.toNat) (gI M (a0 + 3) ((x3 - 1).toNat))) Q))) : P_Dm_insertHost g n 27 [(0, vr g (a0)), (1, vi (x1)), (2, vi (x2)), (3, vi (x3))] [] M Q := by
  refine w_wt (fun hw => ?_)
  refine w_iload_n dX1_insertHost_27 3 rfl ?_
  refine w_iload_n dX1_insertHost_28 1 rfl ?_
  refine w_icmp_le (tgt := 52) dX1_insertHost_29 (by decide) hx3 hx1 (fun c1 => ?_) (fun c1 => ?_)
  · replace h := h.1 c1
    refine w_aload_n dX1_insertHost_52 0 rfl ?_
    refine w_getS (ci := 1) (k := 7) dX1_insertHost_53 rfl fi1 (by decide) q146 (sDom ha0) rfl (bDom ha0 (Nat.le_add_right _ _)) ?_
    refine w_iload_n dX1_insertHost_56 1 rfl ?_
    refine w_iload_n dX1_insertHost_57 2 rfl ?_
    obtain ⟨i2, h⟩ := h
    refine w_iast dX1_insertHost_58 (sDom3 ha0) (bDom3 ha0 (Nat.le_add_right _ _)) (by decide) i2.1 i2.2 hx2 ?_
    have hw3 : WT (sI M (a0 + 3) (x1.toNat) (x2)) := hw.sI hx2
    refine w_aload_n dX1_insertHost_59 0 rfl ?_
    refine w_dup dX1_insertHost_60 rfl ?_
    refine w_getI (ci := 1) (k := 8) dX1_insertHost_61 rfl fi1 (by decide) q148 (sDom ha0) rfl (bDom ha0 (Nat.le_add_right _ _)) ?_
    refine w_top (congrArg vi ((gI_ne _ _ _ _ _ _ (by omega)).trans rfl)) ?_
    have u4 : InR (gI M (a0) (8)) := hw.int _ _
    refine w_iconst dX1_insertHost_64 ?_
    refine w_iadd dX1_insertHost_65 ?_
    obtain ⟨i5, h⟩ := h
    refine w_putI (ci := 1) (k := 8) dX1_insertHost_66 rfl fi1 (by decide) q148 tyX1 tyX1_ok nmX1 rfl rfl rfl i5 (sDom ha0) rfl (bDom ha0 (Nat.le_add_right _ _)) ?_
    have hw6 : WT (sI (sI M (a0 + 3) (x1.toNat) (x2)) (a0) (8) ((gI M (a0) (8)) + 1)) := hw3.sI i5
    refine w_iconst dX1_insertHost_69 ?_
    exact w_zret dX1_insertHost_70 (Or.inr rfl) ⟨_, rfl, (Or.inr rfl), h⟩
  · replace h := h.2 c1
    refine w_aload_n dX1_insertHost_32 0 rfl ?_
    refine w_getS (ci := 1) (k := 7) dX1_insertHost_33 rfl fi1 (by decide) q146 (sDom ha0) rfl (bDom ha0 (Nat.le_add_right _ _)) ?_
    refine w_iload_n dX1_insertHost_36 3 rfl ?_
    refine w_aload_n dX1_insertHost_37 0 rfl ?_
    refine w_getS (ci := 1) (k := 7) dX1_insertHost_38 rfl fi1 (by decide) q146 (sDom ha0) rfl (bDom ha0 (Nat.le_add_right _ _)) ?_
    refine w_iload_n dX1_insertHost_41 3 rfl ?_
    refine w_iconst dX1_insertHost_42 ?_
    refine w_isub dX1_insertHost_43 ?_
    obtain ⟨i7, h⟩ := h
    refine w_iald dX1_insertHost_44 (sDom3 ha0) (bDom3 ha0 (Nat.le_add_right _ _)) (by decide) i7.1 i7.2 ?_
    obtain ⟨i8, h⟩ := h
    refine w_iast dX1_insertHost_45 (sDom3 ha0) (bDom3 ha0 (Nat.le_add_right _ _)) (by decide) i8.1 i8.2 (hw.int _ _) ?_
    have hw9 : WT (sI M (a0 + 3) (x3.toNat) (gI M (a0 + 3) ((x3 - 1).toNat))) := hw.sI (hw.int _ _)
    refine w_iinc (lv' := [(3, vi (x3 + (-1))), (0, vr g (a0)), (1, vi (x1)), (2, vi (x2))]) dX1_insertHost_46 3 rfl (by decide) rfl ?_
    refine w_goto (tgt := 27) dX1_insertHost_49 (by decide) ?_
    refine w_lv [1, 2, 3, 0] rfl ?_
    exact h
set_option maxHeartbeats 4000000 in
set_option maxRecDepth 100000 in
theorem b_Rd_readExchangers_0 {g : Ctx} {n : Nat} {p0 : Nat} {M : Mem} {Q : Int → Mem → Prop} (hp0 : isDom p0) (h : P_Rd_readExchangers g n 7 [(0, vr g (1)), (1, vr g (p0)), (2, vi (0))] [] (sI M (p0) (10) (0)) Q) : P_Rd_readExchangers g n 0 [(0, vr g (1)), (1, vr g (p0))] [] M Q := by
  refine w_wt (fun hw => ?_)
  refine w_aload_n dX7_readExchangers_0 1 rfl ?_
  refine w_iconst dX7_readExchangers_1 ?_
  refine w_putIN (ci := 1) (k := 10) dX7_readExchangers_2 rfl fi1 (by decide) qn156 tyX1 tyX1_ok nmX1 rfl rfl rfl ⟨by decide, by decide⟩ (sDom hp0) rfl (bDom hp0 (Nat.le_add_right _ _)) ?_
  have hw1 : WT (sI M (p0) (10) (0)) := hw.sI ⟨by decide, by decide⟩
  refine w_iconst dX7_readExchangers_5 ?_
  refine w_istore_n (lv' := [(2, vi (0)), (0, vr g (1)), (1, vr g (p0))]) (i := 2) dX7_readExchangers_6 rfl (by decide) rfl ?_
  refine w_lv [1, 2, 0] rfl ?_
  exact h
set_option maxHeartbeats 4000000 in
set_option maxRecDepth 100000 in
theorem b_Rd_readExchangers_7 {g : Ctx} {n : Nat} {a1 : Nat} {x2 : Int} {M : Mem} {Q : Int → Mem → Prop} (ha1 : isDom a1) (hx2 : InR x2) (h : (((3 ≤ x2) → Q 0 M) ∧ ((¬ (3 ≤ x2)) → K_Rd_readName g n  M (fun r2 M3 => InR r2 → WT M3 → (((r2 = 0) → Q 0 M3) ∧ ((¬ (r2 = 0)) → K_Dm_addExchanger g n a1 r2 M3 (fun r5 M6 => (r5 = 0 ∨ r5 = 1) → WT M6 → (((¬ r5 = 0) → K_Rd_take g n 44 M6 (fun r8 M9 => (r8 = 0 ∨ r8 = 1) → WT M9 → (((¬ r8 = 0) → P_Rd_readExchangers g n 7 [(0, vr g (1)), (1, vr g (a1)), (2, vi (x2 + 1))] [] M9 Q) ∧ ((r8 = 0) → Q 1 M9)))) ∧ ((r5 = 0) → Q 0 M6))))))))) : P_Rd_readExchangers g n 7 [(0, vr g (1)), (1, vr g (a1)), (2, vi (x2))] [] M Q := by
  refine w_wt (fun hw => ?_)
  refine w_iload_n dX7_readExchangers_7 2 rfl ?_
  refine w_iconst dX7_readExchangers_8 ?_
  refine w_icmp_ge (tgt := 48) dX7_readExchangers_9 (by decide) hx2 ⟨by decide, by decide⟩ (fun c1 => ?_) (fun c1 => ?_)
  · replace h := h.1 c1
    refine w_iconst dX7_readExchangers_48 ?_
    exact w_zret dX7_readExchangers_49 (Or.inl rfl) ⟨_, rfl, (Or.inl rfl), h⟩
  · replace h := h.2 c1
    refine w_aload_n dX7_readExchangers_12 0 rfl ?_
    refine c_Rd_readName dX7_readExchangers_13 q367 (by decide) (Nat.le_of_ble_eq_true rfl) h (fun r2 M3 h hr2 hwM3 => ?_)
    replace h := h hr2 hwM3
    refine w_istore_n (lv' := [(3, vi (r2)), (0, vr g (1)), (1, vr g (a1)), (2, vi (x2))]) (i := 3) dX7_readExchangers_16 rfl (by decide) rfl ?_
    refine w_iload_n dX7_readExchangers_17 0 rfl ?_
    refine w_if_eq (tgt := 29) dX7_readExchangers_18 (by decide) hr2 (fun c4 => ?_) (fun c4 => ?_)
    · replace h := h.1 c4
      refine w_iconst dX7_readExchangers_29 ?_
      exact w_zret dX7_readExchangers_30 (Or.inl rfl) ⟨_, rfl, (Or.inl rfl), h⟩
    · replace h := h.2 c4
      refine w_aload_n dX7_readExchangers_21 2 rfl ?_
      refine w_iload_n dX7_readExchangers_22 0 rfl ?_
      refine c_Dm_addExchanger dX7_readExchangers_23 q525 (by decide) (Nat.le_of_ble_eq_true rfl) ha1 h (fun r5 M6 h hr5 hwM6 => ?_)
      replace h := h hr5 hwM6
      refine w_if_ne (tgt := 31) dX7_readExchangers_26 (by decide) (inr_z hr5) (fun c7 => ?_) (fun c7 => ?_)
      · replace h := h.1 c7
        refine w_aload_n dX7_readExchangers_31 1 rfl ?_
        refine w_bipush dX7_readExchangers_32 rfl ?_
        refine c_Rd_take dX7_readExchangers_34 q387 (by decide) (Nat.le_of_ble_eq_true rfl) h (fun r8 M9 h hr8 hwM9 => ?_)
        replace h := h hr8 hwM9
        refine w_if_ne (tgt := 42) dX7_readExchangers_37 (by decide) (inr_z hr8) (fun c10 => ?_) (fun c10 => ?_)
        · replace h := h.1 c10
          refine w_iinc (lv' := [(2, vi (x2 + 1)), (3, vi (r2)), (0, vr g (1)), (1, vr g (a1))]) dX7_readExchangers_42 3 rfl (by decide) rfl ?_
          refine w_goto (tgt := 7) dX7_readExchangers_45 (by decide) ?_
          refine w_lv [2, 3, 0] rfl ?_
          exact h
        · replace h := h.2 c10
          refine w_iconst dX7_readExchangers_40 ?_
          exact w_zret dX7_readExchangers_41 (Or.inr rfl) ⟨_, rfl, (Or.inr rfl), h⟩
      · replace h := h.2 c7
        refine w_iconst dX7_readExchangers_29 ?_
        exact w_zret dX7_readExchangers_30 (Or.inl rfl) ⟨_, rfl, (Or.inl rfl), h⟩
set_option maxHeartbeats 4000000 in
set_option maxRecDepth 100000 in
theorem b_Dm_addExchanger_0 {g : Ctx} {n : Nat} {o : Nat} {p0 : Int} {M : Mem} {Q : Int → Mem → Prop} (ho : isDom o) (hp0 : InR p0) (h : ((((gI M (o) (10)) < 3) → (0 ≤ (gI M (o) (10)) ∧ (gI M (o) (10)) < 3) ∧ (InR ((gI M (o) (10)) + 1)) ∧ Q 1 (sI (sI M (o + 4) ((gI M (o) (10)).toNat) (p0)) (o) (10) ((gI M (o) (10)) + 1))) ∧ ((¬ ((gI M (o) (10)) < 3)) → Q 0 M))) : P_Dm_addExchanger g n 0 [(0, vr g (o)), (1, vi (p0))] [] M Q := by
  refine w_wt (fun hw => ?_)
  refine w_aload_n dX1_addExchanger_0 0 rfl ?_
  refine w_getI (ci := 1) (k := 10) dX1_addExchanger_1 rfl fi1 (by decide) q155 (sDom ho) rfl (bDom ho (Nat.le_add_right _ _)) ?_
  refine w_iconst dX1_addExchanger_4 ?_
  refine w_icmp_lt (tgt := 10) dX1_addExchanger_5 (by decide) (hw.int _ _) ⟨by decide, by decide⟩ (fun c1 => ?_) (fun c1 => ?_)
  · replace h := h.1 c1
    refine w_aload_n dX1_addExchanger_10 0 rfl ?_
    refine w_getS (ci := 1) (k := 9) dX1_addExchanger_11 rfl fi1 (by decide) q153 (sDom ho) rfl (bDom ho (Nat.le_add_right _ _)) ?_
    refine w_aload_n dX1_addExchanger_14 0 rfl ?_
    refine w_getI (ci := 1) (k := 10) dX1_addExchanger_15 rfl fi1 (by decide) q155 (sDom ho) rfl (bDom ho (Nat.le_add_right _ _)) ?_
    refine w_iload_n dX1_addExchanger_18 1 rfl ?_
    obtain ⟨i2, h⟩ := h
    refine w_iast dX1_addExchanger_19 (sDom4 ho) (bDom4 ho (Nat.le_add_right _ _)) (by decide) i2.1 i2.2 hp0 ?_
    have hw3 : WT (sI M (o + 4) ((gI M (o) (10)).toNat) (p0)) := hw.sI hp0
    refine w_aload_n dX1_addExchanger_20 0 rfl ?_
    refine w_dup dX1_addExchanger_21 rfl ?_
    refine w_getI (ci := 1) (k := 10) dX1_addExchanger_22 rfl fi1 (by decide) q155 (sDom ho) rfl (bDom ho (Nat.le_add_right _ _)) ?_
    refine w_top (congrArg vi ((gI_ne _ _ _ _ _ _ (by omega)).trans rfl)) ?_
    have u4 : InR (gI M (o) (10)) := hw.int _ _
    refine w_iconst dX1_addExchanger_25 ?_
    refine w_iadd dX1_addExchanger_26 ?_
    obtain ⟨i5, h⟩ := h
    refine w_putI (ci := 1) (k := 10) dX1_addExchanger_27 rfl fi1 (by decide) q155 tyX1 tyX1_ok nmX1 rfl rfl rfl i5 (sDom ho) rfl (bDom ho (Nat.le_add_right _ _)) ?_
    have hw6 : WT (sI (sI M (o + 4) ((gI M (o) (10)).toNat) (p0)) (o) (10) ((gI M (o) (10)) + 1)) := hw3.sI i5
    refine w_iconst dX1_addExchanger_30 ?_
    exact w_zret dX1_addExchanger_31 (Or.inr rfl) ⟨_, rfl, (Or.inr rfl), h⟩
  · replace h := h.2 c1
    refine w_iconst dX1_addExchanger_8 ?_
    exact w_zret dX1_addExchanger_9 (Or.inl rfl) ⟨_, rfl, (Or.inl rfl), h⟩
set_option maxHeartbeats 4000000 in
set_option maxRecDepth 100000 in
theorem b_Rd_empty_0 {g : Ctx} {n : Nat}  {M : Mem} {Q : Mem → Prop}  (h : Q (sI M (1) (1) (0))) : P_Rd_empty g n 0 [(0, vr g (1))] [] M Q := by
  refine w_wt (fun hw => ?_)
  refine w_aload_n dX7_empty_0 0 rfl ?_
  refine w_iconst dX7_empty_1 ?_
  refine w_putI (ci := 7) (k := 1) dX7_empty_2 rfl fi7 (by decide) q49 tyX7 tyX7_ok nmX7 rfl rfl rfl ⟨by decide, by decide⟩ s1 rfl l1 ?_
  have hw1 : WT (sI M (1) (1) (0)) := hw.sI ⟨by decide, by decide⟩
  exact w_vret dX7_empty_5 ⟨rfl, h⟩
set_option maxHeartbeats 4000000 in
set_option maxRecDepth 100000 in
theorem b_Sr_write_0 {g : Ctx} {n : Nat} {p0 : Int} {M : Mem} {Q : Int → Mem → Prop} (hp0 : InR p0) (h : (((p0 < 32) → Q (-1) M) ∧ ((¬ (p0 < 32)) → (((p0 ≤ 126) → (0 ≤ p0 ∧ p0 < 65536) ∧ K_Rd_append g n p0 M (fun r4 M5 => (r4 = 0 ∨ r4 = 1) → WT M5 → (((r4 = 0) → Q (-3) M5) ∧ ((¬ (r4 = 0)) → Q (gI M5 (1) (1)) M5)))) ∧ ((¬ (p0 ≤ 126)) → Q (-1) M))))) : P_Sr_write g n 0 [(0, vr g (0)), (1, vi (p0))] [] M Q := by
  refine w_wt (fun hw => ?_)
  refine w_iload_n dX10_write_0 1 rfl ?_
  refine w_bipush dX10_write_1 rfl ?_
  refine w_icmp_lt (tgt := 12) dX10_write_3 (by decide) hp0 ⟨by decide, by decide⟩ (fun c1 => ?_) (fun c1 => ?_)
  · replace h := h.1 c1
    refine w_iconst dX10_write_12 ?_
    exact w_iret dX10_write_13 ⟨_, rfl, ⟨by decide, by decide⟩, h⟩
  · replace h := h.2 c1
    refine w_iload_n dX10_write_6 1 rfl ?_
    refine w_bipush dX10_write_7 rfl ?_
    refine w_icmp_le (tgt := 14) dX10_write_9 (by decide) hp0 ⟨by decide, by decide⟩ (fun c2 => ?_) (fun c2 => ?_)
    · replace h := h.1 c2
      refine w_aload_n dX10_write_14 0 rfl ?_
      refine w_getS (ci := 10) (k := 0) dX10_write_15 rfl fi10 (by decide) q533 s0 rfl l0 ?_
      refine w_iload_n dX10_write_18 1 rfl ?_
      obtain ⟨i3, h⟩ := h
      refine w_i2c dX10_write_19 i3.1 i3.2 ?_
      refine c_Rd_append dX10_write_20 q347 (by decide) (Nat.le_of_ble_eq_true rfl) h (fun r4 M5 h hr4 hwM5 => ?_)
      replace h := h hr4 hwM5
      refine w_if_eq (tgt := 36) dX10_write_23 (by decide) (inr_z hr4) (fun c6 => ?_) (fun c6 => ?_)
      · replace h := h.1 c6
        refine w_bipush dX10_write_36 rfl ?_
        exact w_iret dX10_write_38 ⟨_, rfl, ⟨by decide, by decide⟩, h⟩
      · replace h := h.2 c6
        refine w_aload_n dX10_write_26 0 rfl ?_
        refine w_getS (ci := 10) (k := 0) dX10_write_27 rfl fi10 (by decide) q533 s0 rfl l0 ?_
        refine w_getIN (ci := 7) (k := 1) dX10_write_30 rfl fi7 (by decide) qn50 s1 rfl l1 ?_
        refine w_goto (tgt := 38) dX10_write_33 (by decide) ?_
        exact w_iret dX10_write_38 ⟨_, rfl, (hwM5.int _ _), h⟩
    · replace h := h.2 c2
      refine w_iconst dX10_write_12 ?_
      exact w_iret dX10_write_13 ⟨_, rfl, ⟨by decide, by decide⟩, h⟩
set_option maxHeartbeats 4000000 in
set_option maxRecDepth 100000 in
theorem b_Sr_wipe_0 {g : Ctx} {n : Nat}  {M : Mem} {Q : Int → Mem → Prop}  (h : K_Rd_empty g n  M (fun M2 => WT M2 → Q (gI M (1) (1)) M2)) : P_Sr_wipe g n 0 [(0, vr g (0))] [] M Q := by
  refine w_wt (fun hw => ?_)
  refine w_aload_n dX10_wipe_0 0 rfl ?_
  refine w_getS (ci := 10) (k := 0) dX10_wipe_1 rfl fi10 (by decide) q533 s0 rfl l0 ?_
  refine w_getIN (ci := 7) (k := 1) dX10_wipe_4 rfl fi7 (by decide) qn50 s1 rfl l1 ?_
  refine w_istore_n (lv' := [(1, vi (gI M (1) (1))), (0, vr g (0))]) (i := 1) dX10_wipe_7 rfl (by decide) rfl ?_
  refine w_aload_n dX10_wipe_8 1 rfl ?_
  refine w_getS (ci := 10) (k := 0) dX10_wipe_9 rfl fi10 (by decide) q533 s0 rfl l0 ?_
  refine c_Rd_empty dX10_wipe_12 q529 (by decide) (Nat.le_of_ble_eq_true rfl) h (fun M2 h hwM2 => ?_)
  replace h := h hwM2
  refine w_iload_n dX10_wipe_15 0 rfl ?_
  exact w_iret dX10_wipe_16 ⟨_, rfl, (hw.int _ _), h⟩
set_option maxHeartbeats 4000000 in
set_option maxRecDepth 100000 in
theorem b_Sr_fault_0 {g : Ctx} {n : Nat}  {M : Mem} {Q : Int → Mem → Prop}  (h : (isRec (gP M (0) (2))) ∧ K_Rd_readAll g n (gP M (0) (2)) M (fun r2 M3 => InR r2 → WT M3 → Q r2 M3)) : P_Sr_fault g n 0 [(0, vr g (0))] [] M Q := by
  refine w_wt (fun hw => ?_)
  refine w_aload_n dX10_fault_0 0 rfl ?_
  refine w_getS (ci := 10) (k := 0) dX10_fault_1 rfl fi10 (by decide) q533 s0 rfl l0 ?_
  refine w_aload_n dX10_fault_4 0 rfl ?_
  refine w_getQ (ci := 10) (k := 2) dX10_fault_5 rfl fi10 (by decide) q535 s0 rfl l0 ?_
  obtain ⟨t1, h⟩ := h
  refine w_top (vq_ne (nRec t1)) ?_
  refine c_Rd_readAll dX10_fault_8 q351 (by decide) (Nat.le_of_ble_eq_true rfl) h (fun r2 M3 h hr2 hwM3 => ?_)
  replace h := h hr2 hwM3
  exact w_iret dX10_fault_11 ⟨_, rfl, hr2, h⟩
set_option maxHeartbeats 4000000 in
set_option maxRecDepth 100000 in
theorem b_Sr_lay_0 {g : Ctx} {n : Nat}  {M : Mem} {Q : Int → Mem → Prop}  (h : (isRec (gP M (0) (2))) ∧ K_Rd_readAll g n (gP M (0) (2)) M (fun r2 M3 => InR r2 → WT M3 → (((¬ r2 = (-4)) → Q (-2) M3) ∧ ((r2 = (-4)) → (isRec (gP M3 (0) (2))) ∧ K_Rc_policies g n (gP M3 (0) (2)) M3 (fun r6 M7 => InR r6 → WT M7 → (((¬ r6 = 0) → (isRec (gP M7 (0) (1))) ∧ (isRec (gP M7 (0) (2))) ∧ K_Ks_clear g n  (sP (sP M7 (0) (1) (gP M7 (0) (2))) (0) (2) (gP M7 (0) (1))) (fun M14 => WT M14 → K_Hi_clear g n  M14 (fun M16 => WT M16 → (isRec (gP M16 (0) (1))) ∧ Q (gI M16 (gP M16 (0) (1)) (1)) M16))) ∧ ((r6 = 0) → Q (-2) M7))))))) : P_Sr_lay g n 0 [(0, vr g (0))] [] M Q := by
  refine w_wt (fun hw => ?_)
  refine w_aload_n dX10_lay_0 0 rfl ?_
  refine w_getS (ci := 10) (k := 0) dX10_lay_1 rfl fi10 (by decide) q533 s0 rfl l0 ?_
  refine w_aload_n dX10_lay_4 0 rfl ?_
  refine w_getQ (ci := 10) (k := 2) dX10_lay_5 rfl fi10 (by decide) q535 s0 rfl l0 ?_
  obtain ⟨t1, h⟩ := h
  refine w_top (vq_ne (nRec t1)) ?_
  refine c_Rd_readAll dX10_lay_8 q351 (by decide) (Nat.le_of_ble_eq_true rfl) h (fun r2 M3 h hr2 hwM3 => ?_)
  replace h := h hr2 hwM3
  refine w_bipush dX10_lay_11 rfl ?_
  refine w_icmp_ne (tgt := 26) dX10_lay_13 (by decide) hr2 ⟨by decide, by decide⟩ (fun c4 => ?_) (fun c4 => ?_)
  · replace h := h.1 c4
    refine w_bipush dX10_lay_26 rfl ?_
    exact w_iret dX10_lay_28 ⟨_, rfl, ⟨by decide, by decide⟩, h⟩
  · replace h := h.2 c4
    refine w_aload_n dX10_lay_16 0 rfl ?_
    refine w_getQ (ci := 10) (k := 2) dX10_lay_17 rfl fi10 (by decide) q535 s0 rfl l0 ?_
    obtain ⟨t5, h⟩ := h
    refine w_top (vq_ne (nRec t5)) ?_
    refine c_Rc_policies dX10_lay_20 q569 (by decide) (Nat.le_of_ble_eq_true rfl) t5 h (fun r6 M7 h hr6 hwM7 => ?_)
    replace h := h hr6 hwM7
    refine w_if_ne (tgt := 29) dX10_lay_23 (by decide) hr6 (fun c8 => ?_) (fun c8 => ?_)
    · replace h := h.1 c8
      refine w_aload_n dX10_lay_29 0 rfl ?_
      refine w_getQ (ci := 10) (k := 1) dX10_lay_30 rfl fi10 (by decide) q534 s0 rfl l0 ?_
      obtain ⟨t9, h⟩ := h
      refine w_top (vq_ne (nRec t9)) ?_
      refine w_astore_n (lv' := [(1, vr g (gP M7 (0) (1))), (0, vr g (0))]) (i := 1) dX10_lay_33 rfl (by decide) rfl ?_
      refine w_aload_n dX10_lay_34 1 rfl ?_
      refine w_aload_n dX10_lay_35 1 rfl ?_
      refine w_getQ (ci := 10) (k := 2) dX10_lay_36 rfl fi10 (by decide) q535 s0 rfl l0 ?_
      obtain ⟨t10, h⟩ := h
      refine w_top (vq_ne (nRec t10)) ?_
      refine w_top (vq_ne (nRec t10)).symm ?_
      refine w_putQ (ci := 10) (k := 1) dX10_lay_39 rfl fi10 (by decide) q534 tyX10 tyX10_ok nmX10 rfl ⟨_, rfl⟩ (fun hw => hw.sPfld (by decide)) s0 rfl l0 ?_
      have hw11 : WT (sP M7 (0) (1) (gP M7 (0) (2))) := hwM7.sPfld (by decide)
      refine w_aload_n dX10_lay_42 1 rfl ?_
      refine w_aload_n dX10_lay_43 0 rfl ?_
      refine w_top (vq_ne (nRec t9)).symm ?_
      refine w_putQ (ci := 10) (k := 2) dX10_lay_44 rfl fi10 (by decide) q535 tyX10 tyX10_ok nmX10 rfl ⟨_, rfl⟩ (fun hw => hw.sPfld (by decide)) s0 rfl l0 ?_
      have hw12 : WT (sP (sP M7 (0) (1) (gP M7 (0) (2))) (0) (2) (gP M7 (0) (1))) := hw11.sPfld (by decide)
      refine w_aload_n dX10_lay_47 1 rfl ?_
      refine w_getS (ci := 10) (k := 4) dX10_lay_48 rfl fi10 (by decide) q537 s0 rfl l0 ?_
      refine c_Ks_clear dX10_lay_51 q573 (by decide) (Nat.le_of_ble_eq_true rfl) h (fun M14 h hwM14 => ?_)
      replace h := h hwM14
      refine w_aload_n dX10_lay_54 1 rfl ?_
      refine w_getS (ci := 10) (k := 5) dX10_lay_55 rfl fi10 (by decide) q538 s0 rfl l0 ?_
      refine c_Hi_clear dX10_lay_58 q577 (by decide) (Nat.le_of_ble_eq_true rfl) h (fun M16 h hwM16 => ?_)
      replace h := h hwM16
      refine w_aload_n dX10_lay_61 1 rfl ?_
      refine w_getQ (ci := 10) (k := 1) dX10_lay_62 rfl fi10 (by decide) q534 s0 rfl l0 ?_
      obtain ⟨t17, h⟩ := h
      refine w_top (vq_ne (nRec t17)) ?_
      refine w_getIN (ci := 8) (k := 1) dX10_lay_65 rfl fi8 (by decide) qn184 (sRec t17) rfl (bRec t17 (Nat.le_add_right _ _)) ?_
      exact w_iret dX10_lay_68 ⟨_, rfl, (hwM16.int _ _), h⟩
    · replace h := h.2 c8
      refine w_bipush dX10_lay_26 rfl ?_
      exact w_iret dX10_lay_28 ⟨_, rfl, ⟨by decide, by decide⟩, h⟩
set_option maxHeartbeats 4000000 in
set_option maxRecDepth 100000 in
theorem b_Rc_policies_0 {g : Ctx} {n : Nat} {o : Nat} {M : Mem} {Q : Int → Mem → Prop} (ho : isRec o) (h : P_Rc_policies g n 4 [(0, vr g (o)), (1, vi (0)), (2, vi (0))] [] M Q) : P_Rc_policies g n 0 [(0, vr g (o))] [] M Q := by
  refine w_wt (fun hw => ?_)
  refine w_iconst dX8_policies_0 ?_
  refine w_istore_n (lv' := [(1, vi (0)), (0, vr g (o))]) (i := 1) dX8_policies_1 rfl (by decide) rfl ?_
  refine w_iconst dX8_policies_2 ?_
  refine w_istore_n (lv' := [(2, vi (0)), (1, vi (0)), (0, vr g (o))]) (i := 2) dX8_policies_3 rfl (by decide) rfl ?_
  refine w_lv [2, 1, 0] rfl ?_
  exact h
set_option maxHeartbeats 4000000 in
set_option maxRecDepth 100000 in
theorem b_Rc_policies_4 {g : Ctx} {n : Nat} {a0 : Nat} {x1 : Int} {x2 : Int} {M : Mem} {Q : Int → Mem → Prop} (ha0 : isRec a0) (hx1 : InR x1) (hx2 : InR x2) (h : ((((gI M (a0) (1)) ≤ x2) → Q x1 M) ∧ ((¬ ((gI M (a0) (1)) ≤ x2)) → (0 ≤ x2 ∧ x2 < 12) ∧ ((((gI M (gP M (a0 + 1) (x2.toNat)) (3)) = 0) → P_Rc_policies g n 4 [(0, vr g (a0)), (1, vi (x1 + 0)), (2, vi (x2 + 1))] [] M Q) ∧ ((¬ ((gI M (gP M (a0 + 1) (x2.toNat)) (3)) = 0)) → P_Rc_policies g n 4 [(0, vr g (a0)), (1, vi (x1 + 1)), (2, vi (x2 + 1))] [] M Q))))) : P_Rc_policies g n 4 [(0, vr g (a0)), (1, vi (x1)), (2, vi (x2))] [] M Q := by
  refine w_wt (fun hw => ?_)
  refine w_iload_n dX8_policies_4 2 rfl ?_
  refine w_aload_n dX8_policies_5 0 rfl ?_
  refine w_getI (ci := 8) (k := 1) dX8_policies_6 rfl fi8 (by decide) q183 (sRec ha0) rfl (bRec ha0 (Nat.le_add_right _ _)) ?_
  refine w_icmp_ge (tgt := 38) dX8_policies_9 (by decide) hx2 (hw.int _ _) (fun c1 => ?_) (fun c1 => ?_)
  · replace h := h.1 c1
    refine w_iload_n dX8_policies_38 1 rfl ?_
    exact w_iret dX8_policies_39 ⟨_, rfl, hx1, h⟩
  · replace h := h.2 c1
    refine w_iload_n dX8_policies_12 1 rfl ?_
    refine w_aload_n dX8_policies_13 0 rfl ?_
    refine w_getS (ci := 8) (k := 0) dX8_policies_14 rfl fi8 (by decide) q182 (sRec ha0) rfl (bRec ha0 (Nat.le_add_right _ _)) ?_
    refine w_iload_n dX8_policies_17 2 rfl ?_
    obtain ⟨i2, h⟩ := h
    have t3 : isDom (gP M (a0 + 1) (x2.toNat)) := (hw.dom ha0 (by omega))
    refine w_aald (t := 3) dX8_policies_18 (sRec1 ha0) (by decide) rfl (bRec1 ha0 (Nat.le_add_right _ _)) (by decide) i2.1 i2.2 (nDom t3) ?_
    refine w_getIN (ci := 1) (k := 3) dX8_policies_19 rfl fi1 (by decide) qn132 (sDom t3) rfl (bDom t3 (Nat.le_add_right _ _)) ?_
    refine w_if_eq (tgt := 29) dX8_policies_22 (by decide) (hw.int _ _) (fun c4 => ?_) (fun c4 => ?_)
    · replace h := h.1 c4
      refine w_iconst dX8_policies_29 ?_
      refine w_iadd dX8_policies_30 ?_
      refine w_istore_n (lv' := [(1, vi (x1 + 0)), (0, vr g (a0)), (2, vi (x2))]) (i := 1) dX8_policies_31 rfl (by decide) rfl ?_
      refine w_iinc (lv' := [(2, vi (x2 + 1)), (1, vi (x1 + 0)), (0, vr g (a0))]) dX8_policies_32 2 rfl (by decide) rfl ?_
      refine w_goto (tgt := 4) dX8_policies_35 (by decide) ?_
      refine w_lv [2, 1, 0] rfl ?_
      exact h
    · replace h := h.2 c4
      refine w_iconst dX8_policies_25 ?_
      refine w_goto (tgt := 30) dX8_policies_26 (by decide) ?_
      refine w_iadd dX8_policies_30 ?_
      refine w_istore_n (lv' := [(1, vi (x1 + 1)), (0, vr g (a0)), (2, vi (x2))]) (i := 1) dX8_policies_31 rfl (by decide) rfl ?_
      refine w_iinc (lv' := [(2, vi (x2 + 1)), (1, vi (x1 + 1)), (0, vr g (a0))]) dX8_policies_32 2 rfl (by decide) rfl ?_
      refine w_goto (tgt := 4) dX8_policies_35 (by decide) ?_
      refine w_lv [2, 1, 0] rfl ?_
      exact h
set_option maxHeartbeats 4000000 in
set_option maxRecDepth 100000 in
theorem b_Ks_clear_0 {g : Ctx} {n : Nat}  {M : Mem} {Q : Mem → Prop}  (h : Q (sI M (260) (1) (0))) : P_Ks_clear g n 0 [(0, vr g (260))] [] M Q := by
  refine w_wt (fun hw => ?_)
  refine w_aload_n dX5_clear_0 0 rfl ?_
  refine w_iconst dX5_clear_1 ?_
  refine w_putI (ci := 5) (k := 1) dX5_clear_2 rfl fi5 (by decide) q257 tyX5 tyX5_ok nmX5 rfl rfl rfl ⟨by decide, by decide⟩ s260 rfl l260 ?_
  have hw1 : WT (sI M (260) (1) (0)) := hw.sI ⟨by decide, by decide⟩
  exact w_vret dX5_clear_5 ⟨rfl, h⟩
set_option maxHeartbeats 4000000 in
set_option maxRecDepth 100000 in
theorem b_Hi_clear_0 {g : Ctx} {n : Nat}  {M : Mem} {Q : Mem → Prop}  (h : Q (sI M (270) (1) (0))) : P_Hi_clear g n 0 [(0, vr g (270))] [] M Q := by
  refine w_wt (fun hw => ?_)
  refine w_aload_n dX3_clear_0 0 rfl ?_
  refine w_iconst dX3_clear_1 ?_
  refine w_putI (ci := 3) (k := 1) dX3_clear_2 rfl fi3 (by decide) q291 tyX3 tyX3_ok nmX3 rfl rfl rfl ⟨by decide, by decide⟩ s270 rfl l270 ?_
  have hw1 : WT (sI M (270) (1) (0)) := hw.sI ⟨by decide, by decide⟩
  exact w_vret dX3_clear_5 ⟨rfl, h⟩
set_option maxHeartbeats 4000000 in
set_option maxRecDepth 100000 in
theorem b_Sr_named_0 {g : Ctx} {n : Nat} {p0 : Int} {M : Mem} {Q : Int → Mem → Prop} (hp0 : InR p0) (h : (((p0 < 0) → Q (-1) M) ∧ ((¬ (p0 < 0)) → (((p0 ≤ 2) → K_Rd_readWholeAsName g n  M (fun r3 M4 => InR r3 → WT M4 → (((¬ r3 = 0) → (isRec (gP M4 (0) (1))) ∧ K_Rc_find g n (gP M4 (0) (1)) r3 M4 (fun r7 M8 => InR r7 → WT M8 → (((p0 = 0) → (((¬ r7 = (-1)) → Q r7 M8) ∧ ((r7 = (-1)) → Q (-4) M8))) ∧ ((¬ (p0 = 0)) → (((r7 = (-1)) → (isRec (gP M8 (0) (1))) ∧ K_Rc_firstNotBefore g n (gP M8 (0) (1)) r3 M8 (fun r13 M14 => InR r13 → WT M14 → (((¬ p0 = 1) → (isRec (gP M14 (0) (1))) ∧ ((((gI M14 (gP M14 (0) (1)) (1)) ≤ r13) → Q (-4) M14) ∧ ((¬ ((gI M14 (gP M14 (0) (1)) (1)) ≤ r13)) → Q r13 M14))) ∧ ((p0 = 1) → (((r13 ≤ 0) → Q (-4) M14) ∧ ((¬ (r13 ≤ 0)) → (InR (r13 - 1)) ∧ Q (r13 - 1) M14)))))) ∧ ((¬ (r7 = (-1))) → (((¬ r7 = (-1)) → Q r7 M8) ∧ ((r7 = (-1)) → Q (-4) M8)))))))) ∧ ((r3 = 0) → Q (-2) M4)))) ∧ ((¬ (p0 ≤ 2)) → Q (-1) M))))) : P_Sr_named g n 0 [(0, vr g (0)), (1, vi (p0))] [] M Q := by
  refine w_wt (fun hw => ?_)
  refine w_iload_n dX10_named_0 1 rfl ?_
  refine w_if_lt (tgt := 9) dX10_named_1 (by decide) hp0 (fun c1 => ?_) (fun c1 => ?_)
  · replace h := h.1 c1
    refine w_iconst dX10_named_9 ?_
    exact w_iret dX10_named_10 ⟨_, rfl, ⟨by decide, by decide⟩, h⟩
  · replace h := h.2 c1
    refine w_iload_n dX10_named_4 1 rfl ?_
    refine w_iconst dX10_named_5 ?_
    refine w_icmp_le (tgt := 11) dX10_named_6 (by decide) hp0 ⟨by decide, by decide⟩ (fun c2 => ?_) (fun c2 => ?_)
    · replace h := h.1 c2
      refine w_aload_n dX10_named_11 0 rfl ?_
      refine w_getS (ci := 10) (k := 0) dX10_named_12 rfl fi10 (by decide) q533 s0 rfl l0 ?_
      refine c_Rd_readWholeAsName dX10_named_15 q585 (by decide) (Nat.le_of_ble_eq_true rfl) h (fun r3 M4 h hr3 hwM4 => ?_)
      replace h := h hr3 hwM4
      refine w_istore_n (lv' := [(2, vi (r3)), (0, vr g (0)), (1, vi (p0))]) (i := 2) dX10_named_18 rfl (by decide) rfl ?_
      refine w_iload_n dX10_named_19 0 rfl ?_
      refine w_if_ne (tgt := 26) dX10_named_20 (by decide) hr3 (fun c5 => ?_) (fun c5 => ?_)
      · replace h := h.1 c5
        refine w_aload_n dX10_named_26 1 rfl ?_
        refine w_getQ (ci := 10) (k := 1) dX10_named_27 rfl fi10 (by decide) q534 s0 rfl l0 ?_
        obtain ⟨t6, h⟩ := h
        refine w_top (vq_ne (nRec t6)) ?_
        refine w_iload_n dX10_named_30 0 rfl ?_
        refine c_Rc_find dX10_named_31 q589 (by decide) (Nat.le_of_ble_eq_true rfl) t6 h (fun r7 M8 h hr7 hwM8 => ?_)
        replace h := h hr7 hwM8
        refine w_istore_n (lv' := [(3, vi (r7)), (2, vi (r3)), (0, vr g (0)), (1, vi (p0))]) (i := 3) dX10_named_34 rfl (by decide) rfl ?_
        refine w_iload_n dX10_named_35 3 rfl ?_
        refine w_if_eq (tgt := 44) dX10_named_36 (by decide) hp0 (fun c9 => ?_) (fun c9 => ?_)
        · replace h := h.1 c9
          refine w_iload_n dX10_named_44 0 rfl ?_
          refine w_iconst dX10_named_45 ?_
          refine w_icmp_ne (tgt := 54) dX10_named_46 (by decide) hr7 ⟨by decide, by decide⟩ (fun c10 => ?_) (fun c10 => ?_)
          · replace h := h.1 c10
            refine w_iload_n dX10_named_54 0 rfl ?_
            exact w_iret dX10_named_55 ⟨_, rfl, hr7, h⟩
          · replace h := h.2 c10
            refine w_bipush dX10_named_49 rfl ?_
            refine w_goto (tgt := 55) dX10_named_51 (by decide) ?_
            exact w_iret dX10_named_55 ⟨_, rfl, ⟨by decide, by decide⟩, h⟩
        · replace h := h.2 c9
          refine w_iload_n dX10_named_39 0 rfl ?_
          refine w_iconst dX10_named_40 ?_
          refine w_icmp_eq (tgt := 56) dX10_named_41 (by decide) hr7 ⟨by decide, by decide⟩ (fun c11 => ?_) (fun c11 => ?_)
          · replace h := h.1 c11
            refine w_aload_n dX10_named_56 2 rfl ?_
            refine w_getQ (ci := 10) (k := 1) dX10_named_57 rfl fi10 (by decide) q534 s0 rfl l0 ?_
            obtain ⟨t12, h⟩ := h
            refine w_top (vq_ne (nRec t12)) ?_
            refine w_iload_n dX10_named_60 1 rfl ?_
            refine c_Rc_firstNotBefore dX10_named_61 q590 (by decide) (Nat.le_of_ble_eq_true rfl) t12 h (fun r13 M14 h hr13 hwM14 => ?_)
            replace h := h hr13 hwM14
            refine w_istore (lv' := [(4, vi (r13)), (3, vi (r7)), (2, vi (r3)), (0, vr g (0)), (1, vi (p0))]) dX10_named_64 (by decide) rfl ?_
            refine w_iload_n dX10_named_66 4 rfl ?_
            refine w_iconst dX10_named_67 ?_
            refine w_icmp_ne (tgt := 86) dX10_named_68 (by decide) hp0 ⟨by decide, by decide⟩ (fun c15 => ?_) (fun c15 => ?_)
            · replace h := h.1 c15
              refine w_iload dX10_named_86 0 rfl ?_
              refine w_aload_n dX10_named_88 3 rfl ?_
              refine w_getQ (ci := 10) (k := 1) dX10_named_89 rfl fi10 (by decide) q534 s0 rfl l0 ?_
              obtain ⟨t16, h⟩ := h
              refine w_top (vq_ne (nRec t16)) ?_
              refine w_getIN (ci := 8) (k := 1) dX10_named_92 rfl fi8 (by decide) qn184 (sRec t16) rfl (bRec t16 (Nat.le_add_right _ _)) ?_
              refine w_icmp_ge (tgt := 103) dX10_named_95 (by decide) hr13 (hwM14.int _ _) (fun c17 => ?_) (fun c17 => ?_)
              · replace h := h.1 c17
                refine w_bipush dX10_named_103 rfl ?_
                exact w_iret dX10_named_105 ⟨_, rfl, ⟨by decide, by decide⟩, h⟩
              · replace h := h.2 c17
                refine w_iload dX10_named_98 0 rfl ?_
                refine w_goto (tgt := 105) dX10_named_100 (by decide) ?_
                exact w_iret dX10_named_105 ⟨_, rfl, hr13, h⟩
            · replace h := h.2 c15
              refine w_iload dX10_named_71 0 rfl ?_
              refine w_if_le (tgt := 83) dX10_named_73 (by decide) hr13 (fun c18 => ?_) (fun c18 => ?_)
              · replace h := h.1 c18
                refine w_bipush dX10_named_83 rfl ?_
                exact w_iret dX10_named_85 ⟨_, rfl, ⟨by decide, by decide⟩, h⟩
              · replace h := h.2 c18
                refine w_iload dX10_named_76 0 rfl ?_
                refine w_iconst dX10_named_78 ?_
                refine w_isub dX10_named_79 ?_
                refine w_goto (tgt := 85) dX10_named_80 (by decide) ?_
                obtain ⟨i19, h⟩ := h
                exact w_iret dX10_named_85 ⟨_, rfl, i19, h⟩
          · replace h := h.2 c11
            refine w_iload_n dX10_named_44 0 rfl ?_
            refine w_iconst dX10_named_45 ?_
            refine w_icmp_ne (tgt := 54) dX10_named_46 (by decide) hr7 ⟨by decide, by decide⟩ (fun c20 => ?_) (fun c20 => ?_)
            · replace h := h.1 c20
              refine w_iload_n dX10_named_54 0 rfl ?_
              exact w_iret dX10_named_55 ⟨_, rfl, hr7, h⟩
            · replace h := h.2 c20
              refine w_bipush dX10_named_49 rfl ?_
              refine w_goto (tgt := 55) dX10_named_51 (by decide) ?_
              exact w_iret dX10_named_55 ⟨_, rfl, ⟨by decide, by decide⟩, h⟩
      · replace h := h.2 c5
        refine w_bipush dX10_named_23 rfl ?_
        exact w_iret dX10_named_25 ⟨_, rfl, ⟨by decide, by decide⟩, h⟩
    · replace h := h.2 c2
      refine w_iconst dX10_named_9 ?_
      exact w_iret dX10_named_10 ⟨_, rfl, ⟨by decide, by decide⟩, h⟩
set_option maxHeartbeats 4000000 in
set_option maxRecDepth 100000 in
theorem b_Rd_readWholeAsName_0 {g : Ctx} {n : Nat}  {M : Mem} {Q : Int → Mem → Prop}  (h : K_Rd_readName g n  (sI M (1) (2) (0)) (fun r2 M3 => InR r2 → WT M3 → (((¬ (gI M3 (1) (2)) = (gI M3 (1) (1))) → Q 0 M3) ∧ (((gI M3 (1) (2)) = (gI M3 (1) (1))) → Q r2 M3)))) : P_Rd_readWholeAsName g n 0 [(0, vr g (1))] [] M Q := by
  refine w_wt (fun hw => ?_)
  refine w_aload_n dX7_readWholeAsName_0 0 rfl ?_
  refine w_iconst dX7_readWholeAsName_1 ?_
  refine w_putI (ci := 7) (k := 2) dX7_readWholeAsName_2 rfl fi7 (by decide) q51 tyX7 tyX7_ok nmX7 rfl rfl rfl ⟨by decide, by decide⟩ s1 rfl l1 ?_
  have hw1 : WT (sI M (1) (2) (0)) := hw.sI ⟨by decide, by decide⟩
  refine w_aload_n dX7_readWholeAsName_5 0 rfl ?_
  refine c_Rd_readName dX7_readWholeAsName_6 q367 (by decide) (Nat.le_of_ble_eq_true rfl) h (fun r2 M3 h hr2 hwM3 => ?_)
  replace h := h hr2 hwM3
  refine w_istore_n (lv' := [(1, vi (r2)), (0, vr g (1))]) (i := 1) dX7_readWholeAsName_9 rfl (by decide) rfl ?_
  refine w_aload_n dX7_readWholeAsName_10 1 rfl ?_
  refine w_getI (ci := 7) (k := 2) dX7_readWholeAsName_11 rfl fi7 (by decide) q51 s1 rfl l1 ?_
  refine w_aload_n dX7_readWholeAsName_14 1 rfl ?_
  refine w_getI (ci := 7) (k := 1) dX7_readWholeAsName_15 rfl fi7 (by decide) q49 s1 rfl l1 ?_
  refine w_icmp_ne (tgt := 25) dX7_readWholeAsName_18 (by decide) (hwM3.int _ _) (hwM3.int _ _) (fun c4 => ?_) (fun c4 => ?_)
  · replace h := h.1 c4
    refine w_iconst dX7_readWholeAsName_25 ?_
    exact w_iret dX7_readWholeAsName_26 ⟨_, rfl, ⟨by decide, by decide⟩, h⟩
  · replace h := h.2 c4
    refine w_iload_n dX7_readWholeAsName_21 0 rfl ?_
    refine w_goto (tgt := 26) dX7_readWholeAsName_22 (by decide) ?_
    exact w_iret dX7_readWholeAsName_26 ⟨_, rfl, hr2, h⟩
set_option maxHeartbeats 4000000 in
set_option maxRecDepth 100000 in
theorem b_Sr_check_0 {g : Ctx} {n : Nat} {p0 : Int} {p1 : Int} {p2 : Int} {M : Mem} {Q : Int → Mem → Prop} (hp0 : InR p0) (hp1 : InR p1) (hp2 : InR p2) (h : K_Sr_isKnown g n p0 M (fun r1 M2 => (r1 = 0 ∨ r1 = 1) → WT M2 → (((r1 = 0) → Q (-1) M2) ∧ ((¬ (r1 = 0)) → K_Sr_isAddress g n p1 M2 (fun r4 M5 => (r4 = 0 ∨ r4 = 1) → WT M5 → (((r4 = 0) → Q (-1) M5) ∧ ((¬ (r4 = 0)) → K_Sr_isLetter g n p2 M5 (fun r7 M8 => (r7 = 0 ∨ r7 = 1) → WT M8 → (((¬ r7 = 0) → (isRec (gP M8 (0) (1))) ∧ K_Ev_evaluate g n (gP M8 (0) (1)) p0 p1 p2 M8 (fun r11 M12 => InR r11 → WT M12 → K_Ks_keep g n p0 r11 M12 (fun M14 => WT M14 → Q r11 M14))) ∧ ((r7 = 0) → Q (-1) M8)))))))))) : P_Sr_check g n 0 [(0, vr g (0)), (1, vi (p0)), (2, vi (p1)), (3, vi (p2))] [] M Q := by
  refine w_wt (fun hw => ?_)
  refine w_aload_n dX10_check_0 0 rfl ?_
  refine w_iload_n dX10_check_1 1 rfl ?_
  refine c_Sr_isKnown dX10_check_2 q595 (by decide) (Nat.le_of_ble_eq_true rfl) h (fun r1 M2 h hr1 hwM2 => ?_)
  replace h := h hr1 hwM2
  refine w_if_eq (tgt := 22) dX10_check_5 (by decide) (inr_z hr1) (fun c3 => ?_) (fun c3 => ?_)
  · replace h := h.1 c3
    refine w_iconst dX10_check_22 ?_
    exact w_iret dX10_check_23 ⟨_, rfl, ⟨by decide, by decide⟩, h⟩
  · replace h := h.2 c3
    refine w_iload_n dX10_check_8 2 rfl ?_
    refine c_Sr_isAddress dX10_check_9 q599 (by decide) (Nat.le_of_ble_eq_true rfl) h (fun r4 M5 h hr4 hwM5 => ?_)
    replace h := h hr4 hwM5
    refine w_if_eq (tgt := 22) dX10_check_12 (by decide) (inr_z hr4) (fun c6 => ?_) (fun c6 => ?_)
    · replace h := h.1 c6
      refine w_iconst dX10_check_22 ?_
      exact w_iret dX10_check_23 ⟨_, rfl, ⟨by decide, by decide⟩, h⟩
    · replace h := h.2 c6
      refine w_iload_n dX10_check_15 3 rfl ?_
      refine c_Sr_isLetter dX10_check_16 q602 (by decide) (Nat.le_of_ble_eq_true rfl) h (fun r7 M8 h hr7 hwM8 => ?_)
      replace h := h hr7 hwM8
      refine w_if_ne (tgt := 24) dX10_check_19 (by decide) (inr_z hr7) (fun c9 => ?_) (fun c9 => ?_)
      · replace h := h.1 c9
        refine w_aload_n dX10_check_24 0 rfl ?_
        refine w_getS (ci := 10) (k := 3) dX10_check_25 rfl fi10 (by decide) q536 s0 rfl l0 ?_
        refine w_aload_n dX10_check_28 0 rfl ?_
        refine w_getQ (ci := 10) (k := 1) dX10_check_29 rfl fi10 (by decide) q534 s0 rfl l0 ?_
        obtain ⟨t10, h⟩ := h
        refine w_top (vq_ne (nRec t10)) ?_
        refine w_iload_n dX10_check_32 1 rfl ?_
        refine w_iload_n dX10_check_33 2 rfl ?_
        refine w_iload_n dX10_check_34 3 rfl ?_
        refine c_Ev_evaluate dX10_check_35 q605 (by decide) (Nat.le_of_ble_eq_true rfl) h (fun r11 M12 h hr11 hwM12 => ?_)
        replace h := h hr11 hwM12
        refine w_istore (lv' := [(4, vi (r11)), (0, vr g (0)), (1, vi (p0)), (2, vi (p1)), (3, vi (p2))]) dX10_check_38 (by decide) rfl ?_
        refine w_aload_n dX10_check_40 1 rfl ?_
        refine w_getS (ci := 10) (k := 4) dX10_check_41 rfl fi10 (by decide) q537 s0 rfl l0 ?_
        refine w_aload_n dX10_check_44 1 rfl ?_
        refine w_getS (ci := 10) (k := 3) dX10_check_45 rfl fi10 (by decide) q536 s0 rfl l0 ?_
        refine w_iload_n dX10_check_48 2 rfl ?_
        refine w_iload dX10_check_49 0 rfl ?_
        refine c_Ks_keep dX10_check_51 q683 (by decide) (Nat.le_of_ble_eq_true rfl) h (fun M14 h hwM14 => ?_)
        replace h := h hwM14
        refine w_iload dX10_check_54 0 rfl ?_
        exact w_iret dX10_check_56 ⟨_, rfl, hr11, h⟩
      · replace h := h.2 c9
        refine w_iconst dX10_check_22 ?_
        exact w_iret dX10_check_23 ⟨_, rfl, ⟨by decide, by decide⟩, h⟩
set_option maxHeartbeats 4000000 in
set_option maxRecDepth 100000 in
theorem b_Sr_isKnown_0 {g : Ctx} {n : Nat} {p0 : Int} {M : Mem} {Q : Int → Mem → Prop} (hp0 : InR p0) (h : (((p0 < 0) → Q 0 M) ∧ ((¬ (p0 < 0)) → (isRec (gP M (0) (1))) ∧ ((((gI M (gP M (0) (1)) (1)) ≤ p0) → Q 0 M) ∧ ((¬ ((gI M (gP M (0) (1)) (1)) ≤ p0)) → Q 1 M))))) : P_Sr_isKnown g n 0 [(0, vr g (0)), (1, vi (p0))] [] M Q := by
  refine w_wt (fun hw => ?_)
  refine w_iload_n dX10_isKnown_0 1 rfl ?_
  refine w_if_lt (tgt := 19) dX10_isKnown_1 (by decide) hp0 (fun c1 => ?_) (fun c1 => ?_)
  · replace h := h.1 c1
    refine w_iconst dX10_isKnown_19 ?_
    exact w_zret dX10_isKnown_20 (Or.inl rfl) ⟨_, rfl, (Or.inl rfl), h⟩
  · replace h := h.2 c1
    refine w_iload_n dX10_isKnown_4 1 rfl ?_
    refine w_aload_n dX10_isKnown_5 0 rfl ?_
    refine w_getQ (ci := 10) (k := 1) dX10_isKnown_6 rfl fi10 (by decide) q534 s0 rfl l0 ?_
    obtain ⟨t2, h⟩ := h
    refine w_top (vq_ne (nRec t2)) ?_
    refine w_getIN (ci := 8) (k := 1) dX10_isKnown_9 rfl fi8 (by decide) qn184 (sRec t2) rfl (bRec t2 (Nat.le_add_right _ _)) ?_
    refine w_icmp_ge (tgt := 19) dX10_isKnown_12 (by decide) hp0 (hw.int _ _) (fun c3 => ?_) (fun c3 => ?_)
    · replace h := h.1 c3
      refine w_iconst dX10_isKnown_19 ?_
      exact w_zret dX10_isKnown_20 (Or.inl rfl) ⟨_, rfl, (Or.inl rfl), h⟩
    · replace h := h.2 c3
      refine w_iconst dX10_isKnown_15 ?_
      refine w_goto (tgt := 20) dX10_isKnown_16 (by decide) ?_
      exact w_zret dX10_isKnown_20 (Or.inr rfl) ⟨_, rfl, (Or.inr rfl), h⟩
set_option maxHeartbeats 4000000 in
set_option maxRecDepth 100000 in
theorem b_Sr_isAddress_0 {g : Ctx} {n : Nat} {p0 : Int} {M : Mem} {Q : Int → Mem → Prop} (hp0 : InR p0) (h : (((p0 < 0) → Q 0 M) ∧ ((¬ (p0 < 0)) → (((256 ≤ p0) → Q 0 M) ∧ ((¬ (256 ≤ p0)) → Q 1 M))))) : P_Sr_isAddress g n 0 [(0, vi (p0))] [] M Q := by
  refine w_wt (fun hw => ?_)
  refine w_iload_n dX10_isAddress_0 0 rfl ?_
  refine w_if_lt (tgt := 15) dX10_isAddress_1 (by decide) hp0 (fun c1 => ?_) (fun c1 => ?_)
  · replace h := h.1 c1
    refine w_iconst dX10_isAddress_15 ?_
    exact w_zret dX10_isAddress_16 (Or.inl rfl) ⟨_, rfl, (Or.inl rfl), h⟩
  · replace h := h.2 c1
    refine w_iload_n dX10_isAddress_4 0 rfl ?_
    refine w_sipush dX10_isAddress_5 rfl ?_
    refine w_icmp_ge (tgt := 15) dX10_isAddress_8 (by decide) hp0 ⟨by decide, by decide⟩ (fun c2 => ?_) (fun c2 => ?_)
    · replace h := h.1 c2
      refine w_iconst dX10_isAddress_15 ?_
      exact w_zret dX10_isAddress_16 (Or.inl rfl) ⟨_, rfl, (Or.inl rfl), h⟩
    · replace h := h.2 c2
      refine w_iconst dX10_isAddress_11 ?_
      refine w_goto (tgt := 16) dX10_isAddress_12 (by decide) ?_
      exact w_zret dX10_isAddress_16 (Or.inr rfl) ⟨_, rfl, (Or.inr rfl), h⟩
set_option maxHeartbeats 4000000 in
set_option maxRecDepth 100000 in
theorem b_Sr_isLetter_0 {g : Ctx} {n : Nat} {p0 : Int} {M : Mem} {Q : Int → Mem → Prop} (hp0 : InR p0) (h : (((p0 < 0) → Q 0 M) ∧ ((¬ (p0 < 0)) → (((16 ≤ p0) → Q 0 M) ∧ ((¬ (16 ≤ p0)) → Q 1 M))))) : P_Sr_isLetter g n 0 [(0, vi (p0))] [] M Q := by
  refine w_wt (fun hw => ?_)
  refine w_iload_n dX10_isLetter_0 0 rfl ?_
  refine w_if_lt (tgt := 14) dX10_isLetter_1 (by decide) hp0 (fun c1 => ?_) (fun c1 => ?_)
  · replace h := h.1 c1
    refine w_iconst dX10_isLetter_14 ?_
    exact w_zret dX10_isLetter_15 (Or.inl rfl) ⟨_, rfl, (Or.inl rfl), h⟩
  · replace h := h.2 c1
    refine w_iload_n dX10_isLetter_4 0 rfl ?_
    refine w_bipush dX10_isLetter_5 rfl ?_
    refine w_icmp_ge (tgt := 14) dX10_isLetter_7 (by decide) hp0 ⟨by decide, by decide⟩ (fun c2 => ?_) (fun c2 => ?_)
    · replace h := h.1 c2
      refine w_iconst dX10_isLetter_14 ?_
      exact w_zret dX10_isLetter_15 (Or.inl rfl) ⟨_, rfl, (Or.inl rfl), h⟩
    · replace h := h.2 c2
      refine w_iconst dX10_isLetter_10 ?_
      refine w_goto (tgt := 15) dX10_isLetter_11 (by decide) ?_
      exact w_zret dX10_isLetter_15 (Or.inr rfl) ⟨_, rfl, (Or.inr rfl), h⟩
set_option maxHeartbeats 4000000 in
set_option maxRecDepth 100000 in
theorem b_Ev_evaluate_0 {g : Ctx} {n : Nat} {p0 : Nat} {p1 : Int} {p2 : Int} {p3 : Int} {M : Mem} {Q : Int → Mem → Prop} (hp0 : isRec p0) (hp1 : InR p1) (hp2 : InR p2) (hp3 : InR p3) (h : K_Rc_domainAt g n p0 p1 (sP M (258) (0) (p0)) (fun r2 M3 => (r2 = 0 ∨ isDom r2) → WT M3 → K_Ev_resultOf g n 12 p1 0 (sI (sI (sI (sI (sI (sI (sI (sP M3 (258) (1) (r2)) (258) (2) (p2)) (258) (3) (p3)) (258) (4) (0)) (258) (5) (0)) (258) (6) (0)) (258) (7) ((-4))) (258) (8) ((-4))) (fun r12 M13 => InR r12 → WT M13 → Q r12 M13))) : P_Ev_evaluate g n 0 [(0, vr g (258)), (1, vr g (p0)), (2, vi (p1)), (3, vi (p2)), (4, vi (p3))] [] M Q := by
  refine w_wt (fun hw => ?_)
  refine w_aload_n dX2_evaluate_0 0 rfl ?_
  refine w_aload_n dX2_evaluate_1 1 rfl ?_
  refine w_top (vq_ne (nRec hp0)).symm ?_
  refine w_putQ (ci := 2) (k := 0) dX2_evaluate_2 rfl fi2 (by decide) q198 tyX2 tyX2_ok nmX2 rfl ⟨_, rfl⟩ (fun hw => hw.sPfld (by decide)) s258 rfl l258 ?_
  have hw1 : WT (sP M (258) (0) (p0)) := hw.sPfld (by decide)
  refine w_aload_n dX2_evaluate_5 0 rfl ?_
  refine w_aload_n dX2_evaluate_6 1 rfl ?_
  refine w_iload_n dX2_evaluate_7 2 rfl ?_
  refine c_Rc_domainAt dX2_evaluate_8 q609 (by decide) (Nat.le_of_ble_eq_true rfl) hp0 h (fun r2 M3 h hr2 hwM3 => ?_)
  replace h := h hr2 hwM3
  refine w_putQ (ci := 2) (k := 1) dX2_evaluate_11 rfl fi2 (by decide) q199 tyX2 tyX2_ok nmX2 rfl ⟨_, rfl⟩ (fun hw => hw.sPfld (by decide)) s258 rfl l258 ?_
  have hw4 : WT (sP M3 (258) (1) (r2)) := hwM3.sPfld (by decide)
  refine w_aload_n dX2_evaluate_14 0 rfl ?_
  refine w_iload_n dX2_evaluate_15 3 rfl ?_
  refine w_putI (ci := 2) (k := 2) dX2_evaluate_16 rfl fi2 (by decide) q200 tyX2 tyX2_ok nmX2 rfl rfl rfl hp2 s258 rfl l258 ?_
  have hw5 : WT (sI (sP M3 (258) (1) (r2)) (258) (2) (p2)) := hw4.sI hp2
  refine w_aload_n dX2_evaluate_19 0 rfl ?_
  refine w_iload dX2_evaluate_20 4 rfl ?_
  refine w_putI (ci := 2) (k := 3) dX2_evaluate_22 rfl fi2 (by decide) q202 tyX2 tyX2_ok nmX2 rfl rfl rfl hp3 s258 rfl l258 ?_
  have hw6 : WT (sI (sI (sP M3 (258) (1) (r2)) (258) (2) (p2)) (258) (3) (p3)) := hw5.sI hp3
  refine w_aload_n dX2_evaluate_25 0 rfl ?_
  refine w_iconst dX2_evaluate_26 ?_
  refine w_putI (ci := 2) (k := 4) dX2_evaluate_27 rfl fi2 (by decide) q204 tyX2 tyX2_ok nmX2 rfl rfl rfl ⟨by decide, by decide⟩ s258 rfl l258 ?_
  have hw7 : WT (sI (sI (sI (sP M3 (258) (1) (r2)) (258) (2) (p2)) (258) (3) (p3)) (258) (4) (0)) := hw6.sI ⟨by decide, by decide⟩
  refine w_aload_n dX2_evaluate_30 0 rfl ?_
  refine w_iconst dX2_evaluate_31 ?_
  refine w_putI (ci := 2) (k := 5) dX2_evaluate_32 rfl fi2 (by decide) q207 tyX2 tyX2_ok nmX2 rfl rfl rfl ⟨by decide, by decide⟩ s258 rfl l258 ?_
  have hw8 : WT (sI (sI (sI (sI (sP M3 (258) (1) (r2)) (258) (2) (p2)) (258) (3) (p3)) (258) (4) (0)) (258) (5) (0)) := hw7.sI ⟨by decide, by decide⟩
  refine w_aload_n dX2_evaluate_35 0 rfl ?_
  refine w_iconst dX2_evaluate_36 ?_
  refine w_putI (ci := 2) (k := 6) dX2_evaluate_37 rfl fi2 (by decide) q209 tyX2 tyX2_ok nmX2 rfl (nar_z (Or.inl rfl)) (fit_z (Or.inl rfl)) ⟨by decide, by decide⟩ s258 rfl l258 ?_
  have hw9 : WT (sI (sI (sI (sI (sI (sP M3 (258) (1) (r2)) (258) (2) (p2)) (258) (3) (p3)) (258) (4) (0)) (258) (5) (0)) (258) (6) (0)) := hw8.sI ⟨by decide, by decide⟩
  refine w_aload_n dX2_evaluate_40 0 rfl ?_
  refine w_bipush dX2_evaluate_41 rfl ?_
  refine w_putI (ci := 2) (k := 7) dX2_evaluate_43 rfl fi2 (by decide) q210 tyX2 tyX2_ok nmX2 rfl rfl rfl ⟨by decide, by decide⟩ s258 rfl l258 ?_
  have hw10 : WT (sI (sI (sI (sI (sI (sI (sP M3 (258) (1) (r2)) (258) (2) (p2)) (258) (3) (p3)) (258) (4) (0)) (258) (5) (0)) (258) (6) (0)) (258) (7) ((-4))) := hw9.sI ⟨by decide, by decide⟩
  refine w_aload_n dX2_evaluate_46 0 rfl ?_
  refine w_bipush dX2_evaluate_47 rfl ?_
  refine w_putI (ci := 2) (k := 8) dX2_evaluate_49 rfl fi2 (by decide) q213 tyX2 tyX2_ok nmX2 rfl rfl rfl ⟨by decide, by decide⟩ s258 rfl l258 ?_
  have hw11 : WT (sI (sI (sI (sI (sI (sI (sI (sP M3 (258) (1) (r2)) (258) (2) (p2)) (258) (3) (p3)) (258) (4) (0)) (258) (5) (0)) (258) (6) (0)) (258) (7) ((-4))) (258) (8) ((-4))) := hw10.sI ⟨by decide, by decide⟩
  refine w_aload_n dX2_evaluate_52 0 rfl ?_
  refine w_iload_n dX2_evaluate_53 2 rfl ?_
  refine w_iconst dX2_evaluate_54 ?_
  refine c_Ev_resultOf dX2_evaluate_55 q610 (by omega) (Nat.le_of_ble_eq_true rfl) h (fun r12 M13 h hr12 hwM13 => ?_)
  replace h := h hr12 hwM13
  exact w_iret dX2_evaluate_58 ⟨_, rfl, hr12, h⟩
set_option maxHeartbeats 4000000 in
set_option maxRecDepth 100000 in
theorem b_Ev_resultOf_0 {g : Ctx} {n : Nat} {e : Nat} {p0 : Int} {p1 : Int} {M : Mem} {Q : Int → Mem → Prop} (hp0 : InR p0) (hp1 : InR p1) (h : (((p1 ≤ 10) → P_Ev_resultOf g n e 15 [(0, vr g (258)), (2, vi (p1)), (3, vi (p0)), (4, vi (0))] [] M Q) ∧ ((¬ (p1 ≤ 10)) → P_Ev_resultOf g n e 15 [(0, vr g (258)), (2, vi (p1)), (3, vi ((-1))), (4, vi (0))] [] M Q))) : P_Ev_resultOf g n e 0 [(0, vr g (258)), (1, vi (p0)), (2, vi (p1))] [] M Q := by
  refine w_wt (fun hw => ?_)
  refine w_iload_n dX2_resultOf_0 2 rfl ?_
  refine w_bipush dX2_resultOf_1 rfl ?_
  refine w_icmp_le (tgt := 10) dX2_resultOf_3 (by decide) hp1 ⟨by decide, by decide⟩ (fun c1 => ?_) (fun c1 => ?_)
  · replace h := h.1 c1
    refine w_iload_n dX2_resultOf_10 1 rfl ?_
    refine w_istore_n (lv' := [(3, vi (p0)), (0, vr g (258)), (1, vi (p0)), (2, vi (p1))]) (i := 3) dX2_resultOf_11 rfl (by decide) rfl ?_
    refine w_iconst dX2_resultOf_12 ?_
    refine w_istore (lv' := [(4, vi (0)), (3, vi (p0)), (0, vr g (258)), (1, vi (p0)), (2, vi (p1))]) dX2_resultOf_13 (by decide) rfl ?_
    refine w_lv [2, 4, 1, 0] rfl ?_
    exact h
  · replace h := h.2 c1
    refine w_iconst dX2_resultOf_6 ?_
    refine w_goto (tgt := 11) dX2_resultOf_7 (by decide) ?_
    refine w_istore_n (lv' := [(3, vi ((-1))), (0, vr g (258)), (1, vi (p0)), (2, vi (p1))]) (i := 3) dX2_resultOf_11 rfl (by decide) rfl ?_
    refine w_iconst dX2_resultOf_12 ?_
    refine w_istore (lv' := [(4, vi (0)), (3, vi ((-1))), (0, vr g (258)), (1, vi (p0)), (2, vi (p1))]) dX2_resultOf_13 (by decide) rfl ?_
    refine w_lv [2, 4, 1, 0] rfl ?_
    exact h
set_option maxHeartbeats 4000000 in
set_option maxRecDepth 100000 in
theorem b_Ev_resultOf_15 {g : Ctx} {n : Nat} {e : Nat} {x2 : Int} {x3 : Int} {x4 : Int} {M : Mem} {Q : Int → Mem → Prop} (hx2 : InR x2) (hx3 : InR x3) (hx4 : InR x4) (h : (((10 < x4) → K_Ev_endWithError g n  M (fun r2 M3 => InR r2 → WT M3 → Q r2 M3)) ∧ ((¬ (10 < x4)) → (isRec (gP M (258) (0))) ∧ K_Rc_domainAt g n (gP M (258) (0)) x3 M (fun r5 M6 => (r5 = 0 ∨ isDom r5) → WT M6 → (((r5 = 0) → (((¬ x4 = 0) → K_Ev_endWithError g n  M6 (fun r9 M10 => InR r9 → WT M10 → Q r9 M10)) ∧ ((x4 = 0) → Q 0 M6))) ∧ ((¬ (r5 = 0)) → (((¬ (gI M6 (r5) (3)) = 0) → P_Ev_resultOf g n e 62 [(0, vr g (258)), (2, vi (x2)), (3, vi (x3)), (4, vi (x4)), (5, vr g (r5)), (6, vi (0))] [] M6 Q) ∧ (((gI M6 (r5) (3)) = 0) → (((¬ x4 = 0) → K_Ev_endWithError g n  M6 (fun r13 M14 => InR r13 → WT M14 → Q r13 M14)) ∧ ((x4 = 0) → Q 0 M6)))))))))) : P_Ev_resultOf g n e 15 [(0, vr g (258)), (2, vi (x2)), (3, vi (x3)), (4, vi (x4))] [] M Q := by
  refine w_wt (fun hw => ?_)
  refine w_iload dX2_resultOf_15 3 rfl ?_
  refine w_bipush dX2_resultOf_17 rfl ?_
  refine w_icmp_gt (tgt := 159) dX2_resultOf_19 (by decide) hx4 ⟨by decide, by decide⟩ (fun c1 => ?_) (fun c1 => ?_)
  · replace h := h.1 c1
    refine w_aload_n dX2_resultOf_159 0 rfl ?_
    refine c_Ev_endWithError dX2_resultOf_160 q614 (by omega) (Nat.le_of_ble_eq_true rfl) h (fun r2 M3 h hr2 hwM3 => ?_)
    replace h := h hr2 hwM3
    exact w_iret dX2_resultOf_163 ⟨_, rfl, hr2, h⟩
  · replace h := h.2 c1
    refine w_aload_n dX2_resultOf_22 0 rfl ?_
    refine w_getQ (ci := 2) (k := 0) dX2_resultOf_23 rfl fi2 (by decide) q198 s258 rfl l258 ?_
    obtain ⟨t4, h⟩ := h
    refine w_top (vq_ne (nRec t4)) ?_
    refine w_iload_n dX2_resultOf_26 2 rfl ?_
    refine c_Rc_domainAt dX2_resultOf_27 q609 (by omega) (Nat.le_of_ble_eq_true rfl) t4 h (fun r5 M6 h hr5 hwM6 => ?_)
    replace h := h hr5 hwM6
    refine w_astoreq (lv' := [(5, vq g (r5)), (0, vr g (258)), (2, vi (x2)), (3, vi (x3)), (4, vi (x4))]) dX2_resultOf_30 (by decide) rfl ?_
    refine w_aloadq dX2_resultOf_32 0 rfl ?_
    refine w_ifnull (tgt := 45) dX2_resultOf_34 (by decide) (fun c7 => ?_) (fun c7 => ?_)
    · replace h := h.1 c7
      refine w_iload dX2_resultOf_45 4 rfl ?_
      refine w_if_ne (tgt := 54) dX2_resultOf_47 (by decide) hx4 (fun c8 => ?_) (fun c8 => ?_)
      · replace h := h.1 c8
        refine w_aload_n dX2_resultOf_54 1 rfl ?_
        refine c_Ev_endWithError dX2_resultOf_55 q614 (by omega) (Nat.le_of_ble_eq_true rfl) h (fun r9 M10 h hr9 hwM10 => ?_)
        replace h := h hr9 hwM10
        exact w_iret dX2_resultOf_58 ⟨_, rfl, hr9, h⟩
      · replace h := h.2 c8
        refine w_iconst dX2_resultOf_50 ?_
        refine w_goto (tgt := 58) dX2_resultOf_51 (by decide) ?_
        exact w_iret dX2_resultOf_58 ⟨_, rfl, ⟨by decide, by decide⟩, h⟩
    · replace h := h.2 c7
      rw [vq_ne c7]
      refine w_aload dX2_resultOf_37 0 rfl ?_
      refine w_getIN (ci := 1) (k := 3) dX2_resultOf_39 rfl fi1 (by decide) qn131 (sDom (hr5.resolve_left c7)) rfl (bDom (hr5.resolve_left c7) (Nat.le_add_right _ _)) ?_
      refine w_if_ne (tgt := 59) dX2_resultOf_42 (by decide) (hwM6.int _ _) (fun c11 => ?_) (fun c11 => ?_)
      · replace h := h.1 c11
        refine w_iconst dX2_resultOf_59 ?_
        refine w_istore (lv' := [(6, vi (0)), (5, vr g (r5)), (0, vr g (258)), (2, vi (x2)), (3, vi (x3)), (4, vi (x4))]) dX2_resultOf_60 (by decide) rfl ?_
        refine w_lv [2, 3, 4, 5, 1, 0] rfl ?_
        exact h
      · replace h := h.2 c11
        refine w_iload dX2_resultOf_45 4 rfl ?_
        refine w_if_ne (tgt := 54) dX2_resultOf_47 (by decide) hx4 (fun c12 => ?_) (fun c12 => ?_)
        · replace h := h.1 c12
          refine w_aload_n dX2_resultOf_54 1 rfl ?_
          refine c_Ev_endWithError dX2_resultOf_55 q614 (by omega) (Nat.le_of_ble_eq_true rfl) h (fun r13 M14 h hr13 hwM14 => ?_)
          replace h := h hr13 hwM14
          exact w_iret dX2_resultOf_58 ⟨_, rfl, hr13, h⟩
        · replace h := h.2 c12
          refine w_iconst dX2_resultOf_50 ?_
          refine w_goto (tgt := 58) dX2_resultOf_51 (by decide) ?_
          exact w_iret dX2_resultOf_58 ⟨_, rfl, ⟨by decide, by decide⟩, h⟩
set_option maxHeartbeats 4000000 in
set_option maxRecDepth 100000 in
theorem b_Ev_resultOf_62 {g : Ctx} {n : Nat} {e : Nat} {x2 : Int} {x3 : Int} {x4 : Int} {a5 : Nat} {x6 : Int} {M : Mem} {Q : Int → Mem → Prop} (hx2 : InR x2) (hx3 : InR x3) (hx4 : InR x4) (ha5 : isDom a5) (hx6 : InR x6) (h : ((((gI M (a5) (5)) ≤ x6) → ((((gI M (258) (6)) = 0) → (((¬ (gI M (a5) (6)) = 0) → K_Ev_lookUp g n  M (fun r4 M5 => (r4 = 0 ∨ r4 = 1) → WT M5 → (((¬ r4 = 0) → (isRec (gP M5 (258) (0))) ∧ K_Rc_find g n (gP M5 (258) (0)) (gI M5 (a5) (6)) M5 (fun r8 M9 => InR r8 → WT M9 → P_Ev_resultOf g n e 15 [(0, vr g (258)), (2, vi (x2)), (3, vi (r8)), (4, vi (x4 + 1))] [] M9 Q)) ∧ ((r4 = 0) → Q 5 M5)))) ∧ (((gI M (a5) (6)) = 0) → Q 1 M))) ∧ ((¬ ((gI M (258) (6)) = 0)) → Q 5 M))) ∧ ((¬ ((gI M (a5) (5)) ≤ x6)) → (((¬ (gI M (258) (6)) = 0) → ((((gI M (258) (6)) = 0) → (((¬ (gI M (a5) (6)) = 0) → K_Ev_lookUp g n  M (fun r13 M14 => (r13 = 0 ∨ r13 = 1) → WT M14 → (((¬ r13 = 0) → (isRec (gP M14 (258) (0))) ∧ K_Rc_find g n (gP M14 (258) (0)) (gI M14 (a5) (6)) M14 (fun r17 M18 => InR r17 → WT M18 → P_Ev_resultOf g n e 15 [(0, vr g (258)), (2, vi (x2)), (3, vi (r17)), (4, vi (x4 + 1))] [] M18 Q)) ∧ ((r13 = 0) → Q 5 M14)))) ∧ (((gI M (a5) (6)) = 0) → Q 1 M))) ∧ ((¬ ((gI M (258) (6)) = 0)) → Q 5 M))) ∧ (((gI M (258) (6)) = 0) → (0 ≤ x6 ∧ x6 < 8) ∧ K_Ev_matches g n e (gP M (a5 + 2) (x6.toNat)) a5 x2 M (fun r21 M22 => (r21 = 0 ∨ r21 = 1) → WT M22 → (((r21 = 0) → P_Ev_resultOf g n e 62 [(0, vr g (258)), (2, vi (x2)), (3, vi (x3)), (4, vi (x4)), (5, vr g (a5)), (6, vi (x6 + 1))] [] M22 Q) ∧ ((¬ (r21 = 0)) → K_Ev_decide g n x3 x6 x2 M22 (fun r24 M25 => InR r24 → WT M25 → Q r24 M25))))))))) : P_Ev_resultOf g n e 62 [(0, vr g (258)), (2, vi (x2)), (3, vi (x3)), (4, vi (x4)), (5, vr g (a5)), (6, vi (x6))] [] M Q := by
  refine w_wt (fun hw => ?_)
  refine w_iload dX2_resultOf_62 5 rfl ?_
  refine w_aload dX2_resultOf_64 4 rfl ?_
  refine w_getIN (ci := 1) (k := 5) dX2_resultOf_66 rfl fi1 (by decide) qn138 (sDom ha5) rfl (bDom ha5 (Nat.le_add_right _ _)) ?_
  refine w_icmp_ge (tgt := 112) dX2_resultOf_69 (by decide) hx6 (hw.int _ _) (fun c1 => ?_) (fun c1 => ?_)
  · replace h := h.1 c1
    refine w_aload_n dX2_resultOf_112 0 rfl ?_
    refine w_getI (ci := 2) (k := 6) dX2_resultOf_113 rfl fi2 (by decide) q209 s258 rfl l258 ?_
    refine w_if_eq (tgt := 121) dX2_resultOf_116 (by decide) (hw.int _ _) (fun c2 => ?_) (fun c2 => ?_)
    · replace h := h.1 c2
      refine w_aload dX2_resultOf_121 4 rfl ?_
      refine w_getIN (ci := 1) (k := 6) dX2_resultOf_123 rfl fi1 (by decide) qn142 (sDom ha5) rfl (bDom ha5 (Nat.le_add_right _ _)) ?_
      refine w_if_ne (tgt := 131) dX2_resultOf_126 (by decide) (hw.int _ _) (fun c3 => ?_) (fun c3 => ?_)
      · replace h := h.1 c3
        refine w_aload_n dX2_resultOf_131 0 rfl ?_
        refine c_Ev_lookUp dX2_resultOf_132 q626 (by omega) (Nat.le_of_ble_eq_true rfl) h (fun r4 M5 h hr4 hwM5 => ?_)
        replace h := h hr4 hwM5
        refine w_if_ne (tgt := 140) dX2_resultOf_135 (by decide) (inr_z hr4) (fun c6 => ?_) (fun c6 => ?_)
        · replace h := h.1 c6
          refine w_aload_n dX2_resultOf_140 0 rfl ?_
          refine w_getQ (ci := 2) (k := 0) dX2_resultOf_141 rfl fi2 (by decide) q198 s258 rfl l258 ?_
          obtain ⟨t7, h⟩ := h
          refine w_top (vq_ne (nRec t7)) ?_
          refine w_aload dX2_resultOf_144 4 rfl ?_
          refine w_getIN (ci := 1) (k := 6) dX2_resultOf_146 rfl fi1 (by decide) qn142 (sDom ha5) rfl (bDom ha5 (Nat.le_add_right _ _)) ?_
          refine c_Rc_find dX2_resultOf_149 q634 (by omega) (Nat.le_of_ble_eq_true rfl) t7 h (fun r8 M9 h hr8 hwM9 => ?_)
          replace h := h hr8 hwM9
          refine w_istore_n (lv' := [(3, vi (r8)), (0, vr g (258)), (2, vi (x2)), (4, vi (x4)), (5, vr g (a5)), (6, vi (x6))]) (i := 3) dX2_resultOf_152 rfl (by decide) rfl ?_
          refine w_iinc (lv' := [(4, vi (x4 + 1)), (3, vi (r8)), (0, vr g (258)), (2, vi (x2)), (5, vr g (a5)), (6, vi (x6))]) dX2_resultOf_153 3 rfl (by decide) rfl ?_
          refine w_goto (tgt := 15) dX2_resultOf_156 (by decide) ?_
          refine w_lv [2, 3, 1, 0] rfl ?_
          exact h
        · replace h := h.2 c6
          refine w_iconst dX2_resultOf_138 ?_
          exact w_iret dX2_resultOf_139 ⟨_, rfl, ⟨by decide, by decide⟩, h⟩
      · replace h := h.2 c3
        refine w_iconst dX2_resultOf_129 ?_
        exact w_iret dX2_resultOf_130 ⟨_, rfl, ⟨by decide, by decide⟩, h⟩
    · replace h := h.2 c2
      refine w_iconst dX2_resultOf_119 ?_
      exact w_iret dX2_resultOf_120 ⟨_, rfl, ⟨by decide, by decide⟩, h⟩
  · replace h := h.2 c1
    refine w_aload_n dX2_resultOf_72 0 rfl ?_
    refine w_getI (ci := 2) (k := 6) dX2_resultOf_73 rfl fi2 (by decide) q209 s258 rfl l258 ?_
    refine w_if_ne (tgt := 112) dX2_resultOf_76 (by decide) (hw.int _ _) (fun c10 => ?_) (fun c10 => ?_)
    · replace h := h.1 c10
      refine w_aload_n dX2_resultOf_112 0 rfl ?_
      refine w_getI (ci := 2) (k := 6) dX2_resultOf_113 rfl fi2 (by decide) q209 s258 rfl l258 ?_
      refine w_if_eq (tgt := 121) dX2_resultOf_116 (by decide) (hw.int _ _) (fun c11 => ?_) (fun c11 => ?_)
      · replace h := h.1 c11
        refine w_aload dX2_resultOf_121 4 rfl ?_
        refine w_getIN (ci := 1) (k := 6) dX2_resultOf_123 rfl fi1 (by decide) qn142 (sDom ha5) rfl (bDom ha5 (Nat.le_add_right _ _)) ?_
        refine w_if_ne (tgt := 131) dX2_resultOf_126 (by decide) (hw.int _ _) (fun c12 => ?_) (fun c12 => ?_)
        · replace h := h.1 c12
          refine w_aload_n dX2_resultOf_131 0 rfl ?_
          refine c_Ev_lookUp dX2_resultOf_132 q626 (by omega) (Nat.le_of_ble_eq_true rfl) h (fun r13 M14 h hr13 hwM14 => ?_)
          replace h := h hr13 hwM14
          refine w_if_ne (tgt := 140) dX2_resultOf_135 (by decide) (inr_z hr13) (fun c15 => ?_) (fun c15 => ?_)
          · replace h := h.1 c15
            refine w_aload_n dX2_resultOf_140 0 rfl ?_
            refine w_getQ (ci := 2) (k := 0) dX2_resultOf_141 rfl fi2 (by decide) q198 s258 rfl l258 ?_
            obtain ⟨t16, h⟩ := h
            refine w_top (vq_ne (nRec t16)) ?_
            refine w_aload dX2_resultOf_144 4 rfl ?_
            refine w_getIN (ci := 1) (k := 6) dX2_resultOf_146 rfl fi1 (by decide) qn142 (sDom ha5) rfl (bDom ha5 (Nat.le_add_right _ _)) ?_
            refine c_Rc_find dX2_resultOf_149 q634 (by omega) (Nat.le_of_ble_eq_true rfl) t16 h (fun r17 M18 h hr17 hwM18 => ?_)
            replace h := h hr17 hwM18
            refine w_istore_n (lv' := [(3, vi (r17)), (0, vr g (258)), (2, vi (x2)), (4, vi (x4)), (5, vr g (a5)), (6, vi (x6))]) (i := 3) dX2_resultOf_152 rfl (by decide) rfl ?_
            refine w_iinc (lv' := [(4, vi (x4 + 1)), (3, vi (r17)), (0, vr g (258)), (2, vi (x2)), (5, vr g (a5)), (6, vi (x6))]) dX2_resultOf_153 3 rfl (by decide) rfl ?_
            refine w_goto (tgt := 15) dX2_resultOf_156 (by decide) ?_
            refine w_lv [2, 3, 1, 0] rfl ?_
            exact h
          · replace h := h.2 c15
            refine w_iconst dX2_resultOf_138 ?_
            exact w_iret dX2_resultOf_139 ⟨_, rfl, ⟨by decide, by decide⟩, h⟩
        · replace h := h.2 c12
          refine w_iconst dX2_resultOf_129 ?_
          exact w_iret dX2_resultOf_130 ⟨_, rfl, ⟨by decide, by decide⟩, h⟩
      · replace h := h.2 c11
        refine w_iconst dX2_resultOf_119 ?_
        exact w_iret dX2_resultOf_120 ⟨_, rfl, ⟨by decide, by decide⟩, h⟩
    · replace h := h.2 c10
      refine w_aload_n dX2_resultOf_79 0 rfl ?_
      refine w_aload dX2_resultOf_80 4 rfl ?_
      refine w_getSN (ci := 1) (k := 4) dX2_resultOf_82 rfl fi1 (by decide) qn135 (sDom ha5) rfl (bDom ha5 (Nat.le_add_right _ _)) ?_
      refine w_iload dX2_resultOf_85 5 rfl ?_
      obtain ⟨i19, h⟩ := h
      have t20 : isRul (gP M (a5 + 2) (x6.toNat)) := (hw.rul ha5 (by omega))
      refine w_aald (t := 2) dX2_resultOf_87 (sDom2 ha5) (by decide) rfl (bDom2 ha5 (Nat.le_add_right _ _)) (by decide) i19.1 i19.2 (nRul t20) ?_
      refine w_aload dX2_resultOf_88 4 rfl ?_
      refine w_iload_n dX2_resultOf_90 1 rfl ?_
      refine c_Ev_matches dX2_resultOf_91 q618 (by omega) (Nat.le_of_ble_eq_true rfl) h (fun r21 M22 h hr21 hwM22 => ?_)
      replace h := h hr21 hwM22
      refine w_if_eq (tgt := 106) dX2_resultOf_94 (by decide) (inr_z hr21) (fun c23 => ?_) (fun c23 => ?_)
      · replace h := h.1 c23
        refine w_iinc (lv' := [(6, vi (x6 + 1)), (0, vr g (258)), (2, vi (x2)), (3, vi (x3)), (4, vi (x4)), (5, vr g (a5))]) dX2_resultOf_106 5 rfl (by decide) rfl ?_
        refine w_goto (tgt := 62) dX2_resultOf_109 (by decide) ?_
        refine w_lv [1, 2, 3, 4, 5, 0] rfl ?_
        exact h
      · replace h := h.2 c23
        refine w_aload_n dX2_resultOf_97 0 rfl ?_
        refine w_iload_n dX2_resultOf_98 2 rfl ?_
        refine w_iload dX2_resultOf_99 5 rfl ?_
        refine w_iload_n dX2_resultOf_101 1 rfl ?_
        refine c_Ev_decide dX2_resultOf_102 q672 (by omega) (Nat.le_of_ble_eq_true rfl) h (fun r24 M25 h hr24 hwM25 => ?_)
        replace h := h hr24 hwM25
        exact w_iret dX2_resultOf_105 ⟨_, rfl, hr24, h⟩
set_option maxHeartbeats 4000000 in
set_option maxRecDepth 100000 in
theorem b_Ev_endWithError_0 {g : Ctx} {n : Nat}  {M : Mem} {Q : Int → Mem → Prop}  (h : Q 5 (sI M (258) (6) (1))) : P_Ev_endWithError g n 0 [(0, vr g (258))] [] M Q := by
  refine w_wt (fun hw => ?_)
  refine w_aload_n dX2_endWithError_0 0 rfl ?_
  refine w_iconst dX2_endWithError_1 ?_
  refine w_putI (ci := 2) (k := 6) dX2_endWithError_2 rfl fi2 (by decide) q209 tyX2 tyX2_ok nmX2 rfl (nar_z (Or.inr rfl)) (fit_z (Or.inr rfl)) ⟨by decide, by decide⟩ s258 rfl l258 ?_
  have hw1 : WT (sI M (258) (6) (1)) := hw.sI ⟨by decide, by decide⟩
  refine w_iconst dX2_endWithError_5 ?_
  exact w_iret dX2_endWithError_6 ⟨_, rfl, ⟨by decide, by decide⟩, h⟩
set_option maxHeartbeats 4000000 in
set_option maxRecDepth 100000 in
theorem b_Ev_matches_0 {g : Ctx} {n : Nat} {e : Nat} {p0 : Nat} {p1 : Nat} {p2 : Int} {M : Mem} {Q : Int → Mem → Prop} (hp0 : isRul p0) (hp1 : isDom p1) (hp2 : InR p2) (h : (((¬ (gI M (p0) (1)) = 0) → (((¬ (gI M (p0) (1)) = 1) → K_Ev_lookUp g n  M (fun r3 M4 => (r3 = 0 ∨ r3 = 1) → WT M4 → (((¬ r3 = 0) → ((((gI M4 (p0) (1)) = 2) → K_Ev_includeMatches g n e p0 p2 M4 (fun r7 M8 => (r7 = 0 ∨ r7 = 1) → WT M8 → Q r7 M8)) ∧ ((¬ ((gI M4 (p0) (1)) = 2)) → ((((gI M4 (p0) (1)) = 3) → K_Ev_hostMatches g n p0 M4 (fun r10 M11 => (r10 = 0 ∨ r10 = 1) → WT M11 → Q r10 M11)) ∧ ((¬ ((gI M4 (p0) (1)) = 3)) → ((((gI M4 (p0) (1)) = 4) → K_Ev_mailMatches g n p0 M4 (fun r13 M14 => (r13 = 0 ∨ r13 = 1) → WT M14 → Q r13 M14)) ∧ ((¬ ((gI M4 (p0) (1)) = 4)) → K_Ev_existsMatches g n p0 p1 M4 (fun r15 M16 => (r15 = 0 ∨ r15 = 1) → WT M16 → Q r15 M16)))))))) ∧ ((r3 = 0) → Q 0 M4)))) ∧ (((gI M (p0) (1)) = 1) → K_Ru_hasPrefixOf g n p0 (gI M (258) (2)) M (fun r17 M18 => (r17 = 0 ∨ r17 = 1) → WT M18 → Q r17 M18)))) ∧ (((gI M (p0) (1)) = 0) → Q 1 M))) : P_Ev_matches g n e 0 [(0, vr g (258)), (1, vr g (p0)), (2, vr g (p1)), (3, vi (p2))] [] M Q := by
  refine w_wt (fun hw => ?_)
  refine w_aload_n dX2_matches_0 1 rfl ?_
  refine w_getIN (ci := 9) (k := 1) dX2_matches_1 rfl fi9 (by decide) qn86 (sRul hp0) rfl (bRul hp0 (Nat.le_add_right _ _)) ?_
  refine w_if_ne (tgt := 9) dX2_matches_4 (by decide) (hw.int _ _) (fun c1 => ?_) (fun c1 => ?_)
  · replace h := h.1 c1
    refine w_aload_n dX2_matches_9 1 rfl ?_
    refine w_getIN (ci := 9) (k := 1) dX2_matches_10 rfl fi9 (by decide) qn86 (sRul hp0) rfl (bRul hp0 (Nat.le_add_right _ _)) ?_
    refine w_iconst dX2_matches_13 ?_
    refine w_icmp_ne (tgt := 26) dX2_matches_14 (by decide) (hw.int _ _) ⟨by decide, by decide⟩ (fun c2 => ?_) (fun c2 => ?_)
    · replace h := h.1 c2
      refine w_aload_n dX2_matches_26 0 rfl ?_
      refine c_Ev_lookUp dX2_matches_27 q626 (by omega) (Nat.le_of_ble_eq_true rfl) h (fun r3 M4 h hr3 hwM4 => ?_)
      replace h := h hr3 hwM4
      refine w_if_ne (tgt := 35) dX2_matches_30 (by decide) (inr_z hr3) (fun c5 => ?_) (fun c5 => ?_)
      · replace h := h.1 c5
        refine w_aload_n dX2_matches_35 1 rfl ?_
        refine w_getIN (ci := 9) (k := 1) dX2_matches_36 rfl fi9 (by decide) qn86 (sRul hp0) rfl (bRul hp0 (Nat.le_add_right _ _)) ?_
        by_cases c6 : (gI M4 (p0) (1)) = 2
        · replace h := h.1 c6
          refine w_tabIn (tgt := 64) dX2_matches_39 c6 ⟨by decide, by decide⟩ (by decide) (by decide) rfl (by decide) ?_
          refine w_aload_n dX2_matches_64 0 rfl ?_
          refine w_aload_n dX2_matches_65 1 rfl ?_
          refine w_iload_n dX2_matches_66 3 rfl ?_
          refine c_Ev_includeMatches dX2_matches_67 q630 (by omega) (Nat.le_of_ble_eq_true rfl) h (fun r7 M8 h hr7 hwM8 => ?_)
          replace h := h hr7 hwM8
          exact w_zret dX2_matches_70 hr7 ⟨_, rfl, hr7, h⟩
        replace h := h.2 c6
        by_cases c9 : (gI M4 (p0) (1)) = 3
        · replace h := h.1 c9
          refine w_tabIn (tgt := 71) dX2_matches_39 c9 ⟨by decide, by decide⟩ (by decide) (by decide) rfl (by decide) ?_
          refine w_aload_n dX2_matches_71 0 rfl ?_
          refine w_aload_n dX2_matches_72 1 rfl ?_
          refine c_Ev_hostMatches dX2_matches_73 q635 (by omega) (Nat.le_of_ble_eq_true rfl) h (fun r10 M11 h hr10 hwM11 => ?_)
          replace h := h hr10 hwM11
          exact w_zret dX2_matches_76 hr10 ⟨_, rfl, hr10, h⟩
        replace h := h.2 c9
        by_cases c12 : (gI M4 (p0) (1)) = 4
        · replace h := h.1 c12
          refine w_tabIn (tgt := 77) dX2_matches_39 c12 ⟨by decide, by decide⟩ (by decide) (by decide) rfl (by decide) ?_
          refine w_aload_n dX2_matches_77 0 rfl ?_
          refine w_aload_n dX2_matches_78 1 rfl ?_
          refine c_Ev_mailMatches dX2_matches_79 q648 (by omega) (Nat.le_of_ble_eq_true rfl) h (fun r13 M14 h hr13 hwM14 => ?_)
          replace h := h hr13 hwM14
          exact w_zret dX2_matches_82 hr13 ⟨_, rfl, hr13, h⟩
        replace h := h.2 c12
        refine w_tabOut (tgt := 83) dX2_matches_39 (hwM4.int _ _) (by omega) (by decide) ?_
        refine w_aload_n dX2_matches_83 0 rfl ?_
        refine w_aload_n dX2_matches_84 1 rfl ?_
        refine w_aload_n dX2_matches_85 2 rfl ?_
        refine c_Ev_existsMatches dX2_matches_86 q652 (by omega) (Nat.le_of_ble_eq_true rfl) h (fun r15 M16 h hr15 hwM16 => ?_)
        replace h := h hr15 hwM16
        exact w_zret dX2_matches_89 hr15 ⟨_, rfl, hr15, h⟩
      · replace h := h.2 c5
        refine w_iconst dX2_matches_33 ?_
        exact w_zret dX2_matches_34 (Or.inl rfl) ⟨_, rfl, (Or.inl rfl), h⟩
    · replace h := h.2 c2
      refine w_aload_n dX2_matches_17 1 rfl ?_
      refine w_aload_n dX2_matches_18 0 rfl ?_
      refine w_getI (ci := 2) (k := 2) dX2_matches_19 rfl fi2 (by decide) q200 s258 rfl l258 ?_
      refine c_Ru_hasPrefixOf dX2_matches_22 q622 (by omega) (Nat.le_of_ble_eq_true rfl) hp0 h (fun r17 M18 h hr17 hwM18 => ?_)
      replace h := h hr17 hwM18
      exact w_zret dX2_matches_25 hr17 ⟨_, rfl, hr17, h⟩
  · replace h := h.2 c1
    refine w_iconst dX2_matches_7 ?_
    exact w_zret dX2_matches_8 (Or.inr rfl) ⟨_, rfl, (Or.inr rfl), h⟩
set_option maxHeartbeats 4000000 in
set_option maxRecDepth 100000 in
theorem b_Ru_hasPrefixOf_0 {g : Ctx} {n : Nat} {o : Nat} {p0 : Int} {M : Mem} {Q : Int → Mem → Prop} (ho : isRul o) (hp0 : InR p0) (h : (((¬ (jshr (jxor (gI M (o) (2)) p0) (8 - (gI M (o) (3)))) = 0) → Q 0 M) ∧ (((jshr (jxor (gI M (o) (2)) p0) (8 - (gI M (o) (3)))) = 0) → Q 1 M))) : P_Ru_hasPrefixOf g n 0 [(0, vr g (o)), (1, vi (p0))] [] M Q := by
  refine w_wt (fun hw => ?_)
  refine w_aload_n dX9_hasPrefixOf_0 0 rfl ?_
  refine w_getI (ci := 9) (k := 2) dX9_hasPrefixOf_1 rfl fi9 (by decide) q89 (sRul ho) rfl (bRul ho (Nat.le_add_right _ _)) ?_
  refine w_iload_n dX9_hasPrefixOf_4 1 rfl ?_
  refine w_ixor dX9_hasPrefixOf_5 ?_
  refine w_bipush dX9_hasPrefixOf_6 rfl ?_
  refine w_aload_n dX9_hasPrefixOf_8 0 rfl ?_
  refine w_getI (ci := 9) (k := 3) dX9_hasPrefixOf_9 rfl fi9 (by decide) q92 (sRul ho) rfl (bRul ho (Nat.le_add_right _ _)) ?_
  refine w_isub dX9_hasPrefixOf_12 ?_
  refine w_ishr dX9_hasPrefixOf_13 ?_
  refine w_if_ne (tgt := 21) dX9_hasPrefixOf_14 (by decide) (inr_jshr _ _) (fun c1 => ?_) (fun c1 => ?_)
  · replace h := h.1 c1
    refine w_iconst dX9_hasPrefixOf_21 ?_
    exact w_zret dX9_hasPrefixOf_22 (Or.inl rfl) ⟨_, rfl, (Or.inl rfl), h⟩
  · replace h := h.2 c1
    refine w_iconst dX9_hasPrefixOf_17 ?_
    refine w_goto (tgt := 22) dX9_hasPrefixOf_18 (by decide) ?_
    exact w_zret dX9_hasPrefixOf_22 (Or.inr rfl) ⟨_, rfl, (Or.inr rfl), h⟩
set_option maxHeartbeats 4000000 in
set_option maxRecDepth 100000 in
theorem b_Ev_lookUp_0 {g : Ctx} {n : Nat}  {M : Mem} {Q : Int → Mem → Prop}  (h : (InR ((gI M (258) (4)) + 1)) ∧ (((((gI M (258) (4)) + 1) ≤ 10) → (((¬ (gI M (258) (6)) = 0) → Q 0 (sI M (258) (4) ((gI M (258) (4)) + 1))) ∧ (((gI M (258) (6)) = 0) → Q 1 (sI M (258) (4) ((gI M (258) (4)) + 1))))) ∧ ((¬ (((gI M (258) (4)) + 1) ≤ 10)) → Q 0 (sI (sI M (258) (4) ((gI M (258) (4)) + 1)) (258) (6) (1))))) : P_Ev_lookUp g n 0 [(0, vr g (258))] [] M Q := by
  refine w_wt (fun hw => ?_)
  refine w_aload_n dX2_lookUp_0 0 rfl ?_
  refine w_dup dX2_lookUp_1 rfl ?_
  refine w_getI (ci := 2) (k := 4) dX2_lookUp_2 rfl fi2 (by decide) q204 s258 rfl l258 ?_
  refine w_iconst dX2_lookUp_5 ?_
  refine w_iadd dX2_lookUp_6 ?_
  obtain ⟨i1, h⟩ := h
  refine w_putI (ci := 2) (k := 4) dX2_lookUp_7 rfl fi2 (by decide) q204 tyX2 tyX2_ok nmX2 rfl rfl rfl i1 s258 rfl l258 ?_
  have hw2 : WT (sI M (258) (4) ((gI M (258) (4)) + 1)) := hw.sI i1
  refine w_aload_n dX2_lookUp_10 0 rfl ?_
  refine w_getI (ci := 2) (k := 4) dX2_lookUp_11 rfl fi2 (by decide) q204 s258 rfl l258 ?_
  refine w_top (congrArg vi (gI_same _ _ _ _)) ?_
  refine w_bipush dX2_lookUp_14 rfl ?_
  refine w_icmp_le (tgt := 24) dX2_lookUp_16 (by decide) i1 ⟨by decide, by decide⟩ (fun c3 => ?_) (fun c3 => ?_)
  · replace h := h.1 c3
    refine w_aload_n dX2_lookUp_24 0 rfl ?_
    refine w_getI (ci := 2) (k := 6) dX2_lookUp_25 rfl fi2 (by decide) q209 s258 rfl l258 ?_
    refine w_top (congrArg vi ((gI_ne _ _ _ _ _ _ (by omega)).trans rfl)) ?_
    have u4 : InR (gI M (258) (6)) := hw.int _ _
    refine w_if_ne (tgt := 35) dX2_lookUp_28 (by decide) u4 (fun c5 => ?_) (fun c5 => ?_)
    · replace h := h.1 c5
      refine w_iconst dX2_lookUp_35 ?_
      exact w_zret dX2_lookUp_36 (Or.inl rfl) ⟨_, rfl, (Or.inl rfl), h⟩
    · replace h := h.2 c5
      refine w_iconst dX2_lookUp_31 ?_
      refine w_goto (tgt := 36) dX2_lookUp_32 (by decide) ?_
      exact w_zret dX2_lookUp_36 (Or.inr rfl) ⟨_, rfl, (Or.inr rfl), h⟩
  · replace h := h.2 c3
    refine w_aload_n dX2_lookUp_19 0 rfl ?_
    refine w_iconst dX2_lookUp_20 ?_
    refine w_putI (ci := 2) (k := 6) dX2_lookUp_21 rfl fi2 (by decide) q209 tyX2 tyX2_ok nmX2 rfl (nar_z (Or.inr rfl)) (fit_z (Or.inr rfl)) ⟨by decide, by decide⟩ s258 rfl l258 ?_
    have hw6 : WT (sI (sI M (258) (4) ((gI M (258) (4)) + 1)) (258) (6) (1)) := hw2.sI ⟨by decide, by decide⟩
    refine w_aload_n dX2_lookUp_24 0 rfl ?_
    refine w_getI (ci := 2) (k := 6) dX2_lookUp_25 rfl fi2 (by decide) q209 s258 rfl l258 ?_
    refine w_top (congrArg vi (gI_same _ _ _ _)) ?_
    refine w_if_ne (tgt := 35) dX2_lookUp_28 (by decide) ⟨by decide, by decide⟩ (fun c => ?_) (fun c => ?_)
    · refine w_iconst dX2_lookUp_35 ?_
      exact w_zret dX2_lookUp_36 (Or.inl rfl) ⟨_, rfl, (Or.inl rfl), h⟩
    · exact absurd c (by decide)
set_option maxHeartbeats 4000000 in
set_option maxRecDepth 100000 in
theorem b_Ev_includeMatches_0 {g : Ctx} {n : Nat} {e : Nat} {p0 : Nat} {p1 : Int} {M : Mem} {Q : Int → Mem → Prop} (hp0 : isRul p0) (hp1 : InR p1) (h : (isRec (gP M (258) (0))) ∧ K_Rc_find g n (gP M (258) (0)) (gI M (p0) (4)) M (fun r2 M3 => InR r2 → WT M3 → K_Ev_resultOf g n e r2 (p1 + 1) M3 (fun r4 M5 => InR r4 → WT M5 → (((¬ r4 = 0) → (((¬ (gI M5 (258) (6)) = 0) → Q 0 M5) ∧ (((gI M5 (258) (6)) = 0) → (((¬ r4 = 2) → Q 0 M5) ∧ ((r4 = 2) → Q 1 M5))))) ∧ ((r4 = 0) → Q 0 (sI M5 (258) (6) (1))))))) : P_Ev_includeMatches g n (e + 1) 0 [(0, vr g (258)), (1, vr g (p0)), (2, vi (p1))] [] M Q := by
  refine w_wt (fun hw => ?_)
  refine w_aload_n dX2_includeMatches_0 0 rfl ?_
  refine w_aload_n dX2_includeMatches_1 0 rfl ?_
  refine w_getQ (ci := 2) (k := 0) dX2_includeMatches_2 rfl fi2 (by decide) q198 s258 rfl l258 ?_
  obtain ⟨t1, h⟩ := h
  refine w_top (vq_ne (nRec t1)) ?_
  refine w_aload_n dX2_includeMatches_5 1 rfl ?_
  refine w_getIN (ci := 9) (k := 4) dX2_includeMatches_6 rfl fi9 (by decide) qn96 (sRul hp0) rfl (bRul hp0 (Nat.le_add_right _ _)) ?_
  refine c_Rc_find dX2_includeMatches_9 q634 (by omega) (Nat.le_of_ble_eq_true rfl) t1 h (fun r2 M3 h hr2 hwM3 => ?_)
  replace h := h hr2 hwM3
  refine w_iload_n dX2_includeMatches_12 2 rfl ?_
  refine w_iconst dX2_includeMatches_13 ?_
  refine w_iadd dX2_includeMatches_14 ?_
  refine c_Ev_resultOf dX2_includeMatches_15 q610 (by omega) (Nat.le_of_ble_eq_true rfl) h (fun r4 M5 h hr4 hwM5 => ?_)
  replace h := h hr4 hwM5
  refine w_istore_n (lv' := [(3, vi (r4)), (0, vr g (258)), (1, vr g (p0)), (2, vi (p1))]) (i := 3) dX2_includeMatches_18 rfl (by decide) rfl ?_
  refine w_iload_n dX2_includeMatches_19 0 rfl ?_
  refine w_if_ne (tgt := 28) dX2_includeMatches_20 (by decide) hr4 (fun c6 => ?_) (fun c6 => ?_)
  · replace h := h.1 c6
    refine w_aload_n dX2_includeMatches_28 1 rfl ?_
    refine w_getI (ci := 2) (k := 6) dX2_includeMatches_29 rfl fi2 (by decide) q209 s258 rfl l258 ?_
    refine w_if_ne (tgt := 44) dX2_includeMatches_32 (by decide) (hwM5.int _ _) (fun c7 => ?_) (fun c7 => ?_)
    · replace h := h.1 c7
      refine w_iconst dX2_includeMatches_44 ?_
      exact w_zret dX2_includeMatches_45 (Or.inl rfl) ⟨_, rfl, (Or.inl rfl), h⟩
    · replace h := h.2 c7
      refine w_iload_n dX2_includeMatches_35 0 rfl ?_
      refine w_iconst dX2_includeMatches_36 ?_
      refine w_icmp_ne (tgt := 44) dX2_includeMatches_37 (by decide) hr4 ⟨by decide, by decide⟩ (fun c8 => ?_) (fun c8 => ?_)
      · replace h := h.1 c8
        refine w_iconst dX2_includeMatches_44 ?_
        exact w_zret dX2_includeMatches_45 (Or.inl rfl) ⟨_, rfl, (Or.inl rfl), h⟩
      · replace h := h.2 c8
        refine w_iconst dX2_includeMatches_40 ?_
        refine w_goto (tgt := 45) dX2_includeMatches_41 (by decide) ?_
        exact w_zret dX2_includeMatches_45 (Or.inr rfl) ⟨_, rfl, (Or.inr rfl), h⟩
  · replace h := h.2 c6
    refine w_aload_n dX2_includeMatches_23 1 rfl ?_
    refine w_iconst dX2_includeMatches_24 ?_
    refine w_putI (ci := 2) (k := 6) dX2_includeMatches_25 rfl fi2 (by decide) q209 tyX2 tyX2_ok nmX2 rfl (nar_z (Or.inr rfl)) (fit_z (Or.inr rfl)) ⟨by decide, by decide⟩ s258 rfl l258 ?_
    have hw9 : WT (sI M5 (258) (6) (1)) := hwM5.sI ⟨by decide, by decide⟩
    refine w_aload_n dX2_includeMatches_28 1 rfl ?_
    refine w_getI (ci := 2) (k := 6) dX2_includeMatches_29 rfl fi2 (by decide) q209 s258 rfl l258 ?_
    refine w_top (congrArg vi (gI_same _ _ _ _)) ?_
    refine w_if_ne (tgt := 44) dX2_includeMatches_32 (by decide) ⟨by decide, by decide⟩ (fun c => ?_) (fun c => ?_)
    · refine w_iconst dX2_includeMatches_44 ?_
      exact w_zret dX2_includeMatches_45 (Or.inl rfl) ⟨_, rfl, (Or.inl rfl), h⟩
    · exact absurd c (by decide)
set_option maxHeartbeats 4000000 in
set_option maxRecDepth 100000 in
theorem b_Ev_hostMatches_0 {g : Ctx} {n : Nat} {p0 : Nat} {M : Mem} {Q : Int → Mem → Prop} (hp0 : isRul p0) (h : (isRec (gP M (258) (0))) ∧ K_Rc_domainOf g n (gP M (258) (0)) (gI M (p0) (4)) M (fun r2 M3 => (r2 = 0 ∨ isDom r2) → WT M3 → (((r2 = 0) → K_Ev_findEmpty g n  M3 (fun M6 => WT M6 → Q 0 M6)) ∧ ((¬ (r2 = 0)) → (((¬ (gI M3 (r2) (8)) = 0) → K_Dm_placeOfHost g n r2 (gI M3 (258) (2)) M3 (fun r8 M9 => InR r8 → WT M9 → (((r8 = (-1)) → Q 0 M9) ∧ ((¬ (r8 = (-1))) → Q 1 M9)))) ∧ (((gI M3 (r2) (8)) = 0) → K_Ev_findEmpty g n  M3 (fun M12 => WT M12 → Q 0 M12))))))) : P_Ev_hostMatches g n 0 [(0, vr g (258)), (1, vr g (p0))] [] M Q := by
  refine w_wt (fun hw => ?_)
  refine w_aload_n dX2_hostMatches_0 0 rfl ?_
  refine w_getQ (ci := 2) (k := 0) dX2_hostMatches_1 rfl fi2 (by decide) q198 s258 rfl l258 ?_
  obtain ⟨t1, h⟩ := h
  refine w_top (vq_ne (nRec t1)) ?_
  refine w_aload_n dX2_hostMatches_4 1 rfl ?_
  refine w_getIN (ci := 9) (k := 4) dX2_hostMatches_5 rfl fi9 (by decide) qn96 (sRul hp0) rfl (bRul hp0 (Nat.le_add_right _ _)) ?_
  refine c_Rc_domainOf dX2_hostMatches_8 q639 (by decide) (Nat.le_of_ble_eq_true rfl) t1 h (fun r2 M3 h hr2 hwM3 => ?_)
  replace h := h hr2 hwM3
  refine w_astore_nq (lv' := [(2, vq g (r2)), (0, vr g (258)), (1, vr g (p0))]) (i := 2) dX2_hostMatches_11 rfl (by decide) rfl ?_
  refine w_aload_nq dX2_hostMatches_12 0 rfl ?_
  refine w_ifnull (tgt := 23) dX2_hostMatches_13 (by decide) (fun c4 => ?_) (fun c4 => ?_)
  · replace h := h.1 c4
    refine w_aload_n dX2_hostMatches_23 1 rfl ?_
    refine c_Ev_findEmpty dX2_hostMatches_24 q640 (by decide) (Nat.le_of_ble_eq_true rfl) h (fun M6 h hwM6 => ?_)
    replace h := h hwM6
    refine w_iconst dX2_hostMatches_27 ?_
    exact w_zret dX2_hostMatches_28 (Or.inl rfl) ⟨_, rfl, (Or.inl rfl), h⟩
  · replace h := h.2 c4
    rw [vq_ne c4]
    refine w_aload_n dX2_hostMatches_16 0 rfl ?_
    refine w_getIN (ci := 1) (k := 8) dX2_hostMatches_17 rfl fi1 (by decide) qn151 (sDom (hr2.resolve_left c4)) rfl (bDom (hr2.resolve_left c4) (Nat.le_add_right _ _)) ?_
    refine w_if_ne (tgt := 29) dX2_hostMatches_20 (by decide) (hwM3.int _ _) (fun c7 => ?_) (fun c7 => ?_)
    · replace h := h.1 c7
      refine w_aload_n dX2_hostMatches_29 0 rfl ?_
      refine w_aload_n dX2_hostMatches_30 1 rfl ?_
      refine w_getI (ci := 2) (k := 2) dX2_hostMatches_31 rfl fi2 (by decide) q200 s258 rfl l258 ?_
      refine c_Dm_placeOfHost dX2_hostMatches_34 q644 (by decide) (Nat.le_of_ble_eq_true rfl) (hr2.resolve_left c4) h (fun r8 M9 h hr8 hwM9 => ?_)
      replace h := h hr8 hwM9
      refine w_iconst dX2_hostMatches_37 ?_
      refine w_icmp_eq (tgt := 45) dX2_hostMatches_38 (by decide) hr8 ⟨by decide, by decide⟩ (fun c10 => ?_) (fun c10 => ?_)
      · replace h := h.1 c10
        refine w_iconst dX2_hostMatches_45 ?_
        exact w_zret dX2_hostMatches_46 (Or.inl rfl) ⟨_, rfl, (Or.inl rfl), h⟩
      · replace h := h.2 c10
        refine w_iconst dX2_hostMatches_41 ?_
        refine w_goto (tgt := 46) dX2_hostMatches_42 (by decide) ?_
        exact w_zret dX2_hostMatches_46 (Or.inr rfl) ⟨_, rfl, (Or.inr rfl), h⟩
    · replace h := h.2 c7
      refine w_aload_n dX2_hostMatches_23 1 rfl ?_
      refine c_Ev_findEmpty dX2_hostMatches_24 q640 (by decide) (Nat.le_of_ble_eq_true rfl) h (fun M12 h hwM12 => ?_)
      replace h := h hwM12
      refine w_iconst dX2_hostMatches_27 ?_
      exact w_zret dX2_hostMatches_28 (Or.inl rfl) ⟨_, rfl, (Or.inl rfl), h⟩
set_option maxHeartbeats 4000000 in
set_option maxRecDepth 100000 in
theorem b_Ev_findEmpty_0 {g : Ctx} {n : Nat}  {M : Mem} {Q : Mem → Prop}  (h : (InR ((gI M (258) (5)) + 1)) ∧ (((((gI M (258) (5)) + 1) ≤ 2) → Q (sI M (258) (5) ((gI M (258) (5)) + 1))) ∧ ((¬ (((gI M (258) (5)) + 1) ≤ 2)) → Q (sI (sI M (258) (5) ((gI M (258) (5)) + 1)) (258) (6) (1))))) : P_Ev_findEmpty g n 0 [(0, vr g (258))] [] M Q := by
  refine w_wt (fun hw => ?_)
  refine w_aload_n dX2_findEmpty_0 0 rfl ?_
  refine w_dup dX2_findEmpty_1 rfl ?_
  refine w_getI (ci := 2) (k := 5) dX2_findEmpty_2 rfl fi2 (by decide) q207 s258 rfl l258 ?_
  refine w_iconst dX2_findEmpty_5 ?_
  refine w_iadd dX2_findEmpty_6 ?_
  obtain ⟨i1, h⟩ := h
  refine w_putI (ci := 2) (k := 5) dX2_findEmpty_7 rfl fi2 (by decide) q207 tyX2 tyX2_ok nmX2 rfl rfl rfl i1 s258 rfl l258 ?_
  have hw2 : WT (sI M (258) (5) ((gI M (258) (5)) + 1)) := hw.sI i1
  refine w_aload_n dX2_findEmpty_10 0 rfl ?_
  refine w_getI (ci := 2) (k := 5) dX2_findEmpty_11 rfl fi2 (by decide) q207 s258 rfl l258 ?_
  refine w_top (congrArg vi (gI_same _ _ _ _)) ?_
  refine w_iconst dX2_findEmpty_14 ?_
  refine w_icmp_le (tgt := 23) dX2_findEmpty_15 (by decide) i1 ⟨by decide, by decide⟩ (fun c3 => ?_) (fun c3 => ?_)
  · replace h := h.1 c3
    exact w_vret dX2_findEmpty_23 ⟨rfl, h⟩
  · replace h := h.2 c3
    refine w_aload_n dX2_findEmpty_18 0 rfl ?_
    refine w_iconst dX2_findEmpty_19 ?_
    refine w_putI (ci := 2) (k := 6) dX2_findEmpty_20 rfl fi2 (by decide) q209 tyX2 tyX2_ok nmX2 rfl (nar_z (Or.inr rfl)) (fit_z (Or.inr rfl)) ⟨by decide, by decide⟩ s258 rfl l258 ?_
    have hw4 : WT (sI (sI M (258) (5) ((gI M (258) (5)) + 1)) (258) (6) (1)) := hw2.sI ⟨by decide, by decide⟩
    exact w_vret dX2_findEmpty_23 ⟨rfl, h⟩
set_option maxHeartbeats 4000000 in
set_option maxRecDepth 100000 in
theorem b_Dm_placeOfHost_0 {g : Ctx} {n : Nat} {o : Nat} {p0 : Int} {M : Mem} {Q : Int → Mem → Prop} (ho : isDom o) (hp0 : InR p0) (h : P_Dm_placeOfHost g n 2 [(0, vr g (o)), (1, vi (p0)), (2, vi (0))] [] M Q) : P_Dm_placeOfHost g n 0 [(0, vr g (o)), (1, vi (p0))] [] M Q := by
  refine w_wt (fun hw => ?_)
  refine w_iconst dX1_placeOfHost_0 ?_
  refine w_istore_n (lv' := [(2, vi (0)), (0, vr g (o)), (1, vi (p0))]) (i := 2) dX1_placeOfHost_1 rfl (by decide) rfl ?_
  refine w_lv [1, 2, 0] rfl ?_
  exact h
set_option maxHeartbeats 4000000 in
set_option maxRecDepth 100000 in
theorem b_Dm_placeOfHost_2 {g : Ctx} {n : Nat} {a0 : Nat} {x1 : Int} {x2 : Int} {M : Mem} {Q : Int → Mem → Prop} (ha0 : isDom a0) (hx1 : InR x1) (hx2 : InR x2) (h : ((((gI M (a0) (8)) ≤ x2) → Q (-1) M) ∧ ((¬ ((gI M (a0) (8)) ≤ x2)) → (0 ≤ x2 ∧ x2 < 4) ∧ (((¬ (gI M (a0 + 3) (x2.toNat)) = x1) → P_Dm_placeOfHost g n 2 [(0, vr g (a0)), (1, vi (x1)), (2, vi (x2 + 1))] [] M Q) ∧ (((gI M (a0 + 3) (x2.toNat)) = x1) → Q x2 M))))) : P_Dm_placeOfHost g n 2 [(0, vr g (a0)), (1, vi (x1)), (2, vi (x2))] [] M Q := by
  refine w_wt (fun hw => ?_)
  refine w_iload_n dX1_placeOfHost_2 2 rfl ?_
  refine w_aload_n dX1_placeOfHost_3 0 rfl ?_
  refine w_getI (ci := 1) (k := 8) dX1_placeOfHost_4 rfl fi1 (by decide) q148 (sDom ha0) rfl (bDom ha0 (Nat.le_add_right _ _)) ?_
  refine w_icmp_ge (tgt := 28) dX1_placeOfHost_7 (by decide) hx2 (hw.int _ _) (fun c1 => ?_) (fun c1 => ?_)
  · replace h := h.1 c1
    refine w_iconst dX1_placeOfHost_28 ?_
    exact w_iret dX1_placeOfHost_29 ⟨_, rfl, ⟨by decide, by decide⟩, h⟩
  · replace h := h.2 c1
    refine w_aload_n dX1_placeOfHost_10 0 rfl ?_
    refine w_getS (ci := 1) (k := 7) dX1_placeOfHost_11 rfl fi1 (by decide) q146 (sDom ha0) rfl (bDom ha0 (Nat.le_add_right _ _)) ?_
    refine w_iload_n dX1_placeOfHost_14 2 rfl ?_
    obtain ⟨i2, h⟩ := h
    refine w_iald dX1_placeOfHost_15 (sDom3 ha0) (bDom3 ha0 (Nat.le_add_right _ _)) (by decide) i2.1 i2.2 ?_
    refine w_iload_n dX1_placeOfHost_16 1 rfl ?_
    refine w_icmp_ne (tgt := 22) dX1_placeOfHost_17 (by decide) (hw.int _ _) hx1 (fun c3 => ?_) (fun c3 => ?_)
    · replace h := h.1 c3
      refine w_iinc (lv' := [(2, vi (x2 + 1)), (0, vr g (a0)), (1, vi (x1))]) dX1_placeOfHost_22 2 rfl (by decide) rfl ?_
      refine w_goto (tgt := 2) dX1_placeOfHost_25 (by decide) ?_
      refine w_lv [1, 2, 0] rfl ?_
      exact h
    · replace h := h.2 c3
      refine w_iload_n dX1_placeOfHost_20 2 rfl ?_
      exact w_iret dX1_placeOfHost_21 ⟨_, rfl, hx2, h⟩
set_option maxHeartbeats 4000000 in
set_option maxRecDepth 100000 in
theorem b_Ev_mailMatches_0 {g : Ctx} {n : Nat} {p0 : Nat} {M : Mem} {Q : Int → Mem → Prop} (hp0 : isRul p0) (h : (isRec (gP M (258) (0))) ∧ K_Rc_domainOf g n (gP M (258) (0)) (gI M (p0) (4)) M (fun r2 M3 => (r2 = 0 ∨ isDom r2) → WT M3 → (((r2 = 0) → K_Ev_findEmpty g n  M3 (fun M6 => WT M6 → Q 0 M6)) ∧ ((¬ (r2 = 0)) → (((¬ (gI M3 (r2) (10)) = 0) → P_Ev_mailMatches g n 31 [(0, vr g (258)), (2, vr g (r2)), (3, vi (0))] [] M3 Q) ∧ (((gI M3 (r2) (10)) = 0) → K_Ev_findEmpty g n  M3 (fun M9 => WT M9 → Q 0 M9))))))) : P_Ev_mailMatches g n 0 [(0, vr g (258)), (1, vr g (p0))] [] M Q := by
  refine w_wt (fun hw => ?_)
  refine w_aload_n dX2_mailMatches_0 0 rfl ?_
  refine w_getQ (ci := 2) (k := 0) dX2_mailMatches_1 rfl fi2 (by decide) q198 s258 rfl l258 ?_
  obtain ⟨t1, h⟩ := h
  refine w_top (vq_ne (nRec t1)) ?_
  refine w_aload_n dX2_mailMatches_4 1 rfl ?_
  refine w_getIN (ci := 9) (k := 4) dX2_mailMatches_5 rfl fi9 (by decide) qn96 (sRul hp0) rfl (bRul hp0 (Nat.le_add_right _ _)) ?_
  refine c_Rc_domainOf dX2_mailMatches_8 q639 (by decide) (Nat.le_of_ble_eq_true rfl) t1 h (fun r2 M3 h hr2 hwM3 => ?_)
  replace h := h hr2 hwM3
  refine w_astore_nq (lv' := [(2, vq g (r2)), (0, vr g (258)), (1, vr g (p0))]) (i := 2) dX2_mailMatches_11 rfl (by decide) rfl ?_
  refine w_aload_nq dX2_mailMatches_12 0 rfl ?_
  refine w_ifnull (tgt := 23) dX2_mailMatches_13 (by decide) (fun c4 => ?_) (fun c4 => ?_)
  · replace h := h.1 c4
    refine w_aload_n dX2_mailMatches_23 1 rfl ?_
    refine c_Ev_findEmpty dX2_mailMatches_24 q640 (by decide) (Nat.le_of_ble_eq_true rfl) h (fun M6 h hwM6 => ?_)
    replace h := h hwM6
    refine w_iconst dX2_mailMatches_27 ?_
    exact w_zret dX2_mailMatches_28 (Or.inl rfl) ⟨_, rfl, (Or.inl rfl), h⟩
  · replace h := h.2 c4
    rw [vq_ne c4]
    refine w_aload_n dX2_mailMatches_16 0 rfl ?_
    refine w_getIN (ci := 1) (k := 10) dX2_mailMatches_17 rfl fi1 (by decide) qn157 (sDom (hr2.resolve_left c4)) rfl (bDom (hr2.resolve_left c4) (Nat.le_add_right _ _)) ?_
    refine w_if_ne (tgt := 29) dX2_mailMatches_20 (by decide) (hwM3.int _ _) (fun c7 => ?_) (fun c7 => ?_)
    · replace h := h.1 c7
      refine w_iconst dX2_mailMatches_29 ?_
      refine w_istore_n (lv' := [(3, vi (0)), (2, vr g (r2)), (0, vr g (258)), (1, vr g (p0))]) (i := 3) dX2_mailMatches_30 rfl (by decide) rfl ?_
      refine w_lv [2, 1, 0] rfl ?_
      exact h
    · replace h := h.2 c7
      refine w_aload_n dX2_mailMatches_23 1 rfl ?_
      refine c_Ev_findEmpty dX2_mailMatches_24 q640 (by decide) (Nat.le_of_ble_eq_true rfl) h (fun M9 h hwM9 => ?_)
      replace h := h hwM9
      refine w_iconst dX2_mailMatches_27 ?_
      exact w_zret dX2_mailMatches_28 (Or.inl rfl) ⟨_, rfl, (Or.inl rfl), h⟩
set_option maxHeartbeats 4000000 in
set_option maxRecDepth 100000 in
theorem b_Ev_mailMatches_31 {g : Ctx} {n : Nat} {a2 : Nat} {x3 : Int} {M : Mem} {Q : Int → Mem → Prop} (ha2 : isDom a2) (hx3 : InR x3) (h : ((((gI M (a2) (10)) ≤ x3) → Q 0 M) ∧ ((¬ ((gI M (a2) (10)) ≤ x3)) → (isRec (gP M (258) (0))) ∧ (0 ≤ x3 ∧ x3 < 3) ∧ K_Rc_domainOf g n (gP M (258) (0)) (gI M (a2 + 4) (x3.toNat)) M (fun r4 M5 => (r4 = 0 ∨ isDom r4) → WT M5 → (((r4 = 0) → P_Ev_mailMatches g n 31 [(0, vr g (258)), (2, vr g (a2)), (3, vi (x3 + 1))] [] M5 Q) ∧ ((¬ (r4 = 0)) → K_Dm_placeOfHost g n r4 (gI M5 (258) (2)) M5 (fun r7 M8 => InR r7 → WT M8 → (((r7 = (-1)) → P_Ev_mailMatches g n 31 [(0, vr g (258)), (2, vr g (a2)), (3, vi (x3 + 1))] [] M8 Q) ∧ ((¬ (r7 = (-1))) → Q 1 M8))))))))) : P_Ev_mailMatches g n 31 [(0, vr g (258)), (2, vr g (a2)), (3, vi (x3))] [] M Q := by
  refine w_wt (fun hw => ?_)
  refine w_iload_n dX2_mailMatches_31 2 rfl ?_
  refine w_aload_n dX2_mailMatches_32 1 rfl ?_
  refine w_getIN (ci := 1) (k := 10) dX2_mailMatches_33 rfl fi1 (by decide) qn157 (sDom ha2) rfl (bDom ha2 (Nat.le_add_right _ _)) ?_
  refine w_icmp_ge (tgt := 80) dX2_mailMatches_36 (by decide) hx3 (hw.int _ _) (fun c1 => ?_) (fun c1 => ?_)
  · replace h := h.1 c1
    refine w_iconst dX2_mailMatches_80 ?_
    exact w_zret dX2_mailMatches_81 (Or.inl rfl) ⟨_, rfl, (Or.inl rfl), h⟩
  · replace h := h.2 c1
    refine w_aload_n dX2_mailMatches_39 0 rfl ?_
    refine w_getQ (ci := 2) (k := 0) dX2_mailMatches_40 rfl fi2 (by decide) q198 s258 rfl l258 ?_
    obtain ⟨t2, h⟩ := h
    refine w_top (vq_ne (nRec t2)) ?_
    refine w_aload_n dX2_mailMatches_43 1 rfl ?_
    refine w_getSN (ci := 1) (k := 9) dX2_mailMatches_44 rfl fi1 (by decide) qn154 (sDom ha2) rfl (bDom ha2 (Nat.le_add_right _ _)) ?_
    refine w_iload_n dX2_mailMatches_47 2 rfl ?_
    obtain ⟨i3, h⟩ := h
    refine w_iald dX2_mailMatches_48 (sDom4 ha2) (bDom4 ha2 (Nat.le_add_right _ _)) (by decide) i3.1 i3.2 ?_
    refine c_Rc_domainOf dX2_mailMatches_49 q639 (by decide) (Nat.le_of_ble_eq_true rfl) t2 h (fun r4 M5 h hr4 hwM5 => ?_)
    replace h := h hr4 hwM5
    refine w_astoreq (lv' := [(4, vq g (r4)), (0, vr g (258)), (2, vr g (a2)), (3, vi (x3))]) dX2_mailMatches_52 (by decide) rfl ?_
    refine w_aloadq dX2_mailMatches_54 0 rfl ?_
    refine w_ifnull (tgt := 74) dX2_mailMatches_56 (by decide) (fun c6 => ?_) (fun c6 => ?_)
    · replace h := h.1 c6
      refine w_iinc (lv' := [(3, vi (x3 + 1)), (4, vq g (r4)), (0, vr g (258)), (2, vr g (a2))]) dX2_mailMatches_74 3 rfl (by decide) rfl ?_
      refine w_goto (tgt := 31) dX2_mailMatches_77 (by decide) ?_
      refine w_lv [2, 3, 0] rfl ?_
      exact h
    · replace h := h.2 c6
      rw [vq_ne c6]
      refine w_aload dX2_mailMatches_59 0 rfl ?_
      refine w_aload_n dX2_mailMatches_61 1 rfl ?_
      refine w_getI (ci := 2) (k := 2) dX2_mailMatches_62 rfl fi2 (by decide) q200 s258 rfl l258 ?_
      refine c_Dm_placeOfHost dX2_mailMatches_65 q644 (by decide) (Nat.le_of_ble_eq_true rfl) (hr4.resolve_left c6) h (fun r7 M8 h hr7 hwM8 => ?_)
      replace h := h hr7 hwM8
      refine w_iconst dX2_mailMatches_68 ?_
      refine w_icmp_eq (tgt := 74) dX2_mailMatches_69 (by decide) hr7 ⟨by decide, by decide⟩ (fun c9 => ?_) (fun c9 => ?_)
      · replace h := h.1 c9
        refine w_iinc (lv' := [(3, vi (x3 + 1)), (4, vr g (r4)), (0, vr g (258)), (2, vr g (a2))]) dX2_mailMatches_74 3 rfl (by decide) rfl ?_
        refine w_goto (tgt := 31) dX2_mailMatches_77 (by decide) ?_
        refine w_lv [2, 3, 0] rfl ?_
        exact h
      · replace h := h.2 c9
        refine w_iconst dX2_mailMatches_72 ?_
        exact w_zret dX2_mailMatches_73 (Or.inr rfl) ⟨_, rfl, (Or.inr rfl), h⟩
set_option maxHeartbeats 4000000 in
set_option maxRecDepth 100000 in
theorem b_Ev_existsMatches_0 {g : Ctx} {n : Nat} {p0 : Nat} {p1 : Nat} {M : Mem} {Q : Int → Mem → Prop} (hp0 : isRul p0) (hp1 : isDom p1) (h : K_Nm_clear g n 259 M (fun M2 => WT M2 → P_Ev_existsMatches g n 14 [(0, vr g (258)), (1, vr g (p0)), (2, vr g (p1)), (3, vi ((gI M2 (p0) (6)) - 1))] [] M2 Q)) : P_Ev_existsMatches g n 0 [(0, vr g (258)), (1, vr g (p0)), (2, vr g (p1))] [] M Q := by
  refine w_wt (fun hw => ?_)
  refine w_aload_n dX2_existsMatches_0 0 rfl ?_
  refine w_getS (ci := 2) (k := 9) dX2_existsMatches_1 rfl fi2 (by decide) q216 s258 rfl l258 ?_
  refine c_Nm_clear dX2_existsMatches_4 q656 (by decide) (Nat.le_of_ble_eq_true rfl) (Or.inr rfl) h (fun M2 h hwM2 => ?_)
  replace h := h hwM2
  refine w_aload_n dX2_existsMatches_7 1 rfl ?_
  refine w_getIN (ci := 9) (k := 6) dX2_existsMatches_8 rfl fi9 (by decide) qn104 (sRul hp0) rfl (bRul hp0 (Nat.le_add_right _ _)) ?_
  refine w_iconst dX2_existsMatches_11 ?_
  refine w_isub dX2_existsMatches_12 ?_
  refine w_istore_n (lv' := [(3, vi ((gI M2 (p0) (6)) - 1)), (0, vr g (258)), (1, vr g (p0)), (2, vr g (p1))]) (i := 3) dX2_existsMatches_13 rfl (by decide) rfl ?_
  refine w_lv [1, 2, 3, 0] rfl ?_
  exact h
set_option maxHeartbeats 4000000 in
set_option maxRecDepth 100000 in
theorem b_Ev_existsMatches_14 {g : Ctx} {n : Nat} {a1 : Nat} {a2 : Nat} {x3 : Int} {M : Mem} {Q : Int → Mem → Prop} (ha1 : isRul a1) (ha2 : isDom a2) (hx3 : InR x3) (h : (((x3 < 0) → (isRec (gP M (258) (0))) ∧ K_Nm_finished g n 259 M (fun r3 M4 => InR r3 → WT M4 → K_Rc_domainOf g n (gP M (258) (0)) r3 M4 (fun r5 M6 => (r5 = 0 ∨ isDom r5) → WT M6 → (((r5 = 0) → K_Ev_findEmpty g n  M6 (fun M9 => WT M9 → Q 0 M9)) ∧ ((¬ (r5 = 0)) → (((¬ (gI M6 (r5) (8)) = 0) → Q 1 M6) ∧ (((gI M6 (r5) (8)) = 0) → K_Ev_findEmpty g n  M6 (fun M12 => WT M12 → Q 0 M12)))))))) ∧ ((¬ (x3 < 0)) → (0 ≤ x3 ∧ x3 < 8) ∧ K_Ev_putPart g n (gI M (a1 + 1) (x3.toNat)) a2 M (fun M15 => WT M15 → P_Ev_existsMatches g n 14 [(0, vr g (258)), (1, vr g (a1)), (2, vr g (a2)), (3, vi (x3 + (-1)))] [] M15 Q)))) : P_Ev_existsMatches g n 14 [(0, vr g (258)), (1, vr g (a1)), (2, vr g (a2)), (3, vi (x3))] [] M Q := by
  refine w_wt (fun hw => ?_)
  refine w_iload_n dX2_existsMatches_14 3 rfl ?_
  refine w_if_lt (tgt := 35) dX2_existsMatches_15 (by decide) hx3 (fun c1 => ?_) (fun c1 => ?_)
  · replace h := h.1 c1
    refine w_aload_n dX2_existsMatches_35 0 rfl ?_
    refine w_getQ (ci := 2) (k := 0) dX2_existsMatches_36 rfl fi2 (by decide) q198 s258 rfl l258 ?_
    obtain ⟨t2, h⟩ := h
    refine w_top (vq_ne (nRec t2)) ?_
    refine w_aload_n dX2_existsMatches_39 0 rfl ?_
    refine w_getS (ci := 2) (k := 9) dX2_existsMatches_40 rfl fi2 (by decide) q216 s258 rfl l258 ?_
    refine c_Nm_finished dX2_existsMatches_43 q671 (by decide) (Nat.le_of_ble_eq_true rfl) (Or.inr rfl) h (fun r3 M4 h hr3 hwM4 => ?_)
    replace h := h hr3 hwM4
    refine c_Rc_domainOf dX2_existsMatches_46 q639 (by decide) (Nat.le_of_ble_eq_true rfl) t2 h (fun r5 M6 h hr5 hwM6 => ?_)
    replace h := h hr5 hwM6
    refine w_astore_nq (lv' := [(3, vq g (r5)), (0, vr g (258)), (1, vr g (a1)), (2, vr g (a2))]) (i := 3) dX2_existsMatches_49 rfl (by decide) rfl ?_
    refine w_aload_nq dX2_existsMatches_50 0 rfl ?_
    refine w_ifnull (tgt := 61) dX2_existsMatches_51 (by decide) (fun c7 => ?_) (fun c7 => ?_)
    · replace h := h.1 c7
      refine w_aload_n dX2_existsMatches_61 1 rfl ?_
      refine c_Ev_findEmpty dX2_existsMatches_62 q640 (by decide) (Nat.le_of_ble_eq_true rfl) h (fun M9 h hwM9 => ?_)
      replace h := h hwM9
      refine w_iconst dX2_existsMatches_65 ?_
      exact w_zret dX2_existsMatches_66 (Or.inl rfl) ⟨_, rfl, (Or.inl rfl), h⟩
    · replace h := h.2 c7
      rw [vq_ne c7]
      refine w_aload_n dX2_existsMatches_54 0 rfl ?_
      refine w_getIN (ci := 1) (k := 8) dX2_existsMatches_55 rfl fi1 (by decide) qn151 (sDom (hr5.resolve_left c7)) rfl (bDom (hr5.resolve_left c7) (Nat.le_add_right _ _)) ?_
      refine w_if_ne (tgt := 67) dX2_existsMatches_58 (by decide) (hwM6.int _ _) (fun c10 => ?_) (fun c10 => ?_)
      · replace h := h.1 c10
        refine w_iconst dX2_existsMatches_67 ?_
        exact w_zret dX2_existsMatches_68 (Or.inr rfl) ⟨_, rfl, (Or.inr rfl), h⟩
      · replace h := h.2 c10
        refine w_aload_n dX2_existsMatches_61 1 rfl ?_
        refine c_Ev_findEmpty dX2_existsMatches_62 q640 (by decide) (Nat.le_of_ble_eq_true rfl) h (fun M12 h hwM12 => ?_)
        replace h := h hwM12
        refine w_iconst dX2_existsMatches_65 ?_
        exact w_zret dX2_existsMatches_66 (Or.inl rfl) ⟨_, rfl, (Or.inl rfl), h⟩
  · replace h := h.2 c1
    refine w_aload_n dX2_existsMatches_18 0 rfl ?_
    refine w_aload_n dX2_existsMatches_19 1 rfl ?_
    refine w_getSN (ci := 9) (k := 5) dX2_existsMatches_20 rfl fi9 (by decide) qn101 (sRul ha1) rfl (bRul ha1 (Nat.le_add_right _ _)) ?_
    refine w_iload_n dX2_existsMatches_23 3 rfl ?_
    obtain ⟨i13, h⟩ := h
    refine w_iald dX2_existsMatches_24 (sRul1 ha1) (bRul1 ha1 (Nat.le_add_right _ _)) (by decide) i13.1 i13.2 ?_
    refine w_aload_n dX2_existsMatches_25 2 rfl ?_
    refine c_Ev_putPart dX2_existsMatches_26 q657 (by decide) (Nat.le_of_ble_eq_true rfl) h (fun M15 h hwM15 => ?_)
    replace h := h hwM15
    refine w_iinc (lv' := [(3, vi (x3 + (-1))), (0, vr g (258)), (1, vr g (a1)), (2, vr g (a2))]) dX2_existsMatches_29 3 rfl (by decide) rfl ?_
    refine w_goto (tgt := 14) dX2_existsMatches_32 (by decide) ?_
    refine w_lv [1, 2, 3, 0] rfl ?_
    exact h
set_option maxHeartbeats 4000000 in
set_option maxRecDepth 100000 in
theorem b_Ev_putPart_0 {g : Ctx} {n : Nat} {p0 : Int} {p1 : Nat} {M : Mem} {Q : Mem → Prop} (hp0 : InR p0) (hp1 : isDom p1) (h : (((¬ (jand p0 1) = 1) → K_Ev_sizeOf g n (jshr p0 4) p1 M (fun r2 M3 => InR r2 → WT M3 → (((¬ (jand (jshr p0 1) 7) = 0) → P_Ev_putPart g n 56 [(0, vr g (258)), (2, vr g (p1)), (3, vi (jshr p0 4)), (5, vi (0)), (6, vi (r2)), (7, vi (if r2 < (jand (jshr p0 1) 7) then r2 else (jand (jshr p0 1) 7))), (8, vi (0))] [] M3 Q) ∧ (((jand (jshr p0 1) 7) = 0) → P_Ev_putPart g n 56 [(0, vr g (258)), (2, vr g (p1)), (3, vi (jshr p0 4)), (5, vi (0)), (6, vi (r2)), (7, vi (r2)), (8, vi (0))] [] M3 Q)))) ∧ (((jand p0 1) = 1) → K_Ev_sizeOf g n (jshr p0 4) p1 M (fun r5 M6 => InR r5 → WT M6 → (((¬ (jand (jshr p0 1) 7) = 0) → P_Ev_putPart g n 56 [(0, vr g (258)), (2, vr g (p1)), (3, vi (jshr p0 4)), (5, vi (1)), (6, vi (r5)), (7, vi (if r5 < (jand (jshr p0 1) 7) then r5 else (jand (jshr p0 1) 7))), (8, vi (0))] [] M6 Q) ∧ (((jand (jshr p0 1) 7) = 0) → P_Ev_putPart g n 56 [(0, vr g (258)), (2, vr g (p1)), (3, vi (jshr p0 4)), (5, vi (1)), (6, vi (r5)), (7, vi (r5)), (8, vi (0))] [] M6 Q)))))) : P_Ev_putPart g n 0 [(0, vr g (258)), (1, vi (p0)), (2, vr g (p1))] [] M Q := by
  refine w_wt (fun hw => ?_)
  refine w_iload_n dX2_putPart_0 1 rfl ?_
  refine w_iconst dX2_putPart_1 ?_
  refine w_ishr dX2_putPart_2 ?_
  refine w_istore_n (lv' := [(3, vi (jshr p0 4)), (0, vr g (258)), (1, vi (p0)), (2, vr g (p1))]) (i := 3) dX2_putPart_3 rfl (by decide) rfl ?_
  refine w_iload_n dX2_putPart_4 2 rfl ?_
  refine w_iconst dX2_putPart_5 ?_
  refine w_ishr dX2_putPart_6 ?_
  refine w_bipush dX2_putPart_7 rfl ?_
  refine w_iand dX2_putPart_9 ?_
  refine w_istore (lv' := [(4, vi (jand (jshr p0 1) 7)), (3, vi (jshr p0 4)), (0, vr g (258)), (1, vi (p0)), (2, vr g (p1))]) dX2_putPart_10 (by decide) rfl ?_
  refine w_iload_n dX2_putPart_12 3 rfl ?_
  refine w_iconst dX2_putPart_13 ?_
  refine w_iand dX2_putPart_14 ?_
  refine w_iconst dX2_putPart_15 ?_
  refine w_icmp_ne (tgt := 23) dX2_putPart_16 (by decide) (inr_jand _ _) ⟨by decide, by decide⟩ (fun c1 => ?_) (fun c1 => ?_)
  · replace h := h.1 c1
    refine w_iconst dX2_putPart_23 ?_
    refine w_istore (lv' := [(5, vi (0)), (4, vi (jand (jshr p0 1) 7)), (3, vi (jshr p0 4)), (0, vr g (258)), (1, vi (p0)), (2, vr g (p1))]) dX2_putPart_24 (by decide) rfl ?_
    refine w_aload_n dX2_putPart_26 3 rfl ?_
    refine w_iload_n dX2_putPart_27 2 rfl ?_
    refine w_aload_n dX2_putPart_28 5 rfl ?_
    refine c_Ev_sizeOf dX2_putPart_29 q661 (by decide) (Nat.le_of_ble_eq_true rfl) h (fun r2 M3 h hr2 hwM3 => ?_)
    replace h := h hr2 hwM3
    refine w_istore (lv' := [(6, vi (r2)), (5, vi (0)), (4, vi (jand (jshr p0 1) 7)), (3, vi (jshr p0 4)), (0, vr g (258)), (1, vi (p0)), (2, vr g (p1))]) dX2_putPart_32 (by decide) rfl ?_
    refine w_iload dX2_putPart_34 2 rfl ?_
    refine w_if_ne (tgt := 44) dX2_putPart_36 (by decide) (inr_jand _ _) (fun c4 => ?_) (fun c4 => ?_)
    · replace h := h.1 c4
      refine w_iload dX2_putPart_44 2 rfl ?_
      refine w_iload dX2_putPart_46 0 rfl ?_
      refine w_mmin dX2_putPart_48 q665 q451 q16 q452 (by decide) (Nat.le_of_ble_eq_true rfl) (inr_jand _ _) hr2 ?_
      refine w_istore (lv' := [(7, vi (if r2 < (jand (jshr p0 1) 7) then r2 else (jand (jshr p0 1) 7))), (6, vi (r2)), (5, vi (0)), (4, vi (jand (jshr p0 1) 7)), (3, vi (jshr p0 4)), (0, vr g (258)), (1, vi (p0)), (2, vr g (p1))]) dX2_putPart_51 (by decide) rfl ?_
      refine w_iconst dX2_putPart_53 ?_
      refine w_istore (lv' := [(8, vi (0)), (7, vi (if r2 < (jand (jshr p0 1) 7) then r2 else (jand (jshr p0 1) 7))), (6, vi (r2)), (5, vi (0)), (4, vi (jand (jshr p0 1) 7)), (3, vi (jshr p0 4)), (0, vr g (258)), (1, vi (p0)), (2, vr g (p1))]) dX2_putPart_54 (by decide) rfl ?_
      refine w_lv [6, 8, 5, 3, 2, 1, 0] rfl ?_
      exact h
    · replace h := h.2 c4
      refine w_iload dX2_putPart_39 0 rfl ?_
      refine w_goto (tgt := 51) dX2_putPart_41 (by decide) ?_
      refine w_istore (lv' := [(7, vi (r2)), (6, vi (r2)), (5, vi (0)), (4, vi (jand (jshr p0 1) 7)), (3, vi (jshr p0 4)), (0, vr g (258)), (1, vi (p0)), (2, vr g (p1))]) dX2_putPart_51 (by decide) rfl ?_
      refine w_iconst dX2_putPart_53 ?_
      refine w_istore (lv' := [(8, vi (0)), (7, vi (r2)), (6, vi (r2)), (5, vi (0)), (4, vi (jand (jshr p0 1) 7)), (3, vi (jshr p0 4)), (0, vr g (258)), (1, vi (p0)), (2, vr g (p1))]) dX2_putPart_54 (by decide) rfl ?_
      refine w_lv [6, 8, 5, 3, 2, 1, 0] rfl ?_
      exact h
  · replace h := h.2 c1
    refine w_iconst dX2_putPart_19 ?_
    refine w_goto (tgt := 24) dX2_putPart_20 (by decide) ?_
    refine w_istore (lv' := [(5, vi (1)), (4, vi (jand (jshr p0 1) 7)), (3, vi (jshr p0 4)), (0, vr g (258)), (1, vi (p0)), (2, vr g (p1))]) dX2_putPart_24 (by decide) rfl ?_
    refine w_aload_n dX2_putPart_26 3 rfl ?_
    refine w_iload_n dX2_putPart_27 2 rfl ?_
    refine w_aload_n dX2_putPart_28 5 rfl ?_
    refine c_Ev_sizeOf dX2_putPart_29 q661 (by decide) (Nat.le_of_ble_eq_true rfl) h (fun r5 M6 h hr5 hwM6 => ?_)
    replace h := h hr5 hwM6
    refine w_istore (lv' := [(6, vi (r5)), (5, vi (1)), (4, vi (jand (jshr p0 1) 7)), (3, vi (jshr p0 4)), (0, vr g (258)), (1, vi (p0)), (2, vr g (p1))]) dX2_putPart_32 (by decide) rfl ?_
    refine w_iload dX2_putPart_34 2 rfl ?_
    refine w_if_ne (tgt := 44) dX2_putPart_36 (by decide) (inr_jand _ _) (fun c7 => ?_) (fun c7 => ?_)
    · replace h := h.1 c7
      refine w_iload dX2_putPart_44 2 rfl ?_
      refine w_iload dX2_putPart_46 0 rfl ?_
      refine w_mmin dX2_putPart_48 q665 q451 q16 q452 (by decide) (Nat.le_of_ble_eq_true rfl) (inr_jand _ _) hr5 ?_
      refine w_istore (lv' := [(7, vi (if r5 < (jand (jshr p0 1) 7) then r5 else (jand (jshr p0 1) 7))), (6, vi (r5)), (5, vi (1)), (4, vi (jand (jshr p0 1) 7)), (3, vi (jshr p0 4)), (0, vr g (258)), (1, vi (p0)), (2, vr g (p1))]) dX2_putPart_51 (by decide) rfl ?_
      refine w_iconst dX2_putPart_53 ?_
      refine w_istore (lv' := [(8, vi (0)), (7, vi (if r5 < (jand (jshr p0 1) 7) then r5 else (jand (jshr p0 1) 7))), (6, vi (r5)), (5, vi (1)), (4, vi (jand (jshr p0 1) 7)), (3, vi (jshr p0 4)), (0, vr g (258)), (1, vi (p0)), (2, vr g (p1))]) dX2_putPart_54 (by decide) rfl ?_
      refine w_lv [6, 8, 5, 3, 2, 1, 0] rfl ?_
      exact h
    · replace h := h.2 c7
      refine w_iload dX2_putPart_39 0 rfl ?_
      refine w_goto (tgt := 51) dX2_putPart_41 (by decide) ?_
      refine w_istore (lv' := [(7, vi (r5)), (6, vi (r5)), (5, vi (1)), (4, vi (jand (jshr p0 1) 7)), (3, vi (jshr p0 4)), (0, vr g (258)), (1, vi (p0)), (2, vr g (p1))]) dX2_putPart_51 (by decide) rfl ?_
      refine w_iconst dX2_putPart_53 ?_
      refine w_istore (lv' := [(8, vi (0)), (7, vi (r5)), (6, vi (r5)), (5, vi (1)), (4, vi (jand (jshr p0 1) 7)), (3, vi (jshr p0 4)), (0, vr g (258)), (1, vi (p0)), (2, vr g (p1))]) dX2_putPart_54 (by decide) rfl ?_
      refine w_lv [6, 8, 5, 3, 2, 1, 0] rfl ?_
      exact h
set_option maxHeartbeats 4000000 in
set_option maxRecDepth 100000 in
theorem b_Ev_putPart_56 {g : Ctx} {n : Nat} {a2 : Nat} {x3 : Int} {x5 : Int} {x6 : Int} {x7 : Int} {x8 : Int} {M : Mem} {Q : Mem → Prop} (ha2 : isDom a2) (hx3 : InR x3) (hx5 : InR x5) (hx6 : InR x6) (hx7 : InR x7) (hx8 : InR x8) (h : (((x7 ≤ x8) → Q M) ∧ ((¬ (x7 ≤ x8)) → (((x5 = 0) → K_Ev_fromEndOf g n x3 a2 x8 M (fun r3 M4 => InR r3 → WT M4 → K_Nm_putBefore g n 259 r3 M4 (fun M6 => WT M6 → P_Ev_putPart g n 56 [(0, vr g (258)), (2, vr g (a2)), (3, vi (x3)), (5, vi (x5)), (6, vi (x6)), (7, vi (x7)), (8, vi (x8 + 1))] [] M6 Q))) ∧ ((¬ (x5 = 0)) → K_Ev_fromEndOf g n x3 a2 ((x6 - 1) - x8) M (fun r7 M8 => InR r7 → WT M8 → K_Nm_putBefore g n 259 r7 M8 (fun M10 => WT M10 → P_Ev_putPart g n 56 [(0, vr g (258)), (2, vr g (a2)), (3, vi (x3)), (5, vi (x5)), (6, vi (x6)), (7, vi (x7)), (8, vi (x8 + 1))] [] M10 Q))))))) : P_Ev_putPart g n 56 [(0, vr g (258)), (2, vr g (a2)), (3, vi (x3)), (5, vi (x5)), (6, vi (x6)), (7, vi (x7)), (8, vi (x8))] [] M Q := by
  refine w_wt (fun hw => ?_)
  refine w_iload dX2_putPart_56 6 rfl ?_
  refine w_iload dX2_putPart_58 5 rfl ?_
  refine w_icmp_ge (tgt := 99) dX2_putPart_60 (by decide) hx8 hx7 (fun c1 => ?_) (fun c1 => ?_)
  · replace h := h.1 c1
    exact w_vret dX2_putPart_99 ⟨rfl, h⟩
  · replace h := h.2 c1
    refine w_aload_n dX2_putPart_63 0 rfl ?_
    refine w_getS (ci := 2) (k := 9) dX2_putPart_64 rfl fi2 (by decide) q216 s258 rfl l258 ?_
    refine w_aload_n dX2_putPart_67 0 rfl ?_
    refine w_iload_n dX2_putPart_68 2 rfl ?_
    refine w_aload_n dX2_putPart_69 1 rfl ?_
    refine w_iload dX2_putPart_70 3 rfl ?_
    refine w_if_eq (tgt := 85) dX2_putPart_72 (by decide) hx5 (fun c2 => ?_) (fun c2 => ?_)
    · replace h := h.1 c2
      refine w_iload dX2_putPart_85 6 rfl ?_
      refine c_Ev_fromEndOf dX2_putPart_87 q666 (by decide) (Nat.le_of_ble_eq_true rfl) h (fun r3 M4 h hr3 hwM4 => ?_)
      replace h := h hr3 hwM4
      refine c_Nm_putBefore dX2_putPart_90 q670 (by decide) (Nat.le_of_ble_eq_true rfl) (Or.inr rfl) h (fun M6 h hwM6 => ?_)
      replace h := h hwM6
      refine w_iinc (lv' := [(8, vi (x8 + 1)), (0, vr g (258)), (2, vr g (a2)), (3, vi (x3)), (5, vi (x5)), (6, vi (x6)), (7, vi (x7))]) dX2_putPart_93 6 rfl (by decide) rfl ?_
      refine w_goto (tgt := 56) dX2_putPart_96 (by decide) ?_
      refine w_lv [1, 2, 3, 4, 5, 6, 0] rfl ?_
      exact h
    · replace h := h.2 c2
      refine w_iload dX2_putPart_75 4 rfl ?_
      refine w_iconst dX2_putPart_77 ?_
      refine w_isub dX2_putPart_78 ?_
      refine w_iload dX2_putPart_79 6 rfl ?_
      refine w_isub dX2_putPart_81 ?_
      refine w_goto (tgt := 87) dX2_putPart_82 (by decide) ?_
      refine c_Ev_fromEndOf dX2_putPart_87 q666 (by decide) (Nat.le_of_ble_eq_true rfl) h (fun r7 M8 h hr7 hwM8 => ?_)
      replace h := h hr7 hwM8
      refine c_Nm_putBefore dX2_putPart_90 q670 (by decide) (Nat.le_of_ble_eq_true rfl) (Or.inr rfl) h (fun M10 h hwM10 => ?_)
      replace h := h hwM10
      refine w_iinc (lv' := [(8, vi (x8 + 1)), (0, vr g (258)), (2, vr g (a2)), (3, vi (x3)), (5, vi (x5)), (6, vi (x6)), (7, vi (x7))]) dX2_putPart_93 6 rfl (by decide) rfl ?_
      refine w_goto (tgt := 56) dX2_putPart_96 (by decide) ?_
      refine w_lv [1, 2, 3, 4, 5, 6, 0] rfl ?_
      exact h
set_option maxHeartbeats 4000000 in
set_option maxRecDepth 100000 in
theorem b_Ev_sizeOf_0 {g : Ctx} {n : Nat} {p0 : Int} {p1 : Nat} {M : Mem} {Q : Int → Mem → Prop} (hp0 : InR p0) (hp1 : isDom p1) (h : (((p0 = 16) → Q (gI M (p1) (2)) M) ∧ ((¬ (p0 = 16)) → (((p0 = 17) → (((¬ (gP M (258) (1)) = 0) → (isDom (gP M (258) (1))) ∧ Q (gI M (gP M (258) (1)) (2)) M) ∧ (((gP M (258) (1)) = 0) → Q 0 M))) ∧ ((¬ (p0 = 17)) → (((p0 = 18) → Q 4 M) ∧ ((¬ (p0 = 18)) → Q 1 M))))))) : P_Ev_sizeOf g n 0 [(0, vr g (258)), (1, vi (p0)), (2, vr g (p1))] [] M Q := by
  refine w_wt (fun hw => ?_)
  refine w_iload_n dX2_sizeOf_0 1 rfl ?_
  by_cases c1 : p0 = 16
  · replace h := h.1 c1
    refine w_tabIn (tgt := 28) dX2_sizeOf_1 c1 ⟨by decide, by decide⟩ (by decide) (by decide) rfl (by decide) ?_
    refine w_aload_n dX2_sizeOf_28 2 rfl ?_
    refine w_getIN (ci := 1) (k := 2) dX2_sizeOf_29 rfl fi1 (by decide) qn129 (sDom hp1) rfl (bDom hp1 (Nat.le_add_right _ _)) ?_
    exact w_iret dX2_sizeOf_32 ⟨_, rfl, (hw.int _ _), h⟩
  replace h := h.2 c1
  by_cases c2 : p0 = 17
  · replace h := h.1 c2
    refine w_tabIn (tgt := 33) dX2_sizeOf_1 c2 ⟨by decide, by decide⟩ (by decide) (by decide) rfl (by decide) ?_
    refine w_aload_n dX2_sizeOf_33 0 rfl ?_
    refine w_getQ (ci := 2) (k := 1) dX2_sizeOf_34 rfl fi2 (by decide) q199 s258 rfl l258 ?_
    refine w_ifnonnull (tgt := 44) dX2_sizeOf_37 (by decide) (fun c3 => ?_) (fun c3 => ?_)
    · replace h := h.1 c3
      refine w_aload_n dX2_sizeOf_44 0 rfl ?_
      refine w_getQ (ci := 2) (k := 1) dX2_sizeOf_45 rfl fi2 (by decide) q199 s258 rfl l258 ?_
      obtain ⟨t4, h⟩ := h
      refine w_top (vq_ne (nDom t4)) ?_
      refine w_getIN (ci := 1) (k := 2) dX2_sizeOf_48 rfl fi1 (by decide) qn129 (sDom t4) rfl (bDom t4 (Nat.le_add_right _ _)) ?_
      exact w_iret dX2_sizeOf_51 ⟨_, rfl, (hw.int _ _), h⟩
    · replace h := h.2 c3
      refine w_iconst dX2_sizeOf_40 ?_
      refine w_goto (tgt := 51) dX2_sizeOf_41 (by decide) ?_
      exact w_iret dX2_sizeOf_51 ⟨_, rfl, ⟨by decide, by decide⟩, h⟩
  replace h := h.2 c2
  by_cases c5 : p0 = 18
  · replace h := h.1 c5
    refine w_tabIn (tgt := 52) dX2_sizeOf_1 c5 ⟨by decide, by decide⟩ (by decide) (by decide) rfl (by decide) ?_
    refine w_iconst dX2_sizeOf_52 ?_
    exact w_iret dX2_sizeOf_53 ⟨_, rfl, ⟨by decide, by decide⟩, h⟩
  replace h := h.2 c5
  refine w_tabOut (tgt := 54) dX2_sizeOf_1 hp0 (by omega) (by decide) ?_
  refine w_iconst dX2_sizeOf_54 ?_
  exact w_iret dX2_sizeOf_55 ⟨_, rfl, ⟨by decide, by decide⟩, h⟩
set_option maxHeartbeats 4000000 in
set_option maxRecDepth 100000 in
theorem b_Ev_fromEndOf_0 {g : Ctx} {n : Nat} {p0 : Int} {p1 : Nat} {p2 : Int} {M : Mem} {Q : Int → Mem → Prop} (hp0 : InR p0) (hp1 : isDom p1) (hp2 : InR p2) (h : (((p0 = 16) → ((((gI M (p1) (2)) ≤ p2) → Q 0 M) ∧ ((¬ ((gI M (p1) (2)) ≤ p2)) → (0 ≤ p2 ∧ p2 < 7) ∧ Q (gI M (p1 + 1) (p2.toNat)) M))) ∧ ((¬ (p0 = 16)) → (((p0 = 17) → ((((gP M (258) (1)) = 0) → Q 0 M) ∧ ((¬ ((gP M (258) (1)) = 0)) → (isDom (gP M (258) (1))) ∧ ((((gI M (gP M (258) (1)) (2)) ≤ p2) → Q 0 M) ∧ ((¬ ((gI M (gP M (258) (1)) (2)) ≤ p2)) → (0 ≤ p2 ∧ p2 < 7) ∧ Q (gI M (gP M (258) (1) + 1) (p2.toNat)) M))))) ∧ ((¬ (p0 = 17)) → (((p0 = 18) → Q (jand (jshr (gI M (258) (2)) (2 * p2)) 3) M) ∧ ((¬ (p0 = 18)) → (((p0 = 19) → Q (gI M (258) (3)) M) ∧ ((¬ (p0 = 19)) → Q p0 M))))))))) : P_Ev_fromEndOf g n 0 [(0, vr g (258)), (1, vi (p0)), (2, vr g (p1)), (3, vi (p2))] [] M Q := by
  refine w_wt (fun hw => ?_)
  refine w_iload_n dX2_fromEndOf_0 1 rfl ?_
  by_cases c1 : p0 = 16
  · replace h := h.1 c1
    refine w_tabIn (tgt := 32) dX2_fromEndOf_1 c1 ⟨by decide, by decide⟩ (by decide) (by decide) rfl (by decide) ?_
    refine w_iload_n dX2_fromEndOf_32 3 rfl ?_
    refine w_aload_n dX2_fromEndOf_33 2 rfl ?_
    refine w_getIN (ci := 1) (k := 2) dX2_fromEndOf_34 rfl fi1 (by decide) qn129 (sDom hp1) rfl (bDom hp1 (Nat.le_add_right _ _)) ?_
    refine w_icmp_ge (tgt := 49) dX2_fromEndOf_37 (by decide) hp2 (hw.int _ _) (fun c2 => ?_) (fun c2 => ?_)
    · replace h := h.1 c2
      refine w_iconst dX2_fromEndOf_49 ?_
      exact w_iret dX2_fromEndOf_50 ⟨_, rfl, ⟨by decide, by decide⟩, h⟩
    · replace h := h.2 c2
      refine w_aload_n dX2_fromEndOf_40 2 rfl ?_
      refine w_getSN (ci := 1) (k := 1) dX2_fromEndOf_41 rfl fi1 (by decide) qn126 (sDom hp1) rfl (bDom hp1 (Nat.le_add_right _ _)) ?_
      refine w_iload_n dX2_fromEndOf_44 3 rfl ?_
      obtain ⟨i3, h⟩ := h
      refine w_iald dX2_fromEndOf_45 (sDom1 hp1) (bDom1 hp1 (Nat.le_add_right _ _)) (by decide) i3.1 i3.2 ?_
      refine w_goto (tgt := 50) dX2_fromEndOf_46 (by decide) ?_
      exact w_iret dX2_fromEndOf_50 ⟨_, rfl, (hw.int _ _), h⟩
  replace h := h.2 c1
  by_cases c4 : p0 = 17
  · replace h := h.1 c4
    refine w_tabIn (tgt := 51) dX2_fromEndOf_1 c4 ⟨by decide, by decide⟩ (by decide) (by decide) rfl (by decide) ?_
    refine w_aload_n dX2_fromEndOf_51 0 rfl ?_
    refine w_getQ (ci := 2) (k := 1) dX2_fromEndOf_52 rfl fi2 (by decide) q199 s258 rfl l258 ?_
    refine w_ifnull (tgt := 81) dX2_fromEndOf_55 (by decide) (fun c5 => ?_) (fun c5 => ?_)
    · replace h := h.1 c5
      refine w_iconst dX2_fromEndOf_81 ?_
      exact w_iret dX2_fromEndOf_82 ⟨_, rfl, ⟨by decide, by decide⟩, h⟩
    · replace h := h.2 c5
      refine w_iload_n dX2_fromEndOf_58 3 rfl ?_
      refine w_aload_n dX2_fromEndOf_59 0 rfl ?_
      refine w_getQ (ci := 2) (k := 1) dX2_fromEndOf_60 rfl fi2 (by decide) q199 s258 rfl l258 ?_
      obtain ⟨t6, h⟩ := h
      refine w_top (vq_ne (nDom t6)) ?_
      refine w_getIN (ci := 1) (k := 2) dX2_fromEndOf_63 rfl fi1 (by decide) qn129 (sDom t6) rfl (bDom t6 (Nat.le_add_right _ _)) ?_
      refine w_icmp_ge (tgt := 81) dX2_fromEndOf_66 (by decide) hp2 (hw.int _ _) (fun c7 => ?_) (fun c7 => ?_)
      · replace h := h.1 c7
        refine w_iconst dX2_fromEndOf_81 ?_
        exact w_iret dX2_fromEndOf_82 ⟨_, rfl, ⟨by decide, by decide⟩, h⟩
      · replace h := h.2 c7
        refine w_aload_n dX2_fromEndOf_69 0 rfl ?_
        refine w_getQ (ci := 2) (k := 1) dX2_fromEndOf_70 rfl fi2 (by decide) q199 s258 rfl l258 ?_
        refine w_top (vq_ne (nDom t6)) ?_
        refine w_getSN (ci := 1) (k := 1) dX2_fromEndOf_73 rfl fi1 (by decide) qn126 (sDom t6) rfl (bDom t6 (Nat.le_add_right _ _)) ?_
        refine w_iload_n dX2_fromEndOf_76 3 rfl ?_
        obtain ⟨i8, h⟩ := h
        refine w_iald dX2_fromEndOf_77 (sDom1 t6) (bDom1 t6 (Nat.le_add_right _ _)) (by decide) i8.1 i8.2 ?_
        refine w_goto (tgt := 82) dX2_fromEndOf_78 (by decide) ?_
        exact w_iret dX2_fromEndOf_82 ⟨_, rfl, (hw.int _ _), h⟩
  replace h := h.2 c4
  by_cases c9 : p0 = 18
  · replace h := h.1 c9
    refine w_tabIn (tgt := 83) dX2_fromEndOf_1 c9 ⟨by decide, by decide⟩ (by decide) (by decide) rfl (by decide) ?_
    refine w_aload_n dX2_fromEndOf_83 0 rfl ?_
    refine w_getI (ci := 2) (k := 2) dX2_fromEndOf_84 rfl fi2 (by decide) q200 s258 rfl l258 ?_
    refine w_iconst dX2_fromEndOf_87 ?_
    refine w_iload_n dX2_fromEndOf_88 3 rfl ?_
    refine w_imul dX2_fromEndOf_89 ?_
    refine w_ishr dX2_fromEndOf_90 ?_
    refine w_iconst dX2_fromEndOf_91 ?_
    refine w_iand dX2_fromEndOf_92 ?_
    exact w_iret dX2_fromEndOf_93 ⟨_, rfl, (inr_jand _ _), h⟩
  replace h := h.2 c9
  by_cases c10 : p0 = 19
  · replace h := h.1 c10
    refine w_tabIn (tgt := 94) dX2_fromEndOf_1 c10 ⟨by decide, by decide⟩ (by decide) (by decide) rfl (by decide) ?_
    refine w_aload_n dX2_fromEndOf_94 0 rfl ?_
    refine w_getI (ci := 2) (k := 3) dX2_fromEndOf_95 rfl fi2 (by decide) q202 s258 rfl l258 ?_
    exact w_iret dX2_fromEndOf_98 ⟨_, rfl, (hw.int _ _), h⟩
  replace h := h.2 c10
  refine w_tabOut (tgt := 99) dX2_fromEndOf_1 hp0 (by omega) (by decide) ?_
  refine w_iload_n dX2_fromEndOf_99 1 rfl ?_
  exact w_iret dX2_fromEndOf_100 ⟨_, rfl, hp0, h⟩
set_option maxHeartbeats 4000000 in
set_option maxRecDepth 100000 in
theorem b_Ev_decide_0 {g : Ctx} {n : Nat} {p0 : Int} {p1 : Int} {p2 : Int} {M : Mem} {Q : Int → Mem → Prop} (hp0 : InR p0) (hp1 : InR p1) (hp2 : InR p2) (h : (((¬ p2 = 0) → (isRec (gP M (258) (0))) ∧ K_Rc_domainAt g n (gP M (258) (0)) p0 M (fun r3 M4 => (r3 = 0 ∨ isDom r3) → WT M4 → (((¬ r3 = 0) → K_Dm_ruleAt g n r3 p1 M4 (fun r6 M7 => (r6 = 0 ∨ isRul r6) → WT M7 → (((¬ r6 = 0) → K_Ev_resultOfSign g n (gI M7 (r6) (0)) M7 (fun r9 M10 => InR r9 → WT M10 → Q r9 M10)) ∧ ((r6 = 0) → Q 5 M7)))) ∧ ((r3 = 0) → Q 5 M4)))) ∧ ((p2 = 0) → (isRec (gP M (258) (0))) ∧ K_Rc_domainAt g n (gP M (258) (0)) p0 (sI (sI M (258) (7) (p0)) (258) (8) (p1)) (fun r14 M15 => (r14 = 0 ∨ isDom r14) → WT M15 → (((¬ r14 = 0) → K_Dm_ruleAt g n r14 p1 M15 (fun r17 M18 => (r17 = 0 ∨ isRul r17) → WT M18 → (((¬ r17 = 0) → K_Ev_resultOfSign g n (gI M18 (r17) (0)) M18 (fun r20 M21 => InR r20 → WT M21 → Q r20 M21)) ∧ ((r17 = 0) → Q 5 M18)))) ∧ ((r14 = 0) → Q 5 M15)))))) : P_Ev_decide g n 0 [(0, vr g (258)), (1, vi (p0)), (2, vi (p1)), (3, vi (p2))] [] M Q := by
  refine w_wt (fun hw => ?_)
  refine w_iload_n dX2_decide_0 3 rfl ?_
  refine w_if_ne (tgt := 14) dX2_decide_1 (by decide) hp2 (fun c1 => ?_) (fun c1 => ?_)
  · replace h := h.1 c1
    refine w_aload_n dX2_decide_14 0 rfl ?_
    refine w_getQ (ci := 2) (k := 0) dX2_decide_15 rfl fi2 (by decide) q198 s258 rfl l258 ?_
    obtain ⟨t2, h⟩ := h
    refine w_top (vq_ne (nRec t2)) ?_
    refine w_iload_n dX2_decide_18 1 rfl ?_
    refine c_Rc_domainAt dX2_decide_19 q609 (by decide) (Nat.le_of_ble_eq_true rfl) t2 h (fun r3 M4 h hr3 hwM4 => ?_)
    replace h := h hr3 hwM4
    refine w_astoreq (lv' := [(4, vq g (r3)), (0, vr g (258)), (1, vi (p0)), (2, vi (p1)), (3, vi (p2))]) dX2_decide_22 (by decide) rfl ?_
    refine w_aloadq dX2_decide_24 0 rfl ?_
    refine w_ifnonnull (tgt := 33) dX2_decide_26 (by decide) (fun c5 => ?_) (fun c5 => ?_)
    · replace h := h.1 c5
      rw [vq_ne c5]
      refine w_aload dX2_decide_33 0 rfl ?_
      refine w_iload_n dX2_decide_35 3 rfl ?_
      refine c_Dm_ruleAt dX2_decide_36 q676 (by decide) (Nat.le_of_ble_eq_true rfl) (hr3.resolve_left c5) h (fun r6 M7 h hr6 hwM7 => ?_)
      replace h := h hr6 hwM7
      refine w_astoreq (lv' := [(5, vq g (r6)), (4, vr g (r3)), (0, vr g (258)), (1, vi (p0)), (2, vi (p1)), (3, vi (p2))]) dX2_decide_39 (by decide) rfl ?_
      refine w_aloadq dX2_decide_41 0 rfl ?_
      refine w_ifnonnull (tgt := 50) dX2_decide_43 (by decide) (fun c8 => ?_) (fun c8 => ?_)
      · replace h := h.1 c8
        rw [vq_ne c8]
        refine w_aload dX2_decide_50 0 rfl ?_
        refine w_getIN (ci := 9) (k := 0) dX2_decide_52 rfl fi9 (by decide) qn83 (sRul (hr6.resolve_left c8)) rfl (bRul (hr6.resolve_left c8) (Nat.le_add_right _ _)) ?_
        refine c_Ev_resultOfSign dX2_decide_55 q680 (by decide) (Nat.le_of_ble_eq_true rfl) h (fun r9 M10 h hr9 hwM10 => ?_)
        replace h := h hr9 hwM10
        exact w_iret dX2_decide_58 ⟨_, rfl, hr9, h⟩
      · replace h := h.2 c8
        refine w_iconst dX2_decide_46 ?_
        refine w_goto (tgt := 58) dX2_decide_47 (by decide) ?_
        exact w_iret dX2_decide_58 ⟨_, rfl, ⟨by decide, by decide⟩, h⟩
    · replace h := h.2 c5
      refine w_null dX2_decide_29 ?_
      refine w_goto (tgt := 39) dX2_decide_30 (by decide) ?_
      refine w_astoreq (lv' := [(5, vq g (0)), (4, vq g (r3)), (0, vr g (258)), (1, vi (p0)), (2, vi (p1)), (3, vi (p2))]) dX2_decide_39 (by decide) (by simp [cat_q]) ?_
      refine w_aloadq dX2_decide_41 0 rfl ?_
      refine w_ifnonnull (tgt := 50) dX2_decide_43 (by decide) (fun c => ?_) (fun c => ?_)
      · exact absurd rfl c
      · refine w_iconst dX2_decide_46 ?_
        refine w_goto (tgt := 58) dX2_decide_47 (by decide) ?_
        exact w_iret dX2_decide_58 ⟨_, rfl, ⟨by decide, by decide⟩, h⟩
  · replace h := h.2 c1
    refine w_aload_n dX2_decide_4 0 rfl ?_
    refine w_iload_n dX2_decide_5 1 rfl ?_
    refine w_putI (ci := 2) (k := 7) dX2_decide_6 rfl fi2 (by decide) q210 tyX2 tyX2_ok nmX2 rfl rfl rfl hp0 s258 rfl l258 ?_
    have hw11 : WT (sI M (258) (7) (p0)) := hw.sI hp0
    refine w_aload_n dX2_decide_9 0 rfl ?_
    refine w_iload_n dX2_decide_10 2 rfl ?_
    refine w_putI (ci := 2) (k := 8) dX2_decide_11 rfl fi2 (by decide) q213 tyX2 tyX2_ok nmX2 rfl rfl rfl hp1 s258 rfl l258 ?_
    have hw12 : WT (sI (sI M (258) (7) (p0)) (258) (8) (p1)) := hw11.sI hp1
    refine w_aload_n dX2_decide_14 0 rfl ?_
    refine w_getQ (ci := 2) (k := 0) dX2_decide_15 rfl fi2 (by decide) q198 s258 rfl l258 ?_
    refine w_top (u := vq g (gP M (258) (0))) rfl ?_
    obtain ⟨t13, h⟩ := h
    refine w_top (vq_ne (nRec t13)) ?_
    refine w_iload_n dX2_decide_18 1 rfl ?_
    refine c_Rc_domainAt dX2_decide_19 q609 (by decide) (Nat.le_of_ble_eq_true rfl) t13 h (fun r14 M15 h hr14 hwM15 => ?_)
    replace h := h hr14 hwM15
    refine w_astoreq (lv' := [(4, vq g (r14)), (0, vr g (258)), (1, vi (p0)), (2, vi (p1)), (3, vi (p2))]) dX2_decide_22 (by decide) rfl ?_
    refine w_aloadq dX2_decide_24 0 rfl ?_
    refine w_ifnonnull (tgt := 33) dX2_decide_26 (by decide) (fun c16 => ?_) (fun c16 => ?_)
    · replace h := h.1 c16
      rw [vq_ne c16]
      refine w_aload dX2_decide_33 0 rfl ?_
      refine w_iload_n dX2_decide_35 3 rfl ?_
      refine c_Dm_ruleAt dX2_decide_36 q676 (by decide) (Nat.le_of_ble_eq_true rfl) (hr14.resolve_left c16) h (fun r17 M18 h hr17 hwM18 => ?_)
      replace h := h hr17 hwM18
      refine w_astoreq (lv' := [(5, vq g (r17)), (4, vr g (r14)), (0, vr g (258)), (1, vi (p0)), (2, vi (p1)), (3, vi (p2))]) dX2_decide_39 (by decide) rfl ?_
      refine w_aloadq dX2_decide_41 0 rfl ?_
      refine w_ifnonnull (tgt := 50) dX2_decide_43 (by decide) (fun c19 => ?_) (fun c19 => ?_)
      · replace h := h.1 c19
        rw [vq_ne c19]
        refine w_aload dX2_decide_50 0 rfl ?_
        refine w_getIN (ci := 9) (k := 0) dX2_decide_52 rfl fi9 (by decide) qn83 (sRul (hr17.resolve_left c19)) rfl (bRul (hr17.resolve_left c19) (Nat.le_add_right _ _)) ?_
        refine c_Ev_resultOfSign dX2_decide_55 q680 (by decide) (Nat.le_of_ble_eq_true rfl) h (fun r20 M21 h hr20 hwM21 => ?_)
        replace h := h hr20 hwM21
        exact w_iret dX2_decide_58 ⟨_, rfl, hr20, h⟩
      · replace h := h.2 c19
        refine w_iconst dX2_decide_46 ?_
        refine w_goto (tgt := 58) dX2_decide_47 (by decide) ?_
        exact w_iret dX2_decide_58 ⟨_, rfl, ⟨by decide, by decide⟩, h⟩
    · replace h := h.2 c16
      refine w_null dX2_decide_29 ?_
      refine w_goto (tgt := 39) dX2_decide_30 (by decide) ?_
      refine w_astoreq (lv' := [(5, vq g (0)), (4, vq g (r14)), (0, vr g (258)), (1, vi (p0)), (2, vi (p1)), (3, vi (p2))]) dX2_decide_39 (by decide) (by simp [cat_q]) ?_
      refine w_aloadq dX2_decide_41 0 rfl ?_
      refine w_ifnonnull (tgt := 50) dX2_decide_43 (by decide) (fun c => ?_) (fun c => ?_)
      · exact absurd rfl c
      · refine w_iconst dX2_decide_46 ?_
        refine w_goto (tgt := 58) dX2_decide_47 (by decide) ?_
        exact w_iret dX2_decide_58 ⟨_, rfl, ⟨by decide, by decide⟩, h⟩
set_option maxHeartbeats 4000000 in
set_option maxRecDepth 100000 in
theorem b_Dm_ruleAt_0 {g : Ctx} {n : Nat} {o : Nat} {p0 : Int} {M : Mem} {Q : Nat → Mem → Prop} (ho : isDom o) (hp0 : InR p0) (h : (((p0 < 0) → Q 0 M) ∧ ((¬ (p0 < 0)) → ((((gI M (o) (5)) ≤ p0) → Q 0 M) ∧ ((¬ ((gI M (o) (5)) ≤ p0)) → (0 ≤ p0 ∧ p0 < 8) ∧ Q (gP M (o + 2) (p0.toNat)) M))))) : P_Dm_ruleAt g n 0 [(0, vr g (o)), (1, vi (p0))] [] M Q := by
  refine w_wt (fun hw => ?_)
  refine w_iload_n dX1_ruleAt_0 1 rfl ?_
  refine w_if_lt (tgt := 21) dX1_ruleAt_1 (by decide) hp0 (fun c1 => ?_) (fun c1 => ?_)
  · replace h := h.1 c1
    refine w_null dX1_ruleAt_21 ?_
    exact w_aret dX1_ruleAt_22 ⟨_, rfl, (Or.inl rfl), h⟩
  · replace h := h.2 c1
    refine w_iload_n dX1_ruleAt_4 1 rfl ?_
    refine w_aload_n dX1_ruleAt_5 0 rfl ?_
    refine w_getI (ci := 1) (k := 5) dX1_ruleAt_6 rfl fi1 (by decide) q137 (sDom ho) rfl (bDom ho (Nat.le_add_right _ _)) ?_
    refine w_icmp_ge (tgt := 21) dX1_ruleAt_9 (by decide) hp0 (hw.int _ _) (fun c2 => ?_) (fun c2 => ?_)
    · replace h := h.1 c2
      refine w_null dX1_ruleAt_21 ?_
      exact w_aret dX1_ruleAt_22 ⟨_, rfl, (Or.inl rfl), h⟩
    · replace h := h.2 c2
      refine w_aload_n dX1_ruleAt_12 0 rfl ?_
      refine w_getS (ci := 1) (k := 4) dX1_ruleAt_13 rfl fi1 (by decide) q134 (sDom ho) rfl (bDom ho (Nat.le_add_right _ _)) ?_
      refine w_iload_n dX1_ruleAt_16 1 rfl ?_
      obtain ⟨i3, h⟩ := h
      have t4 : isRul (gP M (o + 2) (p0.toNat)) := (hw.rul ho (by omega))
      refine w_aald (t := 2) dX1_ruleAt_17 (sDom2 ho) (by decide) rfl (bDom2 ho (Nat.le_add_right _ _)) (by decide) i3.1 i3.2 (nRul t4) ?_
      refine w_goto (tgt := 22) dX1_ruleAt_18 (by decide) ?_
      refine w_top (vq_ne (nRul t4)).symm ?_
      exact w_aret dX1_ruleAt_22 ⟨_, rfl, (Or.inr t4), h⟩
set_option maxHeartbeats 4000000 in
set_option maxRecDepth 100000 in
theorem b_Ev_resultOfSign_0 {g : Ctx} {n : Nat} {p0 : Int} {M : Mem} {Q : Int → Mem → Prop} (hp0 : InR p0) (h : (((p0 = 0) → Q 2 M) ∧ ((¬ (p0 = 0)) → (((p0 = 1) → Q 3 M) ∧ ((¬ (p0 = 1)) → (((p0 = 2) → Q 4 M) ∧ ((¬ (p0 = 2)) → Q 1 M))))))) : P_Ev_resultOfSign g n 0 [(0, vi (p0))] [] M Q := by
  refine w_wt (fun hw => ?_)
  refine w_iload_n dX2_resultOfSign_0 0 rfl ?_
  by_cases c1 : p0 = 0
  · replace h := h.1 c1
    refine w_tabIn (tgt := 28) dX2_resultOfSign_1 c1 ⟨by decide, by decide⟩ (by decide) (by decide) rfl (by decide) ?_
    refine w_iconst dX2_resultOfSign_28 ?_
    exact w_iret dX2_resultOfSign_29 ⟨_, rfl, ⟨by decide, by decide⟩, h⟩
  replace h := h.2 c1
  by_cases c2 : p0 = 1
  · replace h := h.1 c2
    refine w_tabIn (tgt := 30) dX2_resultOfSign_1 c2 ⟨by decide, by decide⟩ (by decide) (by decide) rfl (by decide) ?_
    refine w_iconst dX2_resultOfSign_30 ?_
    exact w_iret dX2_resultOfSign_31 ⟨_, rfl, ⟨by decide, by decide⟩, h⟩
  replace h := h.2 c2
  by_cases c3 : p0 = 2
  · replace h := h.1 c3
    refine w_tabIn (tgt := 32) dX2_resultOfSign_1 c3 ⟨by decide, by decide⟩ (by decide) (by decide) rfl (by decide) ?_
    refine w_iconst dX2_resultOfSign_32 ?_
    exact w_iret dX2_resultOfSign_33 ⟨_, rfl, ⟨by decide, by decide⟩, h⟩
  replace h := h.2 c3
  refine w_tabOut (tgt := 34) dX2_resultOfSign_1 hp0 (by omega) (by decide) ?_
  refine w_iconst dX2_resultOfSign_34 ?_
  exact w_iret dX2_resultOfSign_35 ⟨_, rfl, ⟨by decide, by decide⟩, h⟩
set_option maxHeartbeats 4000000 in
set_option maxRecDepth 100000 in
theorem b_Ks_keep_0 {g : Ctx} {n : Nat} {p1 : Int} {p2 : Int} {M : Mem} {Q : Mem → Prop} (hp1 : InR p1) (hp2 : InR p2) (h : K_Ks_placeFor g n p1 (gI M (258) (2)) (gI M (258) (3)) M (fun r1 M2 => (r1 = 0 ∨ isKc r1) → WT M2 → (¬ r1 = 0) ∧ Q (sI (sI (sI (sI (sI (sI (sI (sI M2 (r1 + 1) (0) (p1)) (r1 + 1) (1) (gI M2 (258) (2))) (r1 + 1) (2) (gI M2 (258) (3))) (r1 + 1) (3) (p2)) (r1 + 1) (4) (gI M2 (258) (4))) (r1 + 1) (5) (gI M2 (258) (5))) (r1 + 1) (6) (gI M2 (258) (7))) (r1 + 1) (7) (gI M2 (258) (8))))) : P_Ks_keep g n 0 [(0, vr g (260)), (1, vr g (258)), (2, vi (p1)), (3, vi (p2))] [] M Q := by
  refine w_wt (fun hw => ?_)
  refine w_aload_n dX5_keep_0 0 rfl ?_
  refine w_iload_n dX5_keep_1 2 rfl ?_
  refine w_aload_n dX5_keep_2 1 rfl ?_
  refine w_getIN (ci := 2) (k := 2) dX5_keep_3 rfl fi2 (by decide) qn201 s258 rfl l258 ?_
  refine w_aload_n dX5_keep_6 1 rfl ?_
  refine w_getIN (ci := 2) (k := 3) dX5_keep_7 rfl fi2 (by decide) qn203 s258 rfl l258 ?_
  refine c_Ks_placeFor dX5_keep_10 q687 (by decide) (Nat.le_of_ble_eq_true rfl) h (fun r1 M2 h hr1 hwM2 => ?_)
  replace h := h hr1 hwM2
  obtain ⟨i3, h⟩ := h
  refine w_top (vq_ne (nKc (hr1.resolve_left i3))) ?_
  refine w_getSN (ci := 4) (k := 0) dX5_keep_13 rfl fi4 (by decide) qn252 (sKc (hr1.resolve_left i3)) rfl (bKc (hr1.resolve_left i3) (Nat.le_add_right _ _)) ?_
  refine w_astore (lv' := [(4, vr g (r1 + 1)), (0, vr g (260)), (1, vr g (258)), (2, vi (p1)), (3, vi (p2))]) dX5_keep_16 (by decide) rfl ?_
  refine w_aload dX5_keep_18 0 rfl ?_
  refine w_iconst dX5_keep_20 ?_
  refine w_iload_n dX5_keep_21 3 rfl ?_
  refine w_iast dX5_keep_22 (sKc1 (hr1.resolve_left i3)) (bKc1 (hr1.resolve_left i3) (Nat.le_add_right _ _)) (by decide) (by decide) (by decide) hp1 ?_
  have hw4 : WT (sI M2 (r1 + 1) (0) (p1)) := hwM2.sI hp1
  refine w_aload dX5_keep_23 0 rfl ?_
  refine w_iconst dX5_keep_25 ?_
  refine w_aload_n dX5_keep_26 2 rfl ?_
  refine w_getIN (ci := 2) (k := 2) dX5_keep_27 rfl fi2 (by decide) qn201 s258 rfl l258 ?_
  refine w_top (congrArg vi ((gI_ne _ _ _ _ _ _ (by omega)).trans rfl)) ?_
  have u5 : InR (gI M2 (258) (2)) := hwM2.int _ _
  refine w_iast dX5_keep_30 (sKc1 (hr1.resolve_left i3)) (bKc1 (hr1.resolve_left i3) (Nat.le_add_right _ _)) (by decide) (by decide) (by decide) u5 ?_
  have hw6 : WT (sI (sI M2 (r1 + 1) (0) (p1)) (r1 + 1) (1) (gI M2 (258) (2))) := hw4.sI u5
  refine w_aload dX5_keep_31 0 rfl ?_
  refine w_iconst dX5_keep_33 ?_
  refine w_aload_n dX5_keep_34 2 rfl ?_
  refine w_getIN (ci := 2) (k := 3) dX5_keep_35 rfl fi2 (by decide) qn203 s258 rfl l258 ?_
  refine w_top (congrArg vi ((gI_ne _ _ _ _ _ _ (by omega)).trans ((gI_ne _ _ _ _ _ _ (by omega)).trans rfl))) ?_
  have u7 : InR (gI M2 (258) (3)) := hwM2.int _ _
  refine w_iast dX5_keep_38 (sKc1 (hr1.resolve_left i3)) (bKc1 (hr1.resolve_left i3) (Nat.le_add_right _ _)) (by decide) (by decide) (by decide) u7 ?_
  have hw8 : WT (sI (sI (sI M2 (r1 + 1) (0) (p1)) (r1 + 1) (1) (gI M2 (258) (2))) (r1 + 1) (2) (gI M2 (258) (3))) := hw6.sI u7
  refine w_aload dX5_keep_39 0 rfl ?_
  refine w_iconst dX5_keep_41 ?_
  refine w_iload_n dX5_keep_42 4 rfl ?_
  refine w_iast dX5_keep_43 (sKc1 (hr1.resolve_left i3)) (bKc1 (hr1.resolve_left i3) (Nat.le_add_right _ _)) (by decide) (by decide) (by decide) hp2 ?_
  have hw9 : WT (sI (sI (sI (sI M2 (r1 + 1) (0) (p1)) (r1 + 1) (1) (gI M2 (258) (2))) (r1 + 1) (2) (gI M2 (258) (3))) (r1 + 1) (3) (p2)) := hw8.sI hp2
  refine w_aload dX5_keep_44 0 rfl ?_
  refine w_iconst dX5_keep_46 ?_
  refine w_aload_n dX5_keep_47 2 rfl ?_
  refine w_getIN (ci := 2) (k := 4) dX5_keep_48 rfl fi2 (by decide) qn205 s258 rfl l258 ?_
  refine w_top (congrArg vi ((gI_ne _ _ _ _ _ _ (by omega)).trans ((gI_ne _ _ _ _ _ _ (by omega)).trans ((gI_ne _ _ _ _ _ _ (by omega)).trans ((gI_ne _ _ _ _ _ _ (by omega)).trans rfl))))) ?_
  have u10 : InR (gI M2 (258) (4)) := hwM2.int _ _
  refine w_iast dX5_keep_51 (sKc1 (hr1.resolve_left i3)) (bKc1 (hr1.resolve_left i3) (Nat.le_add_right _ _)) (by decide) (by decide) (by decide) u10 ?_
  have hw11 : WT (sI (sI (sI (sI (sI M2 (r1 + 1) (0) (p1)) (r1 + 1) (1) (gI M2 (258) (2))) (r1 + 1) (2) (gI M2 (258) (3))) (r1 + 1) (3) (p2)) (r1 + 1) (4) (gI M2 (258) (4))) := hw9.sI u10
  refine w_aload dX5_keep_52 0 rfl ?_
  refine w_iconst dX5_keep_54 ?_
  refine w_aload_n dX5_keep_55 2 rfl ?_
  refine w_getIN (ci := 2) (k := 5) dX5_keep_56 rfl fi2 (by decide) qn208 s258 rfl l258 ?_
  refine w_top (congrArg vi ((gI_ne _ _ _ _ _ _ (by omega)).trans ((gI_ne _ _ _ _ _ _ (by omega)).trans ((gI_ne _ _ _ _ _ _ (by omega)).trans ((gI_ne _ _ _ _ _ _ (by omega)).trans ((gI_ne _ _ _ _ _ _ (by omega)).trans rfl)))))) ?_
  have u12 : InR (gI M2 (258) (5)) := hwM2.int _ _
  refine w_iast dX5_keep_59 (sKc1 (hr1.resolve_left i3)) (bKc1 (hr1.resolve_left i3) (Nat.le_add_right _ _)) (by decide) (by decide) (by decide) u12 ?_
  have hw13 : WT (sI (sI (sI (sI (sI (sI M2 (r1 + 1) (0) (p1)) (r1 + 1) (1) (gI M2 (258) (2))) (r1 + 1) (2) (gI M2 (258) (3))) (r1 + 1) (3) (p2)) (r1 + 1) (4) (gI M2 (258) (4))) (r1 + 1) (5) (gI M2 (258) (5))) := hw11.sI u12
  refine w_aload dX5_keep_60 0 rfl ?_
  refine w_bipush dX5_keep_62 rfl ?_
  refine w_aload_n dX5_keep_64 2 rfl ?_
  refine w_getIN (ci := 2) (k := 7) dX5_keep_65 rfl fi2 (by decide) qn211 s258 rfl l258 ?_
  refine w_top (congrArg vi ((gI_ne _ _ _ _ _ _ (by omega)).trans ((gI_ne _ _ _ _ _ _ (by omega)).trans ((gI_ne _ _ _ _ _ _ (by omega)).trans ((gI_ne _ _ _ _ _ _ (by omega)).trans ((gI_ne _ _ _ _ _ _ (by omega)).trans ((gI_ne _ _ _ _ _ _ (by omega)).trans rfl))))))) ?_
  have u14 : InR (gI M2 (258) (7)) := hwM2.int _ _
  refine w_iast dX5_keep_68 (sKc1 (hr1.resolve_left i3)) (bKc1 (hr1.resolve_left i3) (Nat.le_add_right _ _)) (by decide) (by decide) (by decide) u14 ?_
  have hw15 : WT (sI (sI (sI (sI (sI (sI (sI M2 (r1 + 1) (0) (p1)) (r1 + 1) (1) (gI M2 (258) (2))) (r1 + 1) (2) (gI M2 (258) (3))) (r1 + 1) (3) (p2)) (r1 + 1) (4) (gI M2 (258) (4))) (r1 + 1) (5) (gI M2 (258) (5))) (r1 + 1) (6) (gI M2 (258) (7))) := hw13.sI u14
  refine w_aload dX5_keep_69 0 rfl ?_
  refine w_bipush dX5_keep_71 rfl ?_
  refine w_aload_n dX5_keep_73 2 rfl ?_
  refine w_getIN (ci := 2) (k := 8) dX5_keep_74 rfl fi2 (by decide) qn214 s258 rfl l258 ?_
  refine w_top (congrArg vi ((gI_ne _ _ _ _ _ _ (by omega)).trans ((gI_ne _ _ _ _ _ _ (by omega)).trans ((gI_ne _ _ _ _ _ _ (by omega)).trans ((gI_ne _ _ _ _ _ _ (by omega)).trans ((gI_ne _ _ _ _ _ _ (by omega)).trans ((gI_ne _ _ _ _ _ _ (by omega)).trans ((gI_ne _ _ _ _ _ _ (by omega)).trans rfl)))))))) ?_
  have u16 : InR (gI M2 (258) (8)) := hwM2.int _ _
  refine w_iast dX5_keep_77 (sKc1 (hr1.resolve_left i3)) (bKc1 (hr1.resolve_left i3) (Nat.le_add_right _ _)) (by decide) (by decide) (by decide) u16 ?_
  have hw17 : WT (sI (sI (sI (sI (sI (sI (sI (sI M2 (r1 + 1) (0) (p1)) (r1 + 1) (1) (gI M2 (258) (2))) (r1 + 1) (2) (gI M2 (258) (3))) (r1 + 1) (3) (p2)) (r1 + 1) (4) (gI M2 (258) (4))) (r1 + 1) (5) (gI M2 (258) (5))) (r1 + 1) (6) (gI M2 (258) (7))) (r1 + 1) (7) (gI M2 (258) (8))) := hw15.sI u16
  exact w_vret dX5_keep_78 ⟨rfl, h⟩
set_option maxHeartbeats 4000000 in
set_option maxRecDepth 100000 in
theorem b_Ks_placeFor_0 {g : Ctx} {n : Nat} {p0 : Int} {p1 : Int} {p2 : Int} {M : Mem} {Q : Nat → Mem → Prop} (hp0 : InR p0) (hp1 : InR p1) (hp2 : InR p2) (h : P_Ks_placeFor g n 3 [(0, vr g (260)), (1, vi (p0)), (2, vi (p1)), (3, vi (p2)), (4, vi (0))] [] M Q) : P_Ks_placeFor g n 0 [(0, vr g (260)), (1, vi (p0)), (2, vi (p1)), (3, vi (p2))] [] M Q := by
  refine w_wt (fun hw => ?_)
  refine w_iconst dX5_placeFor_0 ?_
  refine w_istore (lv' := [(4, vi (0)), (0, vr g (260)), (1, vi (p0)), (2, vi (p1)), (3, vi (p2))]) dX5_placeFor_1 (by decide) rfl ?_
  refine w_lv [1, 2, 3, 4, 0] rfl ?_
  exact h
set_option maxHeartbeats 4000000 in
set_option maxRecDepth 100000 in
theorem b_Ks_placeFor_3 {g : Ctx} {n : Nat} {x1 : Int} {x2 : Int} {x3 : Int} {x4 : Int} {M : Mem} {Q : Nat → Mem → Prop} (hx1 : InR x1) (hx2 : InR x2) (hx3 : InR x3) (hx4 : InR x4) (h : ((((gI M (260) (1)) ≤ x4) → (((¬ x4 = (gI M (260) (1))) → (0 ≤ (if 3 < x4 then 3 else x4) ∧ (if 3 < x4 then 3 else x4) < 4) ∧ P_Ks_placeFor g n 82 [(0, vr g (260)), (5, vr g (gP M (261) ((if 3 < x4 then 3 else x4).toNat))), (6, vi (if 3 < x4 then 3 else x4))] [] M Q) ∧ ((x4 = (gI M (260) (1))) → (((4 ≤ (gI M (260) (1))) → (0 ≤ (if 3 < x4 then 3 else x4) ∧ (if 3 < x4 then 3 else x4) < 4) ∧ P_Ks_placeFor g n 82 [(0, vr g (260)), (5, vr g (gP M (261) ((if 3 < x4 then 3 else x4).toNat))), (6, vi (if 3 < x4 then 3 else x4))] [] M Q) ∧ ((¬ (4 ≤ (gI M (260) (1)))) → (InR ((gI M (260) (1)) + 1)) ∧ (0 ≤ (if 3 < x4 then 3 else x4) ∧ (if 3 < x4 then 3 else x4) < 4) ∧ P_Ks_placeFor g n 82 [(0, vr g (260)), (5, vr g (gP M (261) ((if 3 < x4 then 3 else x4).toNat))), (6, vi (if 3 < x4 then 3 else x4))] [] (sI M (260) (1) ((gI M (260) (1)) + 1)) Q))))) ∧ ((¬ ((gI M (260) (1)) ≤ x4)) → (0 ≤ x4 ∧ x4 < 4) ∧ K_Kc_isOf g n (gP M (261) (x4.toNat)) x1 x2 x3 M (fun r14 M15 => (r14 = 0 ∨ r14 = 1) → WT M15 → (((¬ r14 = 0) → (((¬ x4 = (gI M15 (260) (1))) → (0 ≤ (if 3 < x4 then 3 else x4) ∧ (if 3 < x4 then 3 else x4) < 4) ∧ P_Ks_placeFor g n 82 [(0, vr g (260)), (5, vr g (gP M15 (261) ((if 3 < x4 then 3 else x4).toNat))), (6, vi (if 3 < x4 then 3 else x4))] [] M15 Q) ∧ ((x4 = (gI M15 (260) (1))) → (((4 ≤ (gI M15 (260) (1))) → (0 ≤ (if 3 < x4 then 3 else x4) ∧ (if 3 < x4 then 3 else x4) < 4) ∧ P_Ks_placeFor g n 82 [(0, vr g (260)), (5, vr g (gP M15 (261) ((if 3 < x4 then 3 else x4).toNat))), (6, vi (if 3 < x4 then 3 else x4))] [] M15 Q) ∧ ((¬ (4 ≤ (gI M15 (260) (1)))) → (InR ((gI M15 (260) (1)) + 1)) ∧ (0 ≤ (if 3 < x4 then 3 else x4) ∧ (if 3 < x4 then 3 else x4) < 4) ∧ P_Ks_placeFor g n 82 [(0, vr g (260)), (5, vr g (gP M15 (261) ((if 3 < x4 then 3 else x4).toNat))), (6, vi (if 3 < x4 then 3 else x4))] [] (sI M15 (260) (1) ((gI M15 (260) (1)) + 1)) Q))))) ∧ ((r14 = 0) → P_Ks_placeFor g n 3 [(0, vr g (260)), (1, vi (x1)), (2, vi (x2)), (3, vi (x3)), (4, vi (x4 + 1))] [] M15 Q)))))) : P_Ks_placeFor g n 3 [(0, vr g (260)), (1, vi (x1)), (2, vi (x2)), (3, vi (x3)), (4, vi (x4))] [] M Q := by
  refine w_wt (fun hw => ?_)
  refine w_iload dX5_placeFor_3 4 rfl ?_
  refine w_aload_n dX5_placeFor_5 0 rfl ?_
  refine w_getI (ci := 5) (k := 1) dX5_placeFor_6 rfl fi5 (by decide) q257 s260 rfl l260 ?_
  refine w_icmp_ge (tgt := 34) dX5_placeFor_9 (by decide) hx4 (hw.int _ _) (fun c1 => ?_) (fun c1 => ?_)
  · replace h := h.1 c1
    refine w_iload dX5_placeFor_34 4 rfl ?_
    refine w_aload_n dX5_placeFor_36 0 rfl ?_
    refine w_getI (ci := 5) (k := 1) dX5_placeFor_37 rfl fi5 (by decide) q257 s260 rfl l260 ?_
    refine w_icmp_ne (tgt := 61) dX5_placeFor_40 (by decide) hx4 (hw.int _ _) (fun c2 => ?_) (fun c2 => ?_)
    · replace h := h.1 c2
      refine w_iload dX5_placeFor_61 4 rfl ?_
      refine w_iconst dX5_placeFor_63 ?_
      refine w_mmin dX5_placeFor_64 q695 q451 q16 q452 (by decide) (Nat.le_of_ble_eq_true rfl) hx4 ⟨by decide, by decide⟩ ?_
      refine w_istore (lv' := [(4, vi (if 3 < x4 then 3 else x4)), (0, vr g (260)), (1, vi (x1)), (2, vi (x2)), (3, vi (x3))]) dX5_placeFor_67 (by decide) rfl ?_
      refine w_aload_n dX5_placeFor_69 1 rfl ?_
      refine w_getS (ci := 5) (k := 0) dX5_placeFor_70 rfl fi5 (by decide) q256 s260 rfl l260 ?_
      refine w_iload dX5_placeFor_73 0 rfl ?_
      obtain ⟨i3, h⟩ := h
      have t4 : isKc (gP M (261) ((if 3 < x4 then 3 else x4).toNat)) := (hw.kc (by omega))
      refine w_aald (t := 4) dX5_placeFor_75 s261 (by decide) rfl l261 (by decide) i3.1 i3.2 (nKc t4) ?_
      refine w_astore (lv' := [(5, vr g (gP M (261) ((if 3 < x4 then 3 else x4).toNat))), (4, vi (if 3 < x4 then 3 else x4)), (0, vr g (260)), (1, vi (x1)), (2, vi (x2)), (3, vi (x3))]) dX5_placeFor_76 (by decide) rfl ?_
      refine w_iload dX5_placeFor_78 1 rfl ?_
      refine w_istore (lv' := [(6, vi (if 3 < x4 then 3 else x4)), (5, vr g (gP M (261) ((if 3 < x4 then 3 else x4).toNat))), (4, vi (if 3 < x4 then 3 else x4)), (0, vr g (260)), (1, vi (x1)), (2, vi (x2)), (3, vi (x3))]) dX5_placeFor_80 (by decide) rfl ?_
      refine w_lv [3, 1, 0] rfl ?_
      exact h
    · replace h := h.2 c2
      refine w_aload_n dX5_placeFor_43 0 rfl ?_
      refine w_getI (ci := 5) (k := 1) dX5_placeFor_44 rfl fi5 (by decide) q257 s260 rfl l260 ?_
      refine w_iconst dX5_placeFor_47 ?_
      refine w_icmp_ge (tgt := 61) dX5_placeFor_48 (by decide) (hw.int _ _) ⟨by decide, by decide⟩ (fun c5 => ?_) (fun c5 => ?_)
      · replace h := h.1 c5
        refine w_iload dX5_placeFor_61 4 rfl ?_
        refine w_iconst dX5_placeFor_63 ?_
        refine w_mmin dX5_placeFor_64 q695 q451 q16 q452 (by decide) (Nat.le_of_ble_eq_true rfl) hx4 ⟨by decide, by decide⟩ ?_
        refine w_istore (lv' := [(4, vi (if 3 < x4 then 3 else x4)), (0, vr g (260)), (1, vi (x1)), (2, vi (x2)), (3, vi (x3))]) dX5_placeFor_67 (by decide) rfl ?_
        refine w_aload_n dX5_placeFor_69 1 rfl ?_
        refine w_getS (ci := 5) (k := 0) dX5_placeFor_70 rfl fi5 (by decide) q256 s260 rfl l260 ?_
        refine w_iload dX5_placeFor_73 0 rfl ?_
        obtain ⟨i6, h⟩ := h
        have t7 : isKc (gP M (261) ((if 3 < x4 then 3 else x4).toNat)) := (hw.kc (by omega))
        refine w_aald (t := 4) dX5_placeFor_75 s261 (by decide) rfl l261 (by decide) i6.1 i6.2 (nKc t7) ?_
        refine w_astore (lv' := [(5, vr g (gP M (261) ((if 3 < x4 then 3 else x4).toNat))), (4, vi (if 3 < x4 then 3 else x4)), (0, vr g (260)), (1, vi (x1)), (2, vi (x2)), (3, vi (x3))]) dX5_placeFor_76 (by decide) rfl ?_
        refine w_iload dX5_placeFor_78 1 rfl ?_
        refine w_istore (lv' := [(6, vi (if 3 < x4 then 3 else x4)), (5, vr g (gP M (261) ((if 3 < x4 then 3 else x4).toNat))), (4, vi (if 3 < x4 then 3 else x4)), (0, vr g (260)), (1, vi (x1)), (2, vi (x2)), (3, vi (x3))]) dX5_placeFor_80 (by decide) rfl ?_
        refine w_lv [3, 1, 0] rfl ?_
        exact h
      · replace h := h.2 c5
        refine w_aload_n dX5_placeFor_51 0 rfl ?_
        refine w_dup dX5_placeFor_52 rfl ?_
        refine w_getI (ci := 5) (k := 1) dX5_placeFor_53 rfl fi5 (by decide) q257 s260 rfl l260 ?_
        refine w_iconst dX5_placeFor_56 ?_
        refine w_iadd dX5_placeFor_57 ?_
        obtain ⟨i8, h⟩ := h
        refine w_putI (ci := 5) (k := 1) dX5_placeFor_58 rfl fi5 (by decide) q257 tyX5 tyX5_ok nmX5 rfl rfl rfl i8 s260 rfl l260 ?_
        have hw9 : WT (sI M (260) (1) ((gI M (260) (1)) + 1)) := hw.sI i8
        refine w_iload dX5_placeFor_61 4 rfl ?_
        refine w_iconst dX5_placeFor_63 ?_
        refine w_mmin dX5_placeFor_64 q695 q451 q16 q452 (by decide) (Nat.le_of_ble_eq_true rfl) hx4 ⟨by decide, by decide⟩ ?_
        refine w_istore (lv' := [(4, vi (if 3 < x4 then 3 else x4)), (0, vr g (260)), (1, vi (x1)), (2, vi (x2)), (3, vi (x3))]) dX5_placeFor_67 (by decide) rfl ?_
        refine w_aload_n dX5_placeFor_69 1 rfl ?_
        refine w_getS (ci := 5) (k := 0) dX5_placeFor_70 rfl fi5 (by decide) q256 s260 rfl l260 ?_
        refine w_iload dX5_placeFor_73 0 rfl ?_
        obtain ⟨i10, h⟩ := h
        have t11 : isKc (gP (sI M (260) (1) ((gI M (260) (1)) + 1)) (261) ((if 3 < x4 then 3 else x4).toNat)) := (hw9.kc (by omega))
        refine w_aald (t := 4) dX5_placeFor_75 s261 (by decide) rfl l261 (by decide) i10.1 i10.2 (nKc t11) ?_
        have t11e : gP (sI M (260) (1) ((gI M (260) (1)) + 1)) (261) ((if 3 < x4 then 3 else x4).toNat) = gP M (261) ((if 3 < x4 then 3 else x4).toNat) := rfl
        rw [t11e] at t11 ⊢
        refine w_astore (lv' := [(5, vr g (gP M (261) ((if 3 < x4 then 3 else x4).toNat))), (4, vi (if 3 < x4 then 3 else x4)), (0, vr g (260)), (1, vi (x1)), (2, vi (x2)), (3, vi (x3))]) dX5_placeFor_76 (by decide) rfl ?_
        refine w_iload dX5_placeFor_78 1 rfl ?_
        refine w_istore (lv' := [(6, vi (if 3 < x4 then 3 else x4)), (5, vr g (gP M (261) ((if 3 < x4 then 3 else x4).toNat))), (4, vi (if 3 < x4 then 3 else x4)), (0, vr g (260)), (1, vi (x1)), (2, vi (x2)), (3, vi (x3))]) dX5_placeFor_80 (by decide) rfl ?_
        refine w_lv [3, 1, 0] rfl ?_
        exact h
  · replace h := h.2 c1
    refine w_aload_n dX5_placeFor_12 0 rfl ?_
    refine w_getS (ci := 5) (k := 0) dX5_placeFor_13 rfl fi5 (by decide) q256 s260 rfl l260 ?_
    refine w_iload dX5_placeFor_16 4 rfl ?_
    obtain ⟨i12, h⟩ := h
    have t13 : isKc (gP M (261) (x4.toNat)) := (hw.kc (by omega))
    refine w_aald (t := 4) dX5_placeFor_18 s261 (by decide) rfl l261 (by decide) i12.1 i12.2 (nKc t13) ?_
    refine w_iload_n dX5_placeFor_19 1 rfl ?_
    refine w_iload_n dX5_placeFor_20 2 rfl ?_
    refine w_iload_n dX5_placeFor_21 3 rfl ?_
    refine c_Kc_isOf dX5_placeFor_22 q691 (by decide) (Nat.le_of_ble_eq_true rfl) t13 h (fun r14 M15 h hr14 hwM15 => ?_)
    replace h := h hr14 hwM15
    refine w_if_ne (tgt := 34) dX5_placeFor_25 (by decide) (inr_z hr14) (fun c16 => ?_) (fun c16 => ?_)
    · replace h := h.1 c16
      refine w_iload dX5_placeFor_34 4 rfl ?_
      refine w_aload_n dX5_placeFor_36 0 rfl ?_
      refine w_getI (ci := 5) (k := 1) dX5_placeFor_37 rfl fi5 (by decide) q257 s260 rfl l260 ?_
      refine w_icmp_ne (tgt := 61) dX5_placeFor_40 (by decide) hx4 (hwM15.int _ _) (fun c17 => ?_) (fun c17 => ?_)
      · replace h := h.1 c17
        refine w_iload dX5_placeFor_61 4 rfl ?_
        refine w_iconst dX5_placeFor_63 ?_
        refine w_mmin dX5_placeFor_64 q695 q451 q16 q452 (by decide) (Nat.le_of_ble_eq_true rfl) hx4 ⟨by decide, by decide⟩ ?_
        refine w_istore (lv' := [(4, vi (if 3 < x4 then 3 else x4)), (0, vr g (260)), (1, vi (x1)), (2, vi (x2)), (3, vi (x3))]) dX5_placeFor_67 (by decide) rfl ?_
        refine w_aload_n dX5_placeFor_69 1 rfl ?_
        refine w_getS (ci := 5) (k := 0) dX5_placeFor_70 rfl fi5 (by decide) q256 s260 rfl l260 ?_
        refine w_iload dX5_placeFor_73 0 rfl ?_
        obtain ⟨i18, h⟩ := h
        have t19 : isKc (gP M15 (261) ((if 3 < x4 then 3 else x4).toNat)) := (hwM15.kc (by omega))
        refine w_aald (t := 4) dX5_placeFor_75 s261 (by decide) rfl l261 (by decide) i18.1 i18.2 (nKc t19) ?_
        refine w_astore (lv' := [(5, vr g (gP M15 (261) ((if 3 < x4 then 3 else x4).toNat))), (4, vi (if 3 < x4 then 3 else x4)), (0, vr g (260)), (1, vi (x1)), (2, vi (x2)), (3, vi (x3))]) dX5_placeFor_76 (by decide) rfl ?_
        refine w_iload dX5_placeFor_78 1 rfl ?_
        refine w_istore (lv' := [(6, vi (if 3 < x4 then 3 else x4)), (5, vr g (gP M15 (261) ((if 3 < x4 then 3 else x4).toNat))), (4, vi (if 3 < x4 then 3 else x4)), (0, vr g (260)), (1, vi (x1)), (2, vi (x2)), (3, vi (x3))]) dX5_placeFor_80 (by decide) rfl ?_
        refine w_lv [3, 1, 0] rfl ?_
        exact h
      · replace h := h.2 c17
        refine w_aload_n dX5_placeFor_43 0 rfl ?_
        refine w_getI (ci := 5) (k := 1) dX5_placeFor_44 rfl fi5 (by decide) q257 s260 rfl l260 ?_
        refine w_iconst dX5_placeFor_47 ?_
        refine w_icmp_ge (tgt := 61) dX5_placeFor_48 (by decide) (hwM15.int _ _) ⟨by decide, by decide⟩ (fun c20 => ?_) (fun c20 => ?_)
        · replace h := h.1 c20
          refine w_iload dX5_placeFor_61 4 rfl ?_
          refine w_iconst dX5_placeFor_63 ?_
          refine w_mmin dX5_placeFor_64 q695 q451 q16 q452 (by decide) (Nat.le_of_ble_eq_true rfl) hx4 ⟨by decide, by decide⟩ ?_
          refine w_istore (lv' := [(4, vi (if 3 < x4 then 3 else x4)), (0, vr g (260)), (1, vi (x1)), (2, vi (x2)), (3, vi (x3))]) dX5_placeFor_67 (by decide) rfl ?_
          refine w_aload_n dX5_placeFor_69 1 rfl ?_
          refine w_getS (ci := 5) (k := 0) dX5_placeFor_70 rfl fi5 (by decide) q256 s260 rfl l260 ?_
          refine w_iload dX5_placeFor_73 0 rfl ?_
          obtain ⟨i21, h⟩ := h
          have t22 : isKc (gP M15 (261) ((if 3 < x4 then 3 else x4).toNat)) := (hwM15.kc (by omega))
          refine w_aald (t := 4) dX5_placeFor_75 s261 (by decide) rfl l261 (by decide) i21.1 i21.2 (nKc t22) ?_
          refine w_astore (lv' := [(5, vr g (gP M15 (261) ((if 3 < x4 then 3 else x4).toNat))), (4, vi (if 3 < x4 then 3 else x4)), (0, vr g (260)), (1, vi (x1)), (2, vi (x2)), (3, vi (x3))]) dX5_placeFor_76 (by decide) rfl ?_
          refine w_iload dX5_placeFor_78 1 rfl ?_
          refine w_istore (lv' := [(6, vi (if 3 < x4 then 3 else x4)), (5, vr g (gP M15 (261) ((if 3 < x4 then 3 else x4).toNat))), (4, vi (if 3 < x4 then 3 else x4)), (0, vr g (260)), (1, vi (x1)), (2, vi (x2)), (3, vi (x3))]) dX5_placeFor_80 (by decide) rfl ?_
          refine w_lv [3, 1, 0] rfl ?_
          exact h
        · replace h := h.2 c20
          refine w_aload_n dX5_placeFor_51 0 rfl ?_
          refine w_dup dX5_placeFor_52 rfl ?_
          refine w_getI (ci := 5) (k := 1) dX5_placeFor_53 rfl fi5 (by decide) q257 s260 rfl l260 ?_
          refine w_iconst dX5_placeFor_56 ?_
          refine w_iadd dX5_placeFor_57 ?_
          obtain ⟨i23, h⟩ := h
          refine w_putI (ci := 5) (k := 1) dX5_placeFor_58 rfl fi5 (by decide) q257 tyX5 tyX5_ok nmX5 rfl rfl rfl i23 s260 rfl l260 ?_
          have hw24 : WT (sI M15 (260) (1) ((gI M15 (260) (1)) + 1)) := hwM15.sI i23
          refine w_iload dX5_placeFor_61 4 rfl ?_
          refine w_iconst dX5_placeFor_63 ?_
          refine w_mmin dX5_placeFor_64 q695 q451 q16 q452 (by decide) (Nat.le_of_ble_eq_true rfl) hx4 ⟨by decide, by decide⟩ ?_
          refine w_istore (lv' := [(4, vi (if 3 < x4 then 3 else x4)), (0, vr g (260)), (1, vi (x1)), (2, vi (x2)), (3, vi (x3))]) dX5_placeFor_67 (by decide) rfl ?_
          refine w_aload_n dX5_placeFor_69 1 rfl ?_
          refine w_getS (ci := 5) (k := 0) dX5_placeFor_70 rfl fi5 (by decide) q256 s260 rfl l260 ?_
          refine w_iload dX5_placeFor_73 0 rfl ?_
          obtain ⟨i25, h⟩ := h
          have t26 : isKc (gP (sI M15 (260) (1) ((gI M15 (260) (1)) + 1)) (261) ((if 3 < x4 then 3 else x4).toNat)) := (hw24.kc (by omega))
          refine w_aald (t := 4) dX5_placeFor_75 s261 (by decide) rfl l261 (by decide) i25.1 i25.2 (nKc t26) ?_
          have t26e : gP (sI M15 (260) (1) ((gI M15 (260) (1)) + 1)) (261) ((if 3 < x4 then 3 else x4).toNat) = gP M15 (261) ((if 3 < x4 then 3 else x4).toNat) := rfl
          rw [t26e] at t26 ⊢
          refine w_astore (lv' := [(5, vr g (gP M15 (261) ((if 3 < x4 then 3 else x4).toNat))), (4, vi (if 3 < x4 then 3 else x4)), (0, vr g (260)), (1, vi (x1)), (2, vi (x2)), (3, vi (x3))]) dX5_placeFor_76 (by decide) rfl ?_
          refine w_iload dX5_placeFor_78 1 rfl ?_
          refine w_istore (lv' := [(6, vi (if 3 < x4 then 3 else x4)), (5, vr g (gP M15 (261) ((if 3 < x4 then 3 else x4).toNat))), (4, vi (if 3 < x4 then 3 else x4)), (0, vr g (260)), (1, vi (x1)), (2, vi (x2)), (3, vi (x3))]) dX5_placeFor_80 (by decide) rfl ?_
          refine w_lv [3, 1, 0] rfl ?_
          exact h
    · replace h := h.2 c16
      refine w_iinc (lv' := [(4, vi (x4 + 1)), (0, vr g (260)), (1, vi (x1)), (2, vi (x2)), (3, vi (x3))]) dX5_placeFor_28 4 rfl (by decide) rfl ?_
      refine w_goto (tgt := 3) dX5_placeFor_31 (by decide) ?_
      refine w_lv [1, 2, 3, 4, 0] rfl ?_
      exact h
set_option maxHeartbeats 4000000 in
set_option maxRecDepth 100000 in
theorem b_Ks_placeFor_82 {g : Ctx} {n : Nat} {a5 : Nat} {x6 : Int} {M : Mem} {Q : Nat → Mem → Prop} (ha5 : isKc a5) (hx6 : InR x6) (h : (((x6 ≤ 0) → Q a5 (sP M (261) (0) (a5))) ∧ ((¬ (x6 ≤ 0)) → (0 ≤ (x6 - 1) ∧ (x6 - 1) < 4) ∧ (0 ≤ x6 ∧ x6 < 4) ∧ P_Ks_placeFor g n 82 [(0, vr g (260)), (5, vr g (a5)), (6, vi (x6 + (-1)))] [] (sP M (261) (x6.toNat) (gP M (261) ((x6 - 1).toNat))) Q))) : P_Ks_placeFor g n 82 [(0, vr g (260)), (5, vr g (a5)), (6, vi (x6))] [] M Q := by
  refine w_wt (fun hw => ?_)
  refine w_iload dX5_placeFor_82 2 rfl ?_
  refine w_if_le (tgt := 109) dX5_placeFor_84 (by decide) hx6 (fun c1 => ?_) (fun c1 => ?_)
  · replace h := h.1 c1
    refine w_aload_n dX5_placeFor_109 0 rfl ?_
    refine w_getS (ci := 5) (k := 0) dX5_placeFor_110 rfl fi5 (by decide) q256 s260 rfl l260 ?_
    refine w_iconst dX5_placeFor_113 ?_
    refine w_aload dX5_placeFor_114 1 rfl ?_
    refine w_aast (t := 4) (ci := 4) dX5_placeFor_116 s261 (by decide) rfl l261 (by decide) (by decide) (by decide) (sKc ha5) (bKc ha5 (Nat.le_add_right _ _)) (nKc ha5) rfl (fun hw => hw.sPkc ha5) ?_
    have hw2 : WT (sP M (261) (0) (a5)) := hw.sPkc ha5
    refine w_aload dX5_placeFor_117 1 rfl ?_
    refine w_top (vq_ne (nKc ha5)).symm ?_
    exact w_aret dX5_placeFor_119 ⟨_, rfl, (Or.inr ha5), h⟩
  · replace h := h.2 c1
    refine w_aload_n dX5_placeFor_87 0 rfl ?_
    refine w_getS (ci := 5) (k := 0) dX5_placeFor_88 rfl fi5 (by decide) q256 s260 rfl l260 ?_
    refine w_iload dX5_placeFor_91 2 rfl ?_
    refine w_aload_n dX5_placeFor_93 0 rfl ?_
    refine w_getS (ci := 5) (k := 0) dX5_placeFor_94 rfl fi5 (by decide) q256 s260 rfl l260 ?_
    refine w_iload dX5_placeFor_97 2 rfl ?_
    refine w_iconst dX5_placeFor_99 ?_
    refine w_isub dX5_placeFor_100 ?_
    obtain ⟨i3, h⟩ := h
    have t4 : isKc (gP M (261) ((x6 - 1).toNat)) := (hw.kc (by omega))
    refine w_aald (t := 4) dX5_placeFor_101 s261 (by decide) rfl l261 (by decide) i3.1 i3.2 (nKc t4) ?_
    obtain ⟨i5, h⟩ := h
    refine w_aast (t := 4) (ci := 4) dX5_placeFor_102 s261 (by decide) rfl l261 (by decide) i5.1 i5.2 (sKc t4) (bKc t4 (Nat.le_add_right _ _)) (nKc t4) rfl (fun hw => hw.sPkc t4) ?_
    have hw6 : WT (sP M (261) (x6.toNat) (gP M (261) ((x6 - 1).toNat))) := hw.sPkc t4
    refine w_iinc (lv' := [(6, vi (x6 + (-1))), (0, vr g (260)), (5, vr g (a5))]) dX5_placeFor_103 2 rfl (by decide) rfl ?_
    refine w_goto (tgt := 82) dX5_placeFor_106 (by decide) ?_
    refine w_lv [1, 2, 0] rfl ?_
    exact h
set_option maxHeartbeats 4000000 in
set_option maxRecDepth 100000 in
theorem b_Kc_isOf_0 {g : Ctx} {n : Nat} {o : Nat} {p0 : Int} {p1 : Int} {p2 : Int} {M : Mem} {Q : Int → Mem → Prop} (ho : isKc o) (hp0 : InR p0) (hp1 : InR p1) (hp2 : InR p2) (h : (((¬ (gI M (o + 1) (0)) = p0) → Q 0 M) ∧ (((gI M (o + 1) (0)) = p0) → (((¬ (gI M (o + 1) (1)) = p1) → Q 0 M) ∧ (((gI M (o + 1) (1)) = p1) → (((¬ (gI M (o + 1) (2)) = p2) → Q 0 M) ∧ (((gI M (o + 1) (2)) = p2) → Q 1 M))))))) : P_Kc_isOf g n 0 [(0, vr g (o)), (1, vi (p0)), (2, vi (p1)), (3, vi (p2))] [] M Q := by
  refine w_wt (fun hw => ?_)
  refine w_aload_n dX4_isOf_0 0 rfl ?_
  refine w_getS (ci := 4) (k := 0) dX4_isOf_1 rfl fi4 (by decide) q251 (sKc ho) rfl (bKc ho (Nat.le_add_right _ _)) ?_
  refine w_iconst dX4_isOf_4 ?_
  refine w_iald dX4_isOf_5 (sKc1 ho) (bKc1 ho (Nat.le_add_right _ _)) (by decide) (by decide) (by decide) ?_
  refine w_iload_n dX4_isOf_6 1 rfl ?_
  refine w_icmp_ne (tgt := 34) dX4_isOf_7 (by decide) (hw.int _ _) hp0 (fun c1 => ?_) (fun c1 => ?_)
  · replace h := h.1 c1
    refine w_iconst dX4_isOf_34 ?_
    exact w_zret dX4_isOf_35 (Or.inl rfl) ⟨_, rfl, (Or.inl rfl), h⟩
  · replace h := h.2 c1
    refine w_aload_n dX4_isOf_10 0 rfl ?_
    refine w_getS (ci := 4) (k := 0) dX4_isOf_11 rfl fi4 (by decide) q251 (sKc ho) rfl (bKc ho (Nat.le_add_right _ _)) ?_
    refine w_iconst dX4_isOf_14 ?_
    refine w_iald dX4_isOf_15 (sKc1 ho) (bKc1 ho (Nat.le_add_right _ _)) (by decide) (by decide) (by decide) ?_
    refine w_iload_n dX4_isOf_16 2 rfl ?_
    refine w_icmp_ne (tgt := 34) dX4_isOf_17 (by decide) (hw.int _ _) hp1 (fun c2 => ?_) (fun c2 => ?_)
    · replace h := h.1 c2
      refine w_iconst dX4_isOf_34 ?_
      exact w_zret dX4_isOf_35 (Or.inl rfl) ⟨_, rfl, (Or.inl rfl), h⟩
    · replace h := h.2 c2
      refine w_aload_n dX4_isOf_20 0 rfl ?_
      refine w_getS (ci := 4) (k := 0) dX4_isOf_21 rfl fi4 (by decide) q251 (sKc ho) rfl (bKc ho (Nat.le_add_right _ _)) ?_
      refine w_iconst dX4_isOf_24 ?_
      refine w_iald dX4_isOf_25 (sKc1 ho) (bKc1 ho (Nat.le_add_right _ _)) (by decide) (by decide) (by decide) ?_
      refine w_iload_n dX4_isOf_26 3 rfl ?_
      refine w_icmp_ne (tgt := 34) dX4_isOf_27 (by decide) (hw.int _ _) hp2 (fun c3 => ?_) (fun c3 => ?_)
      · replace h := h.1 c3
        refine w_iconst dX4_isOf_34 ?_
        exact w_zret dX4_isOf_35 (Or.inl rfl) ⟨_, rfl, (Or.inl rfl), h⟩
      · replace h := h.2 c3
        refine w_iconst dX4_isOf_30 ?_
        refine w_goto (tgt := 35) dX4_isOf_31 (by decide) ?_
        exact w_zret dX4_isOf_35 (Or.inr rfl) ⟨_, rfl, (Or.inr rfl), h⟩
set_option maxHeartbeats 4000000 in
set_option maxRecDepth 100000 in
theorem b_Sr_kept_0 {g : Ctx} {n : Nat} {p0 : Int} {p1 : Int} {M : Mem} {Q : Int → Mem → Prop} (hp0 : InR p0) (hp1 : InR p1) (h : (((p0 < 0) → Q (-1) M) ∧ ((¬ (p0 < 0)) → (((p1 < 0) → Q (-1) M) ∧ ((¬ (p1 < 0)) → (((p1 < 8) → K_Ks_valueOf g n p0 p1 M (fun r4 M5 => InR r4 → WT M5 → Q r4 M5)) ∧ ((¬ (p1 < 8)) → Q (-1) M))))))) : P_Sr_kept g n 0 [(0, vr g (0)), (1, vi (p0)), (2, vi (p1))] [] M Q := by
  refine w_wt (fun hw => ?_)
  refine w_iload_n dX10_kept_0 1 rfl ?_
  refine w_if_lt (tgt := 14) dX10_kept_1 (by decide) hp0 (fun c1 => ?_) (fun c1 => ?_)
  · replace h := h.1 c1
    refine w_iconst dX10_kept_14 ?_
    exact w_iret dX10_kept_15 ⟨_, rfl, ⟨by decide, by decide⟩, h⟩
  · replace h := h.2 c1
    refine w_iload_n dX10_kept_4 2 rfl ?_
    refine w_if_lt (tgt := 14) dX10_kept_5 (by decide) hp1 (fun c2 => ?_) (fun c2 => ?_)
    · replace h := h.1 c2
      refine w_iconst dX10_kept_14 ?_
      exact w_iret dX10_kept_15 ⟨_, rfl, ⟨by decide, by decide⟩, h⟩
    · replace h := h.2 c2
      refine w_iload_n dX10_kept_8 2 rfl ?_
      refine w_bipush dX10_kept_9 rfl ?_
      refine w_icmp_lt (tgt := 16) dX10_kept_11 (by decide) hp1 ⟨by decide, by decide⟩ (fun c3 => ?_) (fun c3 => ?_)
      · replace h := h.1 c3
        refine w_aload_n dX10_kept_16 0 rfl ?_
        refine w_getS (ci := 10) (k := 4) dX10_kept_17 rfl fi10 (by decide) q537 s0 rfl l0 ?_
        refine w_iload_n dX10_kept_20 1 rfl ?_
        refine w_iload_n dX10_kept_21 2 rfl ?_
        refine c_Ks_valueOf dX10_kept_22 q700 (by decide) (Nat.le_of_ble_eq_true rfl) h (fun r4 M5 h hr4 hwM5 => ?_)
        replace h := h hr4 hwM5
        exact w_iret dX10_kept_25 ⟨_, rfl, hr4, h⟩
      · replace h := h.2 c3
        refine w_iconst dX10_kept_14 ?_
        exact w_iret dX10_kept_15 ⟨_, rfl, ⟨by decide, by decide⟩, h⟩
set_option maxHeartbeats 4000000 in
set_option maxRecDepth 100000 in
theorem b_Ks_valueOf_0 {g : Ctx} {n : Nat} {p0 : Int} {p1 : Int} {M : Mem} {Q : Int → Mem → Prop} (hp0 : InR p0) (hp1 : InR p1) (h : (((p0 < 0) → Q (-4) M) ∧ ((¬ (p0 < 0)) → ((((gI M (260) (1)) ≤ p0) → Q (-4) M) ∧ ((¬ ((gI M (260) (1)) ≤ p0)) → (((p1 < 0) → Q (-4) M) ∧ ((¬ (p1 < 0)) → (((8 ≤ p1) → Q (-4) M) ∧ ((¬ (8 ≤ p1)) → (0 ≤ p0 ∧ p0 < 4) ∧ (0 ≤ p1 ∧ p1 < 8) ∧ Q (gI M (gP M (261) (p0.toNat) + 1) (p1.toNat)) M))))))))) : P_Ks_valueOf g n 0 [(0, vr g (260)), (1, vi (p0)), (2, vi (p1))] [] M Q := by
  refine w_wt (fun hw => ?_)
  refine w_iload_n dX5_valueOf_0 1 rfl ?_
  refine w_if_lt (tgt := 36) dX5_valueOf_1 (by decide) hp0 (fun c1 => ?_) (fun c1 => ?_)
  · replace h := h.1 c1
    refine w_bipush dX5_valueOf_36 rfl ?_
    exact w_iret dX5_valueOf_38 ⟨_, rfl, ⟨by decide, by decide⟩, h⟩
  · replace h := h.2 c1
    refine w_iload_n dX5_valueOf_4 1 rfl ?_
    refine w_aload_n dX5_valueOf_5 0 rfl ?_
    refine w_getI (ci := 5) (k := 1) dX5_valueOf_6 rfl fi5 (by decide) q257 s260 rfl l260 ?_
    refine w_icmp_ge (tgt := 36) dX5_valueOf_9 (by decide) hp0 (hw.int _ _) (fun c2 => ?_) (fun c2 => ?_)
    · replace h := h.1 c2
      refine w_bipush dX5_valueOf_36 rfl ?_
      exact w_iret dX5_valueOf_38 ⟨_, rfl, ⟨by decide, by decide⟩, h⟩
    · replace h := h.2 c2
      refine w_iload_n dX5_valueOf_12 2 rfl ?_
      refine w_if_lt (tgt := 36) dX5_valueOf_13 (by decide) hp1 (fun c3 => ?_) (fun c3 => ?_)
      · replace h := h.1 c3
        refine w_bipush dX5_valueOf_36 rfl ?_
        exact w_iret dX5_valueOf_38 ⟨_, rfl, ⟨by decide, by decide⟩, h⟩
      · replace h := h.2 c3
        refine w_iload_n dX5_valueOf_16 2 rfl ?_
        refine w_bipush dX5_valueOf_17 rfl ?_
        refine w_icmp_ge (tgt := 36) dX5_valueOf_19 (by decide) hp1 ⟨by decide, by decide⟩ (fun c4 => ?_) (fun c4 => ?_)
        · replace h := h.1 c4
          refine w_bipush dX5_valueOf_36 rfl ?_
          exact w_iret dX5_valueOf_38 ⟨_, rfl, ⟨by decide, by decide⟩, h⟩
        · replace h := h.2 c4
          refine w_aload_n dX5_valueOf_22 0 rfl ?_
          refine w_getS (ci := 5) (k := 0) dX5_valueOf_23 rfl fi5 (by decide) q256 s260 rfl l260 ?_
          refine w_iload_n dX5_valueOf_26 1 rfl ?_
          obtain ⟨i5, h⟩ := h
          have t6 : isKc (gP M (261) (p0.toNat)) := (hw.kc (by omega))
          refine w_aald (t := 4) dX5_valueOf_27 s261 (by decide) rfl l261 (by decide) i5.1 i5.2 (nKc t6) ?_
          refine w_getSN (ci := 4) (k := 0) dX5_valueOf_28 rfl fi4 (by decide) qn252 (sKc t6) rfl (bKc t6 (Nat.le_add_right _ _)) ?_
          refine w_iload_n dX5_valueOf_31 2 rfl ?_
          obtain ⟨i7, h⟩ := h
          refine w_iald dX5_valueOf_32 (sKc1 t6) (bKc1 t6 (Nat.le_add_right _ _)) (by decide) i7.1 i7.2 ?_
          refine w_goto (tgt := 38) dX5_valueOf_33 (by decide) ?_
          exact w_iret dX5_valueOf_38 ⟨_, rfl, (hw.int _ _), h⟩
set_option maxHeartbeats 4000000 in
set_option maxRecDepth 100000 in
theorem b_Sr_sign_0 {g : Ctx} {n : Nat} {p0 : Int} {p1 : Int} {p2 : Int} {M : Mem} {Q : Int → Mem → Prop} (hp0 : InR p0) (hp1 : InR p1) (hp2 : InR p2) (h : K_Sr_ruleAt g n p0 p1 M (fun r1 M2 => (r1 = 0 ∨ isRul r1) → WT M2 → (((r1 = 0) → Q (-1) M2) ∧ ((¬ (r1 = 0)) → (((p2 < 0) → Q (-1) M2) ∧ ((¬ (p2 < 0)) → K_J_length g n 1 M2 (fun r5 M6 => InR r5 → WT M6 → (((p2 < r5) → (((¬ (gI M6 (r1) (0)) = p2) → K_Sr_noteChange g n 0 p0 p1 (gI M6 (r1) (0)) (sI M6 (r1) (0) (p2)) (fun M11 => WT M11 → Q (gI M6 (r1) (0)) M11)) ∧ (((gI M6 (r1) (0)) = p2) → Q (-2) M6))) ∧ ((¬ (p2 < r5)) → Q (-1) M6))))))))) : P_Sr_sign g n 0 [(0, vr g (0)), (1, vi (p0)), (2, vi (p1)), (3, vi (p2))] [] M Q := by
  refine w_wt (fun hw => ?_)
  refine w_aload_n dX10_sign_0 0 rfl ?_
  refine w_iload_n dX10_sign_1 1 rfl ?_
  refine w_iload_n dX10_sign_2 2 rfl ?_
  refine c_Sr_ruleAt dX10_sign_3 q708 (by decide) (Nat.le_of_ble_eq_true rfl) h (fun r1 M2 h hr1 hwM2 => ?_)
  replace h := h hr1 hwM2
  refine w_astoreq (lv' := [(4, vq g (r1)), (0, vr g (0)), (1, vi (p0)), (2, vi (p1)), (3, vi (p2))]) dX10_sign_6 (by decide) rfl ?_
  refine w_aloadq dX10_sign_8 0 rfl ?_
  refine w_ifnull (tgt := 26) dX10_sign_10 (by decide) (fun c3 => ?_) (fun c3 => ?_)
  · replace h := h.1 c3
    refine w_iconst dX10_sign_26 ?_
    exact w_iret dX10_sign_27 ⟨_, rfl, ⟨by decide, by decide⟩, h⟩
  · replace h := h.2 c3
    rw [vq_ne c3]
    refine w_iload_n dX10_sign_13 4 rfl ?_
    refine w_if_lt (tgt := 26) dX10_sign_14 (by decide) hp2 (fun c4 => ?_) (fun c4 => ?_)
    · replace h := h.1 c4
      refine w_iconst dX10_sign_26 ?_
      exact w_iret dX10_sign_27 ⟨_, rfl, ⟨by decide, by decide⟩, h⟩
    · replace h := h.2 c4
      refine w_iload_n dX10_sign_17 4 rfl ?_
      refine w_ldcS_Sr119 dX10_sign_18 ?_
      refine c_J_length dX10_sign_20 q299 (by decide) (Nat.le_of_ble_eq_true rfl) (by decide) h (fun r5 M6 h hr5 hwM6 => ?_)
      replace h := h hr5 hwM6
      refine w_icmp_lt (tgt := 28) dX10_sign_23 (by decide) hp2 hr5 (fun c7 => ?_) (fun c7 => ?_)
      · replace h := h.1 c7
        refine w_aload dX10_sign_28 0 rfl ?_
        refine w_getIN (ci := 9) (k := 0) dX10_sign_30 rfl fi9 (by decide) qn84 (sRul (hr1.resolve_left c3)) rfl (bRul (hr1.resolve_left c3) (Nat.le_add_right _ _)) ?_
        refine w_istore (lv' := [(5, vi (gI M6 (r1) (0))), (4, vr g (r1)), (0, vr g (0)), (1, vi (p0)), (2, vi (p1)), (3, vi (p2))]) dX10_sign_33 (by decide) rfl ?_
        refine w_iload dX10_sign_35 0 rfl ?_
        refine w_iload_n dX10_sign_37 5 rfl ?_
        refine w_icmp_ne (tgt := 44) dX10_sign_38 (by decide) (hwM6.int _ _) hp2 (fun c8 => ?_) (fun c8 => ?_)
        · replace h := h.1 c8
          refine w_aload dX10_sign_44 1 rfl ?_
          refine w_iload_n dX10_sign_46 5 rfl ?_
          refine w_putIN (ci := 9) (k := 0) dX10_sign_47 rfl fi9 (by decide) qn84 tyX9 tyX9_ok nmX9 rfl rfl rfl hp2 (sRul (hr1.resolve_left c3)) rfl (bRul (hr1.resolve_left c3) (Nat.le_add_right _ _)) ?_
          have hw9 : WT (sI M6 (r1) (0) (p2)) := hwM6.sI hp2
          refine w_aload_n dX10_sign_50 2 rfl ?_
          refine w_iconst dX10_sign_51 ?_
          refine w_iload_n dX10_sign_52 3 rfl ?_
          refine w_iload_n dX10_sign_53 4 rfl ?_
          refine w_iload dX10_sign_54 0 rfl ?_
          refine c_Sr_noteChange dX10_sign_56 q715 (by decide) (Nat.le_of_ble_eq_true rfl) h (fun M11 h hwM11 => ?_)
          replace h := h hwM11
          refine w_iload dX10_sign_59 0 rfl ?_
          exact w_iret dX10_sign_61 ⟨_, rfl, (hwM6.int _ _), h⟩
        · replace h := h.2 c8
          refine w_bipush dX10_sign_41 rfl ?_
          exact w_iret dX10_sign_43 ⟨_, rfl, ⟨by decide, by decide⟩, h⟩
      · replace h := h.2 c7
        refine w_iconst dX10_sign_26 ?_
        exact w_iret dX10_sign_27 ⟨_, rfl, ⟨by decide, by decide⟩, h⟩
set_option maxHeartbeats 4000000 in
set_option maxRecDepth 100000 in
theorem b_Sr_ruleAt_0 {g : Ctx} {n : Nat} {p0 : Int} {p1 : Int} {M : Mem} {Q : Nat → Mem → Prop} (hp0 : InR p0) (hp1 : InR p1) (h : (isRec (gP M (0) (1))) ∧ K_Rc_domainAt g n (gP M (0) (1)) p0 M (fun r2 M3 => (r2 = 0 ∨ isDom r2) → WT M3 → (((¬ r2 = 0) → K_Dm_ruleAt g n r2 p1 M3 (fun r5 M6 => (r5 = 0 ∨ isRul r5) → WT M6 → Q r5 M6)) ∧ ((r2 = 0) → Q 0 M3)))) : P_Sr_ruleAt g n 0 [(0, vr g (0)), (1, vi (p0)), (2, vi (p1))] [] M Q := by
  refine w_wt (fun hw => ?_)
  refine w_aload_n dX10_ruleAt_0 0 rfl ?_
  refine w_getQ (ci := 10) (k := 1) dX10_ruleAt_1 rfl fi10 (by decide) q534 s0 rfl l0 ?_
  obtain ⟨t1, h⟩ := h
  refine w_top (vq_ne (nRec t1)) ?_
  refine w_iload_n dX10_ruleAt_4 1 rfl ?_
  refine c_Rc_domainAt dX10_ruleAt_5 q712 (by decide) (Nat.le_of_ble_eq_true rfl) t1 h (fun r2 M3 h hr2 hwM3 => ?_)
  replace h := h hr2 hwM3
  refine w_astore_nq (lv' := [(3, vq g (r2)), (0, vr g (0)), (1, vi (p0)), (2, vi (p1))]) (i := 3) dX10_ruleAt_8 rfl (by decide) rfl ?_
  refine w_aload_nq dX10_ruleAt_9 0 rfl ?_
  refine w_ifnonnull (tgt := 17) dX10_ruleAt_10 (by decide) (fun c4 => ?_) (fun c4 => ?_)
  · replace h := h.1 c4
    rw [vq_ne c4]
    refine w_aload_n dX10_ruleAt_17 0 rfl ?_
    refine w_iload_n dX10_ruleAt_18 3 rfl ?_
    refine c_Dm_ruleAt dX10_ruleAt_19 q713 (by decide) (Nat.le_of_ble_eq_true rfl) (hr2.resolve_left c4) h (fun r5 M6 h hr5 hwM6 => ?_)
    replace h := h hr5 hwM6
    exact w_aret dX10_ruleAt_22 ⟨_, rfl, hr5, h⟩
  · replace h := h.2 c4
    refine w_null dX10_ruleAt_13 ?_
    refine w_goto (tgt := 22) dX10_ruleAt_14 (by decide) ?_
    exact w_aret dX10_ruleAt_22 ⟨_, rfl, (Or.inl rfl), h⟩
set_option maxHeartbeats 4000000 in
set_option maxRecDepth 100000 in
theorem b_Sr_noteChange_0 {g : Ctx} {n : Nat} {p0 : Int} {p1 : Int} {p2 : Int} {p3 : Int} {M : Mem} {Q : Mem → Prop} (hp0 : InR p0) (hp1 : InR p1) (hp2 : InR p2) (hp3 : InR p3) (h : K_Hi_add g n  M (fun r1 M2 => (r1 = 0 ∨ isCh r1) → WT M2 → (¬ r1 = 0) ∧ K_Ks_clear g n  (sI (sI (sI (sI M2 (r1) (0) (p0)) (r1) (1) (p1)) (r1) (2) (p2)) (r1) (3) (p3)) (fun M9 => WT M9 → Q M9))) : P_Sr_noteChange g n 0 [(0, vr g (0)), (1, vi (p0)), (2, vi (p1)), (3, vi (p2)), (4, vi (p3))] [] M Q := by
  refine w_wt (fun hw => ?_)
  refine w_aload_n dX10_noteChange_0 0 rfl ?_
  refine w_getS (ci := 10) (k := 5) dX10_noteChange_1 rfl fi10 (by decide) q538 s0 rfl l0 ?_
  refine c_Hi_add dX10_noteChange_4 q719 (by decide) (Nat.le_of_ble_eq_true rfl) h (fun r1 M2 h hr1 hwM2 => ?_)
  replace h := h hr1 hwM2
  refine w_astoreq (lv' := [(5, vq g (r1)), (0, vr g (0)), (1, vi (p0)), (2, vi (p1)), (3, vi (p2)), (4, vi (p3))]) dX10_noteChange_7 (by decide) rfl ?_
  obtain ⟨i3, h⟩ := h
  rw [vq_ne i3]
  refine w_aload dX10_noteChange_9 0 rfl ?_
  refine w_iload_n dX10_noteChange_11 2 rfl ?_
  refine w_putIN (ci := 0) (k := 0) dX10_noteChange_12 rfl fi0 (by decide) qn277 tyX0 tyX0_ok nmX0 rfl rfl rfl hp0 (sCh (hr1.resolve_left i3)) rfl (bCh (hr1.resolve_left i3) (Nat.le_add_right _ _)) ?_
  have hw4 : WT (sI M2 (r1) (0) (p0)) := hwM2.sI hp0
  refine w_aload dX10_noteChange_15 0 rfl ?_
  refine w_iload_n dX10_noteChange_17 3 rfl ?_
  refine w_putIN (ci := 0) (k := 1) dX10_noteChange_18 rfl fi0 (by decide) qn278 tyX0 tyX0_ok nmX0 rfl rfl rfl hp1 (sCh (hr1.resolve_left i3)) rfl (bCh (hr1.resolve_left i3) (Nat.le_add_right _ _)) ?_
  have hw5 : WT (sI (sI M2 (r1) (0) (p0)) (r1) (1) (p1)) := hw4.sI hp1
  refine w_aload dX10_noteChange_21 0 rfl ?_
  refine w_iload_n dX10_noteChange_23 4 rfl ?_
  refine w_putIN (ci := 0) (k := 2) dX10_noteChange_24 rfl fi0 (by decide) qn279 tyX0 tyX0_ok nmX0 rfl rfl rfl hp2 (sCh (hr1.resolve_left i3)) rfl (bCh (hr1.resolve_left i3) (Nat.le_add_right _ _)) ?_
  have hw6 : WT (sI (sI (sI M2 (r1) (0) (p0)) (r1) (1) (p1)) (r1) (2) (p2)) := hw5.sI hp2
  refine w_aload dX10_noteChange_27 0 rfl ?_
  refine w_iload dX10_noteChange_29 5 rfl ?_
  refine w_putIN (ci := 0) (k := 3) dX10_noteChange_31 rfl fi0 (by decide) qn280 tyX0 tyX0_ok nmX0 rfl rfl rfl hp3 (sCh (hr1.resolve_left i3)) rfl (bCh (hr1.resolve_left i3) (Nat.le_add_right _ _)) ?_
  have hw7 : WT (sI (sI (sI (sI M2 (r1) (0) (p0)) (r1) (1) (p1)) (r1) (2) (p2)) (r1) (3) (p3)) := hw6.sI hp3
  refine w_aload_n dX10_noteChange_34 1 rfl ?_
  refine w_getS (ci := 10) (k := 4) dX10_noteChange_35 rfl fi10 (by decide) q537 s0 rfl l0 ?_
  refine c_Ks_clear dX10_noteChange_38 q573 (by decide) (Nat.le_of_ble_eq_true rfl) h (fun M9 h hwM9 => ?_)
  replace h := h hwM9
  exact w_vret dX10_noteChange_41 ⟨rfl, h⟩
set_option maxHeartbeats 4000000 in
set_option maxRecDepth 100000 in
theorem b_Hi_add_0 {g : Ctx} {n : Nat}  {M : Mem} {Q : Nat → Mem → Prop}  (h : (((4 ≤ (gI M (270) (1))) → P_Hi_add g n 39 [(0, vr g (270)), (1, vr g (gP M (271) (0))), (2, vi (0))] [] M Q) ∧ ((¬ (4 ≤ (gI M (270) (1)))) → (InR ((gI M (270) (1)) + 1)) ∧ (0 ≤ (gI M (270) (1)) ∧ (gI M (270) (1)) < 4) ∧ Q (gP M (271) ((gI M (270) (1)).toNat)) (sI M (270) (1) ((gI M (270) (1)) + 1))))) : P_Hi_add g n 0 [(0, vr g (270))] [] M Q := by
  refine w_wt (fun hw => ?_)
  refine w_aload_n dX3_add_0 0 rfl ?_
  refine w_getI (ci := 3) (k := 1) dX3_add_1 rfl fi3 (by decide) q291 s270 rfl l270 ?_
  refine w_iconst dX3_add_4 ?_
  refine w_icmp_ge (tgt := 30) dX3_add_5 (by decide) (hw.int _ _) ⟨by decide, by decide⟩ (fun c1 => ?_) (fun c1 => ?_)
  · replace h := h.1 c1
    refine w_aload_n dX3_add_30 0 rfl ?_
    refine w_getS (ci := 3) (k := 0) dX3_add_31 rfl fi3 (by decide) q290 s270 rfl l270 ?_
    refine w_iconst dX3_add_34 ?_
    have t2 : isCh (gP M (271) (0)) := (hw.ch (by decide))
    refine w_aald (t := 5) dX3_add_35 s271 (by decide) rfl l271 (by decide) (by decide) (by decide) (nCh t2) ?_
    refine w_astore_n (lv' := [(1, vr g (gP M (271) (0))), (0, vr g (270))]) (i := 1) dX3_add_36 rfl (by decide) rfl ?_
    refine w_iconst dX3_add_37 ?_
    refine w_istore_n (lv' := [(2, vi (0)), (1, vr g (gP M (271) (0))), (0, vr g (270))]) (i := 2) dX3_add_38 rfl (by decide) rfl ?_
    refine w_lv [2, 1, 0] rfl ?_
    exact h
  · replace h := h.2 c1
    refine w_aload_n dX3_add_8 0 rfl ?_
    refine w_dup dX3_add_9 rfl ?_
    refine w_getI (ci := 3) (k := 1) dX3_add_10 rfl fi3 (by decide) q291 s270 rfl l270 ?_
    refine w_iconst dX3_add_13 ?_
    refine w_iadd dX3_add_14 ?_
    obtain ⟨i3, h⟩ := h
    refine w_putI (ci := 3) (k := 1) dX3_add_15 rfl fi3 (by decide) q291 tyX3 tyX3_ok nmX3 rfl rfl rfl i3 s270 rfl l270 ?_
    have hw4 : WT (sI M (270) (1) ((gI M (270) (1)) + 1)) := hw.sI i3
    refine w_aload_n dX3_add_18 0 rfl ?_
    refine w_getS (ci := 3) (k := 0) dX3_add_19 rfl fi3 (by decide) q290 s270 rfl l270 ?_
    refine w_aload_n dX3_add_22 0 rfl ?_
    refine w_getI (ci := 3) (k := 1) dX3_add_23 rfl fi3 (by decide) q291 s270 rfl l270 ?_
    refine w_top (congrArg vi (gI_same _ _ _ _)) ?_
    refine w_iconst dX3_add_26 ?_
    refine w_isub dX3_add_27 ?_
    refine w_top (congrArg vi (Int.add_sub_cancel _ _)) ?_
    obtain ⟨i5, h⟩ := h
    have t6 : isCh (gP (sI M (270) (1) ((gI M (270) (1)) + 1)) (271) ((gI M (270) (1)).toNat)) := (hw4.ch (by omega))
    refine w_aald (t := 5) dX3_add_28 s271 (by decide) rfl l271 (by decide) i5.1 i5.2 (nCh t6) ?_
    have t6e : gP (sI M (270) (1) ((gI M (270) (1)) + 1)) (271) ((gI M (270) (1)).toNat) = gP M (271) ((gI M (270) (1)).toNat) := rfl
    rw [t6e] at t6 ⊢
    refine w_top (vq_ne (nCh t6)).symm ?_
    exact w_aret dX3_add_29 ⟨_, rfl, (Or.inr t6), h⟩
set_option maxHeartbeats 4000000 in
set_option maxRecDepth 100000 in
theorem b_Hi_add_39 {g : Ctx} {n : Nat} {a1 : Nat} {x2 : Int} {M : Mem} {Q : Nat → Mem → Prop} (ha1 : isCh a1) (hx2 : InR x2) (h : (((3 ≤ x2) → Q a1 (sP M (271) (3) (a1))) ∧ ((¬ (3 ≤ x2)) → (0 ≤ (x2 + 1) ∧ (x2 + 1) < 4) ∧ (0 ≤ x2 ∧ x2 < 4) ∧ P_Hi_add g n 39 [(0, vr g (270)), (1, vr g (a1)), (2, vi (x2 + 1))] [] (sP M (271) (x2.toNat) (gP M (271) ((x2 + 1).toNat))) Q))) : P_Hi_add g n 39 [(0, vr g (270)), (1, vr g (a1)), (2, vi (x2))] [] M Q := by
  refine w_wt (fun hw => ?_)
  refine w_iload_n dX3_add_39 2 rfl ?_
  refine w_iconst dX3_add_40 ?_
  refine w_icmp_ge (tgt := 64) dX3_add_41 (by decide) hx2 ⟨by decide, by decide⟩ (fun c1 => ?_) (fun c1 => ?_)
  · replace h := h.1 c1
    refine w_aload_n dX3_add_64 0 rfl ?_
    refine w_getS (ci := 3) (k := 0) dX3_add_65 rfl fi3 (by decide) q290 s270 rfl l270 ?_
    refine w_iconst dX3_add_68 ?_
    refine w_aload_n dX3_add_69 1 rfl ?_
    refine w_aast (t := 5) (ci := 0) dX3_add_70 s271 (by decide) rfl l271 (by decide) (by decide) (by decide) (sCh ha1) (bCh ha1 (Nat.le_add_right _ _)) (nCh ha1) rfl (fun hw => hw.sPch ha1) ?_
    have hw2 : WT (sP M (271) (3) (a1)) := hw.sPch ha1
    refine w_aload_n dX3_add_71 1 rfl ?_
    refine w_top (vq_ne (nCh ha1)).symm ?_
    exact w_aret dX3_add_72 ⟨_, rfl, (Or.inr ha1), h⟩
  · replace h := h.2 c1
    refine w_aload_n dX3_add_44 0 rfl ?_
    refine w_getS (ci := 3) (k := 0) dX3_add_45 rfl fi3 (by decide) q290 s270 rfl l270 ?_
    refine w_iload_n dX3_add_48 2 rfl ?_
    refine w_aload_n dX3_add_49 0 rfl ?_
    refine w_getS (ci := 3) (k := 0) dX3_add_50 rfl fi3 (by decide) q290 s270 rfl l270 ?_
    refine w_iload_n dX3_add_53 2 rfl ?_
    refine w_iconst dX3_add_54 ?_
    refine w_iadd dX3_add_55 ?_
    obtain ⟨i3, h⟩ := h
    have t4 : isCh (gP M (271) ((x2 + 1).toNat)) := (hw.ch (by omega))
    refine w_aald (t := 5) dX3_add_56 s271 (by decide) rfl l271 (by decide) i3.1 i3.2 (nCh t4) ?_
    obtain ⟨i5, h⟩ := h
    refine w_aast (t := 5) (ci := 0) dX3_add_57 s271 (by decide) rfl l271 (by decide) i5.1 i5.2 (sCh t4) (bCh t4 (Nat.le_add_right _ _)) (nCh t4) rfl (fun hw => hw.sPch t4) ?_
    have hw6 : WT (sP M (271) (x2.toNat) (gP M (271) ((x2 + 1).toNat))) := hw.sPch t4
    refine w_iinc (lv' := [(2, vi (x2 + 1)), (0, vr g (270)), (1, vr g (a1))]) dX3_add_58 2 rfl (by decide) rfl ?_
    refine w_goto (tgt := 39) dX3_add_61 (by decide) ?_
    refine w_lv [1, 2, 0] rfl ?_
    exact h
set_option maxHeartbeats 4000000 in
set_option maxRecDepth 100000 in
theorem b_Sr_swap_0 {g : Ctx} {n : Nat} {p0 : Int} {p1 : Int} {M : Mem} {Q : Int → Mem → Prop} (hp0 : InR p0) (hp1 : InR p1) (h : (isRec (gP M (0) (1))) ∧ K_Rc_domainAt g n (gP M (0) (1)) p0 M (fun r2 M3 => (r2 = 0 ∨ isDom r2) → WT M3 → (((r2 = 0) → Q (-1) M3) ∧ ((¬ (r2 = 0)) → K_Dm_ruleAt g n r2 p1 M3 (fun r5 M6 => (r5 = 0 ∨ isRul r5) → WT M6 → (((¬ r5 = 0) → K_Dm_swapRules g n r2 p1 M6 (fun r8 M9 => (r8 = 0 ∨ r8 = 1) → WT M9 → (((¬ r8 = 0) → K_Sr_noteChange g n 1 p0 p1 0 M9 (fun M12 => WT M12 → Q (gI M12 (r2) (5)) M12)) ∧ ((r8 = 0) → Q (-2) M9)))) ∧ ((r5 = 0) → Q (-1) M6))))))) : P_Sr_swap g n 0 [(0, vr g (0)), (1, vi (p0)), (2, vi (p1))] [] M Q := by
  refine w_wt (fun hw => ?_)
  refine w_aload_n dX10_swap_0 0 rfl ?_
  refine w_getQ (ci := 10) (k := 1) dX10_swap_1 rfl fi10 (by decide) q534 s0 rfl l0 ?_
  obtain ⟨t1, h⟩ := h
  refine w_top (vq_ne (nRec t1)) ?_
  refine w_iload_n dX10_swap_4 1 rfl ?_
  refine c_Rc_domainAt dX10_swap_5 q712 (by decide) (Nat.le_of_ble_eq_true rfl) t1 h (fun r2 M3 h hr2 hwM3 => ?_)
  replace h := h hr2 hwM3
  refine w_astore_nq (lv' := [(3, vq g (r2)), (0, vr g (0)), (1, vi (p0)), (2, vi (p1))]) (i := 3) dX10_swap_8 rfl (by decide) rfl ?_
  refine w_aload_nq dX10_swap_9 0 rfl ?_
  refine w_ifnull (tgt := 21) dX10_swap_10 (by decide) (fun c4 => ?_) (fun c4 => ?_)
  · replace h := h.1 c4
    refine w_iconst dX10_swap_21 ?_
    exact w_iret dX10_swap_22 ⟨_, rfl, ⟨by decide, by decide⟩, h⟩
  · replace h := h.2 c4
    rw [vq_ne c4]
    refine w_aload_n dX10_swap_13 0 rfl ?_
    refine w_iload_n dX10_swap_14 3 rfl ?_
    refine c_Dm_ruleAt dX10_swap_15 q713 (by decide) (Nat.le_of_ble_eq_true rfl) (hr2.resolve_left c4) h (fun r5 M6 h hr5 hwM6 => ?_)
    replace h := h hr5 hwM6
    refine w_ifnonnull (tgt := 23) dX10_swap_18 (by decide) (fun c7 => ?_) (fun c7 => ?_)
    · replace h := h.1 c7
      refine w_aload_n dX10_swap_23 0 rfl ?_
      refine w_iload_n dX10_swap_24 3 rfl ?_
      refine c_Dm_swapRules dX10_swap_25 q727 (by decide) (Nat.le_of_ble_eq_true rfl) (hr2.resolve_left c4) h (fun r8 M9 h hr8 hwM9 => ?_)
      replace h := h hr8 hwM9
      refine w_if_ne (tgt := 34) dX10_swap_28 (by decide) (inr_z hr8) (fun c10 => ?_) (fun c10 => ?_)
      · replace h := h.1 c10
        refine w_aload_n dX10_swap_34 1 rfl ?_
        refine w_iconst dX10_swap_35 ?_
        refine w_iload_n dX10_swap_36 2 rfl ?_
        refine w_iload_n dX10_swap_37 3 rfl ?_
        refine w_iconst dX10_swap_38 ?_
        refine c_Sr_noteChange dX10_swap_39 q715 (by decide) (Nat.le_of_ble_eq_true rfl) h (fun M12 h hwM12 => ?_)
        replace h := h hwM12
        refine w_aload_n dX10_swap_42 0 rfl ?_
        refine w_getIN (ci := 1) (k := 5) dX10_swap_43 rfl fi1 (by decide) qn140 (sDom (hr2.resolve_left c4)) rfl (bDom (hr2.resolve_left c4) (Nat.le_add_right _ _)) ?_
        exact w_iret dX10_swap_46 ⟨_, rfl, (hwM12.int _ _), h⟩
      · replace h := h.2 c10
        refine w_bipush dX10_swap_31 rfl ?_
        exact w_iret dX10_swap_33 ⟨_, rfl, ⟨by decide, by decide⟩, h⟩
    · replace h := h.2 c7
      refine w_iconst dX10_swap_21 ?_
      exact w_iret dX10_swap_22 ⟨_, rfl, ⟨by decide, by decide⟩, h⟩
set_option maxHeartbeats 4000000 in
set_option maxRecDepth 100000 in
theorem b_Dm_swapRules_0 {g : Ctx} {n : Nat} {o : Nat} {p0 : Int} {M : Mem} {Q : Int → Mem → Prop} (ho : isDom o) (hp0 : InR p0) (h : (((p0 < 0) → Q 0 M) ∧ ((¬ (p0 < 0)) → (InR ((gI M (o) (5)) - 1)) ∧ (((p0 < ((gI M (o) (5)) - 1)) → (0 ≤ p0 ∧ p0 < 8) ∧ (0 ≤ (p0 + 1) ∧ (p0 + 1) < 8) ∧ Q 1 (sP (sP M (o + 2) (p0.toNat) (gP M (o + 2) ((p0 + 1).toNat))) (o + 2) ((p0 + 1).toNat) (gP M (o + 2) (p0.toNat)))) ∧ ((¬ (p0 < ((gI M (o) (5)) - 1))) → Q 0 M))))) : P_Dm_swapRules g n 0 [(0, vr g (o)), (1, vi (p0))] [] M Q := by
  refine w_wt (fun hw => ?_)
  refine w_iload_n dX1_swapRules_0 1 rfl ?_
  refine w_if_lt (tgt := 14) dX1_swapRules_1 (by decide) hp0 (fun c1 => ?_) (fun c1 => ?_)
  · replace h := h.1 c1
    refine w_iconst dX1_swapRules_14 ?_
    exact w_zret dX1_swapRules_15 (Or.inl rfl) ⟨_, rfl, (Or.inl rfl), h⟩
  · replace h := h.2 c1
    refine w_iload_n dX1_swapRules_4 1 rfl ?_
    refine w_aload_n dX1_swapRules_5 0 rfl ?_
    refine w_getI (ci := 1) (k := 5) dX1_swapRules_6 rfl fi1 (by decide) q137 (sDom ho) rfl (bDom ho (Nat.le_add_right _ _)) ?_
    refine w_iconst dX1_swapRules_9 ?_
    refine w_isub dX1_swapRules_10 ?_
    obtain ⟨i2, h⟩ := h
    refine w_icmp_lt (tgt := 16) dX1_swapRules_11 (by decide) hp0 i2 (fun c3 => ?_) (fun c3 => ?_)
    · replace h := h.1 c3
      refine w_aload_n dX1_swapRules_16 0 rfl ?_
      refine w_getS (ci := 1) (k := 4) dX1_swapRules_17 rfl fi1 (by decide) q134 (sDom ho) rfl (bDom ho (Nat.le_add_right _ _)) ?_
      refine w_iload_n dX1_swapRules_20 1 rfl ?_
      obtain ⟨i4, h⟩ := h
      have t5 : isRul (gP M (o + 2) (p0.toNat)) := (hw.rul ho (by omega))
      refine w_aald (t := 2) dX1_swapRules_21 (sDom2 ho) (by decide) rfl (bDom2 ho (Nat.le_add_right _ _)) (by decide) i4.1 i4.2 (nRul t5) ?_
      refine w_astore_n (lv' := [(2, vr g (gP M (o + 2) (p0.toNat))), (0, vr g (o)), (1, vi (p0))]) (i := 2) dX1_swapRules_22 rfl (by decide) rfl ?_
      refine w_aload_n dX1_swapRules_23 1 rfl ?_
      refine w_getS (ci := 1) (k := 4) dX1_swapRules_24 rfl fi1 (by decide) q134 (sDom ho) rfl (bDom ho (Nat.le_add_right _ _)) ?_
      refine w_iload_n dX1_swapRules_27 2 rfl ?_
      refine w_aload_n dX1_swapRules_28 1 rfl ?_
      refine w_getS (ci := 1) (k := 4) dX1_swapRules_29 rfl fi1 (by decide) q134 (sDom ho) rfl (bDom ho (Nat.le_add_right _ _)) ?_
      refine w_iload_n dX1_swapRules_32 2 rfl ?_
      refine w_iconst dX1_swapRules_33 ?_
      refine w_iadd dX1_swapRules_34 ?_
      obtain ⟨i6, h⟩ := h
      have t7 : isRul (gP M (o + 2) ((p0 + 1).toNat)) := (hw.rul ho (by omega))
      refine w_aald (t := 2) dX1_swapRules_35 (sDom2 ho) (by decide) rfl (bDom2 ho (Nat.le_add_right _ _)) (by decide) i6.1 i6.2 (nRul t7) ?_
      refine w_aast (t := 2) (ci := 9) dX1_swapRules_36 (sDom2 ho) (by decide) rfl (bDom2 ho (Nat.le_add_right _ _)) (by decide) i4.1 i4.2 (sRul t7) (bRul t7 (Nat.le_add_right _ _)) (nRul t7) rfl (fun hw => hw.sPrul ho t7) ?_
      have hw8 : WT (sP M (o + 2) (p0.toNat) (gP M (o + 2) ((p0 + 1).toNat))) := hw.sPrul ho t7
      refine w_aload_n dX1_swapRules_37 1 rfl ?_
      refine w_getS (ci := 1) (k := 4) dX1_swapRules_38 rfl fi1 (by decide) q134 (sDom ho) rfl (bDom ho (Nat.le_add_right _ _)) ?_
      refine w_iload_n dX1_swapRules_41 2 rfl ?_
      refine w_iconst dX1_swapRules_42 ?_
      refine w_iadd dX1_swapRules_43 ?_
      refine w_aload_n dX1_swapRules_44 0 rfl ?_
      refine w_aast (t := 2) (ci := 9) dX1_swapRules_45 (sDom2 ho) (by decide) rfl (bDom2 ho (Nat.le_add_right _ _)) (by decide) i6.1 i6.2 (sRul t5) (bRul t5 (Nat.le_add_right _ _)) (nRul t5) rfl (fun hw => hw.sPrul ho t5) ?_
      have hw9 : WT (sP (sP M (o + 2) (p0.toNat) (gP M (o + 2) ((p0 + 1).toNat))) (o + 2) ((p0 + 1).toNat) (gP M (o + 2) (p0.toNat))) := hw8.sPrul ho t5
      refine w_iconst dX1_swapRules_46 ?_
      exact w_zret dX1_swapRules_47 (Or.inr rfl) ⟨_, rfl, (Or.inr rfl), h⟩
    · replace h := h.2 c3
      refine w_iconst dX1_swapRules_14 ?_
      exact w_zret dX1_swapRules_15 (Or.inl rfl) ⟨_, rfl, (Or.inl rfl), h⟩
set_option maxHeartbeats 4000000 in
set_option maxRecDepth 100000 in
theorem b_Sr_host_0 {g : Ctx} {n : Nat} {p0 : Int} {p1 : Int} {p2 : Int} {M : Mem} {Q : Int → Mem → Prop} (hp0 : InR p0) (hp1 : InR p1) (hp2 : InR p2) (h : (isRec (gP M (0) (1))) ∧ K_Rc_domainAt g n (gP M (0) (1)) p0 M (fun r2 M3 => (r2 = 0 ∨ isDom r2) → WT M3 → (((r2 = 0) → Q (-1) M3) ∧ ((¬ (r2 = 0)) → K_Sr_isAddress g n p1 M3 (fun r5 M6 => (r5 = 0 ∨ r5 = 1) → WT M6 → (((r5 = 0) → Q (-1) M6) ∧ ((¬ (r5 = 0)) → (((p2 < 0) → Q (-1) M6) ∧ ((¬ (p2 < 0)) → (((p2 ≤ 1) → K_Dm_placeOfHost g n r2 p1 M6 (fun r10 M11 => InR r10 → WT M11 → (((r10 = (-1)) → (((¬ p2 = 1) → Q (-2) M11) ∧ ((p2 = 1) → (((¬ p2 = 0) → K_Dm_insertHost g n r2 (gI M11 (r2) (8)) p1 M11 (fun r15 M16 => (r15 = 0 ∨ r15 = 1) → WT M16 → (((¬ r15 = 0) → K_Sr_noteChange g n 2 p0 ((gI M16 (r2) (8)) - 1) p1 M16 (fun M19 => WT M19 → Q (gI M19 (r2) (8)) M19)) ∧ ((r15 = 0) → Q (-3) M16)))) ∧ ((p2 = 0) → K_Dm_removeHost g n r2 r10 M11 (fun M21 => WT M21 → K_Sr_noteChange g n 3 p0 r10 p1 M21 (fun M23 => WT M23 → Q (gI M23 (r2) (8)) M23))))))) ∧ ((¬ (r10 = (-1))) → (((¬ p2 = 1) → (((¬ p2 = 0) → K_Dm_insertHost g n r2 (gI M11 (r2) (8)) p1 M11 (fun r26 M27 => (r26 = 0 ∨ r26 = 1) → WT M27 → (((¬ r26 = 0) → K_Sr_noteChange g n 2 p0 ((gI M27 (r2) (8)) - 1) p1 M27 (fun M30 => WT M30 → Q (gI M30 (r2) (8)) M30)) ∧ ((r26 = 0) → Q (-3) M27)))) ∧ ((p2 = 0) → K_Dm_removeHost g n r2 r10 M11 (fun M32 => WT M32 → K_Sr_noteChange g n 3 p0 r10 p1 M32 (fun M34 => WT M34 → Q (gI M34 (r2) (8)) M34))))) ∧ ((p2 = 1) → Q (-2) M11)))))) ∧ ((¬ (p2 ≤ 1)) → Q (-1) M6))))))))))) : P_Sr_host g n 0 [(0, vr g (0)), (1, vi (p0)), (2, vi (p1)), (3, vi (p2))] [] M Q := by
  refine w_wt (fun hw => ?_)
  refine w_aload_n dX10_host_0 0 rfl ?_
  refine w_getQ (ci := 10) (k := 1) dX10_host_1 rfl fi10 (by decide) q534 s0 rfl l0 ?_
  obtain ⟨t1, h⟩ := h
  refine w_top (vq_ne (nRec t1)) ?_
  refine w_iload_n dX10_host_4 1 rfl ?_
  refine c_Rc_domainAt dX10_host_5 q712 (by decide) (Nat.le_of_ble_eq_true rfl) t1 h (fun r2 M3 h hr2 hwM3 => ?_)
  replace h := h hr2 hwM3
  refine w_astoreq (lv' := [(4, vq g (r2)), (0, vr g (0)), (1, vi (p0)), (2, vi (p1)), (3, vi (p2))]) dX10_host_8 (by decide) rfl ?_
  refine w_aloadq dX10_host_10 0 rfl ?_
  refine w_ifnull (tgt := 31) dX10_host_12 (by decide) (fun c4 => ?_) (fun c4 => ?_)
  · replace h := h.1 c4
    refine w_iconst dX10_host_31 ?_
    exact w_iret dX10_host_32 ⟨_, rfl, ⟨by decide, by decide⟩, h⟩
  · replace h := h.2 c4
    rw [vq_ne c4]
    refine w_iload_n dX10_host_15 3 rfl ?_
    refine c_Sr_isAddress dX10_host_16 q599 (by decide) (Nat.le_of_ble_eq_true rfl) h (fun r5 M6 h hr5 hwM6 => ?_)
    replace h := h hr5 hwM6
    refine w_if_eq (tgt := 31) dX10_host_19 (by decide) (inr_z hr5) (fun c7 => ?_) (fun c7 => ?_)
    · replace h := h.1 c7
      refine w_iconst dX10_host_31 ?_
      exact w_iret dX10_host_32 ⟨_, rfl, ⟨by decide, by decide⟩, h⟩
    · replace h := h.2 c7
      refine w_iload_n dX10_host_22 4 rfl ?_
      refine w_if_lt (tgt := 31) dX10_host_23 (by decide) hp2 (fun c8 => ?_) (fun c8 => ?_)
      · replace h := h.1 c8
        refine w_iconst dX10_host_31 ?_
        exact w_iret dX10_host_32 ⟨_, rfl, ⟨by decide, by decide⟩, h⟩
      · replace h := h.2 c8
        refine w_iload_n dX10_host_26 4 rfl ?_
        refine w_iconst dX10_host_27 ?_
        refine w_icmp_le (tgt := 33) dX10_host_28 (by decide) hp2 ⟨by decide, by decide⟩ (fun c9 => ?_) (fun c9 => ?_)
        · replace h := h.1 c9
          refine w_aload dX10_host_33 0 rfl ?_
          refine w_iload_n dX10_host_35 3 rfl ?_
          refine c_Dm_placeOfHost dX10_host_36 q735 (by decide) (Nat.le_of_ble_eq_true rfl) (hr2.resolve_left c4) h (fun r10 M11 h hr10 hwM11 => ?_)
          replace h := h hr10 hwM11
          refine w_istore (lv' := [(5, vi (r10)), (4, vr g (r2)), (0, vr g (0)), (1, vi (p0)), (2, vi (p1)), (3, vi (p2))]) dX10_host_39 (by decide) rfl ?_
          refine w_iload dX10_host_41 0 rfl ?_
          refine w_iconst dX10_host_43 ?_
          refine w_icmp_eq (tgt := 51) dX10_host_44 (by decide) hr10 ⟨by decide, by decide⟩ (fun c12 => ?_) (fun c12 => ?_)
          · replace h := h.1 c12
            refine w_iconst dX10_host_51 ?_
            refine w_iload_n dX10_host_52 5 rfl ?_
            refine w_iconst dX10_host_53 ?_
            refine w_icmp_ne (tgt := 61) dX10_host_54 (by decide) hp2 ⟨by decide, by decide⟩ (fun c13 => ?_) (fun c13 => ?_)
            · replace h := h.1 c13
              refine w_iconst dX10_host_61 ?_
              refine w_icmp_ne (tgt := 68) dX10_host_62 (by decide) ⟨by decide, by decide⟩ ⟨by decide, by decide⟩ (fun c => ?_) (fun c => ?_)
              · exact absurd c (by decide)
              · refine w_bipush dX10_host_65 rfl ?_
                exact w_iret dX10_host_67 ⟨_, rfl, ⟨by decide, by decide⟩, h⟩
            · replace h := h.2 c13
              refine w_iconst dX10_host_57 ?_
              refine w_goto (tgt := 62) dX10_host_58 (by decide) ?_
              refine w_icmp_ne (tgt := 68) dX10_host_62 (by decide) ⟨by decide, by decide⟩ ⟨by decide, by decide⟩ (fun c => ?_) (fun c => ?_)
              · refine w_iload_n dX10_host_68 5 rfl ?_
                refine w_if_ne (tgt := 94) dX10_host_69 (by decide) hp2 (fun c14 => ?_) (fun c14 => ?_)
                · replace h := h.1 c14
                  refine w_aload dX10_host_94 1 rfl ?_
                  refine w_aload dX10_host_96 1 rfl ?_
                  refine w_getIN (ci := 1) (k := 8) dX10_host_98 rfl fi1 (by decide) qn152 (sDom (hr2.resolve_left c4)) rfl (bDom (hr2.resolve_left c4) (Nat.le_add_right _ _)) ?_
                  refine w_iload_n dX10_host_101 4 rfl ?_
                  refine c_Dm_insertHost dX10_host_102 q740 (by decide) (Nat.le_of_ble_eq_true rfl) (hr2.resolve_left c4) h (fun r15 M16 h hr15 hwM16 => ?_)
                  replace h := h hr15 hwM16
                  refine w_if_ne (tgt := 111) dX10_host_105 (by decide) (inr_z hr15) (fun c17 => ?_) (fun c17 => ?_)
                  · replace h := h.1 c17
                    refine w_aload_n dX10_host_111 2 rfl ?_
                    refine w_iconst dX10_host_112 ?_
                    refine w_iload_n dX10_host_113 3 rfl ?_
                    refine w_aload dX10_host_114 1 rfl ?_
                    refine w_getIN (ci := 1) (k := 8) dX10_host_116 rfl fi1 (by decide) qn152 (sDom (hr2.resolve_left c4)) rfl (bDom (hr2.resolve_left c4) (Nat.le_add_right _ _)) ?_
                    refine w_iconst dX10_host_119 ?_
                    refine w_isub dX10_host_120 ?_
                    refine w_iload_n dX10_host_121 4 rfl ?_
                    refine c_Sr_noteChange dX10_host_122 q715 (by decide) (Nat.le_of_ble_eq_true rfl) h (fun M19 h hwM19 => ?_)
                    replace h := h hwM19
                    refine w_aload dX10_host_125 1 rfl ?_
                    refine w_getIN (ci := 1) (k := 8) dX10_host_127 rfl fi1 (by decide) qn152 (sDom (hr2.resolve_left c4)) rfl (bDom (hr2.resolve_left c4) (Nat.le_add_right _ _)) ?_
                    exact w_iret dX10_host_130 ⟨_, rfl, (hwM19.int _ _), h⟩
                  · replace h := h.2 c17
                    refine w_bipush dX10_host_108 rfl ?_
                    exact w_iret dX10_host_110 ⟨_, rfl, ⟨by decide, by decide⟩, h⟩
                · replace h := h.2 c14
                  refine w_aload dX10_host_72 1 rfl ?_
                  refine w_iload dX10_host_74 0 rfl ?_
                  refine c_Dm_removeHost dX10_host_76 q736 (by decide) (Nat.le_of_ble_eq_true rfl) (hr2.resolve_left c4) h (fun M21 h hwM21 => ?_)
                  replace h := h hwM21
                  refine w_aload_n dX10_host_79 2 rfl ?_
                  refine w_iconst dX10_host_80 ?_
                  refine w_iload_n dX10_host_81 3 rfl ?_
                  refine w_iload dX10_host_82 0 rfl ?_
                  refine w_iload_n dX10_host_84 4 rfl ?_
                  refine c_Sr_noteChange dX10_host_85 q715 (by decide) (Nat.le_of_ble_eq_true rfl) h (fun M23 h hwM23 => ?_)
                  replace h := h hwM23
                  refine w_aload dX10_host_88 1 rfl ?_
                  refine w_getIN (ci := 1) (k := 8) dX10_host_90 rfl fi1 (by decide) qn152 (sDom (hr2.resolve_left c4)) rfl (bDom (hr2.resolve_left c4) (Nat.le_add_right _ _)) ?_
                  exact w_iret dX10_host_93 ⟨_, rfl, (hwM23.int _ _), h⟩
              · exact absurd c (by decide)
          · replace h := h.2 c12
            refine w_iconst dX10_host_47 ?_
            refine w_goto (tgt := 52) dX10_host_48 (by decide) ?_
            refine w_iload_n dX10_host_52 5 rfl ?_
            refine w_iconst dX10_host_53 ?_
            refine w_icmp_ne (tgt := 61) dX10_host_54 (by decide) hp2 ⟨by decide, by decide⟩ (fun c24 => ?_) (fun c24 => ?_)
            · replace h := h.1 c24
              refine w_iconst dX10_host_61 ?_
              refine w_icmp_ne (tgt := 68) dX10_host_62 (by decide) ⟨by decide, by decide⟩ ⟨by decide, by decide⟩ (fun c => ?_) (fun c => ?_)
              · refine w_iload_n dX10_host_68 5 rfl ?_
                refine w_if_ne (tgt := 94) dX10_host_69 (by decide) hp2 (fun c25 => ?_) (fun c25 => ?_)
                · replace h := h.1 c25
                  refine w_aload dX10_host_94 1 rfl ?_
                  refine w_aload dX10_host_96 1 rfl ?_
                  refine w_getIN (ci := 1) (k := 8) dX10_host_98 rfl fi1 (by decide) qn152 (sDom (hr2.resolve_left c4)) rfl (bDom (hr2.resolve_left c4) (Nat.le_add_right _ _)) ?_
                  refine w_iload_n dX10_host_101 4 rfl ?_
                  refine c_Dm_insertHost dX10_host_102 q740 (by decide) (Nat.le_of_ble_eq_true rfl) (hr2.resolve_left c4) h (fun r26 M27 h hr26 hwM27 => ?_)
                  replace h := h hr26 hwM27
                  refine w_if_ne (tgt := 111) dX10_host_105 (by decide) (inr_z hr26) (fun c28 => ?_) (fun c28 => ?_)
                  · replace h := h.1 c28
                    refine w_aload_n dX10_host_111 2 rfl ?_
                    refine w_iconst dX10_host_112 ?_
                    refine w_iload_n dX10_host_113 3 rfl ?_
                    refine w_aload dX10_host_114 1 rfl ?_
                    refine w_getIN (ci := 1) (k := 8) dX10_host_116 rfl fi1 (by decide) qn152 (sDom (hr2.resolve_left c4)) rfl (bDom (hr2.resolve_left c4) (Nat.le_add_right _ _)) ?_
                    refine w_iconst dX10_host_119 ?_
                    refine w_isub dX10_host_120 ?_
                    refine w_iload_n dX10_host_121 4 rfl ?_
                    refine c_Sr_noteChange dX10_host_122 q715 (by decide) (Nat.le_of_ble_eq_true rfl) h (fun M30 h hwM30 => ?_)
                    replace h := h hwM30
                    refine w_aload dX10_host_125 1 rfl ?_
                    refine w_getIN (ci := 1) (k := 8) dX10_host_127 rfl fi1 (by decide) qn152 (sDom (hr2.resolve_left c4)) rfl (bDom (hr2.resolve_left c4) (Nat.le_add_right _ _)) ?_
                    exact w_iret dX10_host_130 ⟨_, rfl, (hwM30.int _ _), h⟩
                  · replace h := h.2 c28
                    refine w_bipush dX10_host_108 rfl ?_
                    exact w_iret dX10_host_110 ⟨_, rfl, ⟨by decide, by decide⟩, h⟩
                · replace h := h.2 c25
                  refine w_aload dX10_host_72 1 rfl ?_
                  refine w_iload dX10_host_74 0 rfl ?_
                  refine c_Dm_removeHost dX10_host_76 q736 (by decide) (Nat.le_of_ble_eq_true rfl) (hr2.resolve_left c4) h (fun M32 h hwM32 => ?_)
                  replace h := h hwM32
                  refine w_aload_n dX10_host_79 2 rfl ?_
                  refine w_iconst dX10_host_80 ?_
                  refine w_iload_n dX10_host_81 3 rfl ?_
                  refine w_iload dX10_host_82 0 rfl ?_
                  refine w_iload_n dX10_host_84 4 rfl ?_
                  refine c_Sr_noteChange dX10_host_85 q715 (by decide) (Nat.le_of_ble_eq_true rfl) h (fun M34 h hwM34 => ?_)
                  replace h := h hwM34
                  refine w_aload dX10_host_88 1 rfl ?_
                  refine w_getIN (ci := 1) (k := 8) dX10_host_90 rfl fi1 (by decide) qn152 (sDom (hr2.resolve_left c4)) rfl (bDom (hr2.resolve_left c4) (Nat.le_add_right _ _)) ?_
                  exact w_iret dX10_host_93 ⟨_, rfl, (hwM34.int _ _), h⟩
              · exact absurd c (by decide)
            · replace h := h.2 c24
              refine w_iconst dX10_host_57 ?_
              refine w_goto (tgt := 62) dX10_host_58 (by decide) ?_
              refine w_icmp_ne (tgt := 68) dX10_host_62 (by decide) ⟨by decide, by decide⟩ ⟨by decide, by decide⟩ (fun c => ?_) (fun c => ?_)
              · exact absurd c (by decide)
              · refine w_bipush dX10_host_65 rfl ?_
                exact w_iret dX10_host_67 ⟨_, rfl, ⟨by decide, by decide⟩, h⟩
        · replace h := h.2 c9
          refine w_iconst dX10_host_31 ?_
          exact w_iret dX10_host_32 ⟨_, rfl, ⟨by decide, by decide⟩, h⟩
set_option maxHeartbeats 4000000 in
set_option maxRecDepth 100000 in
theorem b_Dm_removeHost_0 {g : Ctx} {n : Nat} {o : Nat} {p0 : Int} {M : Mem} {Q : Mem → Prop} (ho : isDom o) (hp0 : InR p0) (h : (((p0 < 0) → Q M) ∧ ((¬ (p0 < 0)) → (((p0 < (gI M (o) (8))) → P_Dm_removeHost g n 15 [(0, vr g (o)), (2, vi (p0))] [] M Q) ∧ ((¬ (p0 < (gI M (o) (8)))) → Q M))))) : P_Dm_removeHost g n 0 [(0, vr g (o)), (1, vi (p0))] [] M Q := by
  refine w_wt (fun hw => ?_)
  refine w_iload_n dX1_removeHost_0 1 rfl ?_
  refine w_if_lt (tgt := 12) dX1_removeHost_1 (by decide) hp0 (fun c1 => ?_) (fun c1 => ?_)
  · replace h := h.1 c1
    exact w_vret dX1_removeHost_12 ⟨rfl, h⟩
  · replace h := h.2 c1
    refine w_iload_n dX1_removeHost_4 1 rfl ?_
    refine w_aload_n dX1_removeHost_5 0 rfl ?_
    refine w_getI (ci := 1) (k := 8) dX1_removeHost_6 rfl fi1 (by decide) q148 (sDom ho) rfl (bDom ho (Nat.le_add_right _ _)) ?_
    refine w_icmp_lt (tgt := 13) dX1_removeHost_9 (by decide) hp0 (hw.int _ _) (fun c2 => ?_) (fun c2 => ?_)
    · replace h := h.1 c2
      refine w_iload_n dX1_removeHost_13 1 rfl ?_
      refine w_istore_n (lv' := [(2, vi (p0)), (0, vr g (o)), (1, vi (p0))]) (i := 2) dX1_removeHost_14 rfl (by decide) rfl ?_
      refine w_lv [1, 0] rfl ?_
      exact h
    · replace h := h.2 c2
      exact w_vret dX1_removeHost_12 ⟨rfl, h⟩
set_option maxHeartbeats 4000000 in
set_option maxRecDepth 100000 in
theorem b_Dm_removeHost_15 {g : Ctx} {n : Nat} {a0 : Nat} {x2 : Int} {M : Mem} {Q : Mem → Prop} (ha0 : isDom a0) (hx2 : InR x2) (h : (InR ((gI M (a0) (8)) - 1)) ∧ (((((gI M (a0) (8)) - 1) ≤ x2) → Q (sI M (a0) (8) ((gI M (a0) (8)) - 1))) ∧ ((¬ (((gI M (a0) (8)) - 1) ≤ x2)) → (0 ≤ (x2 + 1) ∧ (x2 + 1) < 4) ∧ (0 ≤ x2 ∧ x2 < 4) ∧ P_Dm_removeHost g n 15 [(0, vr g (a0)), (2, vi (x2 + 1))] [] (sI M (a0 + 3) (x2.toNat) (gI M (a0 + 3) ((x2 + 1).toNat))) Q))) : P_Dm_removeHost g n 15 [(0, vr g (a0)), (2, vi (x2))] [] M Q := by
  refine w_wt (fun hw => ?_)
  refine w_iload_n dX1_removeHost_15 1 rfl ?_
  refine w_aload_n dX1_removeHost_16 0 rfl ?_
  refine w_getI (ci := 1) (k := 8) dX1_removeHost_17 rfl fi1 (by decide) q148 (sDom ha0) rfl (bDom ha0 (Nat.le_add_right _ _)) ?_
  refine w_iconst dX1_removeHost_20 ?_
  refine w_isub dX1_removeHost_21 ?_
  obtain ⟨i1, h⟩ := h
  refine w_icmp_ge (tgt := 45) dX1_removeHost_22 (by decide) hx2 i1 (fun c2 => ?_) (fun c2 => ?_)
  · replace h := h.1 c2
    refine w_aload_n dX1_removeHost_45 0 rfl ?_
    refine w_dup dX1_removeHost_46 rfl ?_
    refine w_getI (ci := 1) (k := 8) dX1_removeHost_47 rfl fi1 (by decide) q148 (sDom ha0) rfl (bDom ha0 (Nat.le_add_right _ _)) ?_
    refine w_iconst dX1_removeHost_50 ?_
    refine w_isub dX1_removeHost_51 ?_
    refine w_putI (ci := 1) (k := 8) dX1_removeHost_52 rfl fi1 (by decide) q148 tyX1 tyX1_ok nmX1 rfl rfl rfl i1 (sDom ha0) rfl (bDom ha0 (Nat.le_add_right _ _)) ?_
    have hw3 : WT (sI M (a0) (8) ((gI M (a0) (8)) - 1)) := hw.sI i1
    exact w_vret dX1_removeHost_55 ⟨rfl, h⟩
  · replace h := h.2 c2
    refine w_aload_n dX1_removeHost_25 0 rfl ?_
    refine w_getS (ci := 1) (k := 7) dX1_removeHost_26 rfl fi1 (by decide) q146 (sDom ha0) rfl (bDom ha0 (Nat.le_add_right _ _)) ?_
    refine w_iload_n dX1_removeHost_29 1 rfl ?_
    refine w_aload_n dX1_removeHost_30 0 rfl ?_
    refine w_getS (ci := 1) (k := 7) dX1_removeHost_31 rfl fi1 (by decide) q146 (sDom ha0) rfl (bDom ha0 (Nat.le_add_right _ _)) ?_
    refine w_iload_n dX1_removeHost_34 1 rfl ?_
    refine w_iconst dX1_removeHost_35 ?_
    refine w_iadd dX1_removeHost_36 ?_
    obtain ⟨i4, h⟩ := h
    refine w_iald dX1_removeHost_37 (sDom3 ha0) (bDom3 ha0 (Nat.le_add_right _ _)) (by decide) i4.1 i4.2 ?_
    obtain ⟨i5, h⟩ := h
    refine w_iast dX1_removeHost_38 (sDom3 ha0) (bDom3 ha0 (Nat.le_add_right _ _)) (by decide) i5.1 i5.2 (hw.int _ _) ?_
    have hw6 : WT (sI M (a0 + 3) (x2.toNat) (gI M (a0 + 3) ((x2 + 1).toNat))) := hw.sI (hw.int _ _)
    refine w_iinc (lv' := [(2, vi (x2 + 1)), (0, vr g (a0))]) dX1_removeHost_39 1 rfl (by decide) rfl ?_
    refine w_goto (tgt := 15) dX1_removeHost_42 (by decide) ?_
    refine w_lv [1, 0] rfl ?_
    exact h
set_option maxHeartbeats 4000000 in
set_option maxRecDepth 100000 in
theorem b_Sr_undo_0 {g : Ctx} {n : Nat}  {M : Mem} {Q : Int → Mem → Prop}  (h : K_Hi_takeLatest g n  M (fun r1 M2 => (r1 = 0 ∨ isCh r1) → WT M2 → (((¬ r1 = 0) → K_Sr_takeBack g n r1 M2 (fun M5 => WT M5 → K_Ks_clear g n  M5 (fun M7 => WT M7 → Q (gI M7 (270) (1)) M7))) ∧ ((r1 = 0) → Q (-2) M2)))) : P_Sr_undo g n 0 [(0, vr g (0))] [] M Q := by
  refine w_wt (fun hw => ?_)
  refine w_aload_n dX10_undo_0 0 rfl ?_
  refine w_getS (ci := 10) (k := 5) dX10_undo_1 rfl fi10 (by decide) q538 s0 rfl l0 ?_
  refine c_Hi_takeLatest dX10_undo_4 q745 (by decide) (Nat.le_of_ble_eq_true rfl) h (fun r1 M2 h hr1 hwM2 => ?_)
  replace h := h hr1 hwM2
  refine w_astore_nq (lv' := [(1, vq g (r1)), (0, vr g (0))]) (i := 1) dX10_undo_7 rfl (by decide) rfl ?_
  refine w_aload_nq dX10_undo_8 0 rfl ?_
  refine w_ifnonnull (tgt := 15) dX10_undo_9 (by decide) (fun c3 => ?_) (fun c3 => ?_)
  · replace h := h.1 c3
    rw [vq_ne c3]
    refine w_aload_n dX10_undo_15 1 rfl ?_
    refine w_aload_n dX10_undo_16 0 rfl ?_
    refine c_Sr_takeBack dX10_undo_17 q749 (by decide) (Nat.le_of_ble_eq_true rfl) h (fun M5 h hwM5 => ?_)
    replace h := h hwM5
    refine w_aload_n dX10_undo_20 1 rfl ?_
    refine w_getS (ci := 10) (k := 4) dX10_undo_21 rfl fi10 (by decide) q537 s0 rfl l0 ?_
    refine c_Ks_clear dX10_undo_24 q573 (by decide) (Nat.le_of_ble_eq_true rfl) h (fun M7 h hwM7 => ?_)
    replace h := h hwM7
    refine w_aload_n dX10_undo_27 1 rfl ?_
    refine w_getS (ci := 10) (k := 5) dX10_undo_28 rfl fi10 (by decide) q538 s0 rfl l0 ?_
    refine w_getIN (ci := 3) (k := 1) dX10_undo_31 rfl fi3 (by decide) qn292 s270 rfl l270 ?_
    exact w_iret dX10_undo_34 ⟨_, rfl, (hwM7.int _ _), h⟩
  · replace h := h.2 c3
    refine w_bipush dX10_undo_12 rfl ?_
    exact w_iret dX10_undo_14 ⟨_, rfl, ⟨by decide, by decide⟩, h⟩
set_option maxHeartbeats 4000000 in
set_option maxRecDepth 100000 in
theorem b_Hi_takeLatest_0 {g : Ctx} {n : Nat}  {M : Mem} {Q : Nat → Mem → Prop}  (h : (((¬ (gI M (270) (1)) = 0) → (InR ((gI M (270) (1)) - 1)) ∧ (0 ≤ ((gI M (270) (1)) - 1) ∧ ((gI M (270) (1)) - 1) < 4) ∧ Q (gP M (271) (((gI M (270) (1)) - 1).toNat)) (sI M (270) (1) ((gI M (270) (1)) - 1))) ∧ (((gI M (270) (1)) = 0) → Q 0 M))) : P_Hi_takeLatest g n 0 [(0, vr g (270))] [] M Q := by
  refine w_wt (fun hw => ?_)
  refine w_aload_n dX3_takeLatest_0 0 rfl ?_
  refine w_getI (ci := 3) (k := 1) dX3_takeLatest_1 rfl fi3 (by decide) q291 s270 rfl l270 ?_
  refine w_if_ne (tgt := 9) dX3_takeLatest_4 (by decide) (hw.int _ _) (fun c1 => ?_) (fun c1 => ?_)
  · replace h := h.1 c1
    refine w_aload_n dX3_takeLatest_9 0 rfl ?_
    refine w_dup dX3_takeLatest_10 rfl ?_
    refine w_getI (ci := 3) (k := 1) dX3_takeLatest_11 rfl fi3 (by decide) q291 s270 rfl l270 ?_
    refine w_iconst dX3_takeLatest_14 ?_
    refine w_isub dX3_takeLatest_15 ?_
    obtain ⟨i2, h⟩ := h
    refine w_putI (ci := 3) (k := 1) dX3_takeLatest_16 rfl fi3 (by decide) q291 tyX3 tyX3_ok nmX3 rfl rfl rfl i2 s270 rfl l270 ?_
    have hw3 : WT (sI M (270) (1) ((gI M (270) (1)) - 1)) := hw.sI i2
    refine w_aload_n dX3_takeLatest_19 0 rfl ?_
    refine w_getS (ci := 3) (k := 0) dX3_takeLatest_20 rfl fi3 (by decide) q290 s270 rfl l270 ?_
    refine w_aload_n dX3_takeLatest_23 0 rfl ?_
    refine w_getI (ci := 3) (k := 1) dX3_takeLatest_24 rfl fi3 (by decide) q291 s270 rfl l270 ?_
    refine w_top (congrArg vi (gI_same _ _ _ _)) ?_
    obtain ⟨i4, h⟩ := h
    have t5 : isCh (gP (sI M (270) (1) ((gI M (270) (1)) - 1)) (271) (((gI M (270) (1)) - 1).toNat)) := (hw3.ch (by omega))
    refine w_aald (t := 5) dX3_takeLatest_27 s271 (by decide) rfl l271 (by decide) i4.1 i4.2 (nCh t5) ?_
    have t5e : gP (sI M (270) (1) ((gI M (270) (1)) - 1)) (271) (((gI M (270) (1)) - 1).toNat) = gP M (271) (((gI M (270) (1)) - 1).toNat) := rfl
    rw [t5e] at t5 ⊢
    refine w_top (vq_ne (nCh t5)).symm ?_
    exact w_aret dX3_takeLatest_28 ⟨_, rfl, (Or.inr t5), h⟩
  · replace h := h.2 c1
    refine w_null dX3_takeLatest_7 ?_
    exact w_aret dX3_takeLatest_8 ⟨_, rfl, (Or.inl rfl), h⟩
set_option maxHeartbeats 4000000 in
set_option maxRecDepth 100000 in
theorem b_Sr_takeBack_0 {g : Ctx} {n : Nat} {p0 : Nat} {M : Mem} {Q : Mem → Prop} (hp0 : isCh p0) (h : (isRec (gP M (0) (1))) ∧ K_Rc_domainAt g n (gP M (0) (1)) (gI M (p0) (1)) M (fun r2 M3 => (r2 = 0 ∨ isDom r2) → WT M3 → (((¬ r2 = 0) → ((((gI M3 (p0) (0)) = 0) → K_Dm_ruleAt g n r2 (gI M3 (p0) (2)) M3 (fun r6 M7 => (r6 = 0 ∨ isRul r6) → WT M7 → (((r6 = 0) → Q M7) ∧ ((¬ (r6 = 0)) → Q (sI M7 (r6) (0) (gI M7 (p0) (3))))))) ∧ ((¬ ((gI M3 (p0) (0)) = 0)) → ((((gI M3 (p0) (0)) = 1) → K_Dm_swapRules g n r2 (gI M3 (p0) (2)) M3 (fun r11 M12 => (r11 = 0 ∨ r11 = 1) → WT M12 → Q M12)) ∧ ((¬ ((gI M3 (p0) (0)) = 1)) → ((((gI M3 (p0) (0)) = 2) → K_Dm_removeHost g n r2 (gI M3 (p0) (2)) M3 (fun M15 => WT M15 → Q M15)) ∧ ((¬ ((gI M3 (p0) (0)) = 2)) → K_Dm_insertHost g n r2 (gI M3 (p0) (2)) (gI M3 (p0) (3)) M3 (fun r16 M17 => (r16 = 0 ∨ r16 = 1) → WT M17 → Q M17)))))))) ∧ ((r2 = 0) → Q M3)))) : P_Sr_takeBack g n 0 [(0, vr g (0)), (1, vr g (p0))] [] M Q := by
  refine w_wt (fun hw => ?_)
  refine w_aload_n dX10_takeBack_0 0 rfl ?_
  refine w_getQ (ci := 10) (k := 1) dX10_takeBack_1 rfl fi10 (by decide) q534 s0 rfl l0 ?_
  obtain ⟨t1, h⟩ := h
  refine w_top (vq_ne (nRec t1)) ?_
  refine w_aload_n dX10_takeBack_4 1 rfl ?_
  refine w_getIN (ci := 0) (k := 1) dX10_takeBack_5 rfl fi0 (by decide) qn278 (sCh hp0) rfl (bCh hp0 (Nat.le_add_right _ _)) ?_
  refine c_Rc_domainAt dX10_takeBack_8 q712 (by decide) (Nat.le_of_ble_eq_true rfl) t1 h (fun r2 M3 h hr2 hwM3 => ?_)
  replace h := h hr2 hwM3
  refine w_astore_nq (lv' := [(2, vq g (r2)), (0, vr g (0)), (1, vr g (p0))]) (i := 2) dX10_takeBack_11 rfl (by decide) rfl ?_
  refine w_aload_nq dX10_takeBack_12 0 rfl ?_
  refine w_ifnonnull (tgt := 17) dX10_takeBack_13 (by decide) (fun c4 => ?_) (fun c4 => ?_)
  · replace h := h.1 c4
    rw [vq_ne c4]
    refine w_aload_n dX10_takeBack_17 2 rfl ?_
    refine w_getIN (ci := 0) (k := 0) dX10_takeBack_18 rfl fi0 (by decide) qn277 (sCh hp0) rfl (bCh hp0 (Nat.le_add_right _ _)) ?_
    by_cases c5 : (gI M3 (p0) (0)) = 0
    · replace h := h.1 c5
      refine w_tabIn (tgt := 48) dX10_takeBack_21 c5 ⟨by decide, by decide⟩ (by decide) (by decide) rfl (by decide) ?_
      refine w_aload_n dX10_takeBack_48 0 rfl ?_
      refine w_aload_n dX10_takeBack_49 2 rfl ?_
      refine w_getIN (ci := 0) (k := 2) dX10_takeBack_50 rfl fi0 (by decide) qn279 (sCh hp0) rfl (bCh hp0 (Nat.le_add_right _ _)) ?_
      refine c_Dm_ruleAt dX10_takeBack_53 q713 (by decide) (Nat.le_of_ble_eq_true rfl) (hr2.resolve_left c4) h (fun r6 M7 h hr6 hwM7 => ?_)
      replace h := h hr6 hwM7
      refine w_astore_nq (lv' := [(3, vq g (r6)), (2, vr g (r2)), (0, vr g (0)), (1, vr g (p0))]) (i := 3) dX10_takeBack_56 rfl (by decide) rfl ?_
      refine w_aload_nq dX10_takeBack_57 0 rfl ?_
      refine w_ifnull (tgt := 108) dX10_takeBack_58 (by decide) (fun c8 => ?_) (fun c8 => ?_)
      · replace h := h.1 c8
        exact w_vret dX10_takeBack_108 ⟨rfl, h⟩
      · replace h := h.2 c8
        rw [vq_ne c8]
        refine w_aload_n dX10_takeBack_61 0 rfl ?_
        refine w_aload_n dX10_takeBack_62 3 rfl ?_
        refine w_getIN (ci := 0) (k := 3) dX10_takeBack_63 rfl fi0 (by decide) qn280 (sCh hp0) rfl (bCh hp0 (Nat.le_add_right _ _)) ?_
        refine w_putIN (ci := 9) (k := 0) dX10_takeBack_66 rfl fi9 (by decide) qn84 tyX9 tyX9_ok nmX9 rfl rfl rfl (hwM7.int _ _) (sRul (hr6.resolve_left c8)) rfl (bRul (hr6.resolve_left c8) (Nat.le_add_right _ _)) ?_
        have hw9 : WT (sI M7 (r6) (0) (gI M7 (p0) (3))) := hwM7.sI (hwM7.int _ _)
        refine w_goto (tgt := 108) dX10_takeBack_69 (by decide) ?_
        exact w_vret dX10_takeBack_108 ⟨rfl, h⟩
    replace h := h.2 c5
    by_cases c10 : (gI M3 (p0) (0)) = 1
    · replace h := h.1 c10
      refine w_tabIn (tgt := 72) dX10_takeBack_21 c10 ⟨by decide, by decide⟩ (by decide) (by decide) rfl (by decide) ?_
      refine w_aload_n dX10_takeBack_72 0 rfl ?_
      refine w_aload_n dX10_takeBack_73 2 rfl ?_
      refine w_getIN (ci := 0) (k := 2) dX10_takeBack_74 rfl fi0 (by decide) qn279 (sCh hp0) rfl (bCh hp0 (Nat.le_add_right _ _)) ?_
      refine c_Dm_swapRules dX10_takeBack_77 q727 (by decide) (Nat.le_of_ble_eq_true rfl) (hr2.resolve_left c4) h (fun r11 M12 h hr11 hwM12 => ?_)
      replace h := h hr11 hwM12
      refine w_pop dX10_takeBack_80 rfl ?_
      refine w_goto (tgt := 108) dX10_takeBack_81 (by decide) ?_
      exact w_vret dX10_takeBack_108 ⟨rfl, h⟩
    replace h := h.2 c10
    by_cases c13 : (gI M3 (p0) (0)) = 2
    · replace h := h.1 c13
      refine w_tabIn (tgt := 84) dX10_takeBack_21 c13 ⟨by decide, by decide⟩ (by decide) (by decide) rfl (by decide) ?_
      refine w_aload_n dX10_takeBack_84 0 rfl ?_
      refine w_aload_n dX10_takeBack_85 2 rfl ?_
      refine w_getIN (ci := 0) (k := 2) dX10_takeBack_86 rfl fi0 (by decide) qn279 (sCh hp0) rfl (bCh hp0 (Nat.le_add_right _ _)) ?_
      refine c_Dm_removeHost dX10_takeBack_89 q736 (by decide) (Nat.le_of_ble_eq_true rfl) (hr2.resolve_left c4) h (fun M15 h hwM15 => ?_)
      replace h := h hwM15
      refine w_goto (tgt := 108) dX10_takeBack_92 (by decide) ?_
      exact w_vret dX10_takeBack_108 ⟨rfl, h⟩
    replace h := h.2 c13
    refine w_tabOut (tgt := 95) dX10_takeBack_21 (hwM3.int _ _) (by omega) (by decide) ?_
    refine w_aload_n dX10_takeBack_95 0 rfl ?_
    refine w_aload_n dX10_takeBack_96 2 rfl ?_
    refine w_getIN (ci := 0) (k := 2) dX10_takeBack_97 rfl fi0 (by decide) qn279 (sCh hp0) rfl (bCh hp0 (Nat.le_add_right _ _)) ?_
    refine w_aload_n dX10_takeBack_100 2 rfl ?_
    refine w_getIN (ci := 0) (k := 3) dX10_takeBack_101 rfl fi0 (by decide) qn280 (sCh hp0) rfl (bCh hp0 (Nat.le_add_right _ _)) ?_
    refine c_Dm_insertHost dX10_takeBack_104 q740 (by decide) (Nat.le_of_ble_eq_true rfl) (hr2.resolve_left c4) h (fun r16 M17 h hr16 hwM17 => ?_)
    replace h := h hr16 hwM17
    refine w_pop dX10_takeBack_107 rfl ?_
    exact w_vret dX10_takeBack_108 ⟨rfl, h⟩
  · replace h := h.2 c4
    exact w_vret dX10_takeBack_16 ⟨rfl, h⟩
set_option maxHeartbeats 4000000 in
set_option maxRecDepth 100000 in
theorem b_Sr_name_0 {g : Ctx} {n : Nat} {p0 : Int} {p1 : Int} {M : Mem} {Q : Int → Mem → Prop} (hp0 : InR p0) (hp1 : InR p1) (h : (isRec (gP M (0) (1))) ∧ K_Rc_domainAt g n (gP M (0) (1)) p0 M (fun r2 M3 => (r2 = 0 ∨ isDom r2) → WT M3 → (((¬ r2 = 0) → (((p1 = 0) → Q (gI M3 (r2) (2)) M3) ∧ ((¬ (p1 = 0)) → (((p1 = 1) → Q (gI M3 (r2) (5)) M3) ∧ ((¬ (p1 = 1)) → (((p1 = 2) → Q (gI M3 (r2) (8)) M3) ∧ ((¬ (p1 = 2)) → (((p1 = 3) → Q (gI M3 (r2) (10)) M3) ∧ ((¬ (p1 = 3)) → (((p1 = 4) → K_Sr_numberOrNone g n (gI M3 (r2) (6)) M3 (fun r10 M11 => InR r10 → WT M11 → Q r10 M11)) ∧ ((¬ (p1 = 4)) → (((p1 = 5) → ((((gI M3 (r2) (3)) = 0) → Q 0 M3) ∧ ((¬ ((gI M3 (r2) (3)) = 0)) → Q 1 M3))) ∧ ((¬ (p1 = 5)) → Q (-1) M3))))))))))))) ∧ ((r2 = 0) → Q (-1) M3)))) : P_Sr_name g n 0 [(0, vr g (0)), (1, vi (p0)), (2, vi (p1))] [] M Q := by
  refine w_wt (fun hw => ?_)
  refine w_aload_n dX10_name_0 0 rfl ?_
  refine w_getQ (ci := 10) (k := 1) dX10_name_1 rfl fi10 (by decide) q534 s0 rfl l0 ?_
  obtain ⟨t1, h⟩ := h
  refine w_top (vq_ne (nRec t1)) ?_
  refine w_iload_n dX10_name_4 1 rfl ?_
  refine c_Rc_domainAt dX10_name_5 q712 (by decide) (Nat.le_of_ble_eq_true rfl) t1 h (fun r2 M3 h hr2 hwM3 => ?_)
  replace h := h hr2 hwM3
  refine w_astore_nq (lv' := [(3, vq g (r2)), (0, vr g (0)), (1, vi (p0)), (2, vi (p1))]) (i := 3) dX10_name_8 rfl (by decide) rfl ?_
  refine w_aload_nq dX10_name_9 0 rfl ?_
  refine w_ifnonnull (tgt := 15) dX10_name_10 (by decide) (fun c4 => ?_) (fun c4 => ?_)
  · replace h := h.1 c4
    rw [vq_ne c4]
    refine w_iload_n dX10_name_15 3 rfl ?_
    by_cases c5 : p1 = 0
    · replace h := h.1 c5
      refine w_tabIn (tgt := 56) dX10_name_16 c5 ⟨by decide, by decide⟩ (by decide) (by decide) rfl (by decide) ?_
      refine w_aload_n dX10_name_56 0 rfl ?_
      refine w_getIN (ci := 1) (k := 2) dX10_name_57 rfl fi1 (by decide) qn128 (sDom (hr2.resolve_left c4)) rfl (bDom (hr2.resolve_left c4) (Nat.le_add_right _ _)) ?_
      exact w_iret dX10_name_60 ⟨_, rfl, (hwM3.int _ _), h⟩
    replace h := h.2 c5
    by_cases c6 : p1 = 1
    · replace h := h.1 c6
      refine w_tabIn (tgt := 61) dX10_name_16 c6 ⟨by decide, by decide⟩ (by decide) (by decide) rfl (by decide) ?_
      refine w_aload_n dX10_name_61 0 rfl ?_
      refine w_getIN (ci := 1) (k := 5) dX10_name_62 rfl fi1 (by decide) qn140 (sDom (hr2.resolve_left c4)) rfl (bDom (hr2.resolve_left c4) (Nat.le_add_right _ _)) ?_
      exact w_iret dX10_name_65 ⟨_, rfl, (hwM3.int _ _), h⟩
    replace h := h.2 c6
    by_cases c7 : p1 = 2
    · replace h := h.1 c7
      refine w_tabIn (tgt := 66) dX10_name_16 c7 ⟨by decide, by decide⟩ (by decide) (by decide) rfl (by decide) ?_
      refine w_aload_n dX10_name_66 0 rfl ?_
      refine w_getIN (ci := 1) (k := 8) dX10_name_67 rfl fi1 (by decide) qn152 (sDom (hr2.resolve_left c4)) rfl (bDom (hr2.resolve_left c4) (Nat.le_add_right _ _)) ?_
      exact w_iret dX10_name_70 ⟨_, rfl, (hwM3.int _ _), h⟩
    replace h := h.2 c7
    by_cases c8 : p1 = 3
    · replace h := h.1 c8
      refine w_tabIn (tgt := 71) dX10_name_16 c8 ⟨by decide, by decide⟩ (by decide) (by decide) rfl (by decide) ?_
      refine w_aload_n dX10_name_71 0 rfl ?_
      refine w_getIN (ci := 1) (k := 10) dX10_name_72 rfl fi1 (by decide) qn158 (sDom (hr2.resolve_left c4)) rfl (bDom (hr2.resolve_left c4) (Nat.le_add_right _ _)) ?_
      exact w_iret dX10_name_75 ⟨_, rfl, (hwM3.int _ _), h⟩
    replace h := h.2 c8
    by_cases c9 : p1 = 4
    · replace h := h.1 c9
      refine w_tabIn (tgt := 76) dX10_name_16 c9 ⟨by decide, by decide⟩ (by decide) (by decide) rfl (by decide) ?_
      refine w_aload_n dX10_name_76 1 rfl ?_
      refine w_aload_n dX10_name_77 0 rfl ?_
      refine w_getIN (ci := 1) (k := 6) dX10_name_78 rfl fi1 (by decide) qn145 (sDom (hr2.resolve_left c4)) rfl (bDom (hr2.resolve_left c4) (Nat.le_add_right _ _)) ?_
      refine c_Sr_numberOrNone dX10_name_81 q757 (by decide) (Nat.le_of_ble_eq_true rfl) h (fun r10 M11 h hr10 hwM11 => ?_)
      replace h := h hr10 hwM11
      exact w_iret dX10_name_84 ⟨_, rfl, hr10, h⟩
    replace h := h.2 c9
    by_cases c12 : p1 = 5
    · replace h := h.1 c12
      refine w_tabIn (tgt := 85) dX10_name_16 c12 ⟨by decide, by decide⟩ (by decide) (by decide) rfl (by decide) ?_
      refine w_aload_n dX10_name_85 0 rfl ?_
      refine w_getIN (ci := 1) (k := 3) dX10_name_86 rfl fi1 (by decide) qn133 (sDom (hr2.resolve_left c4)) rfl (bDom (hr2.resolve_left c4) (Nat.le_add_right _ _)) ?_
      refine w_if_eq (tgt := 96) dX10_name_89 (by decide) (hwM3.int _ _) (fun c13 => ?_) (fun c13 => ?_)
      · replace h := h.1 c13
        refine w_iconst dX10_name_96 ?_
        exact w_iret dX10_name_97 ⟨_, rfl, ⟨by decide, by decide⟩, h⟩
      · replace h := h.2 c13
        refine w_iconst dX10_name_92 ?_
        refine w_goto (tgt := 97) dX10_name_93 (by decide) ?_
        exact w_iret dX10_name_97 ⟨_, rfl, ⟨by decide, by decide⟩, h⟩
    replace h := h.2 c12
    refine w_tabOut (tgt := 98) dX10_name_16 hp1 (by omega) (by decide) ?_
    refine w_iconst dX10_name_98 ?_
    exact w_iret dX10_name_99 ⟨_, rfl, ⟨by decide, by decide⟩, h⟩
  · replace h := h.2 c4
    refine w_iconst dX10_name_13 ?_
    exact w_iret dX10_name_14 ⟨_, rfl, ⟨by decide, by decide⟩, h⟩
set_option maxHeartbeats 4000000 in
set_option maxRecDepth 100000 in
theorem b_Sr_numberOrNone_0 {g : Ctx} {n : Nat} {p0 : Int} {M : Mem} {Q : Int → Mem → Prop} (hp0 : InR p0) (h : (isRec (gP M (0) (1))) ∧ K_Rc_find g n (gP M (0) (1)) p0 M (fun r2 M3 => InR r2 → WT M3 → (((¬ r2 = (-1)) → Q r2 M3) ∧ ((r2 = (-1)) → Q (-4) M3)))) : P_Sr_numberOrNone g n 0 [(0, vr g (0)), (1, vi (p0))] [] M Q := by
  refine w_wt (fun hw => ?_)
  refine w_aload_n dX10_numberOrNone_0 0 rfl ?_
  refine w_getQ (ci := 10) (k := 1) dX10_numberOrNone_1 rfl fi10 (by decide) q534 s0 rfl l0 ?_
  obtain ⟨t1, h⟩ := h
  refine w_top (vq_ne (nRec t1)) ?_
  refine w_iload_n dX10_numberOrNone_4 1 rfl ?_
  refine c_Rc_find dX10_numberOrNone_5 q589 (by decide) (Nat.le_of_ble_eq_true rfl) t1 h (fun r2 M3 h hr2 hwM3 => ?_)
  replace h := h hr2 hwM3
  refine w_istore_n (lv' := [(2, vi (r2)), (0, vr g (0)), (1, vi (p0))]) (i := 2) dX10_numberOrNone_8 rfl (by decide) rfl ?_
  refine w_iload_n dX10_numberOrNone_9 0 rfl ?_
  refine w_iconst dX10_numberOrNone_10 ?_
  refine w_icmp_ne (tgt := 19) dX10_numberOrNone_11 (by decide) hr2 ⟨by decide, by decide⟩ (fun c4 => ?_) (fun c4 => ?_)
  · replace h := h.1 c4
    refine w_iload_n dX10_numberOrNone_19 0 rfl ?_
    exact w_iret dX10_numberOrNone_20 ⟨_, rfl, hr2, h⟩
  · replace h := h.2 c4
    refine w_bipush dX10_numberOrNone_14 rfl ?_
    refine w_goto (tgt := 20) dX10_numberOrNone_16 (by decide) ?_
    exact w_iret dX10_numberOrNone_20 ⟨_, rfl, ⟨by decide, by decide⟩, h⟩
set_option maxHeartbeats 4000000 in
set_option maxRecDepth 100000 in
theorem b_Sr_letter_0 {g : Ctx} {n : Nat} {p0 : Int} {p1 : Int} {M : Mem} {Q : Int → Mem → Prop} (hp0 : InR p0) (hp1 : InR p1) (h : (isRec (gP M (0) (1))) ∧ K_Rc_domainAt g n (gP M (0) (1)) p0 M (fun r2 M3 => (r2 = 0 ∨ isDom r2) → WT M3 → (((r2 = 0) → Q (-1) M3) ∧ ((¬ (r2 = 0)) → (((0 ≤ p1) → ((((gI M3 (r2) (2)) ≤ p1) → Q (-4) M3) ∧ ((¬ ((gI M3 (r2) (2)) ≤ p1)) → (0 ≤ (((gI M3 (r2) (2)) - 1) - p1) ∧ (((gI M3 (r2) (2)) - 1) - p1) < 7) ∧ Q (gI M3 (r2 + 1) ((((gI M3 (r2) (2)) - 1) - p1).toNat)) M3))) ∧ ((¬ (0 ≤ p1)) → Q (-1) M3)))))) : P_Sr_letter g n 0 [(0, vr g (0)), (1, vi (p0)), (2, vi (p1))] [] M Q := by
  refine w_wt (fun hw => ?_)
  refine w_aload_n dX10_letter_0 0 rfl ?_
  refine w_getQ (ci := 10) (k := 1) dX10_letter_1 rfl fi10 (by decide) q534 s0 rfl l0 ?_
  obtain ⟨t1, h⟩ := h
  refine w_top (vq_ne (nRec t1)) ?_
  refine w_iload_n dX10_letter_4 1 rfl ?_
  refine c_Rc_domainAt dX10_letter_5 q712 (by decide) (Nat.le_of_ble_eq_true rfl) t1 h (fun r2 M3 h hr2 hwM3 => ?_)
  replace h := h hr2 hwM3
  refine w_astore_nq (lv' := [(3, vq g (r2)), (0, vr g (0)), (1, vi (p0)), (2, vi (p1))]) (i := 3) dX10_letter_8 rfl (by decide) rfl ?_
  refine w_aload_nq dX10_letter_9 0 rfl ?_
  refine w_ifnull (tgt := 17) dX10_letter_10 (by decide) (fun c4 => ?_) (fun c4 => ?_)
  · replace h := h.1 c4
    refine w_iconst dX10_letter_17 ?_
    exact w_iret dX10_letter_18 ⟨_, rfl, ⟨by decide, by decide⟩, h⟩
  · replace h := h.2 c4
    rw [vq_ne c4]
    refine w_iload_n dX10_letter_13 3 rfl ?_
    refine w_if_ge (tgt := 19) dX10_letter_14 (by decide) hp1 (fun c5 => ?_) (fun c5 => ?_)
    · replace h := h.1 c5
      refine w_iload_n dX10_letter_19 3 rfl ?_
      refine w_aload_n dX10_letter_20 0 rfl ?_
      refine w_getIN (ci := 1) (k := 2) dX10_letter_21 rfl fi1 (by decide) qn128 (sDom (hr2.resolve_left c4)) rfl (bDom (hr2.resolve_left c4) (Nat.le_add_right _ _)) ?_
      refine w_icmp_ge (tgt := 43) dX10_letter_24 (by decide) hp1 (hwM3.int _ _) (fun c6 => ?_) (fun c6 => ?_)
      · replace h := h.1 c6
        refine w_bipush dX10_letter_43 rfl ?_
        exact w_iret dX10_letter_45 ⟨_, rfl, ⟨by decide, by decide⟩, h⟩
      · replace h := h.2 c6
        refine w_aload_n dX10_letter_27 0 rfl ?_
        refine w_getSN (ci := 1) (k := 1) dX10_letter_28 rfl fi1 (by decide) qn125 (sDom (hr2.resolve_left c4)) rfl (bDom (hr2.resolve_left c4) (Nat.le_add_right _ _)) ?_
        refine w_aload_n dX10_letter_31 0 rfl ?_
        refine w_getIN (ci := 1) (k := 2) dX10_letter_32 rfl fi1 (by decide) qn128 (sDom (hr2.resolve_left c4)) rfl (bDom (hr2.resolve_left c4) (Nat.le_add_right _ _)) ?_
        refine w_iconst dX10_letter_35 ?_
        refine w_isub dX10_letter_36 ?_
        refine w_iload_n dX10_letter_37 3 rfl ?_
        refine w_isub dX10_letter_38 ?_
        obtain ⟨i7, h⟩ := h
        refine w_iald dX10_letter_39 (sDom1 (hr2.resolve_left c4)) (bDom1 (hr2.resolve_left c4) (Nat.le_add_right _ _)) (by decide) i7.1 i7.2 ?_
        refine w_goto (tgt := 45) dX10_letter_40 (by decide) ?_
        exact w_iret dX10_letter_45 ⟨_, rfl, (hwM3.int _ _), h⟩
    · replace h := h.2 c5
      refine w_iconst dX10_letter_17 ?_
      exact w_iret dX10_letter_18 ⟨_, rfl, ⟨by decide, by decide⟩, h⟩
set_option maxHeartbeats 4000000 in
set_option maxRecDepth 100000 in
theorem b_Sr_rule_0 {g : Ctx} {n : Nat} {p0 : Int} {p1 : Int} {p2 : Int} {M : Mem} {Q : Int → Mem → Prop} (hp0 : InR p0) (hp1 : InR p1) (hp2 : InR p2) (h : K_Sr_ruleAt g n p0 p1 M (fun r1 M2 => (r1 = 0 ∨ isRul r1) → WT M2 → (((¬ r1 = 0) → (((p2 = 0) → Q (gI M2 (r1) (0)) M2) ∧ ((¬ (p2 = 0)) → (((p2 = 1) → Q (gI M2 (r1) (1)) M2) ∧ ((¬ (p2 = 1)) → (((p2 = 2) → (((¬ (gI M2 (r1) (1)) = 1) → Q (-4) M2) ∧ (((gI M2 (r1) (1)) = 1) → Q (gI M2 (r1) (2)) M2))) ∧ ((¬ (p2 = 2)) → (((p2 = 3) → (((¬ (gI M2 (r1) (1)) = 1) → Q (-4) M2) ∧ (((gI M2 (r1) (1)) = 1) → Q (gI M2 (r1) (3)) M2))) ∧ ((¬ (p2 = 3)) → (((p2 = 4) → K_Sr_numberOrNone g n (gI M2 (r1) (4)) M2 (fun r11 M12 => InR r11 → WT M12 → Q r11 M12)) ∧ ((¬ (p2 = 4)) → Q (-1) M2))))))))))) ∧ ((r1 = 0) → Q (-1) M2)))) : P_Sr_rule g n 0 [(0, vr g (0)), (1, vi (p0)), (2, vi (p1)), (3, vi (p2))] [] M Q := by
  refine w_wt (fun hw => ?_)
  refine w_aload_n dX10_rule_0 0 rfl ?_
  refine w_iload_n dX10_rule_1 1 rfl ?_
  refine w_iload_n dX10_rule_2 2 rfl ?_
  refine c_Sr_ruleAt dX10_rule_3 q708 (by decide) (Nat.le_of_ble_eq_true rfl) h (fun r1 M2 h hr1 hwM2 => ?_)
  replace h := h hr1 hwM2
  refine w_astoreq (lv' := [(4, vq g (r1)), (0, vr g (0)), (1, vi (p0)), (2, vi (p1)), (3, vi (p2))]) dX10_rule_6 (by decide) rfl ?_
  refine w_aloadq dX10_rule_8 0 rfl ?_
  refine w_ifnonnull (tgt := 15) dX10_rule_10 (by decide) (fun c3 => ?_) (fun c3 => ?_)
  · replace h := h.1 c3
    rw [vq_ne c3]
    refine w_iload_n dX10_rule_15 4 rfl ?_
    by_cases c4 : p2 = 0
    · replace h := h.1 c4
      refine w_tabIn (tgt := 52) dX10_rule_16 c4 ⟨by decide, by decide⟩ (by decide) (by decide) rfl (by decide) ?_
      refine w_aload dX10_rule_52 0 rfl ?_
      refine w_getIN (ci := 9) (k := 0) dX10_rule_54 rfl fi9 (by decide) qn84 (sRul (hr1.resolve_left c3)) rfl (bRul (hr1.resolve_left c3) (Nat.le_add_right _ _)) ?_
      exact w_iret dX10_rule_57 ⟨_, rfl, (hwM2.int _ _), h⟩
    replace h := h.2 c4
    by_cases c5 : p2 = 1
    · replace h := h.1 c5
      refine w_tabIn (tgt := 58) dX10_rule_16 c5 ⟨by decide, by decide⟩ (by decide) (by decide) rfl (by decide) ?_
      refine w_aload dX10_rule_58 0 rfl ?_
      refine w_getIN (ci := 9) (k := 1) dX10_rule_60 rfl fi9 (by decide) qn88 (sRul (hr1.resolve_left c3)) rfl (bRul (hr1.resolve_left c3) (Nat.le_add_right _ _)) ?_
      exact w_iret dX10_rule_63 ⟨_, rfl, (hwM2.int _ _), h⟩
    replace h := h.2 c5
    by_cases c6 : p2 = 2
    · replace h := h.1 c6
      refine w_tabIn (tgt := 64) dX10_rule_16 c6 ⟨by decide, by decide⟩ (by decide) (by decide) rfl (by decide) ?_
      refine w_aload dX10_rule_64 0 rfl ?_
      refine w_getIN (ci := 9) (k := 1) dX10_rule_66 rfl fi9 (by decide) qn88 (sRul (hr1.resolve_left c3)) rfl (bRul (hr1.resolve_left c3) (Nat.le_add_right _ _)) ?_
      refine w_iconst dX10_rule_69 ?_
      refine w_icmp_ne (tgt := 81) dX10_rule_70 (by decide) (hwM2.int _ _) ⟨by decide, by decide⟩ (fun c7 => ?_) (fun c7 => ?_)
      · replace h := h.1 c7
        refine w_bipush dX10_rule_81 rfl ?_
        exact w_iret dX10_rule_83 ⟨_, rfl, ⟨by decide, by decide⟩, h⟩
      · replace h := h.2 c7
        refine w_aload dX10_rule_73 0 rfl ?_
        refine w_getIN (ci := 9) (k := 2) dX10_rule_75 rfl fi9 (by decide) qn91 (sRul (hr1.resolve_left c3)) rfl (bRul (hr1.resolve_left c3) (Nat.le_add_right _ _)) ?_
        refine w_goto (tgt := 83) dX10_rule_78 (by decide) ?_
        exact w_iret dX10_rule_83 ⟨_, rfl, (hwM2.int _ _), h⟩
    replace h := h.2 c6
    by_cases c8 : p2 = 3
    · replace h := h.1 c8
      refine w_tabIn (tgt := 84) dX10_rule_16 c8 ⟨by decide, by decide⟩ (by decide) (by decide) rfl (by decide) ?_
      refine w_aload dX10_rule_84 0 rfl ?_
      refine w_getIN (ci := 9) (k := 1) dX10_rule_86 rfl fi9 (by decide) qn88 (sRul (hr1.resolve_left c3)) rfl (bRul (hr1.resolve_left c3) (Nat.le_add_right _ _)) ?_
      refine w_iconst dX10_rule_89 ?_
      refine w_icmp_ne (tgt := 101) dX10_rule_90 (by decide) (hwM2.int _ _) ⟨by decide, by decide⟩ (fun c9 => ?_) (fun c9 => ?_)
      · replace h := h.1 c9
        refine w_bipush dX10_rule_101 rfl ?_
        exact w_iret dX10_rule_103 ⟨_, rfl, ⟨by decide, by decide⟩, h⟩
      · replace h := h.2 c9
        refine w_aload dX10_rule_93 0 rfl ?_
        refine w_getIN (ci := 9) (k := 3) dX10_rule_95 rfl fi9 (by decide) qn94 (sRul (hr1.resolve_left c3)) rfl (bRul (hr1.resolve_left c3) (Nat.le_add_right _ _)) ?_
        refine w_goto (tgt := 103) dX10_rule_98 (by decide) ?_
        exact w_iret dX10_rule_103 ⟨_, rfl, (hwM2.int _ _), h⟩
    replace h := h.2 c8
    by_cases c10 : p2 = 4
    · replace h := h.1 c10
      refine w_tabIn (tgt := 104) dX10_rule_16 c10 ⟨by decide, by decide⟩ (by decide) (by decide) rfl (by decide) ?_
      refine w_aload_n dX10_rule_104 1 rfl ?_
      refine w_aload dX10_rule_105 0 rfl ?_
      refine w_getIN (ci := 9) (k := 4) dX10_rule_107 rfl fi9 (by decide) qn99 (sRul (hr1.resolve_left c3)) rfl (bRul (hr1.resolve_left c3) (Nat.le_add_right _ _)) ?_
      refine c_Sr_numberOrNone dX10_rule_110 q757 (by decide) (Nat.le_of_ble_eq_true rfl) h (fun r11 M12 h hr11 hwM12 => ?_)
      replace h := h hr11 hwM12
      exact w_iret dX10_rule_113 ⟨_, rfl, hr11, h⟩
    replace h := h.2 c10
    refine w_tabOut (tgt := 114) dX10_rule_16 hp2 (by omega) (by decide) ?_
    refine w_iconst dX10_rule_114 ?_
    exact w_iret dX10_rule_115 ⟨_, rfl, ⟨by decide, by decide⟩, h⟩
  · replace h := h.2 c3
    refine w_iconst dX10_rule_13 ?_
    exact w_iret dX10_rule_14 ⟨_, rfl, ⟨by decide, by decide⟩, h⟩
set_option maxHeartbeats 4000000 in
set_option maxRecDepth 100000 in
theorem b_Sr_hostOf_0 {g : Ctx} {n : Nat} {p0 : Int} {p1 : Int} {M : Mem} {Q : Int → Mem → Prop} (hp0 : InR p0) (hp1 : InR p1) (h : (isRec (gP M (0) (1))) ∧ K_Rc_domainAt g n (gP M (0) (1)) p0 M (fun r2 M3 => (r2 = 0 ∨ isDom r2) → WT M3 → (((r2 = 0) → Q (-1) M3) ∧ ((¬ (r2 = 0)) → (((0 ≤ p1) → ((((gI M3 (r2) (8)) ≤ p1) → Q (-4) M3) ∧ ((¬ ((gI M3 (r2) (8)) ≤ p1)) → (0 ≤ p1 ∧ p1 < 4) ∧ Q (gI M3 (r2 + 3) (p1.toNat)) M3))) ∧ ((¬ (0 ≤ p1)) → Q (-1) M3)))))) : P_Sr_hostOf g n 0 [(0, vr g (0)), (1, vi (p0)), (2, vi (p1))] [] M Q := by
  refine w_wt (fun hw => ?_)
  refine w_aload_n dX10_hostOf_0 0 rfl ?_
  refine w_getQ (ci := 10) (k := 1) dX10_hostOf_1 rfl fi10 (by decide) q534 s0 rfl l0 ?_
  obtain ⟨t1, h⟩ := h
  refine w_top (vq_ne (nRec t1)) ?_
  refine w_iload_n dX10_hostOf_4 1 rfl ?_
  refine c_Rc_domainAt dX10_hostOf_5 q712 (by decide) (Nat.le_of_ble_eq_true rfl) t1 h (fun r2 M3 h hr2 hwM3 => ?_)
  replace h := h hr2 hwM3
  refine w_astore_nq (lv' := [(3, vq g (r2)), (0, vr g (0)), (1, vi (p0)), (2, vi (p1))]) (i := 3) dX10_hostOf_8 rfl (by decide) rfl ?_
  refine w_aload_nq dX10_hostOf_9 0 rfl ?_
  refine w_ifnull (tgt := 17) dX10_hostOf_10 (by decide) (fun c4 => ?_) (fun c4 => ?_)
  · replace h := h.1 c4
    refine w_iconst dX10_hostOf_17 ?_
    exact w_iret dX10_hostOf_18 ⟨_, rfl, ⟨by decide, by decide⟩, h⟩
  · replace h := h.2 c4
    rw [vq_ne c4]
    refine w_iload_n dX10_hostOf_13 3 rfl ?_
    refine w_if_ge (tgt := 19) dX10_hostOf_14 (by decide) hp1 (fun c5 => ?_) (fun c5 => ?_)
    · replace h := h.1 c5
      refine w_iload_n dX10_hostOf_19 3 rfl ?_
      refine w_aload_n dX10_hostOf_20 0 rfl ?_
      refine w_getIN (ci := 1) (k := 8) dX10_hostOf_21 rfl fi1 (by decide) qn152 (sDom (hr2.resolve_left c4)) rfl (bDom (hr2.resolve_left c4) (Nat.le_add_right _ _)) ?_
      refine w_icmp_ge (tgt := 36) dX10_hostOf_24 (by decide) hp1 (hwM3.int _ _) (fun c6 => ?_) (fun c6 => ?_)
      · replace h := h.1 c6
        refine w_bipush dX10_hostOf_36 rfl ?_
        exact w_iret dX10_hostOf_38 ⟨_, rfl, ⟨by decide, by decide⟩, h⟩
      · replace h := h.2 c6
        refine w_aload_n dX10_hostOf_27 0 rfl ?_
        refine w_getSN (ci := 1) (k := 7) dX10_hostOf_28 rfl fi1 (by decide) qn147 (sDom (hr2.resolve_left c4)) rfl (bDom (hr2.resolve_left c4) (Nat.le_add_right _ _)) ?_
        refine w_iload_n dX10_hostOf_31 3 rfl ?_
        obtain ⟨i7, h⟩ := h
        refine w_iald dX10_hostOf_32 (sDom3 (hr2.resolve_left c4)) (bDom3 (hr2.resolve_left c4) (Nat.le_add_right _ _)) (by decide) i7.1 i7.2 ?_
        refine w_goto (tgt := 38) dX10_hostOf_33 (by decide) ?_
        exact w_iret dX10_hostOf_38 ⟨_, rfl, (hwM3.int _ _), h⟩
    · replace h := h.2 c5
      refine w_iconst dX10_hostOf_17 ?_
      exact w_iret dX10_hostOf_18 ⟨_, rfl, ⟨by decide, by decide⟩, h⟩
set_option maxHeartbeats 4000000 in
set_option maxRecDepth 100000 in
theorem b_Sr_many_0 {g : Ctx} {n : Nat} {p0 : Int} {p1 : Int} {p2 : Int} {M : Mem} {Q : Int → Mem → Prop} (hp0 : InR p0) (hp1 : InR p1) (hp2 : InR p2) (h : K_Sr_isKnown g n p0 M (fun r1 M2 => (r1 = 0 ∨ r1 = 1) → WT M2 → (((r1 = 0) → Q (-1) M2) ∧ ((¬ (r1 = 0)) → K_Sr_isLetter g n p1 M2 (fun r4 M5 => (r4 = 0 ∨ r4 = 1) → WT M5 → (((r4 = 0) → Q (-1) M5) ∧ ((¬ (r4 = 0)) → (((p2 < 0) → Q (-1) M5) ∧ ((¬ (p2 < 0)) → (((p2 ≤ 5) → P_Sr_many g n 32 [(0, vr g (0)), (1, vi (p0)), (2, vi (p1)), (3, vi (p2)), (4, vi (0)), (5, vi (0))] [] M5 Q) ∧ ((¬ (p2 ≤ 5)) → Q (-1) M5))))))))))) : P_Sr_many g n 0 [(0, vr g (0)), (1, vi (p0)), (2, vi (p1)), (3, vi (p2))] [] M Q := by
  refine w_wt (fun hw => ?_)
  refine w_aload_n dX10_many_0 0 rfl ?_
  refine w_iload_n dX10_many_1 1 rfl ?_
  refine c_Sr_isKnown dX10_many_2 q595 (by decide) (Nat.le_of_ble_eq_true rfl) h (fun r1 M2 h hr1 hwM2 => ?_)
  replace h := h hr1 hwM2
  refine w_if_eq (tgt := 24) dX10_many_5 (by decide) (inr_z hr1) (fun c3 => ?_) (fun c3 => ?_)
  · replace h := h.1 c3
    refine w_iconst dX10_many_24 ?_
    exact w_iret dX10_many_25 ⟨_, rfl, ⟨by decide, by decide⟩, h⟩
  · replace h := h.2 c3
    refine w_iload_n dX10_many_8 2 rfl ?_
    refine c_Sr_isLetter dX10_many_9 q602 (by decide) (Nat.le_of_ble_eq_true rfl) h (fun r4 M5 h hr4 hwM5 => ?_)
    replace h := h hr4 hwM5
    refine w_if_eq (tgt := 24) dX10_many_12 (by decide) (inr_z hr4) (fun c6 => ?_) (fun c6 => ?_)
    · replace h := h.1 c6
      refine w_iconst dX10_many_24 ?_
      exact w_iret dX10_many_25 ⟨_, rfl, ⟨by decide, by decide⟩, h⟩
    · replace h := h.2 c6
      refine w_iload_n dX10_many_15 3 rfl ?_
      refine w_if_lt (tgt := 24) dX10_many_16 (by decide) hp2 (fun c7 => ?_) (fun c7 => ?_)
      · replace h := h.1 c7
        refine w_iconst dX10_many_24 ?_
        exact w_iret dX10_many_25 ⟨_, rfl, ⟨by decide, by decide⟩, h⟩
      · replace h := h.2 c7
        refine w_iload_n dX10_many_19 3 rfl ?_
        refine w_iconst dX10_many_20 ?_
        refine w_icmp_le (tgt := 26) dX10_many_21 (by decide) hp2 ⟨by decide, by decide⟩ (fun c8 => ?_) (fun c8 => ?_)
        · replace h := h.1 c8
          refine w_iconst dX10_many_26 ?_
          refine w_istore (lv' := [(4, vi (0)), (0, vr g (0)), (1, vi (p0)), (2, vi (p1)), (3, vi (p2))]) dX10_many_27 (by decide) rfl ?_
          refine w_iconst dX10_many_29 ?_
          refine w_istore (lv' := [(5, vi (0)), (4, vi (0)), (0, vr g (0)), (1, vi (p0)), (2, vi (p1)), (3, vi (p2))]) dX10_many_30 (by decide) rfl ?_
          refine w_lv [2, 3, 4, 5, 1, 0] rfl ?_
          exact h
        · replace h := h.2 c8
          refine w_iconst dX10_many_24 ?_
          exact w_iret dX10_many_25 ⟨_, rfl, ⟨by decide, by decide⟩, h⟩
set_option maxHeartbeats 4000000 in
set_option maxRecDepth 100000 in
theorem b_Sr_many_32 {g : Ctx} {n : Nat} {x1 : Int} {x2 : Int} {x3 : Int} {x4 : Int} {x5 : Int} {M : Mem} {Q : Int → Mem → Prop} (hx1 : InR x1) (hx2 : InR x2) (hx3 : InR x3) (hx4 : InR x4) (hx5 : InR x5) (h : (((256 ≤ x5) → Q x4 M) ∧ ((¬ (256 ≤ x5)) → (isRec (gP M (0) (1))) ∧ K_Ev_evaluate g n (gP M (0) (1)) x1 x5 x2 M (fun r3 M4 => InR r3 → WT M4 → (((¬ r3 = x3) → P_Sr_many g n 32 [(0, vr g (0)), (1, vi (x1)), (2, vi (x2)), (3, vi (x3)), (4, vi (x4)), (5, vi (x5 + 1))] [] M4 Q) ∧ ((r3 = x3) → P_Sr_many g n 32 [(0, vr g (0)), (1, vi (x1)), (2, vi (x2)), (3, vi (x3)), (4, vi (x4 + 1)), (5, vi (x5 + 1))] [] M4 Q)))))) : P_Sr_many g n 32 [(0, vr g (0)), (1, vi (x1)), (2, vi (x2)), (3, vi (x3)), (4, vi (x4)), (5, vi (x5))] [] M Q := by
  refine w_wt (fun hw => ?_)
  refine w_iload dX10_many_32 5 rfl ?_
  refine w_sipush dX10_many_34 rfl ?_
  refine w_icmp_ge (tgt := 68) dX10_many_37 (by decide) hx5 ⟨by decide, by decide⟩ (fun c1 => ?_) (fun c1 => ?_)
  · replace h := h.1 c1
    refine w_iload dX10_many_68 4 rfl ?_
    exact w_iret dX10_many_70 ⟨_, rfl, hx4, h⟩
  · replace h := h.2 c1
    refine w_aload_n dX10_many_40 0 rfl ?_
    refine w_getS (ci := 10) (k := 3) dX10_many_41 rfl fi10 (by decide) q536 s0 rfl l0 ?_
    refine w_aload_n dX10_many_44 0 rfl ?_
    refine w_getQ (ci := 10) (k := 1) dX10_many_45 rfl fi10 (by decide) q534 s0 rfl l0 ?_
    obtain ⟨t2, h⟩ := h
    refine w_top (vq_ne (nRec t2)) ?_
    refine w_iload_n dX10_many_48 1 rfl ?_
    refine w_iload dX10_many_49 5 rfl ?_
    refine w_iload_n dX10_many_51 2 rfl ?_
    refine c_Ev_evaluate dX10_many_52 q605 (by decide) (Nat.le_of_ble_eq_true rfl) h (fun r3 M4 h hr3 hwM4 => ?_)
    replace h := h hr3 hwM4
    refine w_iload_n dX10_many_55 3 rfl ?_
    refine w_icmp_ne (tgt := 62) dX10_many_56 (by decide) hr3 hx3 (fun c5 => ?_) (fun c5 => ?_)
    · replace h := h.1 c5
      refine w_iinc (lv' := [(5, vi (x5 + 1)), (0, vr g (0)), (1, vi (x1)), (2, vi (x2)), (3, vi (x3)), (4, vi (x4))]) dX10_many_62 5 rfl (by decide) rfl ?_
      refine w_goto (tgt := 32) dX10_many_65 (by decide) ?_
      refine w_lv [1, 2, 3, 4, 5, 0] rfl ?_
      exact h
    · replace h := h.2 c5
      refine w_iinc (lv' := [(4, vi (x4 + 1)), (0, vr g (0)), (1, vi (x1)), (2, vi (x2)), (3, vi (x3)), (5, vi (x5))]) dX10_many_59 4 rfl (by decide) rfl ?_
      refine w_iinc (lv' := [(5, vi (x5 + 1)), (4, vi (x4 + 1)), (0, vr g (0)), (1, vi (x1)), (2, vi (x2)), (3, vi (x3))]) dX10_many_62 5 rfl (by decide) rfl ?_
      refine w_goto (tgt := 32) dX10_many_65 (by decide) ?_
      refine w_lv [2, 3, 4, 5, 1, 0] rfl ?_
      exact h
set_option maxHeartbeats 4000000 in
set_option maxRecDepth 100000 in
theorem b_Sr_dead_0 {g : Ctx} {n : Nat} {p0 : Int} {p1 : Int} {M : Mem} {Q : Int → Mem → Prop} (hp0 : InR p0) (hp1 : InR p1) (h : (isRec (gP M (0) (1))) ∧ K_Rc_domainAt g n (gP M (0) (1)) p0 M (fun r2 M3 => (r2 = 0 ∨ isDom r2) → WT M3 → (((r2 = 0) → Q (-1) M3) ∧ ((¬ (r2 = 0)) → K_Sr_isLetter g n p1 M3 (fun r5 M6 => (r5 = 0 ∨ r5 = 1) → WT M6 → (((¬ r5 = 0) → P_Sr_dead g n 28 [(0, vr g (0)), (1, vi (p0)), (2, vi (p1)), (3, vr g (r2)), (4, vi (0)), (5, vi (0))] [] M6 Q) ∧ ((r5 = 0) → Q (-1) M6))))))) : P_Sr_dead g n 0 [(0, vr g (0)), (1, vi (p0)), (2, vi (p1))] [] M Q := by
  refine w_wt (fun hw => ?_)
  refine w_aload_n dX10_dead_0 0 rfl ?_
  refine w_getQ (ci := 10) (k := 1) dX10_dead_1 rfl fi10 (by decide) q534 s0 rfl l0 ?_
  obtain ⟨t1, h⟩ := h
  refine w_top (vq_ne (nRec t1)) ?_
  refine w_iload_n dX10_dead_4 1 rfl ?_
  refine c_Rc_domainAt dX10_dead_5 q712 (by decide) (Nat.le_of_ble_eq_true rfl) t1 h (fun r2 M3 h hr2 hwM3 => ?_)
  replace h := h hr2 hwM3
  refine w_astore_nq (lv' := [(3, vq g (r2)), (0, vr g (0)), (1, vi (p0)), (2, vi (p1))]) (i := 3) dX10_dead_8 rfl (by decide) rfl ?_
  refine w_aload_nq dX10_dead_9 0 rfl ?_
  refine w_ifnull (tgt := 20) dX10_dead_10 (by decide) (fun c4 => ?_) (fun c4 => ?_)
  · replace h := h.1 c4
    refine w_iconst dX10_dead_20 ?_
    exact w_iret dX10_dead_21 ⟨_, rfl, ⟨by decide, by decide⟩, h⟩
  · replace h := h.2 c4
    rw [vq_ne c4]
    refine w_iload_n dX10_dead_13 3 rfl ?_
    refine c_Sr_isLetter dX10_dead_14 q602 (by decide) (Nat.le_of_ble_eq_true rfl) h (fun r5 M6 h hr5 hwM6 => ?_)
    replace h := h hr5 hwM6
    refine w_if_ne (tgt := 22) dX10_dead_17 (by decide) (inr_z hr5) (fun c7 => ?_) (fun c7 => ?_)
    · replace h := h.1 c7
      refine w_iconst dX10_dead_22 ?_
      refine w_istore (lv' := [(4, vi (0)), (3, vr g (r2)), (0, vr g (0)), (1, vi (p0)), (2, vi (p1))]) dX10_dead_23 (by decide) rfl ?_
      refine w_iconst dX10_dead_25 ?_
      refine w_istore (lv' := [(5, vi (0)), (4, vi (0)), (3, vr g (r2)), (0, vr g (0)), (1, vi (p0)), (2, vi (p1))]) dX10_dead_26 (by decide) rfl ?_
      refine w_lv [3, 4, 5, 2, 1, 0] rfl ?_
      exact h
    · replace h := h.2 c7
      refine w_iconst dX10_dead_20 ?_
      exact w_iret dX10_dead_21 ⟨_, rfl, ⟨by decide, by decide⟩, h⟩
set_option maxHeartbeats 4000000 in
set_option maxRecDepth 100000 in
theorem b_Sr_dead_28 {g : Ctx} {n : Nat} {x1 : Int} {x2 : Int} {a3 : Nat} {x4 : Int} {x5 : Int} {M : Mem} {Q : Int → Mem → Prop} (hx1 : InR x1) (hx2 : InR x2) (ha3 : isDom a3) (hx4 : InR x4) (hx5 : InR x5) (h : (((256 ≤ x5) → Q (jand ((jshl 1 (gI M (a3) (5))) - 1) (jxor x4 (-1))) M) ∧ ((¬ (256 ≤ x5)) → (isRec (gP M (0) (1))) ∧ K_Ev_evaluate g n (gP M (0) (1)) x1 x5 x2 M (fun r3 M4 => InR r3 → WT M4 → (((¬ (gI M4 (258) (7)) = x1) → P_Sr_dead g n 28 [(0, vr g (0)), (1, vi (x1)), (2, vi (x2)), (3, vr g (a3)), (4, vi (x4)), (5, vi (x5 + 1))] [] M4 Q) ∧ (((gI M4 (258) (7)) = x1) → P_Sr_dead g n 28 [(0, vr g (0)), (1, vi (x1)), (2, vi (x2)), (3, vr g (a3)), (4, vi (jor x4 (jshl 1 (gI M4 (258) (8))))), (5, vi (x5 + 1))] [] M4 Q)))))) : P_Sr_dead g n 28 [(0, vr g (0)), (1, vi (x1)), (2, vi (x2)), (3, vr g (a3)), (4, vi (x4)), (5, vi (x5))] [] M Q := by
  refine w_wt (fun hw => ?_)
  refine w_iload dX10_dead_28 5 rfl ?_
  refine w_sipush dX10_dead_30 rfl ?_
  refine w_icmp_ge (tgt := 83) dX10_dead_33 (by decide) hx5 ⟨by decide, by decide⟩ (fun c1 => ?_) (fun c1 => ?_)
  · replace h := h.1 c1
    refine w_iconst dX10_dead_83 ?_
    refine w_aload_n dX10_dead_84 3 rfl ?_
    refine w_getIN (ci := 1) (k := 5) dX10_dead_85 rfl fi1 (by decide) qn140 (sDom ha3) rfl (bDom ha3 (Nat.le_add_right _ _)) ?_
    refine w_ishl dX10_dead_88 ?_
    refine w_iconst dX10_dead_89 ?_
    refine w_isub dX10_dead_90 ?_
    refine w_istore (lv' := [(5, vi ((jshl 1 (gI M (a3) (5))) - 1)), (0, vr g (0)), (1, vi (x1)), (2, vi (x2)), (3, vr g (a3)), (4, vi (x4))]) dX10_dead_91 (by decide) rfl ?_
    refine w_iload dX10_dead_93 0 rfl ?_
    refine w_iload dX10_dead_95 5 rfl ?_
    refine w_iconst dX10_dead_97 ?_
    refine w_ixor dX10_dead_98 ?_
    refine w_iand dX10_dead_99 ?_
    exact w_iret dX10_dead_100 ⟨_, rfl, (inr_jand _ _), h⟩
  · replace h := h.2 c1
    refine w_aload_n dX10_dead_36 0 rfl ?_
    refine w_getS (ci := 10) (k := 3) dX10_dead_37 rfl fi10 (by decide) q536 s0 rfl l0 ?_
    refine w_aload_n dX10_dead_40 0 rfl ?_
    refine w_getQ (ci := 10) (k := 1) dX10_dead_41 rfl fi10 (by decide) q534 s0 rfl l0 ?_
    obtain ⟨t2, h⟩ := h
    refine w_top (vq_ne (nRec t2)) ?_
    refine w_iload_n dX10_dead_44 1 rfl ?_
    refine w_iload dX10_dead_45 5 rfl ?_
    refine w_iload_n dX10_dead_47 2 rfl ?_
    refine c_Ev_evaluate dX10_dead_48 q605 (by decide) (Nat.le_of_ble_eq_true rfl) h (fun r3 M4 h hr3 hwM4 => ?_)
    replace h := h hr3 hwM4
    refine w_pop dX10_dead_51 rfl ?_
    refine w_aload_n dX10_dead_52 0 rfl ?_
    refine w_getS (ci := 10) (k := 3) dX10_dead_53 rfl fi10 (by decide) q536 s0 rfl l0 ?_
    refine w_getIN (ci := 2) (k := 7) dX10_dead_56 rfl fi2 (by decide) qn212 s258 rfl l258 ?_
    refine w_iload_n dX10_dead_59 1 rfl ?_
    refine w_icmp_ne (tgt := 77) dX10_dead_60 (by decide) (hwM4.int _ _) hx1 (fun c5 => ?_) (fun c5 => ?_)
    · replace h := h.1 c5
      refine w_iinc (lv' := [(5, vi (x5 + 1)), (0, vr g (0)), (1, vi (x1)), (2, vi (x2)), (3, vr g (a3)), (4, vi (x4))]) dX10_dead_77 5 rfl (by decide) rfl ?_
      refine w_goto (tgt := 28) dX10_dead_80 (by decide) ?_
      refine w_lv [1, 2, 3, 4, 5, 0] rfl ?_
      exact h
    · replace h := h.2 c5
      refine w_iload dX10_dead_63 4 rfl ?_
      refine w_iconst dX10_dead_65 ?_
      refine w_aload_n dX10_dead_66 0 rfl ?_
      refine w_getS (ci := 10) (k := 3) dX10_dead_67 rfl fi10 (by decide) q536 s0 rfl l0 ?_
      refine w_getIN (ci := 2) (k := 8) dX10_dead_70 rfl fi2 (by decide) qn215 s258 rfl l258 ?_
      refine w_ishl dX10_dead_73 ?_
      refine w_ior dX10_dead_74 ?_
      refine w_istore (lv' := [(4, vi (jor x4 (jshl 1 (gI M4 (258) (8))))), (0, vr g (0)), (1, vi (x1)), (2, vi (x2)), (3, vr g (a3)), (5, vi (x5))]) dX10_dead_75 (by decide) rfl ?_
      refine w_iinc (lv' := [(5, vi (x5 + 1)), (4, vi (jor x4 (jshl 1 (gI M4 (258) (8))))), (0, vr g (0)), (1, vi (x1)), (2, vi (x2)), (3, vr g (a3))]) dX10_dead_77 5 rfl (by decide) rfl ?_
      refine w_goto (tgt := 28) dX10_dead_80 (by decide) ?_
      refine w_lv [2, 3, 4, 5, 1, 0] rfl ?_
      exact h
set_option maxHeartbeats 4000000 in
set_option maxRecDepth 100000 in
theorem b_Sr_floatBitsOfMean_0 {g : Ctx} {n : Nat} {p0 : Int} {M : Mem} {Q : Int → Mem → Prop} (hp0 : InR p0) (h : (((0 < p0) → K_J_numberOfLeadingZeros g n p0 M (fun r2 M3 => InR r2 → WT M3 → Q (jor (jshl ((127 + (31 - r2)) - 8) 23) (jshl (p0 - (jshl 1 (31 - r2))) (23 - (31 - r2)))) M3)) ∧ ((¬ (0 < p0)) → Q 0 M))) : P_Sr_floatBitsOfMean g n 0 [(0, vi (p0))] [] M Q := by
  refine w_wt (fun hw => ?_)
  refine w_iload_n dX10_floatBitsOfMean_0 0 rfl ?_
  refine w_if_gt (tgt := 6) dX10_floatBitsOfMean_1 (by decide) hp0 (fun c1 => ?_) (fun c1 => ?_)
  · replace h := h.1 c1
    refine w_bipush dX10_floatBitsOfMean_6 rfl ?_
    refine w_iload_n dX10_floatBitsOfMean_8 0 rfl ?_
    refine c_J_numberOfLeadingZeros dX10_floatBitsOfMean_9 q788 (by decide) (Nat.le_of_ble_eq_true rfl) h (fun r2 M3 h hr2 hwM3 => ?_)
    replace h := h hr2 hwM3
    refine w_isub dX10_floatBitsOfMean_12 ?_
    refine w_istore_n (lv' := [(1, vi (31 - r2)), (0, vi (p0))]) (i := 1) dX10_floatBitsOfMean_13 rfl (by decide) rfl ?_
    refine w_bipush dX10_floatBitsOfMean_14 rfl ?_
    refine w_iload_n dX10_floatBitsOfMean_16 0 rfl ?_
    refine w_iadd dX10_floatBitsOfMean_17 ?_
    refine w_bipush dX10_floatBitsOfMean_18 rfl ?_
    refine w_isub dX10_floatBitsOfMean_20 ?_
    refine w_istore_n (lv' := [(2, vi ((127 + (31 - r2)) - 8)), (1, vi (31 - r2)), (0, vi (p0))]) (i := 2) dX10_floatBitsOfMean_21 rfl (by decide) rfl ?_
    refine w_iload_n dX10_floatBitsOfMean_22 2 rfl ?_
    refine w_iconst dX10_floatBitsOfMean_23 ?_
    refine w_iload_n dX10_floatBitsOfMean_24 1 rfl ?_
    refine w_ishl dX10_floatBitsOfMean_25 ?_
    refine w_isub dX10_floatBitsOfMean_26 ?_
    refine w_bipush dX10_floatBitsOfMean_27 rfl ?_
    refine w_iload_n dX10_floatBitsOfMean_29 1 rfl ?_
    refine w_isub dX10_floatBitsOfMean_30 ?_
    refine w_ishl dX10_floatBitsOfMean_31 ?_
    refine w_istore_n (lv' := [(3, vi (jshl (p0 - (jshl 1 (31 - r2))) (23 - (31 - r2)))), (2, vi ((127 + (31 - r2)) - 8)), (1, vi (31 - r2)), (0, vi (p0))]) (i := 3) dX10_floatBitsOfMean_32 rfl (by decide) rfl ?_
    refine w_iload_n dX10_floatBitsOfMean_33 1 rfl ?_
    refine w_bipush dX10_floatBitsOfMean_34 rfl ?_
    refine w_ishl dX10_floatBitsOfMean_36 ?_
    refine w_iload_n dX10_floatBitsOfMean_37 0 rfl ?_
    refine w_ior dX10_floatBitsOfMean_38 ?_
    exact w_iret dX10_floatBitsOfMean_39 ⟨_, rfl, (inr_jor _ _), h⟩
  · replace h := h.2 c1
    refine w_iconst dX10_floatBitsOfMean_4 ?_
    exact w_iret dX10_floatBitsOfMean_5 ⟨_, rfl, ⟨by decide, by decide⟩, h⟩
set_option maxHeartbeats 4000000 in
set_option maxRecDepth 100000 in
theorem b_J_numberOfLeadingZeros_0 {g : Ctx} {n : Nat} {p0 : Int} {M : Mem} {Q : Int → Mem → Prop} (hp0 : InR p0) (h : (((0 < p0) → (((p0 < 65536) → (((p0 < 256) → (((p0 < 16) → (((p0 < 4) → (InR (31 - (jushr p0 1))) ∧ Q (31 - (jushr p0 1)) M) ∧ ((¬ (p0 < 4)) → (InR ((31 + (-2)) - (jushr (jushr p0 2) 1))) ∧ Q ((31 + (-2)) - (jushr (jushr p0 2) 1)) M))) ∧ ((¬ (p0 < 16)) → ((((jushr p0 4) < 4) → (InR ((31 + (-4)) - (jushr (jushr p0 4) 1))) ∧ Q ((31 + (-4)) - (jushr (jushr p0 4) 1)) M) ∧ ((¬ ((jushr p0 4) < 4)) → (InR (((31 + (-4)) + (-2)) - (jushr (jushr (jushr p0 4) 2) 1))) ∧ Q (((31 + (-4)) + (-2)) - (jushr (jushr (jushr p0 4) 2) 1)) M))))) ∧ ((¬ (p0 < 256)) → ((((jushr p0 8) < 16) → ((((jushr p0 8) < 4) → (InR ((31 + (-8)) - (jushr (jushr p0 8) 1))) ∧ Q ((31 + (-8)) - (jushr (jushr p0 8) 1)) M) ∧ ((¬ ((jushr p0 8) < 4)) → (InR (((31 + (-8)) + (-2)) - (jushr (jushr (jushr p0 8) 2) 1))) ∧ Q (((31 + (-8)) + (-2)) - (jushr (jushr (jushr p0 8) 2) 1)) M))) ∧ ((¬ ((jushr p0 8) < 16)) → ((((jushr (jushr p0 8) 4) < 4) → (InR (((31 + (-8)) + (-4)) - (jushr (jushr (jushr p0 8) 4) 1))) ∧ Q (((31 + (-8)) + (-4)) - (jushr (jushr (jushr p0 8) 4) 1)) M) ∧ ((¬ ((jushr (jushr p0 8) 4) < 4)) → (InR ((((31 + (-8)) + (-4)) + (-2)) - (jushr (jushr (jushr (jushr p0 8) 4) 2) 1))) ∧ Q ((((31 + (-8)) + (-4)) + (-2)) - (jushr (jushr (jushr (jushr p0 8) 4) 2) 1)) M))))))) ∧ ((¬ (p0 < 65536)) → ((((jushr p0 16) < 256) → ((((jushr p0 16) < 16) → ((((jushr p0 16) < 4) → (InR ((31 + (-16)) - (jushr (jushr p0 16) 1))) ∧ Q ((31 + (-16)) - (jushr (jushr p0 16) 1)) M) ∧ ((¬ ((jushr p0 16) < 4)) → (InR (((31 + (-16)) + (-2)) - (jushr (jushr (jushr p0 16) 2) 1))) ∧ Q (((31 + (-16)) + (-2)) - (jushr (jushr (jushr p0 16) 2) 1)) M))) ∧ ((¬ ((jushr p0 16) < 16)) → ((((jushr (jushr p0 16) 4) < 4) → (InR (((31 + (-16)) + (-4)) - (jushr (jushr (jushr p0 16) 4) 1))) ∧ Q (((31 + (-16)) + (-4)) - (jushr (jushr (jushr p0 16) 4) 1)) M) ∧ ((¬ ((jushr (jushr p0 16) 4) < 4)) → (InR ((((31 + (-16)) + (-4)) + (-2)) - (jushr (jushr (jushr (jushr p0 16) 4) 2) 1))) ∧ Q ((((31 + (-16)) + (-4)) + (-2)) - (jushr (jushr (jushr (jushr p0 16) 4) 2) 1)) M))))) ∧ ((¬ ((jushr p0 16) < 256)) → ((((jushr (jushr p0 16) 8) < 16) → ((((jushr (jushr p0 16) 8) < 4) → (InR (((31 + (-16)) + (-8)) - (jushr (jushr (jushr p0 16) 8) 1))) ∧ Q (((31 + (-16)) + (-8)) - (jushr (jushr (jushr p0 16) 8) 1)) M) ∧ ((¬ ((jushr (jushr p0 16) 8) < 4)) → (InR ((((31 + (-16)) + (-8)) + (-2)) - (jushr (jushr (jushr (jushr p0 16) 8) 2) 1))) ∧ Q ((((31 + (-16)) + (-8)) + (-2)) - (jushr (jushr (jushr (jushr p0 16) 8) 2) 1)) M))) ∧ ((¬ ((jushr (jushr p0 16) 8) < 16)) → ((((jushr (jushr (jushr p0 16) 8) 4) < 4) → (InR ((((31 + (-16)) + (-8)) + (-4)) - (jushr (jushr (jushr (jushr p0 16) 8) 4) 1))) ∧ Q ((((31 + (-16)) + (-8)) + (-4)) - (jushr (jushr (jushr (jushr p0 16) 8) 4) 1)) M) ∧ ((¬ ((jushr (jushr (jushr p0 16) 8) 4) < 4)) → (InR (((((31 + (-16)) + (-8)) + (-4)) + (-2)) - (jushr (jushr (jushr (jushr (jushr p0 16) 8) 4) 2) 1))) ∧ Q (((((31 + (-16)) + (-8)) + (-4)) + (-2)) - (jushr (jushr (jushr (jushr (jushr p0 16) 8) 4) 2) 1)) M))))))))) ∧ ((¬ (0 < p0)) → (((¬ p0 = 0) → Q 0 M) ∧ ((p0 = 0) → Q 32 M))))) : P_J_numberOfLeadingZeros g n 0 [(0, vi (p0))] [] M Q := by
  refine w_wt (fun hw => ?_)
  refine w_iload_n dJ6_numberOfLeadingZeros_0f7a4_0 0 rfl ?_
  refine w_if_gt (tgt := 15) dJ6_numberOfLeadingZeros_0f7a4_1 (by decide) hp0 (fun c1 => ?_) (fun c1 => ?_)
  · replace h := h.1 c1
    refine w_bipush dJ6_numberOfLeadingZeros_0f7a4_15 rfl ?_
    refine w_istore_n (lv' := [(1, vi (31)), (0, vi (p0))]) (i := 1) dJ6_numberOfLeadingZeros_0f7a4_17 rfl (by decide) rfl ?_
    refine w_iload_n dJ6_numberOfLeadingZeros_0f7a4_18 1 rfl ?_
    refine w_ldc_w (n := 65536) dJ6_numberOfLeadingZeros_0f7a4_19 q791 ?_
    refine w_icmp_lt (tgt := 33) dJ6_numberOfLeadingZeros_0f7a4_22 (by decide) hp0 ⟨by decide, by decide⟩ (fun c2 => ?_) (fun c2 => ?_)
    · replace h := h.1 c2
      refine w_iload_n dJ6_numberOfLeadingZeros_0f7a4_33 1 rfl ?_
      refine w_sipush dJ6_numberOfLeadingZeros_0f7a4_34 rfl ?_
      refine w_icmp_lt (tgt := 48) dJ6_numberOfLeadingZeros_0f7a4_37 (by decide) hp0 ⟨by decide, by decide⟩ (fun c3 => ?_) (fun c3 => ?_)
      · replace h := h.1 c3
        refine w_iload_n dJ6_numberOfLeadingZeros_0f7a4_48 1 rfl ?_
        refine w_bipush dJ6_numberOfLeadingZeros_0f7a4_49 rfl ?_
        refine w_icmp_lt (tgt := 61) dJ6_numberOfLeadingZeros_0f7a4_51 (by decide) hp0 ⟨by decide, by decide⟩ (fun c4 => ?_) (fun c4 => ?_)
        · replace h := h.1 c4
          refine w_iload_n dJ6_numberOfLeadingZeros_0f7a4_61 1 rfl ?_
          refine w_iconst dJ6_numberOfLeadingZeros_0f7a4_62 ?_
          refine w_icmp_lt (tgt := 73) dJ6_numberOfLeadingZeros_0f7a4_63 (by decide) hp0 ⟨by decide, by decide⟩ (fun c5 => ?_) (fun c5 => ?_)
          · replace h := h.1 c5
            refine w_iload_n dJ6_numberOfLeadingZeros_0f7a4_73 0 rfl ?_
            refine w_iload_n dJ6_numberOfLeadingZeros_0f7a4_74 1 rfl ?_
            refine w_iconst dJ6_numberOfLeadingZeros_0f7a4_75 ?_
            refine w_iushr dJ6_numberOfLeadingZeros_0f7a4_76 ?_
            refine w_isub dJ6_numberOfLeadingZeros_0f7a4_77 ?_
            obtain ⟨i6, h⟩ := h
            exact w_iret dJ6_numberOfLeadingZeros_0f7a4_78 ⟨_, rfl, i6, h⟩
          · replace h := h.2 c5
            refine w_iinc (lv' := [(1, vi (31 + (-2))), (0, vi (p0))]) dJ6_numberOfLeadingZeros_0f7a4_66 0 rfl (by decide) rfl ?_
            refine w_iload_n dJ6_numberOfLeadingZeros_0f7a4_69 1 rfl ?_
            refine w_iconst dJ6_numberOfLeadingZeros_0f7a4_70 ?_
            refine w_iushr dJ6_numberOfLeadingZeros_0f7a4_71 ?_
            refine w_istore_n (lv' := [(0, vi (jushr p0 2)), (1, vi (31 + (-2)))]) (i := 0) dJ6_numberOfLeadingZeros_0f7a4_72 rfl (by decide) rfl ?_
            refine w_iload_n dJ6_numberOfLeadingZeros_0f7a4_73 1 rfl ?_
            refine w_iload_n dJ6_numberOfLeadingZeros_0f7a4_74 0 rfl ?_
            refine w_iconst dJ6_numberOfLeadingZeros_0f7a4_75 ?_
            refine w_iushr dJ6_numberOfLeadingZeros_0f7a4_76 ?_
            refine w_isub dJ6_numberOfLeadingZeros_0f7a4_77 ?_
            obtain ⟨i7, h⟩ := h
            exact w_iret dJ6_numberOfLeadingZeros_0f7a4_78 ⟨_, rfl, i7, h⟩
        · replace h := h.2 c4
          refine w_iinc (lv' := [(1, vi (31 + (-4))), (0, vi (p0))]) dJ6_numberOfLeadingZeros_0f7a4_54 0 rfl (by decide) rfl ?_
          refine w_iload_n dJ6_numberOfLeadingZeros_0f7a4_57 1 rfl ?_
          refine w_iconst dJ6_numberOfLeadingZeros_0f7a4_58 ?_
          refine w_iushr dJ6_numberOfLeadingZeros_0f7a4_59 ?_
          refine w_istore_n (lv' := [(0, vi (jushr p0 4)), (1, vi (31 + (-4)))]) (i := 0) dJ6_numberOfLeadingZeros_0f7a4_60 rfl (by decide) rfl ?_
          refine w_iload_n dJ6_numberOfLeadingZeros_0f7a4_61 0 rfl ?_
          refine w_iconst dJ6_numberOfLeadingZeros_0f7a4_62 ?_
          refine w_icmp_lt (tgt := 73) dJ6_numberOfLeadingZeros_0f7a4_63 (by decide) (inr_jushr _ _) ⟨by decide, by decide⟩ (fun c8 => ?_) (fun c8 => ?_)
          · replace h := h.1 c8
            refine w_iload_n dJ6_numberOfLeadingZeros_0f7a4_73 1 rfl ?_
            refine w_iload_n dJ6_numberOfLeadingZeros_0f7a4_74 0 rfl ?_
            refine w_iconst dJ6_numberOfLeadingZeros_0f7a4_75 ?_
            refine w_iushr dJ6_numberOfLeadingZeros_0f7a4_76 ?_
            refine w_isub dJ6_numberOfLeadingZeros_0f7a4_77 ?_
            obtain ⟨i9, h⟩ := h
            exact w_iret dJ6_numberOfLeadingZeros_0f7a4_78 ⟨_, rfl, i9, h⟩
          · replace h := h.2 c8
            refine w_iinc (lv' := [(1, vi ((31 + (-4)) + (-2))), (0, vi (jushr p0 4))]) dJ6_numberOfLeadingZeros_0f7a4_66 1 rfl (by decide) rfl ?_
            refine w_iload_n dJ6_numberOfLeadingZeros_0f7a4_69 1 rfl ?_
            refine w_iconst dJ6_numberOfLeadingZeros_0f7a4_70 ?_
            refine w_iushr dJ6_numberOfLeadingZeros_0f7a4_71 ?_
            refine w_istore_n (lv' := [(0, vi (jushr (jushr p0 4) 2)), (1, vi ((31 + (-4)) + (-2)))]) (i := 0) dJ6_numberOfLeadingZeros_0f7a4_72 rfl (by decide) rfl ?_
            refine w_iload_n dJ6_numberOfLeadingZeros_0f7a4_73 1 rfl ?_
            refine w_iload_n dJ6_numberOfLeadingZeros_0f7a4_74 0 rfl ?_
            refine w_iconst dJ6_numberOfLeadingZeros_0f7a4_75 ?_
            refine w_iushr dJ6_numberOfLeadingZeros_0f7a4_76 ?_
            refine w_isub dJ6_numberOfLeadingZeros_0f7a4_77 ?_
            obtain ⟨i10, h⟩ := h
            exact w_iret dJ6_numberOfLeadingZeros_0f7a4_78 ⟨_, rfl, i10, h⟩
      · replace h := h.2 c3
        refine w_iinc (lv' := [(1, vi (31 + (-8))), (0, vi (p0))]) dJ6_numberOfLeadingZeros_0f7a4_40 0 rfl (by decide) rfl ?_
        refine w_iload_n dJ6_numberOfLeadingZeros_0f7a4_43 1 rfl ?_
        refine w_bipush dJ6_numberOfLeadingZeros_0f7a4_44 rfl ?_
        refine w_iushr dJ6_numberOfLeadingZeros_0f7a4_46 ?_
        refine w_istore_n (lv' := [(0, vi (jushr p0 8)), (1, vi (31 + (-8)))]) (i := 0) dJ6_numberOfLeadingZeros_0f7a4_47 rfl (by decide) rfl ?_
        refine w_iload_n dJ6_numberOfLeadingZeros_0f7a4_48 0 rfl ?_
        refine w_bipush dJ6_numberOfLeadingZeros_0f7a4_49 rfl ?_
        refine w_icmp_lt (tgt := 61) dJ6_numberOfLeadingZeros_0f7a4_51 (by decide) (inr_jushr _ _) ⟨by decide, by decide⟩ (fun c11 => ?_) (fun c11 => ?_)
        · replace h := h.1 c11
          refine w_iload_n dJ6_numberOfLeadingZeros_0f7a4_61 0 rfl ?_
          refine w_iconst dJ6_numberOfLeadingZeros_0f7a4_62 ?_
          refine w_icmp_lt (tgt := 73) dJ6_numberOfLeadingZeros_0f7a4_63 (by decide) (inr_jushr _ _) ⟨by decide, by decide⟩ (fun c12 => ?_) (fun c12 => ?_)
          · replace h := h.1 c12
            refine w_iload_n dJ6_numberOfLeadingZeros_0f7a4_73 1 rfl ?_
            refine w_iload_n dJ6_numberOfLeadingZeros_0f7a4_74 0 rfl ?_
            refine w_iconst dJ6_numberOfLeadingZeros_0f7a4_75 ?_
            refine w_iushr dJ6_numberOfLeadingZeros_0f7a4_76 ?_
            refine w_isub dJ6_numberOfLeadingZeros_0f7a4_77 ?_
            obtain ⟨i13, h⟩ := h
            exact w_iret dJ6_numberOfLeadingZeros_0f7a4_78 ⟨_, rfl, i13, h⟩
          · replace h := h.2 c12
            refine w_iinc (lv' := [(1, vi ((31 + (-8)) + (-2))), (0, vi (jushr p0 8))]) dJ6_numberOfLeadingZeros_0f7a4_66 1 rfl (by decide) rfl ?_
            refine w_iload_n dJ6_numberOfLeadingZeros_0f7a4_69 1 rfl ?_
            refine w_iconst dJ6_numberOfLeadingZeros_0f7a4_70 ?_
            refine w_iushr dJ6_numberOfLeadingZeros_0f7a4_71 ?_
            refine w_istore_n (lv' := [(0, vi (jushr (jushr p0 8) 2)), (1, vi ((31 + (-8)) + (-2)))]) (i := 0) dJ6_numberOfLeadingZeros_0f7a4_72 rfl (by decide) rfl ?_
            refine w_iload_n dJ6_numberOfLeadingZeros_0f7a4_73 1 rfl ?_
            refine w_iload_n dJ6_numberOfLeadingZeros_0f7a4_74 0 rfl ?_
            refine w_iconst dJ6_numberOfLeadingZeros_0f7a4_75 ?_
            refine w_iushr dJ6_numberOfLeadingZeros_0f7a4_76 ?_
            refine w_isub dJ6_numberOfLeadingZeros_0f7a4_77 ?_
            obtain ⟨i14, h⟩ := h
            exact w_iret dJ6_numberOfLeadingZeros_0f7a4_78 ⟨_, rfl, i14, h⟩
        · replace h := h.2 c11
          refine w_iinc (lv' := [(1, vi ((31 + (-8)) + (-4))), (0, vi (jushr p0 8))]) dJ6_numberOfLeadingZeros_0f7a4_54 1 rfl (by decide) rfl ?_
          refine w_iload_n dJ6_numberOfLeadingZeros_0f7a4_57 1 rfl ?_
          refine w_iconst dJ6_numberOfLeadingZeros_0f7a4_58 ?_
          refine w_iushr dJ6_numberOfLeadingZeros_0f7a4_59 ?_
          refine w_istore_n (lv' := [(0, vi (jushr (jushr p0 8) 4)), (1, vi ((31 + (-8)) + (-4)))]) (i := 0) dJ6_numberOfLeadingZeros_0f7a4_60 rfl (by decide) rfl ?_
          refine w_iload_n dJ6_numberOfLeadingZeros_0f7a4_61 0 rfl ?_
          refine w_iconst dJ6_numberOfLeadingZeros_0f7a4_62 ?_
          refine w_icmp_lt (tgt := 73) dJ6_numberOfLeadingZeros_0f7a4_63 (by decide) (inr_jushr _ _) ⟨by decide, by decide⟩ (fun c15 => ?_) (fun c15 => ?_)
          · replace h := h.1 c15
            refine w_iload_n dJ6_numberOfLeadingZeros_0f7a4_73 1 rfl ?_
            refine w_iload_n dJ6_numberOfLeadingZeros_0f7a4_74 0 rfl ?_
            refine w_iconst dJ6_numberOfLeadingZeros_0f7a4_75 ?_
            refine w_iushr dJ6_numberOfLeadingZeros_0f7a4_76 ?_
            refine w_isub dJ6_numberOfLeadingZeros_0f7a4_77 ?_
            obtain ⟨i16, h⟩ := h
            exact w_iret dJ6_numberOfLeadingZeros_0f7a4_78 ⟨_, rfl, i16, h⟩
          · replace h := h.2 c15
            refine w_iinc (lv' := [(1, vi (((31 + (-8)) + (-4)) + (-2))), (0, vi (jushr (jushr p0 8) 4))]) dJ6_numberOfLeadingZeros_0f7a4_66 1 rfl (by decide) rfl ?_
            refine w_iload_n dJ6_numberOfLeadingZeros_0f7a4_69 1 rfl ?_
            refine w_iconst dJ6_numberOfLeadingZeros_0f7a4_70 ?_
            refine w_iushr dJ6_numberOfLeadingZeros_0f7a4_71 ?_
            refine w_istore_n (lv' := [(0, vi (jushr (jushr (jushr p0 8) 4) 2)), (1, vi (((31 + (-8)) + (-4)) + (-2)))]) (i := 0) dJ6_numberOfLeadingZeros_0f7a4_72 rfl (by decide) rfl ?_
            refine w_iload_n dJ6_numberOfLeadingZeros_0f7a4_73 1 rfl ?_
            refine w_iload_n dJ6_numberOfLeadingZeros_0f7a4_74 0 rfl ?_
            refine w_iconst dJ6_numberOfLeadingZeros_0f7a4_75 ?_
            refine w_iushr dJ6_numberOfLeadingZeros_0f7a4_76 ?_
            refine w_isub dJ6_numberOfLeadingZeros_0f7a4_77 ?_
            obtain ⟨i17, h⟩ := h
            exact w_iret dJ6_numberOfLeadingZeros_0f7a4_78 ⟨_, rfl, i17, h⟩
    · replace h := h.2 c2
      refine w_iinc (lv' := [(1, vi (31 + (-16))), (0, vi (p0))]) dJ6_numberOfLeadingZeros_0f7a4_25 0 rfl (by decide) rfl ?_
      refine w_iload_n dJ6_numberOfLeadingZeros_0f7a4_28 1 rfl ?_
      refine w_bipush dJ6_numberOfLeadingZeros_0f7a4_29 rfl ?_
      refine w_iushr dJ6_numberOfLeadingZeros_0f7a4_31 ?_
      refine w_istore_n (lv' := [(0, vi (jushr p0 16)), (1, vi (31 + (-16)))]) (i := 0) dJ6_numberOfLeadingZeros_0f7a4_32 rfl (by decide) rfl ?_
      refine w_iload_n dJ6_numberOfLeadingZeros_0f7a4_33 0 rfl ?_
      refine w_sipush dJ6_numberOfLeadingZeros_0f7a4_34 rfl ?_
      refine w_icmp_lt (tgt := 48) dJ6_numberOfLeadingZeros_0f7a4_37 (by decide) (inr_jushr _ _) ⟨by decide, by decide⟩ (fun c18 => ?_) (fun c18 => ?_)
      · replace h := h.1 c18
        refine w_iload_n dJ6_numberOfLeadingZeros_0f7a4_48 0 rfl ?_
        refine w_bipush dJ6_numberOfLeadingZeros_0f7a4_49 rfl ?_
        refine w_icmp_lt (tgt := 61) dJ6_numberOfLeadingZeros_0f7a4_51 (by decide) (inr_jushr _ _) ⟨by decide, by decide⟩ (fun c19 => ?_) (fun c19 => ?_)
        · replace h := h.1 c19
          refine w_iload_n dJ6_numberOfLeadingZeros_0f7a4_61 0 rfl ?_
          refine w_iconst dJ6_numberOfLeadingZeros_0f7a4_62 ?_
          refine w_icmp_lt (tgt := 73) dJ6_numberOfLeadingZeros_0f7a4_63 (by decide) (inr_jushr _ _) ⟨by decide, by decide⟩ (fun c20 => ?_) (fun c20 => ?_)
          · replace h := h.1 c20
            refine w_iload_n dJ6_numberOfLeadingZeros_0f7a4_73 1 rfl ?_
            refine w_iload_n dJ6_numberOfLeadingZeros_0f7a4_74 0 rfl ?_
            refine w_iconst dJ6_numberOfLeadingZeros_0f7a4_75 ?_
            refine w_iushr dJ6_numberOfLeadingZeros_0f7a4_76 ?_
            refine w_isub dJ6_numberOfLeadingZeros_0f7a4_77 ?_
            obtain ⟨i21, h⟩ := h
            exact w_iret dJ6_numberOfLeadingZeros_0f7a4_78 ⟨_, rfl, i21, h⟩
          · replace h := h.2 c20
            refine w_iinc (lv' := [(1, vi ((31 + (-16)) + (-2))), (0, vi (jushr p0 16))]) dJ6_numberOfLeadingZeros_0f7a4_66 1 rfl (by decide) rfl ?_
            refine w_iload_n dJ6_numberOfLeadingZeros_0f7a4_69 1 rfl ?_
            refine w_iconst dJ6_numberOfLeadingZeros_0f7a4_70 ?_
            refine w_iushr dJ6_numberOfLeadingZeros_0f7a4_71 ?_
            refine w_istore_n (lv' := [(0, vi (jushr (jushr p0 16) 2)), (1, vi ((31 + (-16)) + (-2)))]) (i := 0) dJ6_numberOfLeadingZeros_0f7a4_72 rfl (by decide) rfl ?_
            refine w_iload_n dJ6_numberOfLeadingZeros_0f7a4_73 1 rfl ?_
            refine w_iload_n dJ6_numberOfLeadingZeros_0f7a4_74 0 rfl ?_
            refine w_iconst dJ6_numberOfLeadingZeros_0f7a4_75 ?_
            refine w_iushr dJ6_numberOfLeadingZeros_0f7a4_76 ?_
            refine w_isub dJ6_numberOfLeadingZeros_0f7a4_77 ?_
            obtain ⟨i22, h⟩ := h
            exact w_iret dJ6_numberOfLeadingZeros_0f7a4_78 ⟨_, rfl, i22, h⟩
        · replace h := h.2 c19
          refine w_iinc (lv' := [(1, vi ((31 + (-16)) + (-4))), (0, vi (jushr p0 16))]) dJ6_numberOfLeadingZeros_0f7a4_54 1 rfl (by decide) rfl ?_
          refine w_iload_n dJ6_numberOfLeadingZeros_0f7a4_57 1 rfl ?_
          refine w_iconst dJ6_numberOfLeadingZeros_0f7a4_58 ?_
          refine w_iushr dJ6_numberOfLeadingZeros_0f7a4_59 ?_
          refine w_istore_n (lv' := [(0, vi (jushr (jushr p0 16) 4)), (1, vi ((31 + (-16)) + (-4)))]) (i := 0) dJ6_numberOfLeadingZeros_0f7a4_60 rfl (by decide) rfl ?_
          refine w_iload_n dJ6_numberOfLeadingZeros_0f7a4_61 0 rfl ?_
          refine w_iconst dJ6_numberOfLeadingZeros_0f7a4_62 ?_
          refine w_icmp_lt (tgt := 73) dJ6_numberOfLeadingZeros_0f7a4_63 (by decide) (inr_jushr _ _) ⟨by decide, by decide⟩ (fun c23 => ?_) (fun c23 => ?_)
          · replace h := h.1 c23
            refine w_iload_n dJ6_numberOfLeadingZeros_0f7a4_73 1 rfl ?_
            refine w_iload_n dJ6_numberOfLeadingZeros_0f7a4_74 0 rfl ?_
            refine w_iconst dJ6_numberOfLeadingZeros_0f7a4_75 ?_
            refine w_iushr dJ6_numberOfLeadingZeros_0f7a4_76 ?_
            refine w_isub dJ6_numberOfLeadingZeros_0f7a4_77 ?_
            obtain ⟨i24, h⟩ := h
            exact w_iret dJ6_numberOfLeadingZeros_0f7a4_78 ⟨_, rfl, i24, h⟩
          · replace h := h.2 c23
            refine w_iinc (lv' := [(1, vi (((31 + (-16)) + (-4)) + (-2))), (0, vi (jushr (jushr p0 16) 4))]) dJ6_numberOfLeadingZeros_0f7a4_66 1 rfl (by decide) rfl ?_
            refine w_iload_n dJ6_numberOfLeadingZeros_0f7a4_69 1 rfl ?_
            refine w_iconst dJ6_numberOfLeadingZeros_0f7a4_70 ?_
            refine w_iushr dJ6_numberOfLeadingZeros_0f7a4_71 ?_
            refine w_istore_n (lv' := [(0, vi (jushr (jushr (jushr p0 16) 4) 2)), (1, vi (((31 + (-16)) + (-4)) + (-2)))]) (i := 0) dJ6_numberOfLeadingZeros_0f7a4_72 rfl (by decide) rfl ?_
            refine w_iload_n dJ6_numberOfLeadingZeros_0f7a4_73 1 rfl ?_
            refine w_iload_n dJ6_numberOfLeadingZeros_0f7a4_74 0 rfl ?_
            refine w_iconst dJ6_numberOfLeadingZeros_0f7a4_75 ?_
            refine w_iushr dJ6_numberOfLeadingZeros_0f7a4_76 ?_
            refine w_isub dJ6_numberOfLeadingZeros_0f7a4_77 ?_
            obtain ⟨i25, h⟩ := h
            exact w_iret dJ6_numberOfLeadingZeros_0f7a4_78 ⟨_, rfl, i25, h⟩
      · replace h := h.2 c18
        refine w_iinc (lv' := [(1, vi ((31 + (-16)) + (-8))), (0, vi (jushr p0 16))]) dJ6_numberOfLeadingZeros_0f7a4_40 1 rfl (by decide) rfl ?_
        refine w_iload_n dJ6_numberOfLeadingZeros_0f7a4_43 1 rfl ?_
        refine w_bipush dJ6_numberOfLeadingZeros_0f7a4_44 rfl ?_
        refine w_iushr dJ6_numberOfLeadingZeros_0f7a4_46 ?_
        refine w_istore_n (lv' := [(0, vi (jushr (jushr p0 16) 8)), (1, vi ((31 + (-16)) + (-8)))]) (i := 0) dJ6_numberOfLeadingZeros_0f7a4_47 rfl (by decide) rfl ?_
        refine w_iload_n dJ6_numberOfLeadingZeros_0f7a4_48 0 rfl ?_
        refine w_bipush dJ6_numberOfLeadingZeros_0f7a4_49 rfl ?_
        refine w_icmp_lt (tgt := 61) dJ6_numberOfLeadingZeros_0f7a4_51 (by decide) (inr_jushr _ _) ⟨by decide, by decide⟩ (fun c26 => ?_) (fun c26 => ?_)
        · replace h := h.1 c26
          refine w_iload_n dJ6_numberOfLeadingZeros_0f7a4_61 0 rfl ?_
          refine w_iconst dJ6_numberOfLeadingZeros_0f7a4_62 ?_
          refine w_icmp_lt (tgt := 73) dJ6_numberOfLeadingZeros_0f7a4_63 (by decide) (inr_jushr _ _) ⟨by decide, by decide⟩ (fun c27 => ?_) (fun c27 => ?_)
          · replace h := h.1 c27
            refine w_iload_n dJ6_numberOfLeadingZeros_0f7a4_73 1 rfl ?_
            refine w_iload_n dJ6_numberOfLeadingZeros_0f7a4_74 0 rfl ?_
            refine w_iconst dJ6_numberOfLeadingZeros_0f7a4_75 ?_
            refine w_iushr dJ6_numberOfLeadingZeros_0f7a4_76 ?_
            refine w_isub dJ6_numberOfLeadingZeros_0f7a4_77 ?_
            obtain ⟨i28, h⟩ := h
            exact w_iret dJ6_numberOfLeadingZeros_0f7a4_78 ⟨_, rfl, i28, h⟩
          · replace h := h.2 c27
            refine w_iinc (lv' := [(1, vi (((31 + (-16)) + (-8)) + (-2))), (0, vi (jushr (jushr p0 16) 8))]) dJ6_numberOfLeadingZeros_0f7a4_66 1 rfl (by decide) rfl ?_
            refine w_iload_n dJ6_numberOfLeadingZeros_0f7a4_69 1 rfl ?_
            refine w_iconst dJ6_numberOfLeadingZeros_0f7a4_70 ?_
            refine w_iushr dJ6_numberOfLeadingZeros_0f7a4_71 ?_
            refine w_istore_n (lv' := [(0, vi (jushr (jushr (jushr p0 16) 8) 2)), (1, vi (((31 + (-16)) + (-8)) + (-2)))]) (i := 0) dJ6_numberOfLeadingZeros_0f7a4_72 rfl (by decide) rfl ?_
            refine w_iload_n dJ6_numberOfLeadingZeros_0f7a4_73 1 rfl ?_
            refine w_iload_n dJ6_numberOfLeadingZeros_0f7a4_74 0 rfl ?_
            refine w_iconst dJ6_numberOfLeadingZeros_0f7a4_75 ?_
            refine w_iushr dJ6_numberOfLeadingZeros_0f7a4_76 ?_
            refine w_isub dJ6_numberOfLeadingZeros_0f7a4_77 ?_
            obtain ⟨i29, h⟩ := h
            exact w_iret dJ6_numberOfLeadingZeros_0f7a4_78 ⟨_, rfl, i29, h⟩
        · replace h := h.2 c26
          refine w_iinc (lv' := [(1, vi (((31 + (-16)) + (-8)) + (-4))), (0, vi (jushr (jushr p0 16) 8))]) dJ6_numberOfLeadingZeros_0f7a4_54 1 rfl (by decide) rfl ?_
          refine w_iload_n dJ6_numberOfLeadingZeros_0f7a4_57 1 rfl ?_
          refine w_iconst dJ6_numberOfLeadingZeros_0f7a4_58 ?_
          refine w_iushr dJ6_numberOfLeadingZeros_0f7a4_59 ?_
          refine w_istore_n (lv' := [(0, vi (jushr (jushr (jushr p0 16) 8) 4)), (1, vi (((31 + (-16)) + (-8)) + (-4)))]) (i := 0) dJ6_numberOfLeadingZeros_0f7a4_60 rfl (by decide) rfl ?_
          refine w_iload_n dJ6_numberOfLeadingZeros_0f7a4_61 0 rfl ?_
          refine w_iconst dJ6_numberOfLeadingZeros_0f7a4_62 ?_
          refine w_icmp_lt (tgt := 73) dJ6_numberOfLeadingZeros_0f7a4_63 (by decide) (inr_jushr _ _) ⟨by decide, by decide⟩ (fun c30 => ?_) (fun c30 => ?_)
          · replace h := h.1 c30
            refine w_iload_n dJ6_numberOfLeadingZeros_0f7a4_73 1 rfl ?_
            refine w_iload_n dJ6_numberOfLeadingZeros_0f7a4_74 0 rfl ?_
            refine w_iconst dJ6_numberOfLeadingZeros_0f7a4_75 ?_
            refine w_iushr dJ6_numberOfLeadingZeros_0f7a4_76 ?_
            refine w_isub dJ6_numberOfLeadingZeros_0f7a4_77 ?_
            obtain ⟨i31, h⟩ := h
            exact w_iret dJ6_numberOfLeadingZeros_0f7a4_78 ⟨_, rfl, i31, h⟩
          · replace h := h.2 c30
            refine w_iinc (lv' := [(1, vi ((((31 + (-16)) + (-8)) + (-4)) + (-2))), (0, vi (jushr (jushr (jushr p0 16) 8) 4))]) dJ6_numberOfLeadingZeros_0f7a4_66 1 rfl (by decide) rfl ?_
            refine w_iload_n dJ6_numberOfLeadingZeros_0f7a4_69 1 rfl ?_
            refine w_iconst dJ6_numberOfLeadingZeros_0f7a4_70 ?_
            refine w_iushr dJ6_numberOfLeadingZeros_0f7a4_71 ?_
            refine w_istore_n (lv' := [(0, vi (jushr (jushr (jushr (jushr p0 16) 8) 4) 2)), (1, vi ((((31 + (-16)) + (-8)) + (-4)) + (-2)))]) (i := 0) dJ6_numberOfLeadingZeros_0f7a4_72 rfl (by decide) rfl ?_
            refine w_iload_n dJ6_numberOfLeadingZeros_0f7a4_73 1 rfl ?_
            refine w_iload_n dJ6_numberOfLeadingZeros_0f7a4_74 0 rfl ?_
            refine w_iconst dJ6_numberOfLeadingZeros_0f7a4_75 ?_
            refine w_iushr dJ6_numberOfLeadingZeros_0f7a4_76 ?_
            refine w_isub dJ6_numberOfLeadingZeros_0f7a4_77 ?_
            obtain ⟨i32, h⟩ := h
            exact w_iret dJ6_numberOfLeadingZeros_0f7a4_78 ⟨_, rfl, i32, h⟩
  · replace h := h.2 c1
    refine w_iload_n dJ6_numberOfLeadingZeros_0f7a4_4 0 rfl ?_
    refine w_if_ne (tgt := 13) dJ6_numberOfLeadingZeros_0f7a4_5 (by decide) hp0 (fun c33 => ?_) (fun c33 => ?_)
    · replace h := h.1 c33
      refine w_iconst dJ6_numberOfLeadingZeros_0f7a4_13 ?_
      exact w_iret dJ6_numberOfLeadingZeros_0f7a4_14 ⟨_, rfl, ⟨by decide, by decide⟩, h⟩
    · replace h := h.2 c33
      refine w_bipush dJ6_numberOfLeadingZeros_0f7a4_8 rfl ?_
      refine w_goto (tgt := 14) dJ6_numberOfLeadingZeros_0f7a4_10 (by decide) ?_
      exact w_iret dJ6_numberOfLeadingZeros_0f7a4_14 ⟨_, rfl, ⟨by decide, by decide⟩, h⟩
set_option maxHeartbeats 4000000 in
set_option maxRecDepth 100000 in
theorem b_Sr_leads_0 {g : Ctx} {n : Nat} {p0 : Int} {M : Mem} {Q : Int → Mem → Prop} (hp0 : InR p0) (h : K_Sr_isKnown g n p0 M (fun r1 M2 => (r1 = 0 ∨ r1 = 1) → WT M2 → (((¬ r1 = 0) → (isRec (gP M2 (0) (1))) ∧ K_Rc_directlyLedTo g n (gP M2 (0) (1)) p0 M2 (fun r5 M6 => InR r5 → WT M6 → P_Sr_leads g n 21 [(0, vr g (0)), (2, vi (r5)), (3, vi (1))] [] M6 Q)) ∧ ((r1 = 0) → Q (-1) M2)))) : P_Sr_leads g n 0 [(0, vr g (0)), (1, vi (p0))] [] M Q := by
  refine w_wt (fun hw => ?_)
  refine w_aload_n dX10_leads_0 0 rfl ?_
  refine w_iload_n dX10_leads_1 1 rfl ?_
  refine c_Sr_isKnown dX10_leads_2 q595 (by decide) (Nat.le_of_ble_eq_true rfl) h (fun r1 M2 h hr1 hwM2 => ?_)
  replace h := h hr1 hwM2
  refine w_if_ne (tgt := 10) dX10_leads_5 (by decide) (inr_z hr1) (fun c3 => ?_) (fun c3 => ?_)
  · replace h := h.1 c3
    refine w_aload_n dX10_leads_10 0 rfl ?_
    refine w_getQ (ci := 10) (k := 1) dX10_leads_11 rfl fi10 (by decide) q534 s0 rfl l0 ?_
    obtain ⟨t4, h⟩ := h
    refine w_top (vq_ne (nRec t4)) ?_
    refine w_iload_n dX10_leads_14 1 rfl ?_
    refine c_Rc_directlyLedTo dX10_leads_15 q797 (by decide) (Nat.le_of_ble_eq_true rfl) t4 h (fun r5 M6 h hr5 hwM6 => ?_)
    replace h := h hr5 hwM6
    refine w_istore_n (lv' := [(2, vi (r5)), (0, vr g (0)), (1, vi (p0))]) (i := 2) dX10_leads_18 rfl (by decide) rfl ?_
    refine w_iconst dX10_leads_19 ?_
    refine w_istore_n (lv' := [(3, vi (1)), (2, vi (r5)), (0, vr g (0)), (1, vi (p0))]) (i := 3) dX10_leads_20 rfl (by decide) rfl ?_
    refine w_lv [2, 1, 0] rfl ?_
    exact h
  · replace h := h.2 c3
    refine w_iconst dX10_leads_8 ?_
    exact w_iret dX10_leads_9 ⟨_, rfl, ⟨by decide, by decide⟩, h⟩
set_option maxHeartbeats 4000000 in
set_option maxRecDepth 100000 in
theorem b_Sr_leads_21 {g : Ctx} {n : Nat} {x2 : Int} {x3 : Int} {M : Mem} {Q : Int → Mem → Prop} (hx2 : InR x2) (hx3 : InR x3) (h : (((12 ≤ x3) → Q x2 M) ∧ ((¬ (12 ≤ x3)) → P_Sr_leads g n 33 [(0, vr g (0)), (2, vi (x2)), (3, vi (x3)), (4, vi (x2)), (5, vi (0))] [] M Q))) : P_Sr_leads g n 21 [(0, vr g (0)), (2, vi (x2)), (3, vi (x3))] [] M Q := by
  refine w_wt (fun hw => ?_)
  refine w_iload_n dX10_leads_21 2 rfl ?_
  refine w_bipush dX10_leads_22 rfl ?_
  refine w_icmp_ge (tgt := 83) dX10_leads_24 (by decide) hx3 ⟨by decide, by decide⟩ (fun c1 => ?_) (fun c1 => ?_)
  · replace h := h.1 c1
    refine w_iload_n dX10_leads_83 1 rfl ?_
    exact w_iret dX10_leads_84 ⟨_, rfl, hx2, h⟩
  · replace h := h.2 c1
    refine w_iload_n dX10_leads_27 1 rfl ?_
    refine w_istore (lv' := [(4, vi (x2)), (0, vr g (0)), (2, vi (x2)), (3, vi (x3))]) dX10_leads_28 (by decide) rfl ?_
    refine w_iconst dX10_leads_30 ?_
    refine w_istore (lv' := [(5, vi (0)), (4, vi (x2)), (0, vr g (0)), (2, vi (x2)), (3, vi (x3))]) dX10_leads_31 (by decide) rfl ?_
    refine w_lv [2, 3, 4, 1, 0] rfl ?_
    exact h
set_option maxHeartbeats 4000000 in
set_option maxRecDepth 100000 in
theorem b_Sr_leads_33 {g : Ctx} {n : Nat} {x2 : Int} {x3 : Int} {x4 : Int} {x5 : Int} {M : Mem} {Q : Int → Mem → Prop} (hx2 : InR x2) (hx3 : InR x3) (hx4 : InR x4) (hx5 : InR x5) (h : (isRec (gP M (0) (1))) ∧ ((((gI M (gP M (0) (1)) (1)) ≤ x5) → P_Sr_leads g n 21 [(0, vr g (0)), (2, vi (x4)), (3, vi (x3 + 1))] [] M Q) ∧ ((¬ ((gI M (gP M (0) (1)) (1)) ≤ x5)) → ((((jand x2 (jshl 1 x5)) = 0) → P_Sr_leads g n 33 [(0, vr g (0)), (2, vi (x2)), (3, vi (x3)), (4, vi (x4)), (5, vi (x5 + 1))] [] M Q) ∧ ((¬ ((jand x2 (jshl 1 x5)) = 0)) → K_Rc_directlyLedTo g n (gP M (0) (1)) x5 M (fun r4 M5 => InR r4 → WT M5 → P_Sr_leads g n 33 [(0, vr g (0)), (2, vi (x2)), (3, vi (x3)), (4, vi (jor x4 r4)), (5, vi (x5 + 1))] [] M5 Q)))))) : P_Sr_leads g n 33 [(0, vr g (0)), (2, vi (x2)), (3, vi (x3)), (4, vi (x4)), (5, vi (x5))] [] M Q := by
  refine w_wt (fun hw => ?_)
  refine w_iload dX10_leads_33 4 rfl ?_
  refine w_aload_n dX10_leads_35 0 rfl ?_
  refine w_getQ (ci := 10) (k := 1) dX10_leads_36 rfl fi10 (by decide) q534 s0 rfl l0 ?_
  obtain ⟨t1, h⟩ := h
  refine w_top (vq_ne (nRec t1)) ?_
  refine w_getIN (ci := 8) (k := 1) dX10_leads_39 rfl fi8 (by decide) qn184 (sRec t1) rfl (bRec t1 (Nat.le_add_right _ _)) ?_
  refine w_icmp_ge (tgt := 74) dX10_leads_42 (by decide) hx5 (hw.int _ _) (fun c2 => ?_) (fun c2 => ?_)
  · replace h := h.1 c2
    refine w_iload dX10_leads_74 3 rfl ?_
    refine w_istore_n (lv' := [(2, vi (x4)), (0, vr g (0)), (3, vi (x3)), (4, vi (x4)), (5, vi (x5))]) (i := 2) dX10_leads_76 rfl (by decide) rfl ?_
    refine w_iinc (lv' := [(3, vi (x3 + 1)), (2, vi (x4)), (0, vr g (0)), (4, vi (x4)), (5, vi (x5))]) dX10_leads_77 2 rfl (by decide) rfl ?_
    refine w_goto (tgt := 21) dX10_leads_80 (by decide) ?_
    refine w_lv [2, 1, 0] rfl ?_
    exact h
  · replace h := h.2 c2
    refine w_iload_n dX10_leads_45 1 rfl ?_
    refine w_iconst dX10_leads_46 ?_
    refine w_iload dX10_leads_47 4 rfl ?_
    refine w_ishl dX10_leads_49 ?_
    refine w_iand dX10_leads_50 ?_
    refine w_if_eq (tgt := 68) dX10_leads_51 (by decide) (inr_jand _ _) (fun c3 => ?_) (fun c3 => ?_)
    · replace h := h.1 c3
      refine w_iinc (lv' := [(5, vi (x5 + 1)), (0, vr g (0)), (2, vi (x2)), (3, vi (x3)), (4, vi (x4))]) dX10_leads_68 4 rfl (by decide) rfl ?_
      refine w_goto (tgt := 33) dX10_leads_71 (by decide) ?_
      refine w_lv [1, 2, 3, 4, 0] rfl ?_
      exact h
    · replace h := h.2 c3
      refine w_iload dX10_leads_54 3 rfl ?_
      refine w_aload_n dX10_leads_56 0 rfl ?_
      refine w_getQ (ci := 10) (k := 1) dX10_leads_57 rfl fi10 (by decide) q534 s0 rfl l0 ?_
      refine w_top (vq_ne (nRec t1)) ?_
      refine w_iload dX10_leads_60 4 rfl ?_
      refine c_Rc_directlyLedTo dX10_leads_62 q797 (by decide) (Nat.le_of_ble_eq_true rfl) t1 h (fun r4 M5 h hr4 hwM5 => ?_)
      replace h := h hr4 hwM5
      refine w_ior dX10_leads_65 ?_
      refine w_istore (lv' := [(4, vi (jor x4 r4)), (0, vr g (0)), (2, vi (x2)), (3, vi (x3)), (5, vi (x5))]) dX10_leads_66 (by decide) rfl ?_
      refine w_iinc (lv' := [(5, vi (x5 + 1)), (4, vi (jor x4 r4)), (0, vr g (0)), (2, vi (x2)), (3, vi (x3))]) dX10_leads_68 4 rfl (by decide) rfl ?_
      refine w_goto (tgt := 33) dX10_leads_71 (by decide) ?_
      refine w_lv [2, 3, 4, 1, 0] rfl ?_
      exact h
set_option maxHeartbeats 4000000 in
set_option maxRecDepth 100000 in
theorem b_Rc_directlyLedTo_0 {g : Ctx} {n : Nat} {o : Nat} {p0 : Int} {M : Mem} {Q : Int → Mem → Prop} (ho : isRec o) (hp0 : InR p0) (h : K_Rc_domainAt g n o p0 M (fun r1 M2 => (r1 = 0 ∨ isDom r1) → WT M2 → (((¬ r1 = 0) → K_Rc_bitIfPolicy g n o (gI M2 (r1) (6)) M2 (fun r4 M5 => InR r4 → WT M5 → P_Rc_directlyLedTo g n 24 [(0, vr g (o)), (2, vr g (r1)), (3, vi (r4)), (4, vi (0))] [] M5 Q)) ∧ ((r1 = 0) → Q 0 M2)))) : P_Rc_directlyLedTo g n 0 [(0, vr g (o)), (1, vi (p0))] [] M Q := by
  refine w_wt (fun hw => ?_)
  refine w_aload_n dX8_directlyLedTo_0 0 rfl ?_
  refine w_iload_n dX8_directlyLedTo_1 1 rfl ?_
  refine c_Rc_domainAt dX8_directlyLedTo_2 q403 (by decide) (Nat.le_of_ble_eq_true rfl) ho h (fun r1 M2 h hr1 hwM2 => ?_)
  replace h := h hr1 hwM2
  refine w_astore_nq (lv' := [(2, vq g (r1)), (0, vr g (o)), (1, vi (p0))]) (i := 2) dX8_directlyLedTo_5 rfl (by decide) rfl ?_
  refine w_aload_nq dX8_directlyLedTo_6 0 rfl ?_
  refine w_ifnonnull (tgt := 12) dX8_directlyLedTo_7 (by decide) (fun c3 => ?_) (fun c3 => ?_)
  · replace h := h.1 c3
    rw [vq_ne c3]
    refine w_aload_n dX8_directlyLedTo_12 1 rfl ?_
    refine w_aload_n dX8_directlyLedTo_13 0 rfl ?_
    refine w_getIN (ci := 1) (k := 6) dX8_directlyLedTo_14 rfl fi1 (by decide) qn144 (sDom (hr1.resolve_left c3)) rfl (bDom (hr1.resolve_left c3) (Nat.le_add_right _ _)) ?_
    refine c_Rc_bitIfPolicy dX8_directlyLedTo_17 q801 (by decide) (Nat.le_of_ble_eq_true rfl) ho h (fun r4 M5 h hr4 hwM5 => ?_)
    replace h := h hr4 hwM5
    refine w_istore_n (lv' := [(3, vi (r4)), (2, vr g (r1)), (0, vr g (o)), (1, vi (p0))]) (i := 3) dX8_directlyLedTo_20 rfl (by decide) rfl ?_
    refine w_iconst dX8_directlyLedTo_21 ?_
    refine w_istore (lv' := [(4, vi (0)), (3, vi (r4)), (2, vr g (r1)), (0, vr g (o)), (1, vi (p0))]) dX8_directlyLedTo_22 (by decide) rfl ?_
    refine w_lv [3, 2, 1, 0] rfl ?_
    exact h
  · replace h := h.2 c3
    refine w_iconst dX8_directlyLedTo_10 ?_
    exact w_iret dX8_directlyLedTo_11 ⟨_, rfl, ⟨by decide, by decide⟩, h⟩
set_option maxHeartbeats 4000000 in
set_option maxRecDepth 100000 in
theorem b_Rc_directlyLedTo_24 {g : Ctx} {n : Nat} {a0 : Nat} {a2 : Nat} {x3 : Int} {x4 : Int} {M : Mem} {Q : Int → Mem → Prop} (ha0 : isRec a0) (ha2 : isDom a2) (hx3 : InR x3) (hx4 : InR x4) (h : ((((gI M (a2) (5)) ≤ x4) → Q x3 M) ∧ ((¬ ((gI M (a2) (5)) ≤ x4)) → (0 ≤ x4 ∧ x4 < 8) ∧ (((¬ (gI M (gP M (a2 + 2) (x4.toNat)) (1)) = 2) → P_Rc_directlyLedTo g n 24 [(0, vr g (a0)), (2, vr g (a2)), (3, vi (x3)), (4, vi (x4 + 1))] [] M Q) ∧ (((gI M (gP M (a2 + 2) (x4.toNat)) (1)) = 2) → K_Rc_bitIfPolicy g n a0 (gI M (gP M (a2 + 2) (x4.toNat)) (4)) M (fun r6 M7 => InR r6 → WT M7 → P_Rc_directlyLedTo g n 24 [(0, vr g (a0)), (2, vr g (a2)), (3, vi (jor x3 r6)), (4, vi (x4 + 1))] [] M7 Q)))))) : P_Rc_directlyLedTo g n 24 [(0, vr g (a0)), (2, vr g (a2)), (3, vi (x3)), (4, vi (x4))] [] M Q := by
  refine w_wt (fun hw => ?_)
  refine w_iload dX8_directlyLedTo_24 3 rfl ?_
  refine w_aload_n dX8_directlyLedTo_26 1 rfl ?_
  refine w_getIN (ci := 1) (k := 5) dX8_directlyLedTo_27 rfl fi1 (by decide) qn139 (sDom ha2) rfl (bDom ha2 (Nat.le_add_right _ _)) ?_
  refine w_icmp_ge (tgt := 70) dX8_directlyLedTo_30 (by decide) hx4 (hw.int _ _) (fun c1 => ?_) (fun c1 => ?_)
  · replace h := h.1 c1
    refine w_iload_n dX8_directlyLedTo_70 2 rfl ?_
    exact w_iret dX8_directlyLedTo_71 ⟨_, rfl, hx3, h⟩
  · replace h := h.2 c1
    refine w_aload_n dX8_directlyLedTo_33 1 rfl ?_
    refine w_getSN (ci := 1) (k := 4) dX8_directlyLedTo_34 rfl fi1 (by decide) qn136 (sDom ha2) rfl (bDom ha2 (Nat.le_add_right _ _)) ?_
    refine w_iload dX8_directlyLedTo_37 3 rfl ?_
    obtain ⟨i2, h⟩ := h
    have t3 : isRul (gP M (a2 + 2) (x4.toNat)) := (hw.rul ha2 (by omega))
    refine w_aald (t := 2) dX8_directlyLedTo_39 (sDom2 ha2) (by decide) rfl (bDom2 ha2 (Nat.le_add_right _ _)) (by decide) i2.1 i2.2 (nRul t3) ?_
    refine w_getIN (ci := 9) (k := 1) dX8_directlyLedTo_40 rfl fi9 (by decide) qn87 (sRul t3) rfl (bRul t3 (Nat.le_add_right _ _)) ?_
    refine w_iconst dX8_directlyLedTo_43 ?_
    refine w_icmp_ne (tgt := 64) dX8_directlyLedTo_44 (by decide) (hw.int _ _) ⟨by decide, by decide⟩ (fun c4 => ?_) (fun c4 => ?_)
    · replace h := h.1 c4
      refine w_iinc (lv' := [(4, vi (x4 + 1)), (0, vr g (a0)), (2, vr g (a2)), (3, vi (x3))]) dX8_directlyLedTo_64 3 rfl (by decide) rfl ?_
      refine w_goto (tgt := 24) dX8_directlyLedTo_67 (by decide) ?_
      refine w_lv [1, 2, 3, 0] rfl ?_
      exact h
    · replace h := h.2 c4
      refine w_iload_n dX8_directlyLedTo_47 2 rfl ?_
      refine w_aload_n dX8_directlyLedTo_48 0 rfl ?_
      refine w_aload_n dX8_directlyLedTo_49 1 rfl ?_
      refine w_getSN (ci := 1) (k := 4) dX8_directlyLedTo_50 rfl fi1 (by decide) qn136 (sDom ha2) rfl (bDom ha2 (Nat.le_add_right _ _)) ?_
      refine w_iload dX8_directlyLedTo_53 3 rfl ?_
      have t5 : isRul (gP M (a2 + 2) (x4.toNat)) := (hw.rul ha2 (by omega))
      refine w_aald (t := 2) dX8_directlyLedTo_55 (sDom2 ha2) (by decide) rfl (bDom2 ha2 (Nat.le_add_right _ _)) (by decide) i2.1 i2.2 (nRul t5) ?_
      refine w_getIN (ci := 9) (k := 4) dX8_directlyLedTo_56 rfl fi9 (by decide) qn97 (sRul t5) rfl (bRul t5 (Nat.le_add_right _ _)) ?_
      refine c_Rc_bitIfPolicy dX8_directlyLedTo_59 q801 (by decide) (Nat.le_of_ble_eq_true rfl) ha0 h (fun r6 M7 h hr6 hwM7 => ?_)
      replace h := h hr6 hwM7
      refine w_ior dX8_directlyLedTo_62 ?_
      refine w_istore_n (lv' := [(3, vi (jor x3 r6)), (0, vr g (a0)), (2, vr g (a2)), (4, vi (x4))]) (i := 3) dX8_directlyLedTo_63 rfl (by decide) rfl ?_
      refine w_iinc (lv' := [(4, vi (x4 + 1)), (3, vi (jor x3 r6)), (0, vr g (a0)), (2, vr g (a2))]) dX8_directlyLedTo_64 3 rfl (by decide) rfl ?_
      refine w_goto (tgt := 24) dX8_directlyLedTo_67 (by decide) ?_
      refine w_lv [2, 3, 1, 0] rfl ?_
      exact h
set_option maxHeartbeats 4000000 in
set_option maxRecDepth 100000 in
theorem b_Rc_bitIfPolicy_0 {g : Ctx} {n : Nat} {o : Nat} {p0 : Int} {M : Mem} {Q : Int → Mem → Prop} (ho : isRec o) (hp0 : InR p0) (h : K_Rc_find g n o p0 M (fun r1 M2 => InR r1 → WT M2 → (((r1 = (-1)) → Q 0 M2) ∧ ((¬ (r1 = (-1))) → (0 ≤ r1 ∧ r1 < 12) ∧ ((((gI M2 (gP M2 (o + 1) (r1.toNat)) (3)) = 0) → Q 0 M2) ∧ ((¬ ((gI M2 (gP M2 (o + 1) (r1.toNat)) (3)) = 0)) → Q (jshl 1 r1) M2)))))) : P_Rc_bitIfPolicy g n 0 [(0, vr g (o)), (1, vi (p0))] [] M Q := by
  refine w_wt (fun hw => ?_)
  refine w_aload_n dX8_bitIfPolicy_0 0 rfl ?_
  refine w_iload_n dX8_bitIfPolicy_1 1 rfl ?_
  refine c_Rc_find dX8_bitIfPolicy_2 q399 (by decide) (Nat.le_of_ble_eq_true rfl) ho h (fun r1 M2 h hr1 hwM2 => ?_)
  replace h := h hr1 hwM2
  refine w_istore_n (lv' := [(2, vi (r1)), (0, vr g (o)), (1, vi (p0))]) (i := 2) dX8_bitIfPolicy_5 rfl (by decide) rfl ?_
  refine w_iload_n dX8_bitIfPolicy_6 0 rfl ?_
  refine w_iconst dX8_bitIfPolicy_7 ?_
  refine w_icmp_eq (tgt := 29) dX8_bitIfPolicy_8 (by decide) hr1 ⟨by decide, by decide⟩ (fun c3 => ?_) (fun c3 => ?_)
  · replace h := h.1 c3
    refine w_iconst dX8_bitIfPolicy_29 ?_
    exact w_iret dX8_bitIfPolicy_30 ⟨_, rfl, ⟨by decide, by decide⟩, h⟩
  · replace h := h.2 c3
    refine w_aload_n dX8_bitIfPolicy_11 1 rfl ?_
    refine w_getS (ci := 8) (k := 0) dX8_bitIfPolicy_12 rfl fi8 (by decide) q182 (sRec ho) rfl (bRec ho (Nat.le_add_right _ _)) ?_
    refine w_iload_n dX8_bitIfPolicy_15 0 rfl ?_
    obtain ⟨i4, h⟩ := h
    have t5 : isDom (gP M2 (o + 1) (r1.toNat)) := (hwM2.dom ho (by omega))
    refine w_aald (t := 3) dX8_bitIfPolicy_16 (sRec1 ho) (by decide) rfl (bRec1 ho (Nat.le_add_right _ _)) (by decide) i4.1 i4.2 (nDom t5) ?_
    refine w_getIN (ci := 1) (k := 3) dX8_bitIfPolicy_17 rfl fi1 (by decide) qn132 (sDom t5) rfl (bDom t5 (Nat.le_add_right _ _)) ?_
    refine w_if_eq (tgt := 29) dX8_bitIfPolicy_20 (by decide) (hwM2.int _ _) (fun c6 => ?_) (fun c6 => ?_)
    · replace h := h.1 c6
      refine w_iconst dX8_bitIfPolicy_29 ?_
      exact w_iret dX8_bitIfPolicy_30 ⟨_, rfl, ⟨by decide, by decide⟩, h⟩
    · replace h := h.2 c6
      refine w_iconst dX8_bitIfPolicy_23 ?_
      refine w_iload_n dX8_bitIfPolicy_24 0 rfl ?_
      refine w_ishl dX8_bitIfPolicy_25 ?_
      refine w_goto (tgt := 30) dX8_bitIfPolicy_26 (by decide) ?_
      exact w_iret dX8_bitIfPolicy_30 ⟨_, rfl, (inr_jshl _ _), h⟩
set_option maxHeartbeats 4000000 in
set_option maxRecDepth 100000 in
theorem b_Sr_count_0 {g : Ctx} {n : Nat} {p0 : Int} {M : Mem} {Q : Int → Mem → Prop} (hp0 : InR p0) (h : (((p0 = 0) → (isRec (gP M (0) (1))) ∧ Q (gI M (gP M (0) (1)) (1)) M) ∧ ((¬ (p0 = 0)) → (((p0 = 1) → (isRec (gP M (0) (1))) ∧ K_Rc_policies g n (gP M (0) (1)) M (fun r5 M6 => InR r5 → WT M6 → Q r5 M6)) ∧ ((¬ (p0 = 1)) → (((p0 = 2) → (isRec (gP M (0) (1))) ∧ K_Rc_rules g n (gP M (0) (1)) M (fun r9 M10 => InR r9 → WT M10 → Q r9 M10)) ∧ ((¬ (p0 = 2)) → (((p0 = 3) → (isRec (gP M (0) (1))) ∧ K_Rc_hosts g n (gP M (0) (1)) M (fun r13 M14 => InR r13 → WT M14 → Q r13 M14)) ∧ ((¬ (p0 = 3)) → (((p0 = 4) → Q (gI M (260) (1)) M) ∧ ((¬ (p0 = 4)) → (((p0 = 5) → Q (gI M (270) (1)) M) ∧ ((¬ (p0 = 5)) → (((p0 = 6) → Q (gI M (1) (1)) M) ∧ ((¬ (p0 = 6)) → Q (-1) M))))))))))))))) : P_Sr_count g n 0 [(0, vr g (0)), (1, vi (p0))] [] M Q := by
  refine w_wt (fun hw => ?_)
  refine w_iload_n dX10_count_0 1 rfl ?_
  by_cases c1 : p0 = 0
  · replace h := h.1 c1
    refine w_tabIn (tgt := 44) dX10_count_1 c1 ⟨by decide, by decide⟩ (by decide) (by decide) rfl (by decide) ?_
    refine w_aload_n dX10_count_44 0 rfl ?_
    refine w_getQ (ci := 10) (k := 1) dX10_count_45 rfl fi10 (by decide) q534 s0 rfl l0 ?_
    obtain ⟨t2, h⟩ := h
    refine w_top (vq_ne (nRec t2)) ?_
    refine w_getIN (ci := 8) (k := 1) dX10_count_48 rfl fi8 (by decide) qn184 (sRec t2) rfl (bRec t2 (Nat.le_add_right _ _)) ?_
    exact w_iret dX10_count_51 ⟨_, rfl, (hw.int _ _), h⟩
  replace h := h.2 c1
  by_cases c3 : p0 = 1
  · replace h := h.1 c3
    refine w_tabIn (tgt := 52) dX10_count_1 c3 ⟨by decide, by decide⟩ (by decide) (by decide) rfl (by decide) ?_
    refine w_aload_n dX10_count_52 0 rfl ?_
    refine w_getQ (ci := 10) (k := 1) dX10_count_53 rfl fi10 (by decide) q534 s0 rfl l0 ?_
    obtain ⟨t4, h⟩ := h
    refine w_top (vq_ne (nRec t4)) ?_
    refine c_Rc_policies dX10_count_56 q569 (by decide) (Nat.le_of_ble_eq_true rfl) t4 h (fun r5 M6 h hr5 hwM6 => ?_)
    replace h := h hr5 hwM6
    exact w_iret dX10_count_59 ⟨_, rfl, hr5, h⟩
  replace h := h.2 c3
  by_cases c7 : p0 = 2
  · replace h := h.1 c7
    refine w_tabIn (tgt := 60) dX10_count_1 c7 ⟨by decide, by decide⟩ (by decide) (by decide) rfl (by decide) ?_
    refine w_aload_n dX10_count_60 0 rfl ?_
    refine w_getQ (ci := 10) (k := 1) dX10_count_61 rfl fi10 (by decide) q534 s0 rfl l0 ?_
    obtain ⟨t8, h⟩ := h
    refine w_top (vq_ne (nRec t8)) ?_
    refine c_Rc_rules dX10_count_64 q809 (by decide) (Nat.le_of_ble_eq_true rfl) t8 h (fun r9 M10 h hr9 hwM10 => ?_)
    replace h := h hr9 hwM10
    exact w_iret dX10_count_67 ⟨_, rfl, hr9, h⟩
  replace h := h.2 c7
  by_cases c11 : p0 = 3
  · replace h := h.1 c11
    refine w_tabIn (tgt := 68) dX10_count_1 c11 ⟨by decide, by decide⟩ (by decide) (by decide) rfl (by decide) ?_
    refine w_aload_n dX10_count_68 0 rfl ?_
    refine w_getQ (ci := 10) (k := 1) dX10_count_69 rfl fi10 (by decide) q534 s0 rfl l0 ?_
    obtain ⟨t12, h⟩ := h
    refine w_top (vq_ne (nRec t12)) ?_
    refine c_Rc_hosts dX10_count_72 q813 (by decide) (Nat.le_of_ble_eq_true rfl) t12 h (fun r13 M14 h hr13 hwM14 => ?_)
    replace h := h hr13 hwM14
    exact w_iret dX10_count_75 ⟨_, rfl, hr13, h⟩
  replace h := h.2 c11
  by_cases c15 : p0 = 4
  · replace h := h.1 c15
    refine w_tabIn (tgt := 76) dX10_count_1 c15 ⟨by decide, by decide⟩ (by decide) (by decide) rfl (by decide) ?_
    refine w_aload_n dX10_count_76 0 rfl ?_
    refine w_getS (ci := 10) (k := 4) dX10_count_77 rfl fi10 (by decide) q537 s0 rfl l0 ?_
    refine w_getIN (ci := 5) (k := 1) dX10_count_80 rfl fi5 (by decide) qn258 s260 rfl l260 ?_
    exact w_iret dX10_count_83 ⟨_, rfl, (hw.int _ _), h⟩
  replace h := h.2 c15
  by_cases c16 : p0 = 5
  · replace h := h.1 c16
    refine w_tabIn (tgt := 84) dX10_count_1 c16 ⟨by decide, by decide⟩ (by decide) (by decide) rfl (by decide) ?_
    refine w_aload_n dX10_count_84 0 rfl ?_
    refine w_getS (ci := 10) (k := 5) dX10_count_85 rfl fi10 (by decide) q538 s0 rfl l0 ?_
    refine w_getIN (ci := 3) (k := 1) dX10_count_88 rfl fi3 (by decide) qn292 s270 rfl l270 ?_
    exact w_iret dX10_count_91 ⟨_, rfl, (hw.int _ _), h⟩
  replace h := h.2 c16
  by_cases c17 : p0 = 6
  · replace h := h.1 c17
    refine w_tabIn (tgt := 92) dX10_count_1 c17 ⟨by decide, by decide⟩ (by decide) (by decide) rfl (by decide) ?_
    refine w_aload_n dX10_count_92 0 rfl ?_
    refine w_getS (ci := 10) (k := 0) dX10_count_93 rfl fi10 (by decide) q533 s0 rfl l0 ?_
    refine w_getIN (ci := 7) (k := 1) dX10_count_96 rfl fi7 (by decide) qn50 s1 rfl l1 ?_
    exact w_iret dX10_count_99 ⟨_, rfl, (hw.int _ _), h⟩
  replace h := h.2 c17
  refine w_tabOut (tgt := 100) dX10_count_1 hp0 (by omega) (by decide) ?_
  refine w_iconst dX10_count_100 ?_
  exact w_iret dX10_count_101 ⟨_, rfl, ⟨by decide, by decide⟩, h⟩
set_option maxHeartbeats 4000000 in
set_option maxRecDepth 100000 in
theorem b_Rc_rules_0 {g : Ctx} {n : Nat} {o : Nat} {M : Mem} {Q : Int → Mem → Prop} (ho : isRec o) (h : P_Rc_rules g n 4 [(0, vr g (o)), (1, vi (0)), (2, vi (0))] [] M Q) : P_Rc_rules g n 0 [(0, vr g (o))] [] M Q := by
  refine w_wt (fun hw => ?_)
  refine w_iconst dX8_rules_0 ?_
  refine w_istore_n (lv' := [(1, vi (0)), (0, vr g (o))]) (i := 1) dX8_rules_1 rfl (by decide) rfl ?_
  refine w_iconst dX8_rules_2 ?_
  refine w_istore_n (lv' := [(2, vi (0)), (1, vi (0)), (0, vr g (o))]) (i := 2) dX8_rules_3 rfl (by decide) rfl ?_
  refine w_lv [2, 1, 0] rfl ?_
  exact h
set_option maxHeartbeats 4000000 in
set_option maxRecDepth 100000 in
theorem b_Rc_rules_4 {g : Ctx} {n : Nat} {a0 : Nat} {x1 : Int} {x2 : Int} {M : Mem} {Q : Int → Mem → Prop} (ha0 : isRec a0) (hx1 : InR x1) (hx2 : InR x2) (h : ((((gI M (a0) (1)) ≤ x2) → Q x1 M) ∧ ((¬ ((gI M (a0) (1)) ≤ x2)) → (0 ≤ x2 ∧ x2 < 12) ∧ P_Rc_rules g n 4 [(0, vr g (a0)), (1, vi (x1 + (gI M (gP M (a0 + 1) (x2.toNat)) (5)))), (2, vi (x2 + 1))] [] M Q))) : P_Rc_rules g n 4 [(0, vr g (a0)), (1, vi (x1)), (2, vi (x2))] [] M Q := by
  refine w_wt (fun hw => ?_)
  refine w_iload_n dX8_rules_4 2 rfl ?_
  refine w_aload_n dX8_rules_5 0 rfl ?_
  refine w_getI (ci := 8) (k := 1) dX8_rules_6 rfl fi8 (by decide) q183 (sRec ha0) rfl (bRec ha0 (Nat.le_add_right _ _)) ?_
  refine w_icmp_ge (tgt := 30) dX8_rules_9 (by decide) hx2 (hw.int _ _) (fun c1 => ?_) (fun c1 => ?_)
  · replace h := h.1 c1
    refine w_iload_n dX8_rules_30 1 rfl ?_
    exact w_iret dX8_rules_31 ⟨_, rfl, hx1, h⟩
  · replace h := h.2 c1
    refine w_iload_n dX8_rules_12 1 rfl ?_
    refine w_aload_n dX8_rules_13 0 rfl ?_
    refine w_getS (ci := 8) (k := 0) dX8_rules_14 rfl fi8 (by decide) q182 (sRec ha0) rfl (bRec ha0 (Nat.le_add_right _ _)) ?_
    refine w_iload_n dX8_rules_17 2 rfl ?_
    obtain ⟨i2, h⟩ := h
    have t3 : isDom (gP M (a0 + 1) (x2.toNat)) := (hw.dom ha0 (by omega))
    refine w_aald (t := 3) dX8_rules_18 (sRec1 ha0) (by decide) rfl (bRec1 ha0 (Nat.le_add_right _ _)) (by decide) i2.1 i2.2 (nDom t3) ?_
    refine w_getIN (ci := 1) (k := 5) dX8_rules_19 rfl fi1 (by decide) qn139 (sDom t3) rfl (bDom t3 (Nat.le_add_right _ _)) ?_
    refine w_iadd dX8_rules_22 ?_
    refine w_istore_n (lv' := [(1, vi (x1 + (gI M (gP M (a0 + 1) (x2.toNat)) (5)))), (0, vr g (a0)), (2, vi (x2))]) (i := 1) dX8_rules_23 rfl (by decide) rfl ?_
    refine w_iinc (lv' := [(2, vi (x2 + 1)), (1, vi (x1 + (gI M (gP M (a0 + 1) (x2.toNat)) (5)))), (0, vr g (a0))]) dX8_rules_24 2 rfl (by decide) rfl ?_
    refine w_goto (tgt := 4) dX8_rules_27 (by decide) ?_
    refine w_lv [2, 1, 0] rfl ?_
    exact h
set_option maxHeartbeats 4000000 in
set_option maxRecDepth 100000 in
theorem b_Rc_hosts_0 {g : Ctx} {n : Nat} {o : Nat} {M : Mem} {Q : Int → Mem → Prop} (ho : isRec o) (h : P_Rc_hosts g n 4 [(0, vr g (o)), (1, vi (0)), (2, vi (0))] [] M Q) : P_Rc_hosts g n 0 [(0, vr g (o))] [] M Q := by
  refine w_wt (fun hw => ?_)
  refine w_iconst dX8_hosts_0 ?_
  refine w_istore_n (lv' := [(1, vi (0)), (0, vr g (o))]) (i := 1) dX8_hosts_1 rfl (by decide) rfl ?_
  refine w_iconst dX8_hosts_2 ?_
  refine w_istore_n (lv' := [(2, vi (0)), (1, vi (0)), (0, vr g (o))]) (i := 2) dX8_hosts_3 rfl (by decide) rfl ?_
  refine w_lv [2, 1, 0] rfl ?_
  exact h
set_option maxHeartbeats 4000000 in
set_option maxRecDepth 100000 in
theorem b_Rc_hosts_4 {g : Ctx} {n : Nat} {a0 : Nat} {x1 : Int} {x2 : Int} {M : Mem} {Q : Int → Mem → Prop} (ha0 : isRec a0) (hx1 : InR x1) (hx2 : InR x2) (h : ((((gI M (a0) (1)) ≤ x2) → Q x1 M) ∧ ((¬ ((gI M (a0) (1)) ≤ x2)) → (0 ≤ x2 ∧ x2 < 12) ∧ P_Rc_hosts g n 4 [(0, vr g (a0)), (1, vi (x1 + (gI M (gP M (a0 + 1) (x2.toNat)) (8)))), (2, vi (x2 + 1))] [] M Q))) : P_Rc_hosts g n 4 [(0, vr g (a0)), (1, vi (x1)), (2, vi (x2))] [] M Q := by
  refine w_wt (fun hw => ?_)
  refine w_iload_n dX8_hosts_4 2 rfl ?_
  refine w_aload_n dX8_hosts_5 0 rfl ?_
  refine w_getI (ci := 8) (k := 1) dX8_hosts_6 rfl fi8 (by decide) q183 (sRec ha0) rfl (bRec ha0 (Nat.le_add_right _ _)) ?_
  refine w_icmp_ge (tgt := 30) dX8_hosts_9 (by decide) hx2 (hw.int _ _) (fun c1 => ?_) (fun c1 => ?_)
  · replace h := h.1 c1
    refine w_iload_n dX8_hosts_30 1 rfl ?_
    exact w_iret dX8_hosts_31 ⟨_, rfl, hx1, h⟩
  · replace h := h.2 c1
    refine w_iload_n dX8_hosts_12 1 rfl ?_
    refine w_aload_n dX8_hosts_13 0 rfl ?_
    refine w_getS (ci := 8) (k := 0) dX8_hosts_14 rfl fi8 (by decide) q182 (sRec ha0) rfl (bRec ha0 (Nat.le_add_right _ _)) ?_
    refine w_iload_n dX8_hosts_17 2 rfl ?_
    obtain ⟨i2, h⟩ := h
    have t3 : isDom (gP M (a0 + 1) (x2.toNat)) := (hw.dom ha0 (by omega))
    refine w_aald (t := 3) dX8_hosts_18 (sRec1 ha0) (by decide) rfl (bRec1 ha0 (Nat.le_add_right _ _)) (by decide) i2.1 i2.2 (nDom t3) ?_
    refine w_getIN (ci := 1) (k := 8) dX8_hosts_19 rfl fi1 (by decide) qn149 (sDom t3) rfl (bDom t3 (Nat.le_add_right _ _)) ?_
    refine w_iadd dX8_hosts_22 ?_
    refine w_istore_n (lv' := [(1, vi (x1 + (gI M (gP M (a0 + 1) (x2.toNat)) (8)))), (0, vr g (a0)), (2, vi (x2))]) (i := 1) dX8_hosts_23 rfl (by decide) rfl ?_
    refine w_iinc (lv' := [(2, vi (x2 + 1)), (1, vi (x1 + (gI M (gP M (a0 + 1) (x2.toNat)) (8)))), (0, vr g (a0))]) dX8_hosts_24 2 rfl (by decide) rfl ?_
    refine w_goto (tgt := 4) dX8_hosts_27 (by decide) ?_
    refine w_lv [2, 1, 0] rfl ?_
    exact h
