set_option maxHeartbeats 4000000 in
set_option maxRecDepth 100000 in
theorem b_Mo_tells_0 {g : Ctx} {p0 : Int} {p1 : Int} {p2 : Int} {p3 : Int} {p4 : Int} {M : Mem} {Q : Mem → Prop} (hp0 : InR p0) (hp1 : InR p1) (hp2 : InR p2) (hp3 : InR p3) (hp4 : InR p4) (h : K_Mo_write g p0 M (fun r1 M2 => InR r1 → WT M2 → K_Mo_write g p1 M2 (fun r3 M4 => InR r3 → WT M4 → K_Mo_write g p2 M4 (fun r5 M6 => InR r5 → WT M6 → K_Mo_write g p3 M6 (fun r7 M8 => InR r7 → WT M8 → K_Mo_write g p4 M8 (fun r9 M10 => InR r9 → WT M10 → Q M10)))))) : P_Mo_tells g 0 [(0, vr g (530)), (1, vi (p0)), (2, vi (p1)), (3, vi (p2)), (4, vi (p3)), (5, vi (p4))] [] M Q := by
  refine w_wt (fun hw => ?_)
  refine w_aload_n dX11_tells_0 0 rfl ?_
  refine w_iload_n dX11_tells_1 1 rfl ?_
  refine c_Mo_write dX11_tells_2 q827 (by decide) (Nat.le_of_ble_eq_true rfl) h (fun r1 M2 h hr1 hwM2 => ?_)
  replace h := h hr1 hwM2
  refine w_pop dX11_tells_5 rfl ?_
  refine w_aload_n dX11_tells_6 0 rfl ?_
  refine w_iload_n dX11_tells_7 2 rfl ?_
  refine c_Mo_write dX11_tells_8 q827 (by decide) (Nat.le_of_ble_eq_true rfl) h (fun r3 M4 h hr3 hwM4 => ?_)
  replace h := h hr3 hwM4
  refine w_pop dX11_tells_11 rfl ?_
  refine w_aload_n dX11_tells_12 0 rfl ?_
  refine w_iload_n dX11_tells_13 3 rfl ?_
  refine c_Mo_write dX11_tells_14 q827 (by decide) (Nat.le_of_ble_eq_true rfl) h (fun r5 M6 h hr5 hwM6 => ?_)
  replace h := h hr5 hwM6
  refine w_pop dX11_tells_17 rfl ?_
  refine w_aload_n dX11_tells_18 0 rfl ?_
  refine w_iload dX11_tells_19 4 rfl ?_
  refine c_Mo_write dX11_tells_21 q827 (by decide) (Nat.le_of_ble_eq_true rfl) h (fun r7 M8 h hr7 hwM8 => ?_)
  replace h := h hr7 hwM8
  refine w_pop dX11_tells_24 rfl ?_
  refine w_aload_n dX11_tells_25 0 rfl ?_
  refine w_iload dX11_tells_26 5 rfl ?_
  refine c_Mo_write dX11_tells_28 q827 (by decide) (Nat.le_of_ble_eq_true rfl) h (fun r9 M10 h hr9 hwM10 => ?_)
  replace h := h hr9 hwM10
  refine w_pop dX11_tells_31 rfl ?_
  exact w_vret dX11_tells_32 ⟨rfl, h⟩
set_option maxHeartbeats 4000000 in
set_option maxRecDepth 100000 in
theorem b_Mo_write_0 {g : Ctx} {p0 : Int} {M : Mem} {Q : Int → Mem → Prop} (hp0 : InR p0) (h : (((p0 < 32) → Q (-1) M) ∧ ((¬ (p0 < 32)) → (((p0 ≤ 126) → (((¬ (gI M (530) (0)) = 240) → (0 ≤ (gI M (530) (0)) ∧ (gI M (530) (0)) < 240) ∧ (InR ((gI M (530) (0)) + 1)) ∧ Q ((gI M (530) (0)) + 1) (sI (sI M (531) ((gI M (530) (0)).toNat) (p0)) (530) (0) ((gI M (530) (0)) + 1))) ∧ (((gI M (530) (0)) = 240) → Q (-3) M))) ∧ ((¬ (p0 ≤ 126)) → Q (-1) M))))) : P_Mo_write g 0 [(0, vr g (530)), (1, vi (p0))] [] M Q := by
  refine w_wt (fun hw => ?_)
  refine w_iload_n dX11_write_0 1 rfl ?_
  refine w_bipush dX11_write_1 rfl ?_
  refine w_icmp_lt (tgt := 12) dX11_write_3 (by decide) hp0 ⟨by decide, by decide⟩ (fun c1 => ?_) (fun c1 => ?_)
  · replace h := h.1 c1
    refine w_iconst dX11_write_12 ?_
    exact w_iret dX11_write_13 ⟨_, rfl, ⟨by decide, by decide⟩, h⟩
  · replace h := h.2 c1
    refine w_iload_n dX11_write_6 1 rfl ?_
    refine w_bipush dX11_write_7 rfl ?_
    refine w_icmp_le (tgt := 14) dX11_write_9 (by decide) hp0 ⟨by decide, by decide⟩ (fun c2 => ?_) (fun c2 => ?_)
    · replace h := h.1 c2
      refine w_aload_n dX11_write_14 0 rfl ?_
      refine w_getI (ci := 11) (k := 0) dX11_write_15 rfl fi11 (by decide) q904 s530 rfl l530 ?_
      refine w_sipush dX11_write_18 rfl ?_
      refine w_icmp_ne (tgt := 27) dX11_write_21 (by decide) (hw.int _ _) ⟨by decide, by decide⟩ (fun c3 => ?_) (fun c3 => ?_)
      · replace h := h.1 c3
        refine w_aload_n dX11_write_27 0 rfl ?_
        refine w_getS (ci := 11) (k := 1) dX11_write_28 rfl fi11 (by decide) q905 s530 rfl l530 ?_
        refine w_aload_n dX11_write_31 0 rfl ?_
        refine w_getI (ci := 11) (k := 0) dX11_write_32 rfl fi11 (by decide) q904 s530 rfl l530 ?_
        refine w_iload_n dX11_write_35 1 rfl ?_
        obtain ⟨i4, h⟩ := h
        refine w_iast dX11_write_36 s531 l531 (by decide) i4.1 i4.2 hp0 ?_
        have hw5 : WT (sI M (531) ((gI M (530) (0)).toNat) (p0)) := hw.sI hp0
        refine w_aload_n dX11_write_37 0 rfl ?_
        refine w_dup dX11_write_38 rfl ?_
        refine w_getI (ci := 11) (k := 0) dX11_write_39 rfl fi11 (by decide) q904 s530 rfl l530 ?_
        refine w_top (congrArg vi ((gI_ne _ _ _ _ _ _ (by omega)).trans rfl)) ?_
        have u6 : InR (gI M (530) (0)) := hw.int _ _
        refine w_iconst dX11_write_42 ?_
        refine w_iadd dX11_write_43 ?_
        obtain ⟨i7, h⟩ := h
        refine w_putI (ci := 11) (k := 0) dX11_write_44 rfl fi11 (by decide) q904 tyX11 tyX11_ok nmX11 rfl rfl rfl i7 s530 rfl l530 ?_
        have hw8 : WT (sI (sI M (531) ((gI M (530) (0)).toNat) (p0)) (530) (0) ((gI M (530) (0)) + 1)) := hw5.sI i7
        refine w_aload_n dX11_write_47 0 rfl ?_
        refine w_getI (ci := 11) (k := 0) dX11_write_48 rfl fi11 (by decide) q904 s530 rfl l530 ?_
        refine w_top (congrArg vi (gI_same _ _ _ _)) ?_
        exact w_iret dX11_write_51 ⟨_, rfl, i7, h⟩
      · replace h := h.2 c3
        refine w_bipush dX11_write_24 rfl ?_
        exact w_iret dX11_write_26 ⟨_, rfl, ⟨by decide, by decide⟩, h⟩
    · replace h := h.2 c2
      refine w_iconst dX11_write_12 ?_
      exact w_iret dX11_write_13 ⟨_, rfl, ⟨by decide, by decide⟩, h⟩
set_option maxHeartbeats 4000000 in
set_option maxRecDepth 100000 in
theorem b_Mo_lay_0 {g : Ctx}  {M : Mem} {Q : Int → Mem → Prop}  (h : K_Mo_reads g  M (fun r1 M2 => InR r1 → WT M2 → (((r1 = (-4)) → P_Mo_lay g 16 [(0, vr g (530)), (1, vi (0)), (2, vi (0))] [] M2 Q) ∧ ((¬ (r1 = (-4))) → Q (-2) M2)))) : P_Mo_lay g 0 [(0, vr g (530))] [] M Q := by
  refine w_wt (fun hw => ?_)
  refine w_aload_n dX11_lay_0 0 rfl ?_
  refine c_Mo_reads dX11_lay_1 q835 (by decide) (Nat.le_of_ble_eq_true rfl) h (fun r1 M2 h hr1 hwM2 => ?_)
  replace h := h hr1 hwM2
  refine w_bipush dX11_lay_4 rfl ?_
  refine w_icmp_eq (tgt := 12) dX11_lay_6 (by decide) hr1 ⟨by decide, by decide⟩ (fun c3 => ?_) (fun c3 => ?_)
  · replace h := h.1 c3
    refine w_iconst dX11_lay_12 ?_
    refine w_istore_n (lv' := [(1, vi (0)), (0, vr g (530))]) (i := 1) dX11_lay_13 rfl (by decide) rfl ?_
    refine w_iconst dX11_lay_14 ?_
    refine w_istore_n (lv' := [(2, vi (0)), (1, vi (0)), (0, vr g (530))]) (i := 2) dX11_lay_15 rfl (by decide) rfl ?_
    refine w_lv [2, 1, 0] rfl ?_
    exact h
  · replace h := h.2 c3
    refine w_bipush dX11_lay_9 rfl ?_
    exact w_iret dX11_lay_11 ⟨_, rfl, ⟨by decide, by decide⟩, h⟩
set_option maxHeartbeats 4000000 in
set_option maxRecDepth 100000 in
theorem b_Mo_lay_16 {g : Ctx} {x1 : Int} {x2 : Int} {M : Mem} {Q : Int → Mem → Prop} (hx1 : InR x1) (hx2 : InR x2) (h : ((((gI M (530) (17)) ≤ x2) → (((¬ x1 = 0) → P_Mo_lay g 68 [(0, vr g (530)), (2, vi (0)), (3, vi (0))] [] (sI M (530) (2) (gI M (530) (17))) Q) ∧ ((x1 = 0) → Q (-2) M))) ∧ ((¬ ((gI M (530) (17)) ≤ x2)) → (((¬ x1 = 0) → P_Mo_lay g 16 [(0, vr g (530)), (1, vi (1)), (2, vi (x2 + 1))] [] M Q) ∧ ((x1 = 0) → (0 ≤ x2 ∧ x2 < 12) ∧ ((((gI M (546) (x2.toNat)) ≤ 0) → P_Mo_lay g 16 [(0, vr g (530)), (1, vi (0)), (2, vi (x2 + 1))] [] M Q) ∧ ((¬ ((gI M (546) (x2.toNat)) ≤ 0)) → P_Mo_lay g 16 [(0, vr g (530)), (1, vi (1)), (2, vi (x2 + 1))] [] M Q))))))) : P_Mo_lay g 16 [(0, vr g (530)), (1, vi (x1)), (2, vi (x2))] [] M Q := by
  refine w_wt (fun hw => ?_)
  refine w_iload_n dX11_lay_16 2 rfl ?_
  refine w_aload_n dX11_lay_17 0 rfl ?_
  refine w_getI (ci := 11) (k := 17) dX11_lay_18 rfl fi11 (by decide) q921 s530 rfl l530 ?_
  refine w_icmp_ge (tgt := 49) dX11_lay_21 (by decide) hx2 (hw.int _ _) (fun c1 => ?_) (fun c1 => ?_)
  · replace h := h.1 c1
    refine w_iload_n dX11_lay_49 1 rfl ?_
    refine w_if_ne (tgt := 56) dX11_lay_50 (by decide) hx1 (fun c2 => ?_) (fun c2 => ?_)
    · replace h := h.1 c2
      refine w_aload_n dX11_lay_56 0 rfl ?_
      refine w_aload_n dX11_lay_57 0 rfl ?_
      refine w_getI (ci := 11) (k := 17) dX11_lay_58 rfl fi11 (by decide) q921 s530 rfl l530 ?_
      refine w_putI (ci := 11) (k := 2) dX11_lay_61 rfl fi11 (by decide) q906 tyX11 tyX11_ok nmX11 rfl rfl rfl (hw.int _ _) s530 rfl l530 ?_
      have hw3 : WT (sI M (530) (2) (gI M (530) (17))) := hw.sI (hw.int _ _)
      refine w_iconst dX11_lay_64 ?_
      refine w_istore_n (lv' := [(2, vi (0)), (0, vr g (530)), (1, vi (x1))]) (i := 2) dX11_lay_65 rfl (by decide) rfl ?_
      refine w_iconst dX11_lay_66 ?_
      refine w_istore_n (lv' := [(3, vi (0)), (2, vi (0)), (0, vr g (530)), (1, vi (x1))]) (i := 3) dX11_lay_67 rfl (by decide) rfl ?_
      refine w_lv [2, 1, 0] rfl ?_
      exact h
    · replace h := h.2 c2
      refine w_bipush dX11_lay_53 rfl ?_
      exact w_iret dX11_lay_55 ⟨_, rfl, ⟨by decide, by decide⟩, h⟩
  · replace h := h.2 c1
    refine w_iload_n dX11_lay_24 1 rfl ?_
    refine w_if_ne (tgt := 37) dX11_lay_25 (by decide) hx1 (fun c4 => ?_) (fun c4 => ?_)
    · replace h := h.1 c4
      refine w_iconst dX11_lay_37 ?_
      refine w_goto (tgt := 42) dX11_lay_38 (by decide) ?_
      refine w_istore_n (lv' := [(1, vi (1)), (0, vr g (530)), (2, vi (x2))]) (i := 1) dX11_lay_42 rfl (by decide) rfl ?_
      refine w_iinc (lv' := [(2, vi (x2 + 1)), (1, vi (1)), (0, vr g (530))]) dX11_lay_43 2 rfl (by decide) rfl ?_
      refine w_goto (tgt := 16) dX11_lay_46 (by decide) ?_
      refine w_lv [2, 1, 0] rfl ?_
      exact h
    · replace h := h.2 c4
      refine w_aload_n dX11_lay_28 0 rfl ?_
      refine w_getS (ci := 11) (k := 19) dX11_lay_29 rfl fi11 (by decide) q923 s530 rfl l530 ?_
      refine w_iload_n dX11_lay_32 2 rfl ?_
      obtain ⟨i5, h⟩ := h
      refine w_iald dX11_lay_33 s546 l546 (by decide) i5.1 i5.2 ?_
      refine w_if_le (tgt := 41) dX11_lay_34 (by decide) (hw.int _ _) (fun c6 => ?_) (fun c6 => ?_)
      · replace h := h.1 c6
        refine w_iconst dX11_lay_41 ?_
        refine w_istore_n (lv' := [(1, vi (0)), (0, vr g (530)), (2, vi (x2))]) (i := 1) dX11_lay_42 rfl (by decide) rfl ?_
        refine w_iinc (lv' := [(2, vi (x2 + 1)), (1, vi (0)), (0, vr g (530))]) dX11_lay_43 2 rfl (by decide) rfl ?_
        refine w_goto (tgt := 16) dX11_lay_46 (by decide) ?_
        refine w_lv [2, 1, 0] rfl ?_
        exact h
      · replace h := h.2 c6
        refine w_iconst dX11_lay_37 ?_
        refine w_goto (tgt := 42) dX11_lay_38 (by decide) ?_
        refine w_istore_n (lv' := [(1, vi (1)), (0, vr g (530)), (2, vi (x2))]) (i := 1) dX11_lay_42 rfl (by decide) rfl ?_
        refine w_iinc (lv' := [(2, vi (x2 + 1)), (1, vi (1)), (0, vr g (530))]) dX11_lay_43 2 rfl (by decide) rfl ?_
        refine w_goto (tgt := 16) dX11_lay_46 (by decide) ?_
        refine w_lv [2, 1, 0] rfl ?_
        exact h
set_option maxHeartbeats 4000000 in
set_option maxRecDepth 100000 in
theorem b_Mo_lay_68 {g : Ctx} {x2 : Int} {x3 : Int} {M : Mem} {Q : Int → Mem → Prop} (hx2 : InR x2) (hx3 : InR x3) (h : ((((gI M (530) (2)) ≤ x3) → Q (gI M (530) (2)) (sI (sI M (530) (16) (0)) (530) (34) (0))) ∧ ((¬ ((gI M (530) (2)) ≤ x3)) → P_Mo_lay g 83 [(0, vr g (530)), (2, vi (x2)), (3, vi (x3)), (4, vi ((-4))), (5, vi (0))] [] M Q))) : P_Mo_lay g 68 [(0, vr g (530)), (2, vi (x2)), (3, vi (x3))] [] M Q := by
  refine w_wt (fun hw => ?_)
  refine w_iload_n dX11_lay_68 2 rfl ?_
  refine w_aload_n dX11_lay_69 0 rfl ?_
  refine w_getI (ci := 11) (k := 2) dX11_lay_70 rfl fi11 (by decide) q906 s530 rfl l530 ?_
  refine w_icmp_ge (tgt := 163) dX11_lay_73 (by decide) hx3 (hw.int _ _) (fun c1 => ?_) (fun c1 => ?_)
  · replace h := h.1 c1
    refine w_aload_n dX11_lay_163 0 rfl ?_
    refine w_iconst dX11_lay_164 ?_
    refine w_putI (ci := 11) (k := 16) dX11_lay_165 rfl fi11 (by decide) q920 tyX11 tyX11_ok nmX11 rfl rfl rfl ⟨by decide, by decide⟩ s530 rfl l530 ?_
    have hw2 : WT (sI M (530) (16) (0)) := hw.sI ⟨by decide, by decide⟩
    refine w_aload_n dX11_lay_168 0 rfl ?_
    refine w_iconst dX11_lay_169 ?_
    refine w_putI (ci := 11) (k := 34) dX11_lay_170 rfl fi11 (by decide) q938 tyX11 tyX11_ok nmX11 rfl rfl rfl ⟨by decide, by decide⟩ s530 rfl l530 ?_
    have hw3 : WT (sI (sI M (530) (16) (0)) (530) (34) (0)) := hw2.sI ⟨by decide, by decide⟩
    refine w_aload_n dX11_lay_173 0 rfl ?_
    refine w_getI (ci := 11) (k := 2) dX11_lay_174 rfl fi11 (by decide) q906 s530 rfl l530 ?_
    refine w_top (congrArg vi ((gI_ne _ _ _ _ _ _ (by omega)).trans ((gI_ne _ _ _ _ _ _ (by omega)).trans rfl))) ?_
    have u4 : InR (gI M (530) (2)) := hw.int _ _
    exact w_iret dX11_lay_177 ⟨_, rfl, u4, h⟩
  · replace h := h.2 c1
    refine w_bipush dX11_lay_76 rfl ?_
    refine w_istore (lv' := [(4, vi ((-4))), (0, vr g (530)), (2, vi (x2)), (3, vi (x3))]) dX11_lay_78 (by decide) rfl ?_
    refine w_iconst dX11_lay_80 ?_
    refine w_istore (lv' := [(5, vi (0)), (4, vi ((-4))), (0, vr g (530)), (2, vi (x2)), (3, vi (x3))]) dX11_lay_81 (by decide) rfl ?_
    refine w_lv [2, 3, 4, 1, 0] rfl ?_
    exact h
set_option maxHeartbeats 4000000 in
set_option maxRecDepth 100000 in
theorem b_Mo_lay_83 {g : Ctx} {x2 : Int} {x3 : Int} {x4 : Int} {x5 : Int} {M : Mem} {Q : Int → Mem → Prop} (hx2 : InR x2) (hx3 : InR x3) (hx4 : InR x4) (hx5 : InR x5) (h : ((((gI M (530) (2)) ≤ x5) → K_Mo_takes g x4 x3 M (fun M3 => WT M3 → (0 ≤ x4 ∧ x4 < 12) ∧ P_Mo_lay g 68 [(0, vr g (530)), (2, vi (gI M3 (545) (x4.toNat))), (3, vi (x3 + 1))] [] M3 Q)) ∧ ((¬ ((gI M (530) (2)) ≤ x5)) → (0 ≤ x5 ∧ x5 < 12) ∧ ((((gI M (545) (x5.toNat)) ≤ x2) → P_Mo_lay g 83 [(0, vr g (530)), (2, vi (x2)), (3, vi (x3)), (4, vi (x4)), (5, vi (x5 + 1))] [] M Q) ∧ ((¬ ((gI M (545) (x5.toNat)) ≤ x2)) → (((x4 = (-4)) → P_Mo_lay g 83 [(0, vr g (530)), (2, vi (x2)), (3, vi (x3)), (4, vi (x5)), (5, vi (x5 + 1))] [] M Q) ∧ ((¬ (x4 = (-4))) → (0 ≤ x4 ∧ x4 < 12) ∧ ((((gI M (545) (x4.toNat)) ≤ (gI M (545) (x5.toNat))) → P_Mo_lay g 83 [(0, vr g (530)), (2, vi (x2)), (3, vi (x3)), (4, vi (x4)), (5, vi (x5 + 1))] [] M Q) ∧ ((¬ ((gI M (545) (x4.toNat)) ≤ (gI M (545) (x5.toNat)))) → P_Mo_lay g 83 [(0, vr g (530)), (2, vi (x2)), (3, vi (x3)), (4, vi (x5)), (5, vi (x5 + 1))] [] M Q))))))))) : P_Mo_lay g 83 [(0, vr g (530)), (2, vi (x2)), (3, vi (x3)), (4, vi (x4)), (5, vi (x5))] [] M Q := by
  refine w_wt (fun hw => ?_)
  refine w_iload dX11_lay_83 4 rfl ?_
  refine w_aload_n dX11_lay_85 0 rfl ?_
  refine w_getI (ci := 11) (k := 2) dX11_lay_86 rfl fi11 (by decide) q906 s530 rfl l530 ?_
  refine w_icmp_ge (tgt := 142) dX11_lay_89 (by decide) hx5 (hw.int _ _) (fun c1 => ?_) (fun c1 => ?_)
  · replace h := h.1 c1
    refine w_aload_n dX11_lay_142 0 rfl ?_
    refine w_iload dX11_lay_143 3 rfl ?_
    refine w_iload_n dX11_lay_145 2 rfl ?_
    refine c_Mo_takes dX11_lay_146 q900 (by decide) (Nat.le_of_ble_eq_true rfl) h (fun M3 h hwM3 => ?_)
    replace h := h hwM3
    refine w_aload_n dX11_lay_149 0 rfl ?_
    refine w_getS (ci := 11) (k := 18) dX11_lay_150 rfl fi11 (by decide) q922 s530 rfl l530 ?_
    refine w_iload dX11_lay_153 3 rfl ?_
    obtain ⟨i4, h⟩ := h
    refine w_iald dX11_lay_155 s545 l545 (by decide) i4.1 i4.2 ?_
    refine w_istore_n (lv' := [(2, vi (gI M3 (545) (x4.toNat))), (0, vr g (530)), (3, vi (x3)), (4, vi (x4)), (5, vi (x5))]) (i := 2) dX11_lay_156 rfl (by decide) rfl ?_
    refine w_iinc (lv' := [(3, vi (x3 + 1)), (2, vi (gI M3 (545) (x4.toNat))), (0, vr g (530)), (4, vi (x4)), (5, vi (x5))]) dX11_lay_157 2 rfl (by decide) rfl ?_
    refine w_goto (tgt := 68) dX11_lay_160 (by decide) ?_
    refine w_lv [2, 1, 0] rfl ?_
    exact h
  · replace h := h.2 c1
    refine w_aload_n dX11_lay_92 0 rfl ?_
    refine w_getS (ci := 11) (k := 18) dX11_lay_93 rfl fi11 (by decide) q922 s530 rfl l530 ?_
    refine w_iload dX11_lay_96 4 rfl ?_
    obtain ⟨i5, h⟩ := h
    refine w_iald dX11_lay_98 s545 l545 (by decide) i5.1 i5.2 ?_
    refine w_iload_n dX11_lay_99 1 rfl ?_
    refine w_icmp_le (tgt := 132) dX11_lay_100 (by decide) (hw.int _ _) hx2 (fun c6 => ?_) (fun c6 => ?_)
    · replace h := h.1 c6
      refine w_iload dX11_lay_132 3 rfl ?_
      refine w_istore (lv' := [(4, vi (x4)), (0, vr g (530)), (2, vi (x2)), (3, vi (x3)), (5, vi (x5))]) dX11_lay_134 (by decide) rfl ?_
      refine w_iinc (lv' := [(5, vi (x5 + 1)), (4, vi (x4)), (0, vr g (530)), (2, vi (x2)), (3, vi (x3))]) dX11_lay_136 4 rfl (by decide) rfl ?_
      refine w_goto (tgt := 83) dX11_lay_139 (by decide) ?_
      refine w_lv [2, 3, 4, 1, 0] rfl ?_
      exact h
    · replace h := h.2 c6
      refine w_iload dX11_lay_103 3 rfl ?_
      refine w_bipush dX11_lay_105 rfl ?_
      refine w_icmp_eq (tgt := 127) dX11_lay_107 (by decide) hx4 ⟨by decide, by decide⟩ (fun c7 => ?_) (fun c7 => ?_)
      · replace h := h.1 c7
        refine w_iload dX11_lay_127 4 rfl ?_
        refine w_goto (tgt := 134) dX11_lay_129 (by decide) ?_
        refine w_istore (lv' := [(4, vi (x5)), (0, vr g (530)), (2, vi (x2)), (3, vi (x3)), (5, vi (x5))]) dX11_lay_134 (by decide) rfl ?_
        refine w_iinc (lv' := [(5, vi (x5 + 1)), (4, vi (x5)), (0, vr g (530)), (2, vi (x2)), (3, vi (x3))]) dX11_lay_136 4 rfl (by decide) rfl ?_
        refine w_goto (tgt := 83) dX11_lay_139 (by decide) ?_
        refine w_lv [2, 3, 4, 1, 0] rfl ?_
        exact h
      · replace h := h.2 c7
        refine w_aload_n dX11_lay_110 0 rfl ?_
        refine w_getS (ci := 11) (k := 18) dX11_lay_111 rfl fi11 (by decide) q922 s530 rfl l530 ?_
        refine w_iload dX11_lay_114 4 rfl ?_
        refine w_iald dX11_lay_116 s545 l545 (by decide) i5.1 i5.2 ?_
        refine w_aload_n dX11_lay_117 0 rfl ?_
        refine w_getS (ci := 11) (k := 18) dX11_lay_118 rfl fi11 (by decide) q922 s530 rfl l530 ?_
        refine w_iload dX11_lay_121 3 rfl ?_
        obtain ⟨i8, h⟩ := h
        refine w_iald dX11_lay_123 s545 l545 (by decide) i8.1 i8.2 ?_
        refine w_icmp_ge (tgt := 132) dX11_lay_124 (by decide) (hw.int _ _) (hw.int _ _) (fun c9 => ?_) (fun c9 => ?_)
        · replace h := h.1 c9
          refine w_iload dX11_lay_132 3 rfl ?_
          refine w_istore (lv' := [(4, vi (x4)), (0, vr g (530)), (2, vi (x2)), (3, vi (x3)), (5, vi (x5))]) dX11_lay_134 (by decide) rfl ?_
          refine w_iinc (lv' := [(5, vi (x5 + 1)), (4, vi (x4)), (0, vr g (530)), (2, vi (x2)), (3, vi (x3))]) dX11_lay_136 4 rfl (by decide) rfl ?_
          refine w_goto (tgt := 83) dX11_lay_139 (by decide) ?_
          refine w_lv [2, 3, 4, 1, 0] rfl ?_
          exact h
        · replace h := h.2 c9
          refine w_iload dX11_lay_127 4 rfl ?_
          refine w_goto (tgt := 134) dX11_lay_129 (by decide) ?_
          refine w_istore (lv' := [(4, vi (x5)), (0, vr g (530)), (2, vi (x2)), (3, vi (x3)), (5, vi (x5))]) dX11_lay_134 (by decide) rfl ?_
          refine w_iinc (lv' := [(5, vi (x5 + 1)), (4, vi (x5)), (0, vr g (530)), (2, vi (x2)), (3, vi (x3))]) dX11_lay_136 4 rfl (by decide) rfl ?_
          refine w_goto (tgt := 83) dX11_lay_139 (by decide) ?_
          refine w_lv [2, 3, 4, 1, 0] rfl ?_
          exact h
set_option maxHeartbeats 4000000 in
set_option maxRecDepth 100000 in
theorem b_Mo_reads_0 {g : Ctx}  {M : Mem} {Q : Int → Mem → Prop}  (h : P_Mo_reads g 10 [(0, vr g (530))] [] (sI (sI M (530) (17) (0)) (530) (32) (0)) Q) : P_Mo_reads g 0 [(0, vr g (530))] [] M Q := by
  refine w_wt (fun hw => ?_)
  refine w_aload_n dX11_reads_0 0 rfl ?_
  refine w_iconst dX11_reads_1 ?_
  refine w_putI (ci := 11) (k := 17) dX11_reads_2 rfl fi11 (by decide) q921 tyX11 tyX11_ok nmX11 rfl rfl rfl ⟨by decide, by decide⟩ s530 rfl l530 ?_
  have hw1 : WT (sI M (530) (17) (0)) := hw.sI ⟨by decide, by decide⟩
  refine w_aload_n dX11_reads_5 0 rfl ?_
  refine w_iconst dX11_reads_6 ?_
  refine w_putI (ci := 11) (k := 32) dX11_reads_7 rfl fi11 (by decide) q936 tyX11 tyX11_ok nmX11 rfl rfl rfl ⟨by decide, by decide⟩ s530 rfl l530 ?_
  have hw2 : WT (sI (sI M (530) (17) (0)) (530) (32) (0)) := hw1.sI ⟨by decide, by decide⟩
  exact h
set_option maxHeartbeats 4000000 in
set_option maxRecDepth 100000 in
theorem b_Mo_reads_10 {g : Ctx}  {M : Mem} {Q : Int → Mem → Prop}  (h : ((((gI M (530) (0)) ≤ (gI M (530) (32))) → Q (-4) M) ∧ ((¬ ((gI M (530) (0)) ≤ (gI M (530) (32)))) → K_Mo_item g  M (fun r2 M3 => (r2 = 0 ∨ r2 = 1) → WT M3 → (((¬ r2 = 0) → P_Mo_reads g 10 [(0, vr g (530))] [] M3 Q) ∧ ((r2 = 0) → Q (gI M (530) (32)) M3)))))) : P_Mo_reads g 10 [(0, vr g (530))] [] M Q := by
  refine w_wt (fun hw => ?_)
  refine w_aload_n dX11_reads_10 0 rfl ?_
  refine w_getI (ci := 11) (k := 32) dX11_reads_11 rfl fi11 (by decide) q936 s530 rfl l530 ?_
  refine w_aload_n dX11_reads_14 0 rfl ?_
  refine w_getI (ci := 11) (k := 0) dX11_reads_15 rfl fi11 (by decide) q904 s530 rfl l530 ?_
  refine w_icmp_ge (tgt := 38) dX11_reads_18 (by decide) (hw.int _ _) (hw.int _ _) (fun c1 => ?_) (fun c1 => ?_)
  · replace h := h.1 c1
    refine w_bipush dX11_reads_38 rfl ?_
    exact w_iret dX11_reads_40 ⟨_, rfl, ⟨by decide, by decide⟩, h⟩
  · replace h := h.2 c1
    refine w_aload_n dX11_reads_21 0 rfl ?_
    refine w_getI (ci := 11) (k := 32) dX11_reads_22 rfl fi11 (by decide) q936 s530 rfl l530 ?_
    refine w_istore_n (lv' := [(1, vi (gI M (530) (32))), (0, vr g (530))]) (i := 1) dX11_reads_25 rfl (by decide) rfl ?_
    refine w_aload_n dX11_reads_26 1 rfl ?_
    refine c_Mo_item dX11_reads_27 q839 (by decide) (Nat.le_of_ble_eq_true rfl) h (fun r2 M3 h hr2 hwM3 => ?_)
    replace h := h hr2 hwM3
    refine w_if_ne (tgt := 35) dX11_reads_30 (by decide) (inr_z hr2) (fun c4 => ?_) (fun c4 => ?_)
    · replace h := h.1 c4
      refine w_goto (tgt := 10) dX11_reads_35 (by decide) ?_
      refine w_lv [1] rfl ?_
      exact h
    · replace h := h.2 c4
      refine w_iload_n dX11_reads_33 0 rfl ?_
      exact w_iret dX11_reads_34 ⟨_, rfl, (hw.int _ _), h⟩
set_option maxHeartbeats 4000000 in
set_option maxRecDepth 100000 in
theorem b_Mo_item_0 {g : Ctx}  {M : Mem} {Q : Int → Mem → Prop}  (h : K_Mo_next g  M (fun r1 M2 => InR r1 → WT M2 → (InR ((gI M2 (530) (32)) + 1)) ∧ (((r1 = 110) → K_Mo_readsName g  (sI M2 (530) (32) ((gI M2 (530) (32)) + 1)) (fun r6 M7 => (r6 = 0 ∨ r6 = 1) → WT M7 → (((r6 = 0) → Q 0 M7) ∧ ((¬ (r6 = 0)) → K_Mo_comes g 58 M7 (fun r9 M10 => (r9 = 0 ∨ r9 = 1) → WT M10 → (((¬ r9 = 0) → K_Mo_slotOf g (gI M10 (530) (33)) M10 (fun r12 M13 => InR r12 → WT M13 → (((¬ r12 = (-4)) → (((¬ r1 = 110) → (((¬ r1 = 97) → K_Mo_exchangersOf g r12 M13 (fun r17 M18 => (r17 = 0 ∨ r17 = 1) → WT M18 → (((r17 = 0) → Q 0 M18) ∧ ((¬ (r17 = 0)) → K_Mo_comes g 59 M18 (fun r20 M21 => (r20 = 0 ∨ r20 = 1) → WT M21 → (((r20 = 0) → Q 0 M21) ∧ ((¬ (r20 = 0)) → Q 1 M21))))))) ∧ ((r1 = 97) → K_Mo_hostsOf g r12 M13 (fun r23 M24 => (r23 = 0 ∨ r23 = 1) → WT M24 → (((r23 = 0) → Q 0 M24) ∧ ((¬ (r23 = 0)) → K_Mo_comes g 59 M24 (fun r26 M27 => (r26 = 0 ∨ r26 = 1) → WT M27 → (((r26 = 0) → Q 0 M27) ∧ ((¬ (r26 = 0)) → Q 1 M27))))))))) ∧ ((r1 = 110) → K_Mo_rulesOf g r12 M13 (fun r29 M30 => (r29 = 0 ∨ r29 = 1) → WT M30 → (((r29 = 0) → Q 0 M30) ∧ ((¬ (r29 = 0)) → K_Mo_comes g 59 M30 (fun r32 M33 => (r32 = 0 ∨ r32 = 1) → WT M33 → (((r32 = 0) → Q 0 M33) ∧ ((¬ (r32 = 0)) → Q 1 M33))))))))) ∧ ((r12 = (-4)) → Q 0 M13)))) ∧ ((r9 = 0) → Q 0 M10))))))) ∧ ((¬ (r1 = 110)) → (((r1 = 97) → K_Mo_readsName g  (sI M2 (530) (32) ((gI M2 (530) (32)) + 1)) (fun r36 M37 => (r36 = 0 ∨ r36 = 1) → WT M37 → (((r36 = 0) → Q 0 M37) ∧ ((¬ (r36 = 0)) → K_Mo_comes g 58 M37 (fun r39 M40 => (r39 = 0 ∨ r39 = 1) → WT M40 → (((¬ r39 = 0) → K_Mo_slotOf g (gI M40 (530) (33)) M40 (fun r42 M43 => InR r42 → WT M43 → (((¬ r42 = (-4)) → (((¬ r1 = 110) → (((¬ r1 = 97) → K_Mo_exchangersOf g r42 M43 (fun r47 M48 => (r47 = 0 ∨ r47 = 1) → WT M48 → (((r47 = 0) → Q 0 M48) ∧ ((¬ (r47 = 0)) → K_Mo_comes g 59 M48 (fun r50 M51 => (r50 = 0 ∨ r50 = 1) → WT M51 → (((r50 = 0) → Q 0 M51) ∧ ((¬ (r50 = 0)) → Q 1 M51))))))) ∧ ((r1 = 97) → K_Mo_hostsOf g r42 M43 (fun r53 M54 => (r53 = 0 ∨ r53 = 1) → WT M54 → (((r53 = 0) → Q 0 M54) ∧ ((¬ (r53 = 0)) → K_Mo_comes g 59 M54 (fun r56 M57 => (r56 = 0 ∨ r56 = 1) → WT M57 → (((r56 = 0) → Q 0 M57) ∧ ((¬ (r56 = 0)) → Q 1 M57))))))))) ∧ ((r1 = 110) → K_Mo_rulesOf g r42 M43 (fun r59 M60 => (r59 = 0 ∨ r59 = 1) → WT M60 → (((r59 = 0) → Q 0 M60) ∧ ((¬ (r59 = 0)) → K_Mo_comes g 59 M60 (fun r62 M63 => (r62 = 0 ∨ r62 = 1) → WT M63 → (((r62 = 0) → Q 0 M63) ∧ ((¬ (r62 = 0)) → Q 1 M63))))))))) ∧ ((r42 = (-4)) → Q 0 M43)))) ∧ ((r39 = 0) → Q 0 M40))))))) ∧ ((¬ (r1 = 97)) → (((¬ r1 = 120) → Q 0 (sI M2 (530) (32) ((gI M2 (530) (32)) + 1))) ∧ ((r1 = 120) → K_Mo_readsName g  (sI M2 (530) (32) ((gI M2 (530) (32)) + 1)) (fun r66 M67 => (r66 = 0 ∨ r66 = 1) → WT M67 → (((r66 = 0) → Q 0 M67) ∧ ((¬ (r66 = 0)) → K_Mo_comes g 58 M67 (fun r69 M70 => (r69 = 0 ∨ r69 = 1) → WT M70 → (((¬ r69 = 0) → K_Mo_slotOf g (gI M70 (530) (33)) M70 (fun r72 M73 => InR r72 → WT M73 → (((¬ r72 = (-4)) → (((¬ r1 = 110) → (((¬ r1 = 97) → K_Mo_exchangersOf g r72 M73 (fun r77 M78 => (r77 = 0 ∨ r77 = 1) → WT M78 → (((r77 = 0) → Q 0 M78) ∧ ((¬ (r77 = 0)) → K_Mo_comes g 59 M78 (fun r80 M81 => (r80 = 0 ∨ r80 = 1) → WT M81 → (((r80 = 0) → Q 0 M81) ∧ ((¬ (r80 = 0)) → Q 1 M81))))))) ∧ ((r1 = 97) → K_Mo_hostsOf g r72 M73 (fun r83 M84 => (r83 = 0 ∨ r83 = 1) → WT M84 → (((r83 = 0) → Q 0 M84) ∧ ((¬ (r83 = 0)) → K_Mo_comes g 59 M84 (fun r86 M87 => (r86 = 0 ∨ r86 = 1) → WT M87 → (((r86 = 0) → Q 0 M87) ∧ ((¬ (r86 = 0)) → Q 1 M87))))))))) ∧ ((r1 = 110) → K_Mo_rulesOf g r72 M73 (fun r89 M90 => (r89 = 0 ∨ r89 = 1) → WT M90 → (((r89 = 0) → Q 0 M90) ∧ ((¬ (r89 = 0)) → K_Mo_comes g 59 M90 (fun r92 M93 => (r92 = 0 ∨ r92 = 1) → WT M93 → (((r92 = 0) → Q 0 M93) ∧ ((¬ (r92 = 0)) → Q 1 M93))))))))) ∧ ((r72 = (-4)) → Q 0 M73)))) ∧ ((r69 = 0) → Q 0 M70)))))))))))))) : P_Mo_item g 0 [(0, vr g (530))] [] M Q := by
  refine w_wt (fun hw => ?_)
  refine w_aload_n dX11_item_0 0 rfl ?_
  refine c_Mo_next dX11_item_1 q843 (by decide) (Nat.le_of_ble_eq_true rfl) h (fun r1 M2 h hr1 hwM2 => ?_)
  replace h := h hr1 hwM2
  refine w_istore_n (lv' := [(1, vi (r1)), (0, vr g (530))]) (i := 1) dX11_item_4 rfl (by decide) rfl ?_
  refine w_aload_n dX11_item_5 1 rfl ?_
  refine w_dup dX11_item_6 rfl ?_
  refine w_getI (ci := 11) (k := 32) dX11_item_7 rfl fi11 (by decide) q936 s530 rfl l530 ?_
  refine w_iconst dX11_item_10 ?_
  refine w_iadd dX11_item_11 ?_
  obtain ⟨i3, h⟩ := h
  refine w_putI (ci := 11) (k := 32) dX11_item_12 rfl fi11 (by decide) q936 tyX11 tyX11_ok nmX11 rfl rfl rfl i3 s530 rfl l530 ?_
  have hw4 : WT (sI M2 (530) (32) ((gI M2 (530) (32)) + 1)) := hwM2.sI i3
  refine w_iload_n dX11_item_15 0 rfl ?_
  refine w_bipush dX11_item_16 rfl ?_
  refine w_icmp_eq (tgt := 33) dX11_item_18 (by decide) hr1 ⟨by decide, by decide⟩ (fun c5 => ?_) (fun c5 => ?_)
  · replace h := h.1 c5
    refine w_aload_n dX11_item_33 1 rfl ?_
    refine c_Mo_readsName dX11_item_34 q847 (by decide) (Nat.le_of_ble_eq_true rfl) h (fun r6 M7 h hr6 hwM7 => ?_)
    replace h := h hr6 hwM7
    refine w_if_eq (tgt := 49) dX11_item_37 (by decide) (inr_z hr6) (fun c8 => ?_) (fun c8 => ?_)
    · replace h := h.1 c8
      refine w_iconst dX11_item_49 ?_
      exact w_zret dX11_item_50 (Or.inl rfl) ⟨_, rfl, (Or.inl rfl), h⟩
    · replace h := h.2 c8
      refine w_aload_n dX11_item_40 1 rfl ?_
      refine w_bipush dX11_item_41 rfl ?_
      refine c_Mo_comes dX11_item_43 q858 (by decide) (Nat.le_of_ble_eq_true rfl) h (fun r9 M10 h hr9 hwM10 => ?_)
      replace h := h hr9 hwM10
      refine w_if_ne (tgt := 51) dX11_item_46 (by decide) (inr_z hr9) (fun c11 => ?_) (fun c11 => ?_)
      · replace h := h.1 c11
        refine w_aload_n dX11_item_51 1 rfl ?_
        refine w_aload_n dX11_item_52 1 rfl ?_
        refine w_getI (ci := 11) (k := 33) dX11_item_53 rfl fi11 (by decide) q937 s530 rfl l530 ?_
        refine c_Mo_slotOf dX11_item_56 q862 (by decide) (Nat.le_of_ble_eq_true rfl) h (fun r12 M13 h hr12 hwM13 => ?_)
        replace h := h hr12 hwM13
        refine w_istore_n (lv' := [(2, vi (r12)), (1, vi (r1)), (0, vr g (530))]) (i := 2) dX11_item_59 rfl (by decide) rfl ?_
        refine w_iload_n dX11_item_60 0 rfl ?_
        refine w_bipush dX11_item_61 rfl ?_
        refine w_icmp_ne (tgt := 68) dX11_item_63 (by decide) hr12 ⟨by decide, by decide⟩ (fun c14 => ?_) (fun c14 => ?_)
        · replace h := h.1 c14
          refine w_iload_n dX11_item_68 1 rfl ?_
          refine w_bipush dX11_item_69 rfl ?_
          refine w_icmp_ne (tgt := 82) dX11_item_71 (by decide) hr1 ⟨by decide, by decide⟩ (fun c15 => ?_) (fun c15 => ?_)
          · replace h := h.1 c15
            refine w_iload_n dX11_item_82 1 rfl ?_
            refine w_bipush dX11_item_83 rfl ?_
            refine w_icmp_ne (tgt := 96) dX11_item_85 (by decide) hr1 ⟨by decide, by decide⟩ (fun c16 => ?_) (fun c16 => ?_)
            · replace h := h.1 c16
              refine w_aload_n dX11_item_96 2 rfl ?_
              refine w_iload_n dX11_item_97 0 rfl ?_
              refine c_Mo_exchangersOf dX11_item_98 q896 (by decide) (Nat.le_of_ble_eq_true rfl) h (fun r17 M18 h hr17 hwM18 => ?_)
              replace h := h hr17 hwM18
              refine w_istore_n (lv' := [(3, vi (r17)), (2, vi (r12)), (1, vi (r1)), (0, vr g (530))]) (i := 3) dX11_item_101 rfl (by decide) rfl ?_
              refine w_iload_n dX11_item_102 0 rfl ?_
              refine w_if_eq (tgt := 119) dX11_item_103 (by decide) (inr_z hr17) (fun c19 => ?_) (fun c19 => ?_)
              · replace h := h.1 c19
                refine w_iconst dX11_item_119 ?_
                exact w_zret dX11_item_120 (Or.inl rfl) ⟨_, rfl, (Or.inl rfl), h⟩
              · replace h := h.2 c19
                refine w_aload_n dX11_item_106 3 rfl ?_
                refine w_bipush dX11_item_107 rfl ?_
                refine c_Mo_comes dX11_item_109 q858 (by decide) (Nat.le_of_ble_eq_true rfl) h (fun r20 M21 h hr20 hwM21 => ?_)
                replace h := h hr20 hwM21
                refine w_if_eq (tgt := 119) dX11_item_112 (by decide) (inr_z hr20) (fun c22 => ?_) (fun c22 => ?_)
                · replace h := h.1 c22
                  refine w_iconst dX11_item_119 ?_
                  exact w_zret dX11_item_120 (Or.inl rfl) ⟨_, rfl, (Or.inl rfl), h⟩
                · replace h := h.2 c22
                  refine w_iconst dX11_item_115 ?_
                  refine w_goto (tgt := 120) dX11_item_116 (by decide) ?_
                  exact w_zret dX11_item_120 (Or.inr rfl) ⟨_, rfl, (Or.inr rfl), h⟩
            · replace h := h.2 c16
              refine w_aload_n dX11_item_88 2 rfl ?_
              refine w_iload_n dX11_item_89 0 rfl ?_
              refine c_Mo_hostsOf dX11_item_90 q892 (by decide) (Nat.le_of_ble_eq_true rfl) h (fun r23 M24 h hr23 hwM24 => ?_)
              replace h := h hr23 hwM24
              refine w_goto (tgt := 101) dX11_item_93 (by decide) ?_
              refine w_istore_n (lv' := [(3, vi (r23)), (2, vi (r12)), (1, vi (r1)), (0, vr g (530))]) (i := 3) dX11_item_101 rfl (by decide) rfl ?_
              refine w_iload_n dX11_item_102 0 rfl ?_
              refine w_if_eq (tgt := 119) dX11_item_103 (by decide) (inr_z hr23) (fun c25 => ?_) (fun c25 => ?_)
              · replace h := h.1 c25
                refine w_iconst dX11_item_119 ?_
                exact w_zret dX11_item_120 (Or.inl rfl) ⟨_, rfl, (Or.inl rfl), h⟩
              · replace h := h.2 c25
                refine w_aload_n dX11_item_106 3 rfl ?_
                refine w_bipush dX11_item_107 rfl ?_
                refine c_Mo_comes dX11_item_109 q858 (by decide) (Nat.le_of_ble_eq_true rfl) h (fun r26 M27 h hr26 hwM27 => ?_)
                replace h := h hr26 hwM27
                refine w_if_eq (tgt := 119) dX11_item_112 (by decide) (inr_z hr26) (fun c28 => ?_) (fun c28 => ?_)
                · replace h := h.1 c28
                  refine w_iconst dX11_item_119 ?_
                  exact w_zret dX11_item_120 (Or.inl rfl) ⟨_, rfl, (Or.inl rfl), h⟩
                · replace h := h.2 c28
                  refine w_iconst dX11_item_115 ?_
                  refine w_goto (tgt := 120) dX11_item_116 (by decide) ?_
                  exact w_zret dX11_item_120 (Or.inr rfl) ⟨_, rfl, (Or.inr rfl), h⟩
          · replace h := h.2 c15
            refine w_aload_n dX11_item_74 2 rfl ?_
            refine w_iload_n dX11_item_75 0 rfl ?_
            refine c_Mo_rulesOf dX11_item_76 q866 (by decide) (Nat.le_of_ble_eq_true rfl) h (fun r29 M30 h hr29 hwM30 => ?_)
            replace h := h hr29 hwM30
            refine w_goto (tgt := 101) dX11_item_79 (by decide) ?_
            refine w_istore_n (lv' := [(3, vi (r29)), (2, vi (r12)), (1, vi (r1)), (0, vr g (530))]) (i := 3) dX11_item_101 rfl (by decide) rfl ?_
            refine w_iload_n dX11_item_102 0 rfl ?_
            refine w_if_eq (tgt := 119) dX11_item_103 (by decide) (inr_z hr29) (fun c31 => ?_) (fun c31 => ?_)
            · replace h := h.1 c31
              refine w_iconst dX11_item_119 ?_
              exact w_zret dX11_item_120 (Or.inl rfl) ⟨_, rfl, (Or.inl rfl), h⟩
            · replace h := h.2 c31
              refine w_aload_n dX11_item_106 3 rfl ?_
              refine w_bipush dX11_item_107 rfl ?_
              refine c_Mo_comes dX11_item_109 q858 (by decide) (Nat.le_of_ble_eq_true rfl) h (fun r32 M33 h hr32 hwM33 => ?_)
              replace h := h hr32 hwM33
              refine w_if_eq (tgt := 119) dX11_item_112 (by decide) (inr_z hr32) (fun c34 => ?_) (fun c34 => ?_)
              · replace h := h.1 c34
                refine w_iconst dX11_item_119 ?_
                exact w_zret dX11_item_120 (Or.inl rfl) ⟨_, rfl, (Or.inl rfl), h⟩
              · replace h := h.2 c34
                refine w_iconst dX11_item_115 ?_
                refine w_goto (tgt := 120) dX11_item_116 (by decide) ?_
                exact w_zret dX11_item_120 (Or.inr rfl) ⟨_, rfl, (Or.inr rfl), h⟩
        · replace h := h.2 c14
          refine w_iconst dX11_item_66 ?_
          exact w_zret dX11_item_67 (Or.inl rfl) ⟨_, rfl, (Or.inl rfl), h⟩
      · replace h := h.2 c11
        refine w_iconst dX11_item_49 ?_
        exact w_zret dX11_item_50 (Or.inl rfl) ⟨_, rfl, (Or.inl rfl), h⟩
  · replace h := h.2 c5
    refine w_iload_n dX11_item_21 0 rfl ?_
    refine w_bipush dX11_item_22 rfl ?_
    refine w_icmp_eq (tgt := 33) dX11_item_24 (by decide) hr1 ⟨by decide, by decide⟩ (fun c35 => ?_) (fun c35 => ?_)
    · replace h := h.1 c35
      refine w_aload_n dX11_item_33 1 rfl ?_
      refine c_Mo_readsName dX11_item_34 q847 (by decide) (Nat.le_of_ble_eq_true rfl) h (fun r36 M37 h hr36 hwM37 => ?_)
      replace h := h hr36 hwM37
      refine w_if_eq (tgt := 49) dX11_item_37 (by decide) (inr_z hr36) (fun c38 => ?_) (fun c38 => ?_)
      · replace h := h.1 c38
        refine w_iconst dX11_item_49 ?_
        exact w_zret dX11_item_50 (Or.inl rfl) ⟨_, rfl, (Or.inl rfl), h⟩
      · replace h := h.2 c38
        refine w_aload_n dX11_item_40 1 rfl ?_
        refine w_bipush dX11_item_41 rfl ?_
        refine c_Mo_comes dX11_item_43 q858 (by decide) (Nat.le_of_ble_eq_true rfl) h (fun r39 M40 h hr39 hwM40 => ?_)
        replace h := h hr39 hwM40
        refine w_if_ne (tgt := 51) dX11_item_46 (by decide) (inr_z hr39) (fun c41 => ?_) (fun c41 => ?_)
        · replace h := h.1 c41
          refine w_aload_n dX11_item_51 1 rfl ?_
          refine w_aload_n dX11_item_52 1 rfl ?_
          refine w_getI (ci := 11) (k := 33) dX11_item_53 rfl fi11 (by decide) q937 s530 rfl l530 ?_
          refine c_Mo_slotOf dX11_item_56 q862 (by decide) (Nat.le_of_ble_eq_true rfl) h (fun r42 M43 h hr42 hwM43 => ?_)
          replace h := h hr42 hwM43
          refine w_istore_n (lv' := [(2, vi (r42)), (1, vi (r1)), (0, vr g (530))]) (i := 2) dX11_item_59 rfl (by decide) rfl ?_
          refine w_iload_n dX11_item_60 0 rfl ?_
          refine w_bipush dX11_item_61 rfl ?_
          refine w_icmp_ne (tgt := 68) dX11_item_63 (by decide) hr42 ⟨by decide, by decide⟩ (fun c44 => ?_) (fun c44 => ?_)
          · replace h := h.1 c44
            refine w_iload_n dX11_item_68 1 rfl ?_
            refine w_bipush dX11_item_69 rfl ?_
            refine w_icmp_ne (tgt := 82) dX11_item_71 (by decide) hr1 ⟨by decide, by decide⟩ (fun c45 => ?_) (fun c45 => ?_)
            · replace h := h.1 c45
              refine w_iload_n dX11_item_82 1 rfl ?_
              refine w_bipush dX11_item_83 rfl ?_
              refine w_icmp_ne (tgt := 96) dX11_item_85 (by decide) hr1 ⟨by decide, by decide⟩ (fun c46 => ?_) (fun c46 => ?_)
              · replace h := h.1 c46
                refine w_aload_n dX11_item_96 2 rfl ?_
                refine w_iload_n dX11_item_97 0 rfl ?_
                refine c_Mo_exchangersOf dX11_item_98 q896 (by decide) (Nat.le_of_ble_eq_true rfl) h (fun r47 M48 h hr47 hwM48 => ?_)
                replace h := h hr47 hwM48
                refine w_istore_n (lv' := [(3, vi (r47)), (2, vi (r42)), (1, vi (r1)), (0, vr g (530))]) (i := 3) dX11_item_101 rfl (by decide) rfl ?_
                refine w_iload_n dX11_item_102 0 rfl ?_
                refine w_if_eq (tgt := 119) dX11_item_103 (by decide) (inr_z hr47) (fun c49 => ?_) (fun c49 => ?_)
                · replace h := h.1 c49
                  refine w_iconst dX11_item_119 ?_
                  exact w_zret dX11_item_120 (Or.inl rfl) ⟨_, rfl, (Or.inl rfl), h⟩
                · replace h := h.2 c49
                  refine w_aload_n dX11_item_106 3 rfl ?_
                  refine w_bipush dX11_item_107 rfl ?_
                  refine c_Mo_comes dX11_item_109 q858 (by decide) (Nat.le_of_ble_eq_true rfl) h (fun r50 M51 h hr50 hwM51 => ?_)
                  replace h := h hr50 hwM51
                  refine w_if_eq (tgt := 119) dX11_item_112 (by decide) (inr_z hr50) (fun c52 => ?_) (fun c52 => ?_)
                  · replace h := h.1 c52
                    refine w_iconst dX11_item_119 ?_
                    exact w_zret dX11_item_120 (Or.inl rfl) ⟨_, rfl, (Or.inl rfl), h⟩
                  · replace h := h.2 c52
                    refine w_iconst dX11_item_115 ?_
                    refine w_goto (tgt := 120) dX11_item_116 (by decide) ?_
                    exact w_zret dX11_item_120 (Or.inr rfl) ⟨_, rfl, (Or.inr rfl), h⟩
              · replace h := h.2 c46
                refine w_aload_n dX11_item_88 2 rfl ?_
                refine w_iload_n dX11_item_89 0 rfl ?_
                refine c_Mo_hostsOf dX11_item_90 q892 (by decide) (Nat.le_of_ble_eq_true rfl) h (fun r53 M54 h hr53 hwM54 => ?_)
                replace h := h hr53 hwM54
                refine w_goto (tgt := 101) dX11_item_93 (by decide) ?_
                refine w_istore_n (lv' := [(3, vi (r53)), (2, vi (r42)), (1, vi (r1)), (0, vr g (530))]) (i := 3) dX11_item_101 rfl (by decide) rfl ?_
                refine w_iload_n dX11_item_102 0 rfl ?_
                refine w_if_eq (tgt := 119) dX11_item_103 (by decide) (inr_z hr53) (fun c55 => ?_) (fun c55 => ?_)
                · replace h := h.1 c55
                  refine w_iconst dX11_item_119 ?_
                  exact w_zret dX11_item_120 (Or.inl rfl) ⟨_, rfl, (Or.inl rfl), h⟩
                · replace h := h.2 c55
                  refine w_aload_n dX11_item_106 3 rfl ?_
                  refine w_bipush dX11_item_107 rfl ?_
                  refine c_Mo_comes dX11_item_109 q858 (by decide) (Nat.le_of_ble_eq_true rfl) h (fun r56 M57 h hr56 hwM57 => ?_)
                  replace h := h hr56 hwM57
                  refine w_if_eq (tgt := 119) dX11_item_112 (by decide) (inr_z hr56) (fun c58 => ?_) (fun c58 => ?_)
                  · replace h := h.1 c58
                    refine w_iconst dX11_item_119 ?_
                    exact w_zret dX11_item_120 (Or.inl rfl) ⟨_, rfl, (Or.inl rfl), h⟩
                  · replace h := h.2 c58
                    refine w_iconst dX11_item_115 ?_
                    refine w_goto (tgt := 120) dX11_item_116 (by decide) ?_
                    exact w_zret dX11_item_120 (Or.inr rfl) ⟨_, rfl, (Or.inr rfl), h⟩
            · replace h := h.2 c45
              refine w_aload_n dX11_item_74 2 rfl ?_
              refine w_iload_n dX11_item_75 0 rfl ?_
              refine c_Mo_rulesOf dX11_item_76 q866 (by decide) (Nat.le_of_ble_eq_true rfl) h (fun r59 M60 h hr59 hwM60 => ?_)
              replace h := h hr59 hwM60
              refine w_goto (tgt := 101) dX11_item_79 (by decide) ?_
              refine w_istore_n (lv' := [(3, vi (r59)), (2, vi (r42)), (1, vi (r1)), (0, vr g (530))]) (i := 3) dX11_item_101 rfl (by decide) rfl ?_
              refine w_iload_n dX11_item_102 0 rfl ?_
              refine w_if_eq (tgt := 119) dX11_item_103 (by decide) (inr_z hr59) (fun c61 => ?_) (fun c61 => ?_)
              · replace h := h.1 c61
                refine w_iconst dX11_item_119 ?_
                exact w_zret dX11_item_120 (Or.inl rfl) ⟨_, rfl, (Or.inl rfl), h⟩
              · replace h := h.2 c61
                refine w_aload_n dX11_item_106 3 rfl ?_
                refine w_bipush dX11_item_107 rfl ?_
                refine c_Mo_comes dX11_item_109 q858 (by decide) (Nat.le_of_ble_eq_true rfl) h (fun r62 M63 h hr62 hwM63 => ?_)
                replace h := h hr62 hwM63
                refine w_if_eq (tgt := 119) dX11_item_112 (by decide) (inr_z hr62) (fun c64 => ?_) (fun c64 => ?_)
                · replace h := h.1 c64
                  refine w_iconst dX11_item_119 ?_
                  exact w_zret dX11_item_120 (Or.inl rfl) ⟨_, rfl, (Or.inl rfl), h⟩
                · replace h := h.2 c64
                  refine w_iconst dX11_item_115 ?_
                  refine w_goto (tgt := 120) dX11_item_116 (by decide) ?_
                  exact w_zret dX11_item_120 (Or.inr rfl) ⟨_, rfl, (Or.inr rfl), h⟩
          · replace h := h.2 c44
            refine w_iconst dX11_item_66 ?_
            exact w_zret dX11_item_67 (Or.inl rfl) ⟨_, rfl, (Or.inl rfl), h⟩
        · replace h := h.2 c41
          refine w_iconst dX11_item_49 ?_
          exact w_zret dX11_item_50 (Or.inl rfl) ⟨_, rfl, (Or.inl rfl), h⟩
    · replace h := h.2 c35
      refine w_iload_n dX11_item_27 0 rfl ?_
      refine w_bipush dX11_item_28 rfl ?_
      refine w_icmp_ne (tgt := 49) dX11_item_30 (by decide) hr1 ⟨by decide, by decide⟩ (fun c65 => ?_) (fun c65 => ?_)
      · replace h := h.1 c65
        refine w_iconst dX11_item_49 ?_
        exact w_zret dX11_item_50 (Or.inl rfl) ⟨_, rfl, (Or.inl rfl), h⟩
      · replace h := h.2 c65
        refine w_aload_n dX11_item_33 1 rfl ?_
        refine c_Mo_readsName dX11_item_34 q847 (by decide) (Nat.le_of_ble_eq_true rfl) h (fun r66 M67 h hr66 hwM67 => ?_)
        replace h := h hr66 hwM67
        refine w_if_eq (tgt := 49) dX11_item_37 (by decide) (inr_z hr66) (fun c68 => ?_) (fun c68 => ?_)
        · replace h := h.1 c68
          refine w_iconst dX11_item_49 ?_
          exact w_zret dX11_item_50 (Or.inl rfl) ⟨_, rfl, (Or.inl rfl), h⟩
        · replace h := h.2 c68
          refine w_aload_n dX11_item_40 1 rfl ?_
          refine w_bipush dX11_item_41 rfl ?_
          refine c_Mo_comes dX11_item_43 q858 (by decide) (Nat.le_of_ble_eq_true rfl) h (fun r69 M70 h hr69 hwM70 => ?_)
          replace h := h hr69 hwM70
          refine w_if_ne (tgt := 51) dX11_item_46 (by decide) (inr_z hr69) (fun c71 => ?_) (fun c71 => ?_)
          · replace h := h.1 c71
            refine w_aload_n dX11_item_51 1 rfl ?_
            refine w_aload_n dX11_item_52 1 rfl ?_
            refine w_getI (ci := 11) (k := 33) dX11_item_53 rfl fi11 (by decide) q937 s530 rfl l530 ?_
            refine c_Mo_slotOf dX11_item_56 q862 (by decide) (Nat.le_of_ble_eq_true rfl) h (fun r72 M73 h hr72 hwM73 => ?_)
            replace h := h hr72 hwM73
            refine w_istore_n (lv' := [(2, vi (r72)), (1, vi (r1)), (0, vr g (530))]) (i := 2) dX11_item_59 rfl (by decide) rfl ?_
            refine w_iload_n dX11_item_60 0 rfl ?_
            refine w_bipush dX11_item_61 rfl ?_
            refine w_icmp_ne (tgt := 68) dX11_item_63 (by decide) hr72 ⟨by decide, by decide⟩ (fun c74 => ?_) (fun c74 => ?_)
            · replace h := h.1 c74
              refine w_iload_n dX11_item_68 1 rfl ?_
              refine w_bipush dX11_item_69 rfl ?_
              refine w_icmp_ne (tgt := 82) dX11_item_71 (by decide) hr1 ⟨by decide, by decide⟩ (fun c75 => ?_) (fun c75 => ?_)
              · replace h := h.1 c75
                refine w_iload_n dX11_item_82 1 rfl ?_
                refine w_bipush dX11_item_83 rfl ?_
                refine w_icmp_ne (tgt := 96) dX11_item_85 (by decide) hr1 ⟨by decide, by decide⟩ (fun c76 => ?_) (fun c76 => ?_)
                · replace h := h.1 c76
                  refine w_aload_n dX11_item_96 2 rfl ?_
                  refine w_iload_n dX11_item_97 0 rfl ?_
                  refine c_Mo_exchangersOf dX11_item_98 q896 (by decide) (Nat.le_of_ble_eq_true rfl) h (fun r77 M78 h hr77 hwM78 => ?_)
                  replace h := h hr77 hwM78
                  refine w_istore_n (lv' := [(3, vi (r77)), (2, vi (r72)), (1, vi (r1)), (0, vr g (530))]) (i := 3) dX11_item_101 rfl (by decide) rfl ?_
                  refine w_iload_n dX11_item_102 0 rfl ?_
                  refine w_if_eq (tgt := 119) dX11_item_103 (by decide) (inr_z hr77) (fun c79 => ?_) (fun c79 => ?_)
                  · replace h := h.1 c79
                    refine w_iconst dX11_item_119 ?_
                    exact w_zret dX11_item_120 (Or.inl rfl) ⟨_, rfl, (Or.inl rfl), h⟩
                  · replace h := h.2 c79
                    refine w_aload_n dX11_item_106 3 rfl ?_
                    refine w_bipush dX11_item_107 rfl ?_
                    refine c_Mo_comes dX11_item_109 q858 (by decide) (Nat.le_of_ble_eq_true rfl) h (fun r80 M81 h hr80 hwM81 => ?_)
                    replace h := h hr80 hwM81
                    refine w_if_eq (tgt := 119) dX11_item_112 (by decide) (inr_z hr80) (fun c82 => ?_) (fun c82 => ?_)
                    · replace h := h.1 c82
                      refine w_iconst dX11_item_119 ?_
                      exact w_zret dX11_item_120 (Or.inl rfl) ⟨_, rfl, (Or.inl rfl), h⟩
                    · replace h := h.2 c82
                      refine w_iconst dX11_item_115 ?_
                      refine w_goto (tgt := 120) dX11_item_116 (by decide) ?_
                      exact w_zret dX11_item_120 (Or.inr rfl) ⟨_, rfl, (Or.inr rfl), h⟩
                · replace h := h.2 c76
                  refine w_aload_n dX11_item_88 2 rfl ?_
                  refine w_iload_n dX11_item_89 0 rfl ?_
                  refine c_Mo_hostsOf dX11_item_90 q892 (by decide) (Nat.le_of_ble_eq_true rfl) h (fun r83 M84 h hr83 hwM84 => ?_)
                  replace h := h hr83 hwM84
                  refine w_goto (tgt := 101) dX11_item_93 (by decide) ?_
                  refine w_istore_n (lv' := [(3, vi (r83)), (2, vi (r72)), (1, vi (r1)), (0, vr g (530))]) (i := 3) dX11_item_101 rfl (by decide) rfl ?_
                  refine w_iload_n dX11_item_102 0 rfl ?_
                  refine w_if_eq (tgt := 119) dX11_item_103 (by decide) (inr_z hr83) (fun c85 => ?_) (fun c85 => ?_)
                  · replace h := h.1 c85
                    refine w_iconst dX11_item_119 ?_
                    exact w_zret dX11_item_120 (Or.inl rfl) ⟨_, rfl, (Or.inl rfl), h⟩
                  · replace h := h.2 c85
                    refine w_aload_n dX11_item_106 3 rfl ?_
                    refine w_bipush dX11_item_107 rfl ?_
                    refine c_Mo_comes dX11_item_109 q858 (by decide) (Nat.le_of_ble_eq_true rfl) h (fun r86 M87 h hr86 hwM87 => ?_)
                    replace h := h hr86 hwM87
                    refine w_if_eq (tgt := 119) dX11_item_112 (by decide) (inr_z hr86) (fun c88 => ?_) (fun c88 => ?_)
                    · replace h := h.1 c88
                      refine w_iconst dX11_item_119 ?_
                      exact w_zret dX11_item_120 (Or.inl rfl) ⟨_, rfl, (Or.inl rfl), h⟩
                    · replace h := h.2 c88
                      refine w_iconst dX11_item_115 ?_
                      refine w_goto (tgt := 120) dX11_item_116 (by decide) ?_
                      exact w_zret dX11_item_120 (Or.inr rfl) ⟨_, rfl, (Or.inr rfl), h⟩
              · replace h := h.2 c75
                refine w_aload_n dX11_item_74 2 rfl ?_
                refine w_iload_n dX11_item_75 0 rfl ?_
                refine c_Mo_rulesOf dX11_item_76 q866 (by decide) (Nat.le_of_ble_eq_true rfl) h (fun r89 M90 h hr89 hwM90 => ?_)
                replace h := h hr89 hwM90
                refine w_goto (tgt := 101) dX11_item_79 (by decide) ?_
                refine w_istore_n (lv' := [(3, vi (r89)), (2, vi (r72)), (1, vi (r1)), (0, vr g (530))]) (i := 3) dX11_item_101 rfl (by decide) rfl ?_
                refine w_iload_n dX11_item_102 0 rfl ?_
                refine w_if_eq (tgt := 119) dX11_item_103 (by decide) (inr_z hr89) (fun c91 => ?_) (fun c91 => ?_)
                · replace h := h.1 c91
                  refine w_iconst dX11_item_119 ?_
                  exact w_zret dX11_item_120 (Or.inl rfl) ⟨_, rfl, (Or.inl rfl), h⟩
                · replace h := h.2 c91
                  refine w_aload_n dX11_item_106 3 rfl ?_
                  refine w_bipush dX11_item_107 rfl ?_
                  refine c_Mo_comes dX11_item_109 q858 (by decide) (Nat.le_of_ble_eq_true rfl) h (fun r92 M93 h hr92 hwM93 => ?_)
                  replace h := h hr92 hwM93
                  refine w_if_eq (tgt := 119) dX11_item_112 (by decide) (inr_z hr92) (fun c94 => ?_) (fun c94 => ?_)
                  · replace h := h.1 c94
                    refine w_iconst dX11_item_119 ?_
                    exact w_zret dX11_item_120 (Or.inl rfl) ⟨_, rfl, (Or.inl rfl), h⟩
                  · replace h := h.2 c94
                    refine w_iconst dX11_item_115 ?_
                    refine w_goto (tgt := 120) dX11_item_116 (by decide) ?_
                    exact w_zret dX11_item_120 (Or.inr rfl) ⟨_, rfl, (Or.inr rfl), h⟩
            · replace h := h.2 c74
              refine w_iconst dX11_item_66 ?_
              exact w_zret dX11_item_67 (Or.inl rfl) ⟨_, rfl, (Or.inl rfl), h⟩
          · replace h := h.2 c71
            refine w_iconst dX11_item_49 ?_
            exact w_zret dX11_item_50 (Or.inl rfl) ⟨_, rfl, (Or.inl rfl), h⟩
set_option maxHeartbeats 4000000 in
set_option maxRecDepth 100000 in
theorem b_Mo_next_0 {g : Ctx}  {M : Mem} {Q : Int → Mem → Prop}  (h : ((((gI M (530) (0)) ≤ (gI M (530) (32))) → Q 0 M) ∧ ((¬ ((gI M (530) (0)) ≤ (gI M (530) (32)))) → (0 ≤ (gI M (530) (32)) ∧ (gI M (530) (32)) < 240) ∧ Q (gI M (531) ((gI M (530) (32)).toNat)) M))) : P_Mo_next g 0 [(0, vr g (530))] [] M Q := by
  refine w_wt (fun hw => ?_)
  refine w_aload_n dX11_next_0 0 rfl ?_
  refine w_getI (ci := 11) (k := 32) dX11_next_1 rfl fi11 (by decide) q936 s530 rfl l530 ?_
  refine w_aload_n dX11_next_4 0 rfl ?_
  refine w_getI (ci := 11) (k := 0) dX11_next_5 rfl fi11 (by decide) q904 s530 rfl l530 ?_
  refine w_icmp_ge (tgt := 23) dX11_next_8 (by decide) (hw.int _ _) (hw.int _ _) (fun c1 => ?_) (fun c1 => ?_)
  · replace h := h.1 c1
    refine w_iconst dX11_next_23 ?_
    exact w_iret dX11_next_24 ⟨_, rfl, ⟨by decide, by decide⟩, h⟩
  · replace h := h.2 c1
    refine w_aload_n dX11_next_11 0 rfl ?_
    refine w_getS (ci := 11) (k := 1) dX11_next_12 rfl fi11 (by decide) q905 s530 rfl l530 ?_
    refine w_aload_n dX11_next_15 0 rfl ?_
    refine w_getI (ci := 11) (k := 32) dX11_next_16 rfl fi11 (by decide) q936 s530 rfl l530 ?_
    obtain ⟨i2, h⟩ := h
    refine w_iald dX11_next_19 s531 l531 (by decide) i2.1 i2.2 ?_
    refine w_goto (tgt := 24) dX11_next_20 (by decide) ?_
    exact w_iret dX11_next_24 ⟨_, rfl, (hw.int _ _), h⟩
set_option maxHeartbeats 4000000 in
set_option maxRecDepth 100000 in
theorem b_Mo_readsName_0 {g : Ctx}  {M : Mem} {Q : Int → Mem → Prop}  (h : P_Mo_readsName g 7 [(0, vr g (530)), (1, vi (0))] [] (sI M (530) (33) (0)) Q) : P_Mo_readsName g 0 [(0, vr g (530))] [] M Q := by
  refine w_wt (fun hw => ?_)
  refine w_iconst dX11_readsName_0 ?_
  refine w_istore_n (lv' := [(1, vi (0)), (0, vr g (530))]) (i := 1) dX11_readsName_1 rfl (by decide) rfl ?_
  refine w_aload_n dX11_readsName_2 1 rfl ?_
  refine w_iconst dX11_readsName_3 ?_
  refine w_putI (ci := 11) (k := 33) dX11_readsName_4 rfl fi11 (by decide) q937 tyX11 tyX11_ok nmX11 rfl rfl rfl ⟨by decide, by decide⟩ s530 rfl l530 ?_
  have hw1 : WT (sI M (530) (33) (0)) := hw.sI ⟨by decide, by decide⟩
  refine w_lv [1, 0] rfl ?_
  exact h
set_option maxHeartbeats 4000000 in
set_option maxRecDepth 100000 in
theorem b_Mo_readsName_7 {g : Ctx} {x1 : Int} {M : Mem} {Q : Int → Mem → Prop} (hx1 : InR x1) (h : K_Mo_next g  M (fun r1 M2 => InR r1 → WT M2 → K_Mo_isIn g r1 97 112 M2 (fun r3 M4 => (r3 = 0 ∨ r3 = 1) → WT M4 → (((r3 = 0) → K_Mo_isIn g x1 1 7 M4 (fun r6 M7 => (r6 = 0 ∨ r6 = 1) → WT M7 → Q r6 M7)) ∧ ((¬ (r3 = 0)) → (((8 ≤ x1) → K_Mo_isIn g x1 1 7 M4 (fun r9 M10 => (r9 = 0 ∨ r9 = 1) → WT M10 → Q r9 M10)) ∧ ((¬ (8 ≤ x1)) → K_Mo_next g  M4 (fun r11 M12 => InR r11 → WT M12 → K_Mo_longer g (gI M4 (530) (33)) (r11 - 97) M12 (fun r13 M14 => InR r13 → WT M14 → (InR ((gI M14 (530) (32)) + 1)) ∧ P_Mo_readsName g 7 [(0, vr g (530)), (1, vi (x1 + 1))] [] (sI (sI M14 (530) (33) (r13)) (530) (32) ((gI M14 (530) (32)) + 1)) Q))))))))) : P_Mo_readsName g 7 [(0, vr g (530)), (1, vi (x1))] [] M Q := by
  refine w_wt (fun hw => ?_)
  refine w_aload_n dX11_readsName_7 0 rfl ?_
  refine c_Mo_next dX11_readsName_8 q843 (by decide) (Nat.le_of_ble_eq_true rfl) h (fun r1 M2 h hr1 hwM2 => ?_)
  replace h := h hr1 hwM2
  refine w_bipush dX11_readsName_11 rfl ?_
  refine w_bipush dX11_readsName_13 rfl ?_
  refine c_Mo_isIn dX11_readsName_15 q851 (by decide) (Nat.le_of_ble_eq_true rfl) h (fun r3 M4 h hr3 hwM4 => ?_)
  replace h := h hr3 hwM4
  refine w_if_eq (tgt := 61) dX11_readsName_18 (by decide) (inr_z hr3) (fun c5 => ?_) (fun c5 => ?_)
  · replace h := h.1 c5
    refine w_iload_n dX11_readsName_61 1 rfl ?_
    refine w_iconst dX11_readsName_62 ?_
    refine w_bipush dX11_readsName_63 rfl ?_
    refine c_Mo_isIn dX11_readsName_65 q851 (by decide) (Nat.le_of_ble_eq_true rfl) h (fun r6 M7 h hr6 hwM7 => ?_)
    replace h := h hr6 hwM7
    exact w_zret dX11_readsName_68 hr6 ⟨_, rfl, hr6, h⟩
  · replace h := h.2 c5
    refine w_iload_n dX11_readsName_21 1 rfl ?_
    refine w_bipush dX11_readsName_22 rfl ?_
    refine w_icmp_ge (tgt := 61) dX11_readsName_24 (by decide) hx1 ⟨by decide, by decide⟩ (fun c8 => ?_) (fun c8 => ?_)
    · replace h := h.1 c8
      refine w_iload_n dX11_readsName_61 1 rfl ?_
      refine w_iconst dX11_readsName_62 ?_
      refine w_bipush dX11_readsName_63 rfl ?_
      refine c_Mo_isIn dX11_readsName_65 q851 (by decide) (Nat.le_of_ble_eq_true rfl) h (fun r9 M10 h hr9 hwM10 => ?_)
      replace h := h hr9 hwM10
      exact w_zret dX11_readsName_68 hr9 ⟨_, rfl, hr9, h⟩
    · replace h := h.2 c8
      refine w_aload_n dX11_readsName_27 0 rfl ?_
      refine w_aload_n dX11_readsName_28 0 rfl ?_
      refine w_getI (ci := 11) (k := 33) dX11_readsName_29 rfl fi11 (by decide) q937 s530 rfl l530 ?_
      refine w_aload_n dX11_readsName_32 0 rfl ?_
      refine c_Mo_next dX11_readsName_33 q843 (by decide) (Nat.le_of_ble_eq_true rfl) h (fun r11 M12 h hr11 hwM12 => ?_)
      replace h := h hr11 hwM12
      refine w_bipush dX11_readsName_36 rfl ?_
      refine w_isub dX11_readsName_38 ?_
      refine c_Mo_longer dX11_readsName_39 q854 (by decide) (Nat.le_of_ble_eq_true rfl) h (fun r13 M14 h hr13 hwM14 => ?_)
      replace h := h hr13 hwM14
      refine w_putI (ci := 11) (k := 33) dX11_readsName_42 rfl fi11 (by decide) q937 tyX11 tyX11_ok nmX11 rfl rfl rfl hr13 s530 rfl l530 ?_
      have hw15 : WT (sI M14 (530) (33) (r13)) := hwM14.sI hr13
      refine w_aload_n dX11_readsName_45 0 rfl ?_
      refine w_dup dX11_readsName_46 rfl ?_
      refine w_getI (ci := 11) (k := 32) dX11_readsName_47 rfl fi11 (by decide) q936 s530 rfl l530 ?_
      refine w_top (congrArg vi ((gI_ne _ _ _ _ _ _ (by omega)).trans rfl)) ?_
      have u16 : InR (gI M14 (530) (32)) := hwM14.int _ _
      refine w_iconst dX11_readsName_50 ?_
      refine w_iadd dX11_readsName_51 ?_
      obtain ⟨i17, h⟩ := h
      refine w_putI (ci := 11) (k := 32) dX11_readsName_52 rfl fi11 (by decide) q936 tyX11 tyX11_ok nmX11 rfl rfl rfl i17 s530 rfl l530 ?_
      have hw18 : WT (sI (sI M14 (530) (33) (r13)) (530) (32) ((gI M14 (530) (32)) + 1)) := hw15.sI i17
      refine w_iinc (lv' := [(1, vi (x1 + 1)), (0, vr g (530))]) dX11_readsName_55 1 rfl (by decide) rfl ?_
      refine w_goto (tgt := 7) dX11_readsName_58 (by decide) ?_
      refine w_lv [1, 0] rfl ?_
      exact h
set_option maxHeartbeats 4000000 in
set_option maxRecDepth 100000 in
theorem b_Mo_isIn_0 {g : Ctx} {p0 : Int} {p1 : Int} {p2 : Int} {M : Mem} {Q : Int → Mem → Prop} (hp0 : InR p0) (hp1 : InR p1) (hp2 : InR p2) (h : (((p0 < p1) → Q 0 M) ∧ ((¬ (p0 < p1)) → (((p2 < p0) → Q 0 M) ∧ ((¬ (p2 < p0)) → Q 1 M))))) : P_Mo_isIn g 0 [(0, vi (p0)), (1, vi (p1)), (2, vi (p2))] [] M Q := by
  refine w_wt (fun hw => ?_)
  refine w_iload_n dX11_isIn_0 0 rfl ?_
  refine w_iload_n dX11_isIn_1 1 rfl ?_
  refine w_icmp_lt (tgt := 14) dX11_isIn_2 (by decide) hp0 hp1 (fun c1 => ?_) (fun c1 => ?_)
  · replace h := h.1 c1
    refine w_iconst dX11_isIn_14 ?_
    exact w_zret dX11_isIn_15 (Or.inl rfl) ⟨_, rfl, (Or.inl rfl), h⟩
  · replace h := h.2 c1
    refine w_iload_n dX11_isIn_5 0 rfl ?_
    refine w_iload_n dX11_isIn_6 2 rfl ?_
    refine w_icmp_gt (tgt := 14) dX11_isIn_7 (by decide) hp0 hp2 (fun c2 => ?_) (fun c2 => ?_)
    · replace h := h.1 c2
      refine w_iconst dX11_isIn_14 ?_
      exact w_zret dX11_isIn_15 (Or.inl rfl) ⟨_, rfl, (Or.inl rfl), h⟩
    · replace h := h.2 c2
      refine w_iconst dX11_isIn_10 ?_
      refine w_goto (tgt := 15) dX11_isIn_11 (by decide) ?_
      exact w_zret dX11_isIn_15 (Or.inr rfl) ⟨_, rfl, (Or.inr rfl), h⟩
set_option maxHeartbeats 4000000 in
set_option maxRecDepth 100000 in
theorem b_Mo_longer_0 {g : Ctx} {p0 : Int} {p1 : Int} {M : Mem} {Q : Int → Mem → Prop} (hp0 : InR p0) (hp1 : InR p1) (h : (0 ≤ p0) ∧ (InR (((p1 + 1) * 24137569) + (p0 / 17))) ∧ Q (((p1 + 1) * 24137569) + (p0 / 17)) M) : P_Mo_longer g 0 [(0, vi (p0)), (1, vi (p1))] [] M Q := by
  refine w_wt (fun hw => ?_)
  refine w_iload_n dX11_longer_0 1 rfl ?_
  refine w_iconst dX11_longer_1 ?_
  refine w_iadd dX11_longer_2 ?_
  refine w_ldc (n := 24137569) dX11_longer_3 q857 ?_
  refine w_imul dX11_longer_5 ?_
  refine w_iload_n dX11_longer_6 0 rfl ?_
  refine w_bipush dX11_longer_7 rfl ?_
  obtain ⟨i1, h⟩ := h
  refine w_idiv dX11_longer_9 hp0 ⟨by decide, by decide⟩ i1 (by decide) ?_
  refine w_iadd dX11_longer_10 ?_
  obtain ⟨i2, h⟩ := h
  exact w_iret dX11_longer_11 ⟨_, rfl, i2, h⟩
set_option maxHeartbeats 4000000 in
set_option maxRecDepth 100000 in
theorem b_Mo_comes_0 {g : Ctx} {p0 : Int} {M : Mem} {Q : Int → Mem → Prop} (hp0 : InR p0) (h : K_Mo_next g  M (fun r1 M2 => InR r1 → WT M2 → (((¬ r1 = p0) → (InR ((gI M2 (530) (32)) + 0)) ∧ Q 0 (sI M2 (530) (32) ((gI M2 (530) (32)) + 0))) ∧ ((r1 = p0) → (InR ((gI M2 (530) (32)) + 1)) ∧ Q 1 (sI M2 (530) (32) ((gI M2 (530) (32)) + 1)))))) : P_Mo_comes g 0 [(0, vr g (530)), (1, vi (p0))] [] M Q := by
  refine w_wt (fun hw => ?_)
  refine w_aload_n dX11_comes_0 0 rfl ?_
  refine c_Mo_next dX11_comes_1 q843 (by decide) (Nat.le_of_ble_eq_true rfl) h (fun r1 M2 h hr1 hwM2 => ?_)
  replace h := h hr1 hwM2
  refine w_iload_n dX11_comes_4 1 rfl ?_
  refine w_icmp_ne (tgt := 12) dX11_comes_5 (by decide) hr1 hp0 (fun c3 => ?_) (fun c3 => ?_)
  · replace h := h.1 c3
    refine w_iconst dX11_comes_12 ?_
    refine w_istore_n (lv' := [(2, vi (0)), (0, vr g (530)), (1, vi (p0))]) (i := 2) dX11_comes_13 rfl (by decide) rfl ?_
    refine w_aload_n dX11_comes_14 1 rfl ?_
    refine w_dup dX11_comes_15 rfl ?_
    refine w_getI (ci := 11) (k := 32) dX11_comes_16 rfl fi11 (by decide) q936 s530 rfl l530 ?_
    refine w_iload_n dX11_comes_19 0 rfl ?_
    refine w_if_eq (tgt := 27) dX11_comes_20 (by decide) ⟨by decide, by decide⟩ (fun c => ?_) (fun c => ?_)
    · refine w_iconst dX11_comes_27 ?_
      refine w_iadd dX11_comes_28 ?_
      obtain ⟨i4, h⟩ := h
      refine w_putI (ci := 11) (k := 32) dX11_comes_29 rfl fi11 (by decide) q936 tyX11 tyX11_ok nmX11 rfl rfl rfl i4 s530 rfl l530 ?_
      have hw5 : WT (sI M2 (530) (32) ((gI M2 (530) (32)) + 0)) := hwM2.sI i4
      refine w_iload_n dX11_comes_32 0 rfl ?_
      exact w_zret dX11_comes_33 (Or.inl rfl) ⟨_, rfl, (Or.inl rfl), h⟩
    · exact absurd c (by decide)
  · replace h := h.2 c3
    refine w_iconst dX11_comes_8 ?_
    refine w_goto (tgt := 13) dX11_comes_9 (by decide) ?_
    refine w_istore_n (lv' := [(2, vi (1)), (0, vr g (530)), (1, vi (p0))]) (i := 2) dX11_comes_13 rfl (by decide) rfl ?_
    refine w_aload_n dX11_comes_14 1 rfl ?_
    refine w_dup dX11_comes_15 rfl ?_
    refine w_getI (ci := 11) (k := 32) dX11_comes_16 rfl fi11 (by decide) q936 s530 rfl l530 ?_
    refine w_iload_n dX11_comes_19 0 rfl ?_
    refine w_if_eq (tgt := 27) dX11_comes_20 (by decide) ⟨by decide, by decide⟩ (fun c => ?_) (fun c => ?_)
    · exact absurd c (by decide)
    · refine w_iconst dX11_comes_23 ?_
      refine w_goto (tgt := 28) dX11_comes_24 (by decide) ?_
      refine w_iadd dX11_comes_28 ?_
      obtain ⟨i6, h⟩ := h
      refine w_putI (ci := 11) (k := 32) dX11_comes_29 rfl fi11 (by decide) q936 tyX11 tyX11_ok nmX11 rfl rfl rfl i6 s530 rfl l530 ?_
      have hw7 : WT (sI M2 (530) (32) ((gI M2 (530) (32)) + 1)) := hwM2.sI i6
      refine w_iload_n dX11_comes_32 0 rfl ?_
      exact w_zret dX11_comes_33 (Or.inr rfl) ⟨_, rfl, (Or.inr rfl), h⟩
set_option maxHeartbeats 4000000 in
set_option maxRecDepth 100000 in
theorem b_Mo_slotOf_0 {g : Ctx} {p0 : Int} {M : Mem} {Q : Int → Mem → Prop} (hp0 : InR p0) (h : P_Mo_slotOf g 2 [(0, vr g (530)), (1, vi (p0)), (2, vi (0))] [] M Q) : P_Mo_slotOf g 0 [(0, vr g (530)), (1, vi (p0))] [] M Q := by
  refine w_wt (fun hw => ?_)
  refine w_iconst dX11_slotOf_0 ?_
  refine w_istore_n (lv' := [(2, vi (0)), (0, vr g (530)), (1, vi (p0))]) (i := 2) dX11_slotOf_1 rfl (by decide) rfl ?_
  refine w_lv [1, 2, 0] rfl ?_
  exact h
set_option maxHeartbeats 4000000 in
set_option maxRecDepth 100000 in
theorem b_Mo_slotOf_2 {g : Ctx} {x1 : Int} {x2 : Int} {M : Mem} {Q : Int → Mem → Prop} (hx1 : InR x1) (hx2 : InR x2) (h : ((((gI M (530) (17)) ≤ x2) → (((¬ (gI M (530) (17)) = 12) → (0 ≤ (gI M (530) (17)) ∧ (gI M (530) (17)) < 12) ∧ (InR ((gI M (530) (17)) + 1)) ∧ (InR (gI M (530) (17))) ∧ Q (gI M (530) (17)) (sI (sI (sI (sI (sI (sI M (545) ((gI M (530) (17)).toNat) (x1)) (546) ((gI M (530) (17)).toNat) (0)) (547) ((gI M (530) (17)).toNat) (0)) (548) ((gI M (530) (17)).toNat) (0)) (557) ((gI M (530) (17)).toNat) (0)) (530) (17) ((gI M (530) (17)) + 1))) ∧ (((gI M (530) (17)) = 12) → Q (-4) M))) ∧ ((¬ ((gI M (530) (17)) ≤ x2)) → (0 ≤ x2 ∧ x2 < 12) ∧ (((¬ (gI M (545) (x2.toNat)) = x1) → P_Mo_slotOf g 2 [(0, vr g (530)), (1, vi (x1)), (2, vi (x2 + 1))] [] M Q) ∧ (((gI M (545) (x2.toNat)) = x1) → Q x2 M))))) : P_Mo_slotOf g 2 [(0, vr g (530)), (1, vi (x1)), (2, vi (x2))] [] M Q := by
  refine w_wt (fun hw => ?_)
  refine w_iload_n dX11_slotOf_2 2 rfl ?_
  refine w_aload_n dX11_slotOf_3 0 rfl ?_
  refine w_getI (ci := 11) (k := 17) dX11_slotOf_4 rfl fi11 (by decide) q921 s530 rfl l530 ?_
  refine w_icmp_ge (tgt := 28) dX11_slotOf_7 (by decide) hx2 (hw.int _ _) (fun c1 => ?_) (fun c1 => ?_)
  · replace h := h.1 c1
    refine w_aload_n dX11_slotOf_28 0 rfl ?_
    refine w_getI (ci := 11) (k := 17) dX11_slotOf_29 rfl fi11 (by decide) q921 s530 rfl l530 ?_
    refine w_bipush dX11_slotOf_32 rfl ?_
    refine w_icmp_ne (tgt := 40) dX11_slotOf_34 (by decide) (hw.int _ _) ⟨by decide, by decide⟩ (fun c2 => ?_) (fun c2 => ?_)
    · replace h := h.1 c2
      refine w_aload_n dX11_slotOf_40 0 rfl ?_
      refine w_getS (ci := 11) (k := 18) dX11_slotOf_41 rfl fi11 (by decide) q922 s530 rfl l530 ?_
      refine w_aload_n dX11_slotOf_44 0 rfl ?_
      refine w_getI (ci := 11) (k := 17) dX11_slotOf_45 rfl fi11 (by decide) q921 s530 rfl l530 ?_
      refine w_iload_n dX11_slotOf_48 1 rfl ?_
      obtain ⟨i3, h⟩ := h
      refine w_iast dX11_slotOf_49 s545 l545 (by decide) i3.1 i3.2 hx1 ?_
      have hw4 : WT (sI M (545) ((gI M (530) (17)).toNat) (x1)) := hw.sI hx1
      refine w_aload_n dX11_slotOf_50 0 rfl ?_
      refine w_getS (ci := 11) (k := 19) dX11_slotOf_51 rfl fi11 (by decide) q923 s530 rfl l530 ?_
      refine w_aload_n dX11_slotOf_54 0 rfl ?_
      refine w_getI (ci := 11) (k := 17) dX11_slotOf_55 rfl fi11 (by decide) q921 s530 rfl l530 ?_
      refine w_top (congrArg vi ((gI_ne _ _ _ _ _ _ (by omega)).trans rfl)) ?_
      have u5 : InR (gI M (530) (17)) := hw.int _ _
      refine w_iconst dX11_slotOf_58 ?_
      refine w_iast dX11_slotOf_59 s546 l546 (by decide) i3.1 i3.2 ⟨by decide, by decide⟩ ?_
      have hw6 : WT (sI (sI M (545) ((gI M (530) (17)).toNat) (x1)) (546) ((gI M (530) (17)).toNat) (0)) := hw4.sI ⟨by decide, by decide⟩
      refine w_aload_n dX11_slotOf_60 0 rfl ?_
      refine w_getS (ci := 11) (k := 20) dX11_slotOf_61 rfl fi11 (by decide) q924 s530 rfl l530 ?_
      refine w_aload_n dX11_slotOf_64 0 rfl ?_
      refine w_getI (ci := 11) (k := 17) dX11_slotOf_65 rfl fi11 (by decide) q921 s530 rfl l530 ?_
      refine w_top (congrArg vi ((gI_ne _ _ _ _ _ _ (by omega)).trans ((gI_ne _ _ _ _ _ _ (by omega)).trans rfl))) ?_
      have u7 : InR (gI M (530) (17)) := hw.int _ _
      refine w_iconst dX11_slotOf_68 ?_
      refine w_iast dX11_slotOf_69 s547 l547 (by decide) i3.1 i3.2 ⟨by decide, by decide⟩ ?_
      have hw8 : WT (sI (sI (sI M (545) ((gI M (530) (17)).toNat) (x1)) (546) ((gI M (530) (17)).toNat) (0)) (547) ((gI M (530) (17)).toNat) (0)) := hw6.sI ⟨by decide, by decide⟩
      refine w_aload_n dX11_slotOf_70 0 rfl ?_
      refine w_getS (ci := 11) (k := 21) dX11_slotOf_71 rfl fi11 (by decide) q925 s530 rfl l530 ?_
      refine w_aload_n dX11_slotOf_74 0 rfl ?_
      refine w_getI (ci := 11) (k := 17) dX11_slotOf_75 rfl fi11 (by decide) q921 s530 rfl l530 ?_
      refine w_top (congrArg vi ((gI_ne _ _ _ _ _ _ (by omega)).trans ((gI_ne _ _ _ _ _ _ (by omega)).trans ((gI_ne _ _ _ _ _ _ (by omega)).trans rfl)))) ?_
      have u9 : InR (gI M (530) (17)) := hw.int _ _
      refine w_iconst dX11_slotOf_78 ?_
      refine w_iast dX11_slotOf_79 s548 l548 (by decide) i3.1 i3.2 ⟨by decide, by decide⟩ ?_
      have hw10 : WT (sI (sI (sI (sI M (545) ((gI M (530) (17)).toNat) (x1)) (546) ((gI M (530) (17)).toNat) (0)) (547) ((gI M (530) (17)).toNat) (0)) (548) ((gI M (530) (17)).toNat) (0)) := hw8.sI ⟨by decide, by decide⟩
      refine w_aload_n dX11_slotOf_80 0 rfl ?_
      refine w_getS (ci := 11) (k := 30) dX11_slotOf_81 rfl fi11 (by decide) q934 s530 rfl l530 ?_
      refine w_aload_n dX11_slotOf_84 0 rfl ?_
      refine w_getI (ci := 11) (k := 17) dX11_slotOf_85 rfl fi11 (by decide) q921 s530 rfl l530 ?_
      refine w_top (congrArg vi ((gI_ne _ _ _ _ _ _ (by omega)).trans ((gI_ne _ _ _ _ _ _ (by omega)).trans ((gI_ne _ _ _ _ _ _ (by omega)).trans ((gI_ne _ _ _ _ _ _ (by omega)).trans rfl))))) ?_
      have u11 : InR (gI M (530) (17)) := hw.int _ _
      refine w_iconst dX11_slotOf_88 ?_
      refine w_iast dX11_slotOf_89 s557 l557 (by decide) i3.1 i3.2 ⟨by decide, by decide⟩ ?_
      have hw12 : WT (sI (sI (sI (sI (sI M (545) ((gI M (530) (17)).toNat) (x1)) (546) ((gI M (530) (17)).toNat) (0)) (547) ((gI M (530) (17)).toNat) (0)) (548) ((gI M (530) (17)).toNat) (0)) (557) ((gI M (530) (17)).toNat) (0)) := hw10.sI ⟨by decide, by decide⟩
      refine w_aload_n dX11_slotOf_90 0 rfl ?_
      refine w_dup dX11_slotOf_91 rfl ?_
      refine w_getI (ci := 11) (k := 17) dX11_slotOf_92 rfl fi11 (by decide) q921 s530 rfl l530 ?_
      refine w_top (congrArg vi ((gI_ne _ _ _ _ _ _ (by omega)).trans ((gI_ne _ _ _ _ _ _ (by omega)).trans ((gI_ne _ _ _ _ _ _ (by omega)).trans ((gI_ne _ _ _ _ _ _ (by omega)).trans ((gI_ne _ _ _ _ _ _ (by omega)).trans rfl)))))) ?_
      have u13 : InR (gI M (530) (17)) := hw.int _ _
      refine w_iconst dX11_slotOf_95 ?_
      refine w_iadd dX11_slotOf_96 ?_
      obtain ⟨i14, h⟩ := h
      refine w_putI (ci := 11) (k := 17) dX11_slotOf_97 rfl fi11 (by decide) q921 tyX11 tyX11_ok nmX11 rfl rfl rfl i14 s530 rfl l530 ?_
      have hw15 : WT (sI (sI (sI (sI (sI (sI M (545) ((gI M (530) (17)).toNat) (x1)) (546) ((gI M (530) (17)).toNat) (0)) (547) ((gI M (530) (17)).toNat) (0)) (548) ((gI M (530) (17)).toNat) (0)) (557) ((gI M (530) (17)).toNat) (0)) (530) (17) ((gI M (530) (17)) + 1)) := hw12.sI i14
      refine w_aload_n dX11_slotOf_100 0 rfl ?_
      refine w_getI (ci := 11) (k := 17) dX11_slotOf_101 rfl fi11 (by decide) q921 s530 rfl l530 ?_
      refine w_top (congrArg vi (gI_same _ _ _ _)) ?_
      refine w_iconst dX11_slotOf_104 ?_
      refine w_isub dX11_slotOf_105 ?_
      refine w_top (congrArg vi (Int.add_sub_cancel _ _)) ?_
      obtain ⟨i16, h⟩ := h
      exact w_iret dX11_slotOf_106 ⟨_, rfl, i16, h⟩
    · replace h := h.2 c2
      refine w_bipush dX11_slotOf_37 rfl ?_
      exact w_iret dX11_slotOf_39 ⟨_, rfl, ⟨by decide, by decide⟩, h⟩
  · replace h := h.2 c1
    refine w_aload_n dX11_slotOf_10 0 rfl ?_
    refine w_getS (ci := 11) (k := 18) dX11_slotOf_11 rfl fi11 (by decide) q922 s530 rfl l530 ?_
    refine w_iload_n dX11_slotOf_14 2 rfl ?_
    obtain ⟨i17, h⟩ := h
    refine w_iald dX11_slotOf_15 s545 l545 (by decide) i17.1 i17.2 ?_
    refine w_iload_n dX11_slotOf_16 1 rfl ?_
    refine w_icmp_ne (tgt := 22) dX11_slotOf_17 (by decide) (hw.int _ _) hx1 (fun c18 => ?_) (fun c18 => ?_)
    · replace h := h.1 c18
      refine w_iinc (lv' := [(2, vi (x2 + 1)), (0, vr g (530)), (1, vi (x1))]) dX11_slotOf_22 2 rfl (by decide) rfl ?_
      refine w_goto (tgt := 2) dX11_slotOf_25 (by decide) ?_
      refine w_lv [1, 2, 0] rfl ?_
      exact h
    · replace h := h.2 c18
      refine w_iload_n dX11_slotOf_20 2 rfl ?_
      exact w_iret dX11_slotOf_21 ⟨_, rfl, hx2, h⟩
set_option maxHeartbeats 4000000 in
set_option maxRecDepth 100000 in
theorem b_Mo_rulesOf_0 {g : Ctx} {p0 : Int} {M : Mem} {Q : Int → Mem → Prop} (hp0 : InR p0) (h : (0 ≤ p0 ∧ p0 < 12) ∧ P_Mo_rulesOf g 11 [(0, vr g (530)), (1, vi (p0)), (2, vi (0)), (3, vi (1))] [] (sI M (547) (p0.toNat) (0)) Q) : P_Mo_rulesOf g 0 [(0, vr g (530)), (1, vi (p0))] [] M Q := by
  refine w_wt (fun hw => ?_)
  refine w_iconst dX11_rulesOf_0 ?_
  refine w_istore_n (lv' := [(2, vi (0)), (0, vr g (530)), (1, vi (p0))]) (i := 2) dX11_rulesOf_1 rfl (by decide) rfl ?_
  refine w_aload_n dX11_rulesOf_2 1 rfl ?_
  refine w_getS (ci := 11) (k := 20) dX11_rulesOf_3 rfl fi11 (by decide) q924 s530 rfl l530 ?_
  refine w_iload_n dX11_rulesOf_6 2 rfl ?_
  refine w_iconst dX11_rulesOf_7 ?_
  obtain ⟨i1, h⟩ := h
  refine w_iast dX11_rulesOf_8 s547 l547 (by decide) i1.1 i1.2 ⟨by decide, by decide⟩ ?_
  have hw2 : WT (sI M (547) (p0.toNat) (0)) := hw.sI ⟨by decide, by decide⟩
  refine w_iconst dX11_rulesOf_9 ?_
  refine w_istore_n (lv' := [(3, vi (1)), (2, vi (0)), (0, vr g (530)), (1, vi (p0))]) (i := 3) dX11_rulesOf_10 rfl (by decide) rfl ?_
  refine w_lv [2, 3, 1, 0] rfl ?_
  exact h
set_option maxHeartbeats 4000000 in
set_option maxRecDepth 100000 in
theorem b_Mo_rulesOf_11 {g : Ctx} {x1 : Int} {x2 : Int} {x3 : Int} {M : Mem} {Q : Int → Mem → Prop} (hx1 : InR x1) (hx2 : InR x2) (hx3 : InR x3) (h : (((x3 = 0) → (0 ≤ x1 ∧ x1 < 12) ∧ Q 1 (sI M (546) (x1.toNat) (x2))) ∧ ((¬ (x3 = 0)) → (((x2 ≤ 0) → K_Mo_next g  M (fun r5 M6 => InR r5 → WT M6 → K_Mo_signOf g r5 M6 (fun r7 M8 => InR r7 → WT M8 → (((r7 = (-4)) → Q 0 M8) ∧ ((¬ (r7 = (-4))) → (((¬ x2 = 8) → (InR ((gI M8 (530) (32)) + 1)) ∧ (0 ≤ ((8 * x1) + x2) ∧ ((8 * x1) + x2) < 96) ∧ K_Mo_asks g ((8 * x1) + x2) (sI (sI M8 (530) (32) ((gI M8 (530) (32)) + 1)) (556) (((8 * x1) + x2).toNat) (r7)) (fun r15 M16 => (r15 = 0 ∨ r15 = 1) → WT M16 → (((¬ r15 = 0) → K_Mo_comes g 44 M16 (fun r18 M19 => (r18 = 0 ∨ r18 = 1) → WT M19 → P_Mo_rulesOf g 11 [(0, vr g (530)), (1, vi (x1)), (2, vi (x2 + 1)), (3, vi (r18))] [] M19 Q)) ∧ ((r15 = 0) → Q 0 M16)))) ∧ ((x2 = 8) → Q 0 M8))))))) ∧ ((¬ (x2 ≤ 0)) → K_Mo_comes g 114 M (fun r20 M21 => (r20 = 0 ∨ r20 = 1) → WT M21 → (((r20 = 0) → K_Mo_next g  M21 (fun r23 M24 => InR r23 → WT M24 → K_Mo_signOf g r23 M24 (fun r25 M26 => InR r25 → WT M26 → (((r25 = (-4)) → Q 0 M26) ∧ ((¬ (r25 = (-4))) → (((¬ x2 = 8) → (InR ((gI M26 (530) (32)) + 1)) ∧ (0 ≤ ((8 * x1) + x2) ∧ ((8 * x1) + x2) < 96) ∧ K_Mo_asks g ((8 * x1) + x2) (sI (sI M26 (530) (32) ((gI M26 (530) (32)) + 1)) (556) (((8 * x1) + x2).toNat) (r25)) (fun r33 M34 => (r33 = 0 ∨ r33 = 1) → WT M34 → (((¬ r33 = 0) → K_Mo_comes g 44 M34 (fun r36 M37 => (r36 = 0 ∨ r36 = 1) → WT M37 → P_Mo_rulesOf g 11 [(0, vr g (530)), (1, vi (x1)), (2, vi (x2 + 1)), (3, vi (r36))] [] M37 Q)) ∧ ((r33 = 0) → Q 0 M34)))) ∧ ((x2 = 8) → Q 0 M26))))))) ∧ ((¬ (r20 = 0)) → K_Mo_readsName g  M21 (fun r38 M39 => (r38 = 0 ∨ r38 = 1) → WT M39 → (((¬ r38 = 0) → (0 ≤ x1 ∧ x1 < 12) ∧ Q 1 (sI (sI M39 (547) (x1.toNat) (gI M39 (530) (33))) (546) (x1.toNat) (x2))) ∧ ((r38 = 0) → Q 0 M39))))))))))) : P_Mo_rulesOf g 11 [(0, vr g (530)), (1, vi (x1)), (2, vi (x2)), (3, vi (x3))] [] M Q := by
  refine w_wt (fun hw => ?_)
  refine w_iload_n dX11_rulesOf_11 3 rfl ?_
  refine w_if_eq (tgt := 125) dX11_rulesOf_12 (by decide) hx3 (fun c1 => ?_) (fun c1 => ?_)
  · replace h := h.1 c1
    refine w_aload_n dX11_rulesOf_125 0 rfl ?_
    refine w_getS (ci := 11) (k := 19) dX11_rulesOf_126 rfl fi11 (by decide) q923 s530 rfl l530 ?_
    refine w_iload_n dX11_rulesOf_129 1 rfl ?_
    refine w_iload_n dX11_rulesOf_130 2 rfl ?_
    obtain ⟨i2, h⟩ := h
    refine w_iast dX11_rulesOf_131 s546 l546 (by decide) i2.1 i2.2 hx2 ?_
    have hw3 : WT (sI M (546) (x1.toNat) (x2)) := hw.sI hx2
    refine w_iconst dX11_rulesOf_132 ?_
    exact w_zret dX11_rulesOf_133 (Or.inr rfl) ⟨_, rfl, (Or.inr rfl), h⟩
  · replace h := h.2 c1
    refine w_iload_n dX11_rulesOf_15 2 rfl ?_
    refine w_if_le (tgt := 50) dX11_rulesOf_16 (by decide) hx2 (fun c4 => ?_) (fun c4 => ?_)
    · replace h := h.1 c4
      refine w_aload_n dX11_rulesOf_50 0 rfl ?_
      refine c_Mo_next dX11_rulesOf_51 q843 (by decide) (Nat.le_of_ble_eq_true rfl) h (fun r5 M6 h hr5 hwM6 => ?_)
      replace h := h hr5 hwM6
      refine c_Mo_signOf dX11_rulesOf_54 q870 (by decide) (Nat.le_of_ble_eq_true rfl) h (fun r7 M8 h hr7 hwM8 => ?_)
      replace h := h hr7 hwM8
      refine w_istore (lv' := [(4, vi (r7)), (0, vr g (530)), (1, vi (x1)), (2, vi (x2)), (3, vi (x3))]) dX11_rulesOf_57 (by decide) rfl ?_
      refine w_iload dX11_rulesOf_59 0 rfl ?_
      refine w_bipush dX11_rulesOf_61 rfl ?_
      refine w_icmp_eq (tgt := 72) dX11_rulesOf_63 (by decide) hr7 ⟨by decide, by decide⟩ (fun c9 => ?_) (fun c9 => ?_)
      · replace h := h.1 c9
        refine w_iconst dX11_rulesOf_72 ?_
        exact w_zret dX11_rulesOf_73 (Or.inl rfl) ⟨_, rfl, (Or.inl rfl), h⟩
      · replace h := h.2 c9
        refine w_iload_n dX11_rulesOf_66 3 rfl ?_
        refine w_bipush dX11_rulesOf_67 rfl ?_
        refine w_icmp_ne (tgt := 74) dX11_rulesOf_69 (by decide) hx2 ⟨by decide, by decide⟩ (fun c10 => ?_) (fun c10 => ?_)
        · replace h := h.1 c10
          refine w_aload_n dX11_rulesOf_74 1 rfl ?_
          refine w_dup dX11_rulesOf_75 rfl ?_
          refine w_getI (ci := 11) (k := 32) dX11_rulesOf_76 rfl fi11 (by decide) q936 s530 rfl l530 ?_
          refine w_iconst dX11_rulesOf_79 ?_
          refine w_iadd dX11_rulesOf_80 ?_
          obtain ⟨i11, h⟩ := h
          refine w_putI (ci := 11) (k := 32) dX11_rulesOf_81 rfl fi11 (by decide) q936 tyX11 tyX11_ok nmX11 rfl rfl rfl i11 s530 rfl l530 ?_
          have hw12 : WT (sI M8 (530) (32) ((gI M8 (530) (32)) + 1)) := hwM8.sI i11
          refine w_aload_n dX11_rulesOf_84 1 rfl ?_
          refine w_getS (ci := 11) (k := 29) dX11_rulesOf_85 rfl fi11 (by decide) q933 s530 rfl l530 ?_
          refine w_bipush dX11_rulesOf_88 rfl ?_
          refine w_iload_n dX11_rulesOf_90 2 rfl ?_
          refine w_imul dX11_rulesOf_91 ?_
          refine w_iload_n dX11_rulesOf_92 3 rfl ?_
          refine w_iadd dX11_rulesOf_93 ?_
          refine w_iload dX11_rulesOf_94 0 rfl ?_
          obtain ⟨i13, h⟩ := h
          refine w_iast dX11_rulesOf_96 s556 l556 (by decide) i13.1 i13.2 hr7 ?_
          have hw14 : WT (sI (sI M8 (530) (32) ((gI M8 (530) (32)) + 1)) (556) (((8 * x1) + x2).toNat) (r7)) := hw12.sI hr7
          refine w_aload_n dX11_rulesOf_97 1 rfl ?_
          refine w_bipush dX11_rulesOf_98 rfl ?_
          refine w_iload_n dX11_rulesOf_100 2 rfl ?_
          refine w_imul dX11_rulesOf_101 ?_
          refine w_iload_n dX11_rulesOf_102 3 rfl ?_
          refine w_iadd dX11_rulesOf_103 ?_
          refine c_Mo_asks dX11_rulesOf_104 q873 (by decide) (Nat.le_of_ble_eq_true rfl) h (fun r15 M16 h hr15 hwM16 => ?_)
          replace h := h hr15 hwM16
          refine w_if_ne (tgt := 112) dX11_rulesOf_107 (by decide) (inr_z hr15) (fun c17 => ?_) (fun c17 => ?_)
          · replace h := h.1 c17
            refine w_iinc (lv' := [(2, vi (x2 + 1)), (4, vi (r7)), (0, vr g (530)), (1, vi (x1)), (3, vi (x3))]) dX11_rulesOf_112 3 rfl (by decide) rfl ?_
            refine w_aload_n dX11_rulesOf_115 2 rfl ?_
            refine w_bipush dX11_rulesOf_116 rfl ?_
            refine c_Mo_comes dX11_rulesOf_118 q858 (by decide) (Nat.le_of_ble_eq_true rfl) h (fun r18 M19 h hr18 hwM19 => ?_)
            replace h := h hr18 hwM19
            refine w_istore_n (lv' := [(3, vi (r18)), (2, vi (x2 + 1)), (4, vi (r7)), (0, vr g (530)), (1, vi (x1))]) (i := 3) dX11_rulesOf_121 rfl (by decide) rfl ?_
            refine w_goto (tgt := 11) dX11_rulesOf_122 (by decide) ?_
            refine w_lv [3, 4, 1, 0] rfl ?_
            exact h
          · replace h := h.2 c17
            refine w_iconst dX11_rulesOf_110 ?_
            exact w_zret dX11_rulesOf_111 (Or.inl rfl) ⟨_, rfl, (Or.inl rfl), h⟩
        · replace h := h.2 c10
          refine w_iconst dX11_rulesOf_72 ?_
          exact w_zret dX11_rulesOf_73 (Or.inl rfl) ⟨_, rfl, (Or.inl rfl), h⟩
    · replace h := h.2 c4
      refine w_aload_n dX11_rulesOf_19 0 rfl ?_
      refine w_bipush dX11_rulesOf_20 rfl ?_
      refine c_Mo_comes dX11_rulesOf_22 q858 (by decide) (Nat.le_of_ble_eq_true rfl) h (fun r20 M21 h hr20 hwM21 => ?_)
      replace h := h hr20 hwM21
      refine w_if_eq (tgt := 50) dX11_rulesOf_25 (by decide) (inr_z hr20) (fun c22 => ?_) (fun c22 => ?_)
      · replace h := h.1 c22
        refine w_aload_n dX11_rulesOf_50 0 rfl ?_
        refine c_Mo_next dX11_rulesOf_51 q843 (by decide) (Nat.le_of_ble_eq_true rfl) h (fun r23 M24 h hr23 hwM24 => ?_)
        replace h := h hr23 hwM24
        refine c_Mo_signOf dX11_rulesOf_54 q870 (by decide) (Nat.le_of_ble_eq_true rfl) h (fun r25 M26 h hr25 hwM26 => ?_)
        replace h := h hr25 hwM26
        refine w_istore (lv' := [(4, vi (r25)), (0, vr g (530)), (1, vi (x1)), (2, vi (x2)), (3, vi (x3))]) dX11_rulesOf_57 (by decide) rfl ?_
        refine w_iload dX11_rulesOf_59 0 rfl ?_
        refine w_bipush dX11_rulesOf_61 rfl ?_
        refine w_icmp_eq (tgt := 72) dX11_rulesOf_63 (by decide) hr25 ⟨by decide, by decide⟩ (fun c27 => ?_) (fun c27 => ?_)
        · replace h := h.1 c27
          refine w_iconst dX11_rulesOf_72 ?_
          exact w_zret dX11_rulesOf_73 (Or.inl rfl) ⟨_, rfl, (Or.inl rfl), h⟩
        · replace h := h.2 c27
          refine w_iload_n dX11_rulesOf_66 3 rfl ?_
          refine w_bipush dX11_rulesOf_67 rfl ?_
          refine w_icmp_ne (tgt := 74) dX11_rulesOf_69 (by decide) hx2 ⟨by decide, by decide⟩ (fun c28 => ?_) (fun c28 => ?_)
          · replace h := h.1 c28
            refine w_aload_n dX11_rulesOf_74 1 rfl ?_
            refine w_dup dX11_rulesOf_75 rfl ?_
            refine w_getI (ci := 11) (k := 32) dX11_rulesOf_76 rfl fi11 (by decide) q936 s530 rfl l530 ?_
            refine w_iconst dX11_rulesOf_79 ?_
            refine w_iadd dX11_rulesOf_80 ?_
            obtain ⟨i29, h⟩ := h
            refine w_putI (ci := 11) (k := 32) dX11_rulesOf_81 rfl fi11 (by decide) q936 tyX11 tyX11_ok nmX11 rfl rfl rfl i29 s530 rfl l530 ?_
            have hw30 : WT (sI M26 (530) (32) ((gI M26 (530) (32)) + 1)) := hwM26.sI i29
            refine w_aload_n dX11_rulesOf_84 1 rfl ?_
            refine w_getS (ci := 11) (k := 29) dX11_rulesOf_85 rfl fi11 (by decide) q933 s530 rfl l530 ?_
            refine w_bipush dX11_rulesOf_88 rfl ?_
            refine w_iload_n dX11_rulesOf_90 2 rfl ?_
            refine w_imul dX11_rulesOf_91 ?_
            refine w_iload_n dX11_rulesOf_92 3 rfl ?_
            refine w_iadd dX11_rulesOf_93 ?_
            refine w_iload dX11_rulesOf_94 0 rfl ?_
            obtain ⟨i31, h⟩ := h
            refine w_iast dX11_rulesOf_96 s556 l556 (by decide) i31.1 i31.2 hr25 ?_
            have hw32 : WT (sI (sI M26 (530) (32) ((gI M26 (530) (32)) + 1)) (556) (((8 * x1) + x2).toNat) (r25)) := hw30.sI hr25
            refine w_aload_n dX11_rulesOf_97 1 rfl ?_
            refine w_bipush dX11_rulesOf_98 rfl ?_
            refine w_iload_n dX11_rulesOf_100 2 rfl ?_
            refine w_imul dX11_rulesOf_101 ?_
            refine w_iload_n dX11_rulesOf_102 3 rfl ?_
            refine w_iadd dX11_rulesOf_103 ?_
            refine c_Mo_asks dX11_rulesOf_104 q873 (by decide) (Nat.le_of_ble_eq_true rfl) h (fun r33 M34 h hr33 hwM34 => ?_)
            replace h := h hr33 hwM34
            refine w_if_ne (tgt := 112) dX11_rulesOf_107 (by decide) (inr_z hr33) (fun c35 => ?_) (fun c35 => ?_)
            · replace h := h.1 c35
              refine w_iinc (lv' := [(2, vi (x2 + 1)), (4, vi (r25)), (0, vr g (530)), (1, vi (x1)), (3, vi (x3))]) dX11_rulesOf_112 3 rfl (by decide) rfl ?_
              refine w_aload_n dX11_rulesOf_115 2 rfl ?_
              refine w_bipush dX11_rulesOf_116 rfl ?_
              refine c_Mo_comes dX11_rulesOf_118 q858 (by decide) (Nat.le_of_ble_eq_true rfl) h (fun r36 M37 h hr36 hwM37 => ?_)
              replace h := h hr36 hwM37
              refine w_istore_n (lv' := [(3, vi (r36)), (2, vi (x2 + 1)), (4, vi (r25)), (0, vr g (530)), (1, vi (x1))]) (i := 3) dX11_rulesOf_121 rfl (by decide) rfl ?_
              refine w_goto (tgt := 11) dX11_rulesOf_122 (by decide) ?_
              refine w_lv [3, 4, 1, 0] rfl ?_
              exact h
            · replace h := h.2 c35
              refine w_iconst dX11_rulesOf_110 ?_
              exact w_zret dX11_rulesOf_111 (Or.inl rfl) ⟨_, rfl, (Or.inl rfl), h⟩
          · replace h := h.2 c28
            refine w_iconst dX11_rulesOf_72 ?_
            exact w_zret dX11_rulesOf_73 (Or.inl rfl) ⟨_, rfl, (Or.inl rfl), h⟩
      · replace h := h.2 c22
        refine w_aload_n dX11_rulesOf_28 0 rfl ?_
        refine c_Mo_readsName dX11_rulesOf_29 q847 (by decide) (Nat.le_of_ble_eq_true rfl) h (fun r38 M39 h hr38 hwM39 => ?_)
        replace h := h hr38 hwM39
        refine w_if_ne (tgt := 37) dX11_rulesOf_32 (by decide) (inr_z hr38) (fun c40 => ?_) (fun c40 => ?_)
        · replace h := h.1 c40
          refine w_aload_n dX11_rulesOf_37 0 rfl ?_
          refine w_getS (ci := 11) (k := 20) dX11_rulesOf_38 rfl fi11 (by decide) q924 s530 rfl l530 ?_
          refine w_iload_n dX11_rulesOf_41 1 rfl ?_
          refine w_aload_n dX11_rulesOf_42 0 rfl ?_
          refine w_getI (ci := 11) (k := 33) dX11_rulesOf_43 rfl fi11 (by decide) q937 s530 rfl l530 ?_
          obtain ⟨i41, h⟩ := h
          refine w_iast dX11_rulesOf_46 s547 l547 (by decide) i41.1 i41.2 (hwM39.int _ _) ?_
          have hw42 : WT (sI M39 (547) (x1.toNat) (gI M39 (530) (33))) := hwM39.sI (hwM39.int _ _)
          refine w_goto (tgt := 125) dX11_rulesOf_47 (by decide) ?_
          refine w_aload_n dX11_rulesOf_125 0 rfl ?_
          refine w_getS (ci := 11) (k := 19) dX11_rulesOf_126 rfl fi11 (by decide) q923 s530 rfl l530 ?_
          refine w_iload_n dX11_rulesOf_129 1 rfl ?_
          refine w_iload_n dX11_rulesOf_130 2 rfl ?_
          refine w_iast dX11_rulesOf_131 s546 l546 (by decide) i41.1 i41.2 hx2 ?_
          have hw43 : WT (sI (sI M39 (547) (x1.toNat) (gI M39 (530) (33))) (546) (x1.toNat) (x2)) := hw42.sI hx2
          refine w_iconst dX11_rulesOf_132 ?_
          exact w_zret dX11_rulesOf_133 (Or.inr rfl) ⟨_, rfl, (Or.inr rfl), h⟩
        · replace h := h.2 c40
          refine w_iconst dX11_rulesOf_35 ?_
          exact w_zret dX11_rulesOf_36 (Or.inl rfl) ⟨_, rfl, (Or.inl rfl), h⟩
set_option maxHeartbeats 4000000 in
set_option maxRecDepth 100000 in
theorem b_Mo_signOf_0 {g : Ctx} {p0 : Int} {M : Mem} {Q : Int → Mem → Prop} (hp0 : InR p0) (h : (((¬ p0 = 43) → (((¬ p0 = 45) → (((¬ p0 = 126) → (((¬ p0 = 63) → Q (-4) M) ∧ ((p0 = 63) → Q 3 M))) ∧ ((p0 = 126) → Q 2 M))) ∧ ((p0 = 45) → Q 1 M))) ∧ ((p0 = 43) → Q 0 M))) : P_Mo_signOf g 0 [(0, vi (p0))] [] M Q := by
  refine w_wt (fun hw => ?_)
  refine w_iload_n dX11_signOf_0 0 rfl ?_
  refine w_bipush dX11_signOf_1 rfl ?_
  refine w_icmp_ne (tgt := 10) dX11_signOf_3 (by decide) hp0 ⟨by decide, by decide⟩ (fun c1 => ?_) (fun c1 => ?_)
  · replace h := h.1 c1
    refine w_iload_n dX11_signOf_10 0 rfl ?_
    refine w_bipush dX11_signOf_11 rfl ?_
    refine w_icmp_ne (tgt := 20) dX11_signOf_13 (by decide) hp0 ⟨by decide, by decide⟩ (fun c2 => ?_) (fun c2 => ?_)
    · replace h := h.1 c2
      refine w_iload_n dX11_signOf_20 0 rfl ?_
      refine w_bipush dX11_signOf_21 rfl ?_
      refine w_icmp_ne (tgt := 30) dX11_signOf_23 (by decide) hp0 ⟨by decide, by decide⟩ (fun c3 => ?_) (fun c3 => ?_)
      · replace h := h.1 c3
        refine w_iload_n dX11_signOf_30 0 rfl ?_
        refine w_bipush dX11_signOf_31 rfl ?_
        refine w_icmp_ne (tgt := 40) dX11_signOf_33 (by decide) hp0 ⟨by decide, by decide⟩ (fun c4 => ?_) (fun c4 => ?_)
        · replace h := h.1 c4
          refine w_bipush dX11_signOf_40 rfl ?_
          exact w_iret dX11_signOf_42 ⟨_, rfl, ⟨by decide, by decide⟩, h⟩
        · replace h := h.2 c4
          refine w_iconst dX11_signOf_36 ?_
          refine w_goto (tgt := 42) dX11_signOf_37 (by decide) ?_
          exact w_iret dX11_signOf_42 ⟨_, rfl, ⟨by decide, by decide⟩, h⟩
      · replace h := h.2 c3
        refine w_iconst dX11_signOf_26 ?_
        refine w_goto (tgt := 42) dX11_signOf_27 (by decide) ?_
        exact w_iret dX11_signOf_42 ⟨_, rfl, ⟨by decide, by decide⟩, h⟩
    · replace h := h.2 c2
      refine w_iconst dX11_signOf_16 ?_
      refine w_goto (tgt := 42) dX11_signOf_17 (by decide) ?_
      exact w_iret dX11_signOf_42 ⟨_, rfl, ⟨by decide, by decide⟩, h⟩
  · replace h := h.2 c1
    refine w_iconst dX11_signOf_6 ?_
    refine w_goto (tgt := 42) dX11_signOf_7 (by decide) ?_
    exact w_iret dX11_signOf_42 ⟨_, rfl, ⟨by decide, by decide⟩, h⟩
set_option maxHeartbeats 4000000 in
set_option maxRecDepth 100000 in
theorem b_Mo_asks_0 {g : Ctx} {p0 : Int} {M : Mem} {Q : Int → Mem → Prop} (hp0 : InR p0) (h : K_Mo_next g  M (fun r1 M2 => InR r1 → WT M2 → (InR ((gI M2 (530) (32)) + 1)) ∧ (0 ≤ p0 ∧ p0 < 96) ∧ (((r1 = 97) → Q 1 (sI (sI (sI (sI (sI (sI M2 (530) (32) ((gI M2 (530) (32)) + 1)) (551) (p0.toNat) ((-4))) (552) (p0.toNat) ((-4))) (553) (p0.toNat) (0)) (554) (p0.toNat) (0)) (550) (p0.toNat) (0))) ∧ ((¬ (r1 = 97)) → (((r1 = 101) → K_Mo_macro g p0 (sI (sI (sI (sI (sI (sI M2 (530) (32) ((gI M2 (530) (32)) + 1)) (551) (p0.toNat) ((-4))) (552) (p0.toNat) ((-4))) (553) (p0.toNat) (0)) (554) (p0.toNat) (0)) (550) (p0.toNat) (5)) (fun r14 M15 => (r14 = 0 ∨ r14 = 1) → WT M15 → Q r14 M15)) ∧ ((¬ (r1 = 101)) → (((r1 = 112) → K_Mo_number g 255 (sI (sI (sI (sI (sI (sI M2 (530) (32) ((gI M2 (530) (32)) + 1)) (551) (p0.toNat) ((-4))) (552) (p0.toNat) ((-4))) (553) (p0.toNat) (0)) (554) (p0.toNat) (0)) (550) (p0.toNat) (1)) (fun r18 M19 => (r18 = 0 ∨ r18 = 1) → WT M19 → (((r18 = 0) → Q 0 (sI (sI M19 (551) (p0.toNat) (gI M19 (530) (33))) (552) (p0.toNat) (gI M19 (530) (33)))) ∧ ((¬ (r18 = 0)) → K_Mo_comes g 47 (sI M19 (551) (p0.toNat) (gI M19 (530) (33))) (fun r24 M25 => (r24 = 0 ∨ r24 = 1) → WT M25 → (((r24 = 0) → Q 0 (sI M25 (552) (p0.toNat) (gI M25 (530) (33)))) ∧ ((¬ (r24 = 0)) → K_Mo_number g 8 M25 (fun r28 M29 => (r28 = 0 ∨ r28 = 1) → WT M29 → (((r28 = 0) → Q 0 (sI M29 (552) (p0.toNat) (gI M29 (530) (33)))) ∧ ((¬ (r28 = 0)) → Q 1 (sI M29 (552) (p0.toNat) (gI M29 (530) (33))))))))))))) ∧ ((¬ (r1 = 112)) → (((¬ r1 = 105) → (((¬ r1 = 104) → (((r1 = 105) → K_Mo_readsName g  (sI (sI (sI (sI (sI (sI M2 (530) (32) ((gI M2 (530) (32)) + 1)) (551) (p0.toNat) ((-4))) (552) (p0.toNat) ((-4))) (553) (p0.toNat) (0)) (554) (p0.toNat) (0)) (550) (p0.toNat) (4)) (fun r37 M38 => (r37 = 0 ∨ r37 = 1) → WT M38 → (((r37 = 0) → Q 0 (sI M38 (553) (p0.toNat) (gI M38 (530) (33)))) ∧ ((¬ (r37 = 0)) → Q 1 (sI M38 (553) (p0.toNat) (gI M38 (530) (33))))))) ∧ ((¬ (r1 = 105)) → (((r1 = 104) → K_Mo_readsName g  (sI (sI (sI (sI (sI (sI M2 (530) (32) ((gI M2 (530) (32)) + 1)) (551) (p0.toNat) ((-4))) (552) (p0.toNat) ((-4))) (553) (p0.toNat) (0)) (554) (p0.toNat) (0)) (550) (p0.toNat) (4)) (fun r43 M44 => (r43 = 0 ∨ r43 = 1) → WT M44 → (((r43 = 0) → Q 0 (sI M44 (553) (p0.toNat) (gI M44 (530) (33)))) ∧ ((¬ (r43 = 0)) → Q 1 (sI M44 (553) (p0.toNat) (gI M44 (530) (33))))))) ∧ ((¬ (r1 = 104)) → (((¬ r1 = 109) → Q 0 (sI (sI (sI (sI (sI (sI (sI M2 (530) (32) ((gI M2 (530) (32)) + 1)) (551) (p0.toNat) ((-4))) (552) (p0.toNat) ((-4))) (553) (p0.toNat) (0)) (554) (p0.toNat) (0)) (550) (p0.toNat) (4)) (553) (p0.toNat) (gI M2 (530) (33)))) ∧ ((r1 = 109) → K_Mo_readsName g  (sI (sI (sI (sI (sI (sI M2 (530) (32) ((gI M2 (530) (32)) + 1)) (551) (p0.toNat) ((-4))) (552) (p0.toNat) ((-4))) (553) (p0.toNat) (0)) (554) (p0.toNat) (0)) (550) (p0.toNat) (4)) (fun r51 M52 => (r51 = 0 ∨ r51 = 1) → WT M52 → (((r51 = 0) → Q 0 (sI M52 (553) (p0.toNat) (gI M52 (530) (33)))) ∧ ((¬ (r51 = 0)) → Q 1 (sI M52 (553) (p0.toNat) (gI M52 (530) (33))))))))))))) ∧ ((r1 = 104) → (((r1 = 105) → K_Mo_readsName g  (sI (sI (sI (sI (sI (sI M2 (530) (32) ((gI M2 (530) (32)) + 1)) (551) (p0.toNat) ((-4))) (552) (p0.toNat) ((-4))) (553) (p0.toNat) (0)) (554) (p0.toNat) (0)) (550) (p0.toNat) (3)) (fun r58 M59 => (r58 = 0 ∨ r58 = 1) → WT M59 → (((r58 = 0) → Q 0 (sI M59 (553) (p0.toNat) (gI M59 (530) (33)))) ∧ ((¬ (r58 = 0)) → Q 1 (sI M59 (553) (p0.toNat) (gI M59 (530) (33))))))) ∧ ((¬ (r1 = 105)) → (((r1 = 104) → K_Mo_readsName g  (sI (sI (sI (sI (sI (sI M2 (530) (32) ((gI M2 (530) (32)) + 1)) (551) (p0.toNat) ((-4))) (552) (p0.toNat) ((-4))) (553) (p0.toNat) (0)) (554) (p0.toNat) (0)) (550) (p0.toNat) (3)) (fun r64 M65 => (r64 = 0 ∨ r64 = 1) → WT M65 → (((r64 = 0) → Q 0 (sI M65 (553) (p0.toNat) (gI M65 (530) (33)))) ∧ ((¬ (r64 = 0)) → Q 1 (sI M65 (553) (p0.toNat) (gI M65 (530) (33))))))) ∧ ((¬ (r1 = 104)) → (((¬ r1 = 109) → Q 0 (sI (sI (sI (sI (sI (sI (sI M2 (530) (32) ((gI M2 (530) (32)) + 1)) (551) (p0.toNat) ((-4))) (552) (p0.toNat) ((-4))) (553) (p0.toNat) (0)) (554) (p0.toNat) (0)) (550) (p0.toNat) (3)) (553) (p0.toNat) (gI M2 (530) (33)))) ∧ ((r1 = 109) → K_Mo_readsName g  (sI (sI (sI (sI (sI (sI M2 (530) (32) ((gI M2 (530) (32)) + 1)) (551) (p0.toNat) ((-4))) (552) (p0.toNat) ((-4))) (553) (p0.toNat) (0)) (554) (p0.toNat) (0)) (550) (p0.toNat) (3)) (fun r72 M73 => (r72 = 0 ∨ r72 = 1) → WT M73 → (((r72 = 0) → Q 0 (sI M73 (553) (p0.toNat) (gI M73 (530) (33)))) ∧ ((¬ (r72 = 0)) → Q 1 (sI M73 (553) (p0.toNat) (gI M73 (530) (33))))))))))))))) ∧ ((r1 = 105) → (((r1 = 105) → K_Mo_readsName g  (sI (sI (sI (sI (sI (sI M2 (530) (32) ((gI M2 (530) (32)) + 1)) (551) (p0.toNat) ((-4))) (552) (p0.toNat) ((-4))) (553) (p0.toNat) (0)) (554) (p0.toNat) (0)) (550) (p0.toNat) (2)) (fun r79 M80 => (r79 = 0 ∨ r79 = 1) → WT M80 → (((r79 = 0) → Q 0 (sI M80 (553) (p0.toNat) (gI M80 (530) (33)))) ∧ ((¬ (r79 = 0)) → Q 1 (sI M80 (553) (p0.toNat) (gI M80 (530) (33))))))) ∧ ((¬ (r1 = 105)) → (((r1 = 104) → K_Mo_readsName g  (sI (sI (sI (sI (sI (sI M2 (530) (32) ((gI M2 (530) (32)) + 1)) (551) (p0.toNat) ((-4))) (552) (p0.toNat) ((-4))) (553) (p0.toNat) (0)) (554) (p0.toNat) (0)) (550) (p0.toNat) (2)) (fun r85 M86 => (r85 = 0 ∨ r85 = 1) → WT M86 → (((r85 = 0) → Q 0 (sI M86 (553) (p0.toNat) (gI M86 (530) (33)))) ∧ ((¬ (r85 = 0)) → Q 1 (sI M86 (553) (p0.toNat) (gI M86 (530) (33))))))) ∧ ((¬ (r1 = 104)) → (((¬ r1 = 109) → Q 0 (sI (sI (sI (sI (sI (sI (sI M2 (530) (32) ((gI M2 (530) (32)) + 1)) (551) (p0.toNat) ((-4))) (552) (p0.toNat) ((-4))) (553) (p0.toNat) (0)) (554) (p0.toNat) (0)) (550) (p0.toNat) (2)) (553) (p0.toNat) (gI M2 (530) (33)))) ∧ ((r1 = 109) → K_Mo_readsName g  (sI (sI (sI (sI (sI (sI M2 (530) (32) ((gI M2 (530) (32)) + 1)) (551) (p0.toNat) ((-4))) (552) (p0.toNat) ((-4))) (553) (p0.toNat) (0)) (554) (p0.toNat) (0)) (550) (p0.toNat) (2)) (fun r93 M94 => (r93 = 0 ∨ r93 = 1) → WT M94 → (((r93 = 0) → Q 0 (sI M94 (553) (p0.toNat) (gI M94 (530) (33)))) ∧ ((¬ (r93 = 0)) → Q 1 (sI M94 (553) (p0.toNat) (gI M94 (530) (33)))))))))))))))))))))) : P_Mo_asks g 0 [(0, vr g (530)), (1, vi (p0))] [] M Q := by
  refine w_wt (fun hw => ?_)
  refine w_aload_n dX11_asks_0 0 rfl ?_
  refine c_Mo_next dX11_asks_1 q843 (by decide) (Nat.le_of_ble_eq_true rfl) h (fun r1 M2 h hr1 hwM2 => ?_)
  replace h := h hr1 hwM2
  refine w_istore_n (lv' := [(2, vi (r1)), (0, vr g (530)), (1, vi (p0))]) (i := 2) dX11_asks_4 rfl (by decide) rfl ?_
  refine w_aload_n dX11_asks_5 1 rfl ?_
  refine w_dup dX11_asks_6 rfl ?_
  refine w_getI (ci := 11) (k := 32) dX11_asks_7 rfl fi11 (by decide) q936 s530 rfl l530 ?_
  refine w_iconst dX11_asks_10 ?_
  refine w_iadd dX11_asks_11 ?_
  obtain ⟨i3, h⟩ := h
  refine w_putI (ci := 11) (k := 32) dX11_asks_12 rfl fi11 (by decide) q936 tyX11 tyX11_ok nmX11 rfl rfl rfl i3 s530 rfl l530 ?_
  have hw4 : WT (sI M2 (530) (32) ((gI M2 (530) (32)) + 1)) := hwM2.sI i3
  refine w_aload_n dX11_asks_15 1 rfl ?_
  refine w_getS (ci := 11) (k := 24) dX11_asks_16 rfl fi11 (by decide) q928 s530 rfl l530 ?_
  refine w_iload_n dX11_asks_19 2 rfl ?_
  refine w_bipush dX11_asks_20 rfl ?_
  obtain ⟨i5, h⟩ := h
  refine w_iast dX11_asks_22 s551 l551 (by decide) i5.1 i5.2 ⟨by decide, by decide⟩ ?_
  have hw6 : WT (sI (sI M2 (530) (32) ((gI M2 (530) (32)) + 1)) (551) (p0.toNat) ((-4))) := hw4.sI ⟨by decide, by decide⟩
  refine w_aload_n dX11_asks_23 1 rfl ?_
  refine w_getS (ci := 11) (k := 25) dX11_asks_24 rfl fi11 (by decide) q929 s530 rfl l530 ?_
  refine w_iload_n dX11_asks_27 2 rfl ?_
  refine w_bipush dX11_asks_28 rfl ?_
  refine w_iast dX11_asks_30 s552 l552 (by decide) i5.1 i5.2 ⟨by decide, by decide⟩ ?_
  have hw7 : WT (sI (sI (sI M2 (530) (32) ((gI M2 (530) (32)) + 1)) (551) (p0.toNat) ((-4))) (552) (p0.toNat) ((-4))) := hw6.sI ⟨by decide, by decide⟩
  refine w_aload_n dX11_asks_31 1 rfl ?_
  refine w_getS (ci := 11) (k := 26) dX11_asks_32 rfl fi11 (by decide) q930 s530 rfl l530 ?_
  refine w_iload_n dX11_asks_35 2 rfl ?_
  refine w_iconst dX11_asks_36 ?_
  refine w_iast dX11_asks_37 s553 l553 (by decide) i5.1 i5.2 ⟨by decide, by decide⟩ ?_
  have hw8 : WT (sI (sI (sI (sI M2 (530) (32) ((gI M2 (530) (32)) + 1)) (551) (p0.toNat) ((-4))) (552) (p0.toNat) ((-4))) (553) (p0.toNat) (0)) := hw7.sI ⟨by decide, by decide⟩
  refine w_aload_n dX11_asks_38 1 rfl ?_
  refine w_getS (ci := 11) (k := 27) dX11_asks_39 rfl fi11 (by decide) q931 s530 rfl l530 ?_
  refine w_iload_n dX11_asks_42 2 rfl ?_
  refine w_iconst dX11_asks_43 ?_
  refine w_iast dX11_asks_44 s554 l554 (by decide) i5.1 i5.2 ⟨by decide, by decide⟩ ?_
  have hw9 : WT (sI (sI (sI (sI (sI M2 (530) (32) ((gI M2 (530) (32)) + 1)) (551) (p0.toNat) ((-4))) (552) (p0.toNat) ((-4))) (553) (p0.toNat) (0)) (554) (p0.toNat) (0)) := hw8.sI ⟨by decide, by decide⟩
  refine w_iload_n dX11_asks_45 0 rfl ?_
  by_cases c10 : r1 = 97
  · replace h := h.1 c10
    refine w_look (off := 34) (tgt := 80) dX11_asks_46 hr1 (by decide) (by rw [c10]; first | done | rfl | decide | simp [Op.lookupswitch.offset]) (by decide) ?_
    refine w_aload_n dX11_asks_80 1 rfl ?_
    refine w_getS (ci := 11) (k := 23) dX11_asks_81 rfl fi11 (by decide) q927 s530 rfl l530 ?_
    refine w_iload_n dX11_asks_84 2 rfl ?_
    refine w_iconst dX11_asks_85 ?_
    refine w_iast dX11_asks_86 s550 l550 (by decide) i5.1 i5.2 ⟨by decide, by decide⟩ ?_
    have hw11 : WT (sI (sI (sI (sI (sI (sI M2 (530) (32) ((gI M2 (530) (32)) + 1)) (551) (p0.toNat) ((-4))) (552) (p0.toNat) ((-4))) (553) (p0.toNat) (0)) (554) (p0.toNat) (0)) (550) (p0.toNat) (0)) := hw9.sI ⟨by decide, by decide⟩
    refine w_iconst dX11_asks_87 ?_
    exact w_zret dX11_asks_88 (Or.inr rfl) ⟨_, rfl, (Or.inr rfl), h⟩
  replace h := h.2 c10
  by_cases c12 : r1 = 101
  · replace h := h.1 c12
    refine w_look (off := 108) (tgt := 154) dX11_asks_46 hr1 (by decide) (by rw [c12]; first | done | rfl | decide | simp [Op.lookupswitch.offset]) (by decide) ?_
    refine w_aload_n dX11_asks_154 1 rfl ?_
    refine w_getS (ci := 11) (k := 23) dX11_asks_155 rfl fi11 (by decide) q927 s530 rfl l530 ?_
    refine w_iload_n dX11_asks_158 2 rfl ?_
    refine w_iconst dX11_asks_159 ?_
    refine w_iast dX11_asks_160 s550 l550 (by decide) i5.1 i5.2 ⟨by decide, by decide⟩ ?_
    have hw13 : WT (sI (sI (sI (sI (sI (sI M2 (530) (32) ((gI M2 (530) (32)) + 1)) (551) (p0.toNat) ((-4))) (552) (p0.toNat) ((-4))) (553) (p0.toNat) (0)) (554) (p0.toNat) (0)) (550) (p0.toNat) (5)) := hw9.sI ⟨by decide, by decide⟩
    refine w_aload_n dX11_asks_161 1 rfl ?_
    refine w_iload_n dX11_asks_162 2 rfl ?_
    refine c_Mo_macro dX11_asks_163 q881 (by decide) (Nat.le_of_ble_eq_true rfl) h (fun r14 M15 h hr14 hwM15 => ?_)
    replace h := h hr14 hwM15
    exact w_zret dX11_asks_166 hr14 ⟨_, rfl, hr14, h⟩
  replace h := h.2 c12
  by_cases c16 : r1 = 112
  · replace h := h.1 c16
    refine w_look (off := 43) (tgt := 89) dX11_asks_46 hr1 (by decide) (by rw [c16]; first | done | rfl | decide | simp [Op.lookupswitch.offset]) (by decide) ?_
    refine w_aload_n dX11_asks_89 1 rfl ?_
    refine w_getS (ci := 11) (k := 23) dX11_asks_90 rfl fi11 (by decide) q927 s530 rfl l530 ?_
    refine w_iload_n dX11_asks_93 2 rfl ?_
    refine w_iconst dX11_asks_94 ?_
    refine w_iast dX11_asks_95 s550 l550 (by decide) i5.1 i5.2 ⟨by decide, by decide⟩ ?_
    have hw17 : WT (sI (sI (sI (sI (sI (sI M2 (530) (32) ((gI M2 (530) (32)) + 1)) (551) (p0.toNat) ((-4))) (552) (p0.toNat) ((-4))) (553) (p0.toNat) (0)) (554) (p0.toNat) (0)) (550) (p0.toNat) (1)) := hw9.sI ⟨by decide, by decide⟩
    refine w_aload_n dX11_asks_96 1 rfl ?_
    refine w_sipush dX11_asks_97 rfl ?_
    refine c_Mo_number dX11_asks_100 q877 (by decide) (Nat.le_of_ble_eq_true rfl) h (fun r18 M19 h hr18 hwM19 => ?_)
    replace h := h hr18 hwM19
    refine w_istore_n (lv' := [(3, vi (r18)), (2, vi (r1)), (0, vr g (530)), (1, vi (p0))]) (i := 3) dX11_asks_103 rfl (by decide) rfl ?_
    refine w_aload_n dX11_asks_104 2 rfl ?_
    refine w_getS (ci := 11) (k := 24) dX11_asks_105 rfl fi11 (by decide) q928 s530 rfl l530 ?_
    refine w_iload_n dX11_asks_108 3 rfl ?_
    refine w_aload_n dX11_asks_109 2 rfl ?_
    refine w_getI (ci := 11) (k := 33) dX11_asks_110 rfl fi11 (by decide) q937 s530 rfl l530 ?_
    refine w_iast dX11_asks_113 s551 l551 (by decide) i5.1 i5.2 (hwM19.int _ _) ?_
    have hw20 : WT (sI M19 (551) (p0.toNat) (gI M19 (530) (33))) := hwM19.sI (hwM19.int _ _)
    refine w_iload_n dX11_asks_114 0 rfl ?_
    refine w_if_eq (tgt := 140) dX11_asks_115 (by decide) (inr_z hr18) (fun c21 => ?_) (fun c21 => ?_)
    · replace h := h.1 c21
      refine w_iconst dX11_asks_140 ?_
      refine w_istore_n (lv' := [(3, vi (0)), (2, vi (r1)), (0, vr g (530)), (1, vi (p0))]) (i := 3) dX11_asks_141 rfl (by decide) rfl ?_
      refine w_aload_n dX11_asks_142 2 rfl ?_
      refine w_getS (ci := 11) (k := 25) dX11_asks_143 rfl fi11 (by decide) q929 s530 rfl l530 ?_
      refine w_iload_n dX11_asks_146 3 rfl ?_
      refine w_aload_n dX11_asks_147 2 rfl ?_
      refine w_getI (ci := 11) (k := 33) dX11_asks_148 rfl fi11 (by decide) q937 s530 rfl l530 ?_
      refine w_top (congrArg vi ((gI_ne _ _ _ _ _ _ (by omega)).trans rfl)) ?_
      have u22 : InR (gI M19 (530) (33)) := hwM19.int _ _
      refine w_iast dX11_asks_151 s552 l552 (by decide) i5.1 i5.2 u22 ?_
      have hw23 : WT (sI (sI M19 (551) (p0.toNat) (gI M19 (530) (33))) (552) (p0.toNat) (gI M19 (530) (33))) := hw20.sI u22
      refine w_iload_n dX11_asks_152 0 rfl ?_
      exact w_zret dX11_asks_153 (Or.inl rfl) ⟨_, rfl, (Or.inl rfl), h⟩
    · replace h := h.2 c21
      refine w_aload_n dX11_asks_118 2 rfl ?_
      refine w_bipush dX11_asks_119 rfl ?_
      refine c_Mo_comes dX11_asks_121 q858 (by decide) (Nat.le_of_ble_eq_true rfl) h (fun r24 M25 h hr24 hwM25 => ?_)
      replace h := h hr24 hwM25
      refine w_if_eq (tgt := 140) dX11_asks_124 (by decide) (inr_z hr24) (fun c26 => ?_) (fun c26 => ?_)
      · replace h := h.1 c26
        refine w_iconst dX11_asks_140 ?_
        refine w_istore_n (lv' := [(3, vi (0)), (2, vi (r1)), (0, vr g (530)), (1, vi (p0))]) (i := 3) dX11_asks_141 rfl (by decide) rfl ?_
        refine w_aload_n dX11_asks_142 2 rfl ?_
        refine w_getS (ci := 11) (k := 25) dX11_asks_143 rfl fi11 (by decide) q929 s530 rfl l530 ?_
        refine w_iload_n dX11_asks_146 3 rfl ?_
        refine w_aload_n dX11_asks_147 2 rfl ?_
        refine w_getI (ci := 11) (k := 33) dX11_asks_148 rfl fi11 (by decide) q937 s530 rfl l530 ?_
        refine w_iast dX11_asks_151 s552 l552 (by decide) i5.1 i5.2 (hwM25.int _ _) ?_
        have hw27 : WT (sI M25 (552) (p0.toNat) (gI M25 (530) (33))) := hwM25.sI (hwM25.int _ _)
        refine w_iload_n dX11_asks_152 0 rfl ?_
        exact w_zret dX11_asks_153 (Or.inl rfl) ⟨_, rfl, (Or.inl rfl), h⟩
      · replace h := h.2 c26
        refine w_aload_n dX11_asks_127 2 rfl ?_
        refine w_bipush dX11_asks_128 rfl ?_
        refine c_Mo_number dX11_asks_130 q877 (by decide) (Nat.le_of_ble_eq_true rfl) h (fun r28 M29 h hr28 hwM29 => ?_)
        replace h := h hr28 hwM29
        refine w_if_eq (tgt := 140) dX11_asks_133 (by decide) (inr_z hr28) (fun c30 => ?_) (fun c30 => ?_)
        · replace h := h.1 c30
          refine w_iconst dX11_asks_140 ?_
          refine w_istore_n (lv' := [(3, vi (0)), (2, vi (r1)), (0, vr g (530)), (1, vi (p0))]) (i := 3) dX11_asks_141 rfl (by decide) rfl ?_
          refine w_aload_n dX11_asks_142 2 rfl ?_
          refine w_getS (ci := 11) (k := 25) dX11_asks_143 rfl fi11 (by decide) q929 s530 rfl l530 ?_
          refine w_iload_n dX11_asks_146 3 rfl ?_
          refine w_aload_n dX11_asks_147 2 rfl ?_
          refine w_getI (ci := 11) (k := 33) dX11_asks_148 rfl fi11 (by decide) q937 s530 rfl l530 ?_
          refine w_iast dX11_asks_151 s552 l552 (by decide) i5.1 i5.2 (hwM29.int _ _) ?_
          have hw31 : WT (sI M29 (552) (p0.toNat) (gI M29 (530) (33))) := hwM29.sI (hwM29.int _ _)
          refine w_iload_n dX11_asks_152 0 rfl ?_
          exact w_zret dX11_asks_153 (Or.inl rfl) ⟨_, rfl, (Or.inl rfl), h⟩
        · replace h := h.2 c30
          refine w_iconst dX11_asks_136 ?_
          refine w_goto (tgt := 141) dX11_asks_137 (by decide) ?_
          refine w_istore_n (lv' := [(3, vi (1)), (2, vi (r1)), (0, vr g (530)), (1, vi (p0))]) (i := 3) dX11_asks_141 rfl (by decide) rfl ?_
          refine w_aload_n dX11_asks_142 2 rfl ?_
          refine w_getS (ci := 11) (k := 25) dX11_asks_143 rfl fi11 (by decide) q929 s530 rfl l530 ?_
          refine w_iload_n dX11_asks_146 3 rfl ?_
          refine w_aload_n dX11_asks_147 2 rfl ?_
          refine w_getI (ci := 11) (k := 33) dX11_asks_148 rfl fi11 (by decide) q937 s530 rfl l530 ?_
          refine w_iast dX11_asks_151 s552 l552 (by decide) i5.1 i5.2 (hwM29.int _ _) ?_
          have hw32 : WT (sI M29 (552) (p0.toNat) (gI M29 (530) (33))) := hwM29.sI (hwM29.int _ _)
          refine w_iload_n dX11_asks_152 0 rfl ?_
          exact w_zret dX11_asks_153 (Or.inr rfl) ⟨_, rfl, (Or.inr rfl), h⟩
  replace h := h.2 c16
  refine w_look (off := 121) (tgt := 167) dX11_asks_46 hr1 (by decide) (by simp only [Array.toList, Op.lookupswitch.offset]; simp [Ne.symm c10, c10, Ne.symm c12, c12, Ne.symm c16, c16]) (by decide) ?_
  refine w_aload_n dX11_asks_167 1 rfl ?_
  refine w_getS (ci := 11) (k := 23) dX11_asks_168 rfl fi11 (by decide) q927 s530 rfl l530 ?_
  refine w_iload_n dX11_asks_171 2 rfl ?_
  refine w_iload_n dX11_asks_172 0 rfl ?_
  refine w_bipush dX11_asks_173 rfl ?_
  refine w_icmp_ne (tgt := 182) dX11_asks_175 (by decide) hr1 ⟨by decide, by decide⟩ (fun c33 => ?_) (fun c33 => ?_)
  · replace h := h.1 c33
    refine w_iload_n dX11_asks_182 0 rfl ?_
    refine w_bipush dX11_asks_183 rfl ?_
    refine w_icmp_ne (tgt := 192) dX11_asks_185 (by decide) hr1 ⟨by decide, by decide⟩ (fun c34 => ?_) (fun c34 => ?_)
    · replace h := h.1 c34
      refine w_iconst dX11_asks_192 ?_
      refine w_iast dX11_asks_193 s550 l550 (by decide) i5.1 i5.2 ⟨by decide, by decide⟩ ?_
      have hw35 : WT (sI (sI (sI (sI (sI (sI M2 (530) (32) ((gI M2 (530) (32)) + 1)) (551) (p0.toNat) ((-4))) (552) (p0.toNat) ((-4))) (553) (p0.toNat) (0)) (554) (p0.toNat) (0)) (550) (p0.toNat) (4)) := hw9.sI ⟨by decide, by decide⟩
      refine w_iload_n dX11_asks_194 0 rfl ?_
      refine w_bipush dX11_asks_195 rfl ?_
      refine w_icmp_eq (tgt := 212) dX11_asks_197 (by decide) hr1 ⟨by decide, by decide⟩ (fun c36 => ?_) (fun c36 => ?_)
      · replace h := h.1 c36
        refine w_aload_n dX11_asks_212 1 rfl ?_
        refine c_Mo_readsName dX11_asks_213 q847 (by decide) (Nat.le_of_ble_eq_true rfl) h (fun r37 M38 h hr37 hwM38 => ?_)
        replace h := h hr37 hwM38
        refine w_if_eq (tgt := 223) dX11_asks_216 (by decide) (inr_z hr37) (fun c39 => ?_) (fun c39 => ?_)
        · replace h := h.1 c39
          refine w_iconst dX11_asks_223 ?_
          refine w_istore (lv' := [(4, vi (0)), (2, vi (r1)), (0, vr g (530)), (1, vi (p0))]) dX11_asks_224 (by decide) rfl ?_
          refine w_aload_n dX11_asks_226 2 rfl ?_
          refine w_getS (ci := 11) (k := 26) dX11_asks_227 rfl fi11 (by decide) q930 s530 rfl l530 ?_
          refine w_iload_n dX11_asks_230 3 rfl ?_
          refine w_aload_n dX11_asks_231 2 rfl ?_
          refine w_getI (ci := 11) (k := 33) dX11_asks_232 rfl fi11 (by decide) q937 s530 rfl l530 ?_
          refine w_iast dX11_asks_235 s553 l553 (by decide) i5.1 i5.2 (hwM38.int _ _) ?_
          have hw40 : WT (sI M38 (553) (p0.toNat) (gI M38 (530) (33))) := hwM38.sI (hwM38.int _ _)
          refine w_iload dX11_asks_236 0 rfl ?_
          exact w_zret dX11_asks_238 (Or.inl rfl) ⟨_, rfl, (Or.inl rfl), h⟩
        · replace h := h.2 c39
          refine w_iconst dX11_asks_219 ?_
          refine w_goto (tgt := 224) dX11_asks_220 (by decide) ?_
          refine w_istore (lv' := [(4, vi (1)), (2, vi (r1)), (0, vr g (530)), (1, vi (p0))]) dX11_asks_224 (by decide) rfl ?_
          refine w_aload_n dX11_asks_226 2 rfl ?_
          refine w_getS (ci := 11) (k := 26) dX11_asks_227 rfl fi11 (by decide) q930 s530 rfl l530 ?_
          refine w_iload_n dX11_asks_230 3 rfl ?_
          refine w_aload_n dX11_asks_231 2 rfl ?_
          refine w_getI (ci := 11) (k := 33) dX11_asks_232 rfl fi11 (by decide) q937 s530 rfl l530 ?_
          refine w_iast dX11_asks_235 s553 l553 (by decide) i5.1 i5.2 (hwM38.int _ _) ?_
          have hw41 : WT (sI M38 (553) (p0.toNat) (gI M38 (530) (33))) := hwM38.sI (hwM38.int _ _)
          refine w_iload dX11_asks_236 0 rfl ?_
          exact w_zret dX11_asks_238 (Or.inr rfl) ⟨_, rfl, (Or.inr rfl), h⟩
      · replace h := h.2 c36
        refine w_iload_n dX11_asks_200 0 rfl ?_
        refine w_bipush dX11_asks_201 rfl ?_
        refine w_icmp_eq (tgt := 212) dX11_asks_203 (by decide) hr1 ⟨by decide, by decide⟩ (fun c42 => ?_) (fun c42 => ?_)
        · replace h := h.1 c42
          refine w_aload_n dX11_asks_212 1 rfl ?_
          refine c_Mo_readsName dX11_asks_213 q847 (by decide) (Nat.le_of_ble_eq_true rfl) h (fun r43 M44 h hr43 hwM44 => ?_)
          replace h := h hr43 hwM44
          refine w_if_eq (tgt := 223) dX11_asks_216 (by decide) (inr_z hr43) (fun c45 => ?_) (fun c45 => ?_)
          · replace h := h.1 c45
            refine w_iconst dX11_asks_223 ?_
            refine w_istore (lv' := [(4, vi (0)), (2, vi (r1)), (0, vr g (530)), (1, vi (p0))]) dX11_asks_224 (by decide) rfl ?_
            refine w_aload_n dX11_asks_226 2 rfl ?_
            refine w_getS (ci := 11) (k := 26) dX11_asks_227 rfl fi11 (by decide) q930 s530 rfl l530 ?_
            refine w_iload_n dX11_asks_230 3 rfl ?_
            refine w_aload_n dX11_asks_231 2 rfl ?_
            refine w_getI (ci := 11) (k := 33) dX11_asks_232 rfl fi11 (by decide) q937 s530 rfl l530 ?_
            refine w_iast dX11_asks_235 s553 l553 (by decide) i5.1 i5.2 (hwM44.int _ _) ?_
            have hw46 : WT (sI M44 (553) (p0.toNat) (gI M44 (530) (33))) := hwM44.sI (hwM44.int _ _)
            refine w_iload dX11_asks_236 0 rfl ?_
            exact w_zret dX11_asks_238 (Or.inl rfl) ⟨_, rfl, (Or.inl rfl), h⟩
          · replace h := h.2 c45
            refine w_iconst dX11_asks_219 ?_
            refine w_goto (tgt := 224) dX11_asks_220 (by decide) ?_
            refine w_istore (lv' := [(4, vi (1)), (2, vi (r1)), (0, vr g (530)), (1, vi (p0))]) dX11_asks_224 (by decide) rfl ?_
            refine w_aload_n dX11_asks_226 2 rfl ?_
            refine w_getS (ci := 11) (k := 26) dX11_asks_227 rfl fi11 (by decide) q930 s530 rfl l530 ?_
            refine w_iload_n dX11_asks_230 3 rfl ?_
            refine w_aload_n dX11_asks_231 2 rfl ?_
            refine w_getI (ci := 11) (k := 33) dX11_asks_232 rfl fi11 (by decide) q937 s530 rfl l530 ?_
            refine w_iast dX11_asks_235 s553 l553 (by decide) i5.1 i5.2 (hwM44.int _ _) ?_
            have hw47 : WT (sI M44 (553) (p0.toNat) (gI M44 (530) (33))) := hwM44.sI (hwM44.int _ _)
            refine w_iload dX11_asks_236 0 rfl ?_
            exact w_zret dX11_asks_238 (Or.inr rfl) ⟨_, rfl, (Or.inr rfl), h⟩
        · replace h := h.2 c42
          refine w_iload_n dX11_asks_206 0 rfl ?_
          refine w_bipush dX11_asks_207 rfl ?_
          refine w_icmp_ne (tgt := 223) dX11_asks_209 (by decide) hr1 ⟨by decide, by decide⟩ (fun c48 => ?_) (fun c48 => ?_)
          · replace h := h.1 c48
            refine w_iconst dX11_asks_223 ?_
            refine w_istore (lv' := [(4, vi (0)), (2, vi (r1)), (0, vr g (530)), (1, vi (p0))]) dX11_asks_224 (by decide) rfl ?_
            refine w_aload_n dX11_asks_226 2 rfl ?_
            refine w_getS (ci := 11) (k := 26) dX11_asks_227 rfl fi11 (by decide) q930 s530 rfl l530 ?_
            refine w_iload_n dX11_asks_230 3 rfl ?_
            refine w_aload_n dX11_asks_231 2 rfl ?_
            refine w_getI (ci := 11) (k := 33) dX11_asks_232 rfl fi11 (by decide) q937 s530 rfl l530 ?_
            refine w_top (congrArg vi ((gI_ne _ _ _ _ _ _ (by omega)).trans ((gI_ne _ _ _ _ _ _ (by omega)).trans ((gI_ne _ _ _ _ _ _ (by omega)).trans ((gI_ne _ _ _ _ _ _ (by omega)).trans ((gI_ne _ _ _ _ _ _ (by omega)).trans ((gI_ne _ _ _ _ _ _ (by omega)).trans rfl))))))) ?_
            have u49 : InR (gI M2 (530) (33)) := hwM2.int _ _
            refine w_iast dX11_asks_235 s553 l553 (by decide) i5.1 i5.2 u49 ?_
            have hw50 : WT (sI (sI (sI (sI (sI (sI (sI M2 (530) (32) ((gI M2 (530) (32)) + 1)) (551) (p0.toNat) ((-4))) (552) (p0.toNat) ((-4))) (553) (p0.toNat) (0)) (554) (p0.toNat) (0)) (550) (p0.toNat) (4)) (553) (p0.toNat) (gI M2 (530) (33))) := hw35.sI u49
            refine w_iload dX11_asks_236 0 rfl ?_
            exact w_zret dX11_asks_238 (Or.inl rfl) ⟨_, rfl, (Or.inl rfl), h⟩
          · replace h := h.2 c48
            refine w_aload_n dX11_asks_212 1 rfl ?_
            refine c_Mo_readsName dX11_asks_213 q847 (by decide) (Nat.le_of_ble_eq_true rfl) h (fun r51 M52 h hr51 hwM52 => ?_)
            replace h := h hr51 hwM52
            refine w_if_eq (tgt := 223) dX11_asks_216 (by decide) (inr_z hr51) (fun c53 => ?_) (fun c53 => ?_)
            · replace h := h.1 c53
              refine w_iconst dX11_asks_223 ?_
              refine w_istore (lv' := [(4, vi (0)), (2, vi (r1)), (0, vr g (530)), (1, vi (p0))]) dX11_asks_224 (by decide) rfl ?_
              refine w_aload_n dX11_asks_226 2 rfl ?_
              refine w_getS (ci := 11) (k := 26) dX11_asks_227 rfl fi11 (by decide) q930 s530 rfl l530 ?_
              refine w_iload_n dX11_asks_230 3 rfl ?_
              refine w_aload_n dX11_asks_231 2 rfl ?_
              refine w_getI (ci := 11) (k := 33) dX11_asks_232 rfl fi11 (by decide) q937 s530 rfl l530 ?_
              refine w_iast dX11_asks_235 s553 l553 (by decide) i5.1 i5.2 (hwM52.int _ _) ?_
              have hw54 : WT (sI M52 (553) (p0.toNat) (gI M52 (530) (33))) := hwM52.sI (hwM52.int _ _)
              refine w_iload dX11_asks_236 0 rfl ?_
              exact w_zret dX11_asks_238 (Or.inl rfl) ⟨_, rfl, (Or.inl rfl), h⟩
            · replace h := h.2 c53
              refine w_iconst dX11_asks_219 ?_
              refine w_goto (tgt := 224) dX11_asks_220 (by decide) ?_
              refine w_istore (lv' := [(4, vi (1)), (2, vi (r1)), (0, vr g (530)), (1, vi (p0))]) dX11_asks_224 (by decide) rfl ?_
              refine w_aload_n dX11_asks_226 2 rfl ?_
              refine w_getS (ci := 11) (k := 26) dX11_asks_227 rfl fi11 (by decide) q930 s530 rfl l530 ?_
              refine w_iload_n dX11_asks_230 3 rfl ?_
              refine w_aload_n dX11_asks_231 2 rfl ?_
              refine w_getI (ci := 11) (k := 33) dX11_asks_232 rfl fi11 (by decide) q937 s530 rfl l530 ?_
              refine w_iast dX11_asks_235 s553 l553 (by decide) i5.1 i5.2 (hwM52.int _ _) ?_
              have hw55 : WT (sI M52 (553) (p0.toNat) (gI M52 (530) (33))) := hwM52.sI (hwM52.int _ _)
              refine w_iload dX11_asks_236 0 rfl ?_
              exact w_zret dX11_asks_238 (Or.inr rfl) ⟨_, rfl, (Or.inr rfl), h⟩
    · replace h := h.2 c34
      refine w_iconst dX11_asks_188 ?_
      refine w_goto (tgt := 193) dX11_asks_189 (by decide) ?_
      refine w_iast dX11_asks_193 s550 l550 (by decide) i5.1 i5.2 ⟨by decide, by decide⟩ ?_
      have hw56 : WT (sI (sI (sI (sI (sI (sI M2 (530) (32) ((gI M2 (530) (32)) + 1)) (551) (p0.toNat) ((-4))) (552) (p0.toNat) ((-4))) (553) (p0.toNat) (0)) (554) (p0.toNat) (0)) (550) (p0.toNat) (3)) := hw9.sI ⟨by decide, by decide⟩
      refine w_iload_n dX11_asks_194 0 rfl ?_
      refine w_bipush dX11_asks_195 rfl ?_
      refine w_icmp_eq (tgt := 212) dX11_asks_197 (by decide) hr1 ⟨by decide, by decide⟩ (fun c57 => ?_) (fun c57 => ?_)
      · replace h := h.1 c57
        refine w_aload_n dX11_asks_212 1 rfl ?_
        refine c_Mo_readsName dX11_asks_213 q847 (by decide) (Nat.le_of_ble_eq_true rfl) h (fun r58 M59 h hr58 hwM59 => ?_)
        replace h := h hr58 hwM59
        refine w_if_eq (tgt := 223) dX11_asks_216 (by decide) (inr_z hr58) (fun c60 => ?_) (fun c60 => ?_)
        · replace h := h.1 c60
          refine w_iconst dX11_asks_223 ?_
          refine w_istore (lv' := [(4, vi (0)), (2, vi (r1)), (0, vr g (530)), (1, vi (p0))]) dX11_asks_224 (by decide) rfl ?_
          refine w_aload_n dX11_asks_226 2 rfl ?_
          refine w_getS (ci := 11) (k := 26) dX11_asks_227 rfl fi11 (by decide) q930 s530 rfl l530 ?_
          refine w_iload_n dX11_asks_230 3 rfl ?_
          refine w_aload_n dX11_asks_231 2 rfl ?_
          refine w_getI (ci := 11) (k := 33) dX11_asks_232 rfl fi11 (by decide) q937 s530 rfl l530 ?_
          refine w_iast dX11_asks_235 s553 l553 (by decide) i5.1 i5.2 (hwM59.int _ _) ?_
          have hw61 : WT (sI M59 (553) (p0.toNat) (gI M59 (530) (33))) := hwM59.sI (hwM59.int _ _)
          refine w_iload dX11_asks_236 0 rfl ?_
          exact w_zret dX11_asks_238 (Or.inl rfl) ⟨_, rfl, (Or.inl rfl), h⟩
        · replace h := h.2 c60
          refine w_iconst dX11_asks_219 ?_
          refine w_goto (tgt := 224) dX11_asks_220 (by decide) ?_
          refine w_istore (lv' := [(4, vi (1)), (2, vi (r1)), (0, vr g (530)), (1, vi (p0))]) dX11_asks_224 (by decide) rfl ?_
          refine w_aload_n dX11_asks_226 2 rfl ?_
          refine w_getS (ci := 11) (k := 26) dX11_asks_227 rfl fi11 (by decide) q930 s530 rfl l530 ?_
          refine w_iload_n dX11_asks_230 3 rfl ?_
          refine w_aload_n dX11_asks_231 2 rfl ?_
          refine w_getI (ci := 11) (k := 33) dX11_asks_232 rfl fi11 (by decide) q937 s530 rfl l530 ?_
          refine w_iast dX11_asks_235 s553 l553 (by decide) i5.1 i5.2 (hwM59.int _ _) ?_
          have hw62 : WT (sI M59 (553) (p0.toNat) (gI M59 (530) (33))) := hwM59.sI (hwM59.int _ _)
          refine w_iload dX11_asks_236 0 rfl ?_
          exact w_zret dX11_asks_238 (Or.inr rfl) ⟨_, rfl, (Or.inr rfl), h⟩
      · replace h := h.2 c57
        refine w_iload_n dX11_asks_200 0 rfl ?_
        refine w_bipush dX11_asks_201 rfl ?_
        refine w_icmp_eq (tgt := 212) dX11_asks_203 (by decide) hr1 ⟨by decide, by decide⟩ (fun c63 => ?_) (fun c63 => ?_)
        · replace h := h.1 c63
          refine w_aload_n dX11_asks_212 1 rfl ?_
          refine c_Mo_readsName dX11_asks_213 q847 (by decide) (Nat.le_of_ble_eq_true rfl) h (fun r64 M65 h hr64 hwM65 => ?_)
          replace h := h hr64 hwM65
          refine w_if_eq (tgt := 223) dX11_asks_216 (by decide) (inr_z hr64) (fun c66 => ?_) (fun c66 => ?_)
          · replace h := h.1 c66
            refine w_iconst dX11_asks_223 ?_
            refine w_istore (lv' := [(4, vi (0)), (2, vi (r1)), (0, vr g (530)), (1, vi (p0))]) dX11_asks_224 (by decide) rfl ?_
            refine w_aload_n dX11_asks_226 2 rfl ?_
            refine w_getS (ci := 11) (k := 26) dX11_asks_227 rfl fi11 (by decide) q930 s530 rfl l530 ?_
            refine w_iload_n dX11_asks_230 3 rfl ?_
            refine w_aload_n dX11_asks_231 2 rfl ?_
            refine w_getI (ci := 11) (k := 33) dX11_asks_232 rfl fi11 (by decide) q937 s530 rfl l530 ?_
            refine w_iast dX11_asks_235 s553 l553 (by decide) i5.1 i5.2 (hwM65.int _ _) ?_
            have hw67 : WT (sI M65 (553) (p0.toNat) (gI M65 (530) (33))) := hwM65.sI (hwM65.int _ _)
            refine w_iload dX11_asks_236 0 rfl ?_
            exact w_zret dX11_asks_238 (Or.inl rfl) ⟨_, rfl, (Or.inl rfl), h⟩
          · replace h := h.2 c66
            refine w_iconst dX11_asks_219 ?_
            refine w_goto (tgt := 224) dX11_asks_220 (by decide) ?_
            refine w_istore (lv' := [(4, vi (1)), (2, vi (r1)), (0, vr g (530)), (1, vi (p0))]) dX11_asks_224 (by decide) rfl ?_
            refine w_aload_n dX11_asks_226 2 rfl ?_
            refine w_getS (ci := 11) (k := 26) dX11_asks_227 rfl fi11 (by decide) q930 s530 rfl l530 ?_
            refine w_iload_n dX11_asks_230 3 rfl ?_
            refine w_aload_n dX11_asks_231 2 rfl ?_
            refine w_getI (ci := 11) (k := 33) dX11_asks_232 rfl fi11 (by decide) q937 s530 rfl l530 ?_
            refine w_iast dX11_asks_235 s553 l553 (by decide) i5.1 i5.2 (hwM65.int _ _) ?_
            have hw68 : WT (sI M65 (553) (p0.toNat) (gI M65 (530) (33))) := hwM65.sI (hwM65.int _ _)
            refine w_iload dX11_asks_236 0 rfl ?_
            exact w_zret dX11_asks_238 (Or.inr rfl) ⟨_, rfl, (Or.inr rfl), h⟩
        · replace h := h.2 c63
          refine w_iload_n dX11_asks_206 0 rfl ?_
          refine w_bipush dX11_asks_207 rfl ?_
          refine w_icmp_ne (tgt := 223) dX11_asks_209 (by decide) hr1 ⟨by decide, by decide⟩ (fun c69 => ?_) (fun c69 => ?_)
          · replace h := h.1 c69
            refine w_iconst dX11_asks_223 ?_
            refine w_istore (lv' := [(4, vi (0)), (2, vi (r1)), (0, vr g (530)), (1, vi (p0))]) dX11_asks_224 (by decide) rfl ?_
            refine w_aload_n dX11_asks_226 2 rfl ?_
            refine w_getS (ci := 11) (k := 26) dX11_asks_227 rfl fi11 (by decide) q930 s530 rfl l530 ?_
            refine w_iload_n dX11_asks_230 3 rfl ?_
            refine w_aload_n dX11_asks_231 2 rfl ?_
            refine w_getI (ci := 11) (k := 33) dX11_asks_232 rfl fi11 (by decide) q937 s530 rfl l530 ?_
            refine w_top (congrArg vi ((gI_ne _ _ _ _ _ _ (by omega)).trans ((gI_ne _ _ _ _ _ _ (by omega)).trans ((gI_ne _ _ _ _ _ _ (by omega)).trans ((gI_ne _ _ _ _ _ _ (by omega)).trans ((gI_ne _ _ _ _ _ _ (by omega)).trans ((gI_ne _ _ _ _ _ _ (by omega)).trans rfl))))))) ?_
            have u70 : InR (gI M2 (530) (33)) := hwM2.int _ _
            refine w_iast dX11_asks_235 s553 l553 (by decide) i5.1 i5.2 u70 ?_
            have hw71 : WT (sI (sI (sI (sI (sI (sI (sI M2 (530) (32) ((gI M2 (530) (32)) + 1)) (551) (p0.toNat) ((-4))) (552) (p0.toNat) ((-4))) (553) (p0.toNat) (0)) (554) (p0.toNat) (0)) (550) (p0.toNat) (3)) (553) (p0.toNat) (gI M2 (530) (33))) := hw56.sI u70
            refine w_iload dX11_asks_236 0 rfl ?_
            exact w_zret dX11_asks_238 (Or.inl rfl) ⟨_, rfl, (Or.inl rfl), h⟩
          · replace h := h.2 c69
            refine w_aload_n dX11_asks_212 1 rfl ?_
            refine c_Mo_readsName dX11_asks_213 q847 (by decide) (Nat.le_of_ble_eq_true rfl) h (fun r72 M73 h hr72 hwM73 => ?_)
            replace h := h hr72 hwM73
            refine w_if_eq (tgt := 223) dX11_asks_216 (by decide) (inr_z hr72) (fun c74 => ?_) (fun c74 => ?_)
            · replace h := h.1 c74
              refine w_iconst dX11_asks_223 ?_
              refine w_istore (lv' := [(4, vi (0)), (2, vi (r1)), (0, vr g (530)), (1, vi (p0))]) dX11_asks_224 (by decide) rfl ?_
              refine w_aload_n dX11_asks_226 2 rfl ?_
              refine w_getS (ci := 11) (k := 26) dX11_asks_227 rfl fi11 (by decide) q930 s530 rfl l530 ?_
              refine w_iload_n dX11_asks_230 3 rfl ?_
              refine w_aload_n dX11_asks_231 2 rfl ?_
              refine w_getI (ci := 11) (k := 33) dX11_asks_232 rfl fi11 (by decide) q937 s530 rfl l530 ?_
              refine w_iast dX11_asks_235 s553 l553 (by decide) i5.1 i5.2 (hwM73.int _ _) ?_
              have hw75 : WT (sI M73 (553) (p0.toNat) (gI M73 (530) (33))) := hwM73.sI (hwM73.int _ _)
              refine w_iload dX11_asks_236 0 rfl ?_
              exact w_zret dX11_asks_238 (Or.inl rfl) ⟨_, rfl, (Or.inl rfl), h⟩
            · replace h := h.2 c74
              refine w_iconst dX11_asks_219 ?_
              refine w_goto (tgt := 224) dX11_asks_220 (by decide) ?_
              refine w_istore (lv' := [(4, vi (1)), (2, vi (r1)), (0, vr g (530)), (1, vi (p0))]) dX11_asks_224 (by decide) rfl ?_
              refine w_aload_n dX11_asks_226 2 rfl ?_
              refine w_getS (ci := 11) (k := 26) dX11_asks_227 rfl fi11 (by decide) q930 s530 rfl l530 ?_
              refine w_iload_n dX11_asks_230 3 rfl ?_
              refine w_aload_n dX11_asks_231 2 rfl ?_
              refine w_getI (ci := 11) (k := 33) dX11_asks_232 rfl fi11 (by decide) q937 s530 rfl l530 ?_
              refine w_iast dX11_asks_235 s553 l553 (by decide) i5.1 i5.2 (hwM73.int _ _) ?_
              have hw76 : WT (sI M73 (553) (p0.toNat) (gI M73 (530) (33))) := hwM73.sI (hwM73.int _ _)
              refine w_iload dX11_asks_236 0 rfl ?_
              exact w_zret dX11_asks_238 (Or.inr rfl) ⟨_, rfl, (Or.inr rfl), h⟩
  · replace h := h.2 c33
    refine w_iconst dX11_asks_178 ?_
    refine w_goto (tgt := 193) dX11_asks_179 (by decide) ?_
    refine w_iast dX11_asks_193 s550 l550 (by decide) i5.1 i5.2 ⟨by decide, by decide⟩ ?_
    have hw77 : WT (sI (sI (sI (sI (sI (sI M2 (530) (32) ((gI M2 (530) (32)) + 1)) (551) (p0.toNat) ((-4))) (552) (p0.toNat) ((-4))) (553) (p0.toNat) (0)) (554) (p0.toNat) (0)) (550) (p0.toNat) (2)) := hw9.sI ⟨by decide, by decide⟩
    refine w_iload_n dX11_asks_194 0 rfl ?_
    refine w_bipush dX11_asks_195 rfl ?_
    refine w_icmp_eq (tgt := 212) dX11_asks_197 (by decide) hr1 ⟨by decide, by decide⟩ (fun c78 => ?_) (fun c78 => ?_)
    · replace h := h.1 c78
      refine w_aload_n dX11_asks_212 1 rfl ?_
      refine c_Mo_readsName dX11_asks_213 q847 (by decide) (Nat.le_of_ble_eq_true rfl) h (fun r79 M80 h hr79 hwM80 => ?_)
      replace h := h hr79 hwM80
      refine w_if_eq (tgt := 223) dX11_asks_216 (by decide) (inr_z hr79) (fun c81 => ?_) (fun c81 => ?_)
      · replace h := h.1 c81
        refine w_iconst dX11_asks_223 ?_
        refine w_istore (lv' := [(4, vi (0)), (2, vi (r1)), (0, vr g (530)), (1, vi (p0))]) dX11_asks_224 (by decide) rfl ?_
        refine w_aload_n dX11_asks_226 2 rfl ?_
        refine w_getS (ci := 11) (k := 26) dX11_asks_227 rfl fi11 (by decide) q930 s530 rfl l530 ?_
        refine w_iload_n dX11_asks_230 3 rfl ?_
        refine w_aload_n dX11_asks_231 2 rfl ?_
        refine w_getI (ci := 11) (k := 33) dX11_asks_232 rfl fi11 (by decide) q937 s530 rfl l530 ?_
        refine w_iast dX11_asks_235 s553 l553 (by decide) i5.1 i5.2 (hwM80.int _ _) ?_
        have hw82 : WT (sI M80 (553) (p0.toNat) (gI M80 (530) (33))) := hwM80.sI (hwM80.int _ _)
        refine w_iload dX11_asks_236 0 rfl ?_
        exact w_zret dX11_asks_238 (Or.inl rfl) ⟨_, rfl, (Or.inl rfl), h⟩
      · replace h := h.2 c81
        refine w_iconst dX11_asks_219 ?_
        refine w_goto (tgt := 224) dX11_asks_220 (by decide) ?_
        refine w_istore (lv' := [(4, vi (1)), (2, vi (r1)), (0, vr g (530)), (1, vi (p0))]) dX11_asks_224 (by decide) rfl ?_
        refine w_aload_n dX11_asks_226 2 rfl ?_
        refine w_getS (ci := 11) (k := 26) dX11_asks_227 rfl fi11 (by decide) q930 s530 rfl l530 ?_
        refine w_iload_n dX11_asks_230 3 rfl ?_
        refine w_aload_n dX11_asks_231 2 rfl ?_
        refine w_getI (ci := 11) (k := 33) dX11_asks_232 rfl fi11 (by decide) q937 s530 rfl l530 ?_
        refine w_iast dX11_asks_235 s553 l553 (by decide) i5.1 i5.2 (hwM80.int _ _) ?_
        have hw83 : WT (sI M80 (553) (p0.toNat) (gI M80 (530) (33))) := hwM80.sI (hwM80.int _ _)
        refine w_iload dX11_asks_236 0 rfl ?_
        exact w_zret dX11_asks_238 (Or.inr rfl) ⟨_, rfl, (Or.inr rfl), h⟩
    · replace h := h.2 c78
      refine w_iload_n dX11_asks_200 0 rfl ?_
      refine w_bipush dX11_asks_201 rfl ?_
      refine w_icmp_eq (tgt := 212) dX11_asks_203 (by decide) hr1 ⟨by decide, by decide⟩ (fun c84 => ?_) (fun c84 => ?_)
      · replace h := h.1 c84
        refine w_aload_n dX11_asks_212 1 rfl ?_
        refine c_Mo_readsName dX11_asks_213 q847 (by decide) (Nat.le_of_ble_eq_true rfl) h (fun r85 M86 h hr85 hwM86 => ?_)
        replace h := h hr85 hwM86
        refine w_if_eq (tgt := 223) dX11_asks_216 (by decide) (inr_z hr85) (fun c87 => ?_) (fun c87 => ?_)
        · replace h := h.1 c87
          refine w_iconst dX11_asks_223 ?_
          refine w_istore (lv' := [(4, vi (0)), (2, vi (r1)), (0, vr g (530)), (1, vi (p0))]) dX11_asks_224 (by decide) rfl ?_
          refine w_aload_n dX11_asks_226 2 rfl ?_
          refine w_getS (ci := 11) (k := 26) dX11_asks_227 rfl fi11 (by decide) q930 s530 rfl l530 ?_
          refine w_iload_n dX11_asks_230 3 rfl ?_
          refine w_aload_n dX11_asks_231 2 rfl ?_
          refine w_getI (ci := 11) (k := 33) dX11_asks_232 rfl fi11 (by decide) q937 s530 rfl l530 ?_
          refine w_iast dX11_asks_235 s553 l553 (by decide) i5.1 i5.2 (hwM86.int _ _) ?_
          have hw88 : WT (sI M86 (553) (p0.toNat) (gI M86 (530) (33))) := hwM86.sI (hwM86.int _ _)
          refine w_iload dX11_asks_236 0 rfl ?_
          exact w_zret dX11_asks_238 (Or.inl rfl) ⟨_, rfl, (Or.inl rfl), h⟩
        · replace h := h.2 c87
          refine w_iconst dX11_asks_219 ?_
          refine w_goto (tgt := 224) dX11_asks_220 (by decide) ?_
          refine w_istore (lv' := [(4, vi (1)), (2, vi (r1)), (0, vr g (530)), (1, vi (p0))]) dX11_asks_224 (by decide) rfl ?_
          refine w_aload_n dX11_asks_226 2 rfl ?_
          refine w_getS (ci := 11) (k := 26) dX11_asks_227 rfl fi11 (by decide) q930 s530 rfl l530 ?_
          refine w_iload_n dX11_asks_230 3 rfl ?_
          refine w_aload_n dX11_asks_231 2 rfl ?_
          refine w_getI (ci := 11) (k := 33) dX11_asks_232 rfl fi11 (by decide) q937 s530 rfl l530 ?_
          refine w_iast dX11_asks_235 s553 l553 (by decide) i5.1 i5.2 (hwM86.int _ _) ?_
          have hw89 : WT (sI M86 (553) (p0.toNat) (gI M86 (530) (33))) := hwM86.sI (hwM86.int _ _)
          refine w_iload dX11_asks_236 0 rfl ?_
          exact w_zret dX11_asks_238 (Or.inr rfl) ⟨_, rfl, (Or.inr rfl), h⟩
      · replace h := h.2 c84
        refine w_iload_n dX11_asks_206 0 rfl ?_
        refine w_bipush dX11_asks_207 rfl ?_
        refine w_icmp_ne (tgt := 223) dX11_asks_209 (by decide) hr1 ⟨by decide, by decide⟩ (fun c90 => ?_) (fun c90 => ?_)
        · replace h := h.1 c90
          refine w_iconst dX11_asks_223 ?_
          refine w_istore (lv' := [(4, vi (0)), (2, vi (r1)), (0, vr g (530)), (1, vi (p0))]) dX11_asks_224 (by decide) rfl ?_
          refine w_aload_n dX11_asks_226 2 rfl ?_
          refine w_getS (ci := 11) (k := 26) dX11_asks_227 rfl fi11 (by decide) q930 s530 rfl l530 ?_
          refine w_iload_n dX11_asks_230 3 rfl ?_
          refine w_aload_n dX11_asks_231 2 rfl ?_
          refine w_getI (ci := 11) (k := 33) dX11_asks_232 rfl fi11 (by decide) q937 s530 rfl l530 ?_
          refine w_top (congrArg vi ((gI_ne _ _ _ _ _ _ (by omega)).trans ((gI_ne _ _ _ _ _ _ (by omega)).trans ((gI_ne _ _ _ _ _ _ (by omega)).trans ((gI_ne _ _ _ _ _ _ (by omega)).trans ((gI_ne _ _ _ _ _ _ (by omega)).trans ((gI_ne _ _ _ _ _ _ (by omega)).trans rfl))))))) ?_
          have u91 : InR (gI M2 (530) (33)) := hwM2.int _ _
          refine w_iast dX11_asks_235 s553 l553 (by decide) i5.1 i5.2 u91 ?_
          have hw92 : WT (sI (sI (sI (sI (sI (sI (sI M2 (530) (32) ((gI M2 (530) (32)) + 1)) (551) (p0.toNat) ((-4))) (552) (p0.toNat) ((-4))) (553) (p0.toNat) (0)) (554) (p0.toNat) (0)) (550) (p0.toNat) (2)) (553) (p0.toNat) (gI M2 (530) (33))) := hw77.sI u91
          refine w_iload dX11_asks_236 0 rfl ?_
          exact w_zret dX11_asks_238 (Or.inl rfl) ⟨_, rfl, (Or.inl rfl), h⟩
        · replace h := h.2 c90
          refine w_aload_n dX11_asks_212 1 rfl ?_
          refine c_Mo_readsName dX11_asks_213 q847 (by decide) (Nat.le_of_ble_eq_true rfl) h (fun r93 M94 h hr93 hwM94 => ?_)
          replace h := h hr93 hwM94
          refine w_if_eq (tgt := 223) dX11_asks_216 (by decide) (inr_z hr93) (fun c95 => ?_) (fun c95 => ?_)
          · replace h := h.1 c95
            refine w_iconst dX11_asks_223 ?_
            refine w_istore (lv' := [(4, vi (0)), (2, vi (r1)), (0, vr g (530)), (1, vi (p0))]) dX11_asks_224 (by decide) rfl ?_
            refine w_aload_n dX11_asks_226 2 rfl ?_
            refine w_getS (ci := 11) (k := 26) dX11_asks_227 rfl fi11 (by decide) q930 s530 rfl l530 ?_
            refine w_iload_n dX11_asks_230 3 rfl ?_
            refine w_aload_n dX11_asks_231 2 rfl ?_
            refine w_getI (ci := 11) (k := 33) dX11_asks_232 rfl fi11 (by decide) q937 s530 rfl l530 ?_
            refine w_iast dX11_asks_235 s553 l553 (by decide) i5.1 i5.2 (hwM94.int _ _) ?_
            have hw96 : WT (sI M94 (553) (p0.toNat) (gI M94 (530) (33))) := hwM94.sI (hwM94.int _ _)
            refine w_iload dX11_asks_236 0 rfl ?_
            exact w_zret dX11_asks_238 (Or.inl rfl) ⟨_, rfl, (Or.inl rfl), h⟩
          · replace h := h.2 c95
            refine w_iconst dX11_asks_219 ?_
            refine w_goto (tgt := 224) dX11_asks_220 (by decide) ?_
            refine w_istore (lv' := [(4, vi (1)), (2, vi (r1)), (0, vr g (530)), (1, vi (p0))]) dX11_asks_224 (by decide) rfl ?_
            refine w_aload_n dX11_asks_226 2 rfl ?_
            refine w_getS (ci := 11) (k := 26) dX11_asks_227 rfl fi11 (by decide) q930 s530 rfl l530 ?_
            refine w_iload_n dX11_asks_230 3 rfl ?_
            refine w_aload_n dX11_asks_231 2 rfl ?_
            refine w_getI (ci := 11) (k := 33) dX11_asks_232 rfl fi11 (by decide) q937 s530 rfl l530 ?_
            refine w_iast dX11_asks_235 s553 l553 (by decide) i5.1 i5.2 (hwM94.int _ _) ?_
            have hw97 : WT (sI M94 (553) (p0.toNat) (gI M94 (530) (33))) := hwM94.sI (hwM94.int _ _)
            refine w_iload dX11_asks_236 0 rfl ?_
            exact w_zret dX11_asks_238 (Or.inr rfl) ⟨_, rfl, (Or.inr rfl), h⟩
set_option maxHeartbeats 4000000 in
set_option maxRecDepth 100000 in
theorem b_Mo_number_0 {g : Ctx} {p0 : Int} {M : Mem} {Q : Int → Mem → Prop} (hp0 : InR p0) (h : P_Mo_number g 7 [(0, vr g (530)), (1, vi (p0)), (2, vi (0))] [] (sI M (530) (33) (0)) Q) : P_Mo_number g 0 [(0, vr g (530)), (1, vi (p0))] [] M Q := by
  refine w_wt (fun hw => ?_)
  refine w_iconst dX11_number_0 ?_
  refine w_istore_n (lv' := [(2, vi (0)), (0, vr g (530)), (1, vi (p0))]) (i := 2) dX11_number_1 rfl (by decide) rfl ?_
  refine w_aload_n dX11_number_2 1 rfl ?_
  refine w_iconst dX11_number_3 ?_
  refine w_putI (ci := 11) (k := 33) dX11_number_4 rfl fi11 (by decide) q937 tyX11 tyX11_ok nmX11 rfl rfl rfl ⟨by decide, by decide⟩ s530 rfl l530 ?_
  have hw1 : WT (sI M (530) (33) (0)) := hw.sI ⟨by decide, by decide⟩
  refine w_lv [1, 2, 0] rfl ?_
  exact h
set_option maxHeartbeats 4000000 in
set_option maxRecDepth 100000 in
theorem b_Mo_number_7 {g : Ctx} {x1 : Int} {x2 : Int} {M : Mem} {Q : Int → Mem → Prop} (hx1 : InR x1) (hx2 : InR x2) (h : K_Mo_next g  M (fun r1 M2 => InR r1 → WT M2 → K_Mo_isIn g r1 48 57 M2 (fun r3 M4 => (r3 = 0 ∨ r3 = 1) → WT M4 → (((r3 = 0) → (((x2 ≤ 0) → Q 0 M4) ∧ ((¬ (x2 ≤ 0)) → (((x1 < (gI M4 (530) (33))) → Q 0 M4) ∧ ((¬ (x1 < (gI M4 (530) (33)))) → Q 1 M4))))) ∧ ((¬ (r3 = 0)) → (((3 ≤ x2) → (((x2 ≤ 0) → Q 0 M4) ∧ ((¬ (x2 ≤ 0)) → (((x1 < (gI M4 (530) (33))) → Q 0 M4) ∧ ((¬ (x1 < (gI M4 (530) (33)))) → Q 1 M4))))) ∧ ((¬ (3 ≤ x2)) → K_Mo_next g  M4 (fun r11 M12 => InR r11 → WT M12 → (InR (((10 * (gI M4 (530) (33))) + r11) - 48)) ∧ (InR ((gI M12 (530) (32)) + 1)) ∧ P_Mo_number g 7 [(0, vr g (530)), (1, vi (x1)), (2, vi (x2 + 1))] [] (sI (sI M12 (530) (33) (((10 * (gI M4 (530) (33))) + r11) - 48)) (530) (32) ((gI M12 (530) (32)) + 1)) Q)))))))) : P_Mo_number g 7 [(0, vr g (530)), (1, vi (x1)), (2, vi (x2))] [] M Q := by
  refine w_wt (fun hw => ?_)
  refine w_aload_n dX11_number_7 0 rfl ?_
  refine c_Mo_next dX11_number_8 q843 (by decide) (Nat.le_of_ble_eq_true rfl) h (fun r1 M2 h hr1 hwM2 => ?_)
  replace h := h hr1 hwM2
  refine w_bipush dX11_number_11 rfl ?_
  refine w_bipush dX11_number_13 rfl ?_
  refine c_Mo_isIn dX11_number_15 q851 (by decide) (Nat.le_of_ble_eq_true rfl) h (fun r3 M4 h hr3 hwM4 => ?_)
  replace h := h hr3 hwM4
  refine w_if_eq (tgt := 61) dX11_number_18 (by decide) (inr_z hr3) (fun c5 => ?_) (fun c5 => ?_)
  · replace h := h.1 c5
    refine w_iload_n dX11_number_61 2 rfl ?_
    refine w_if_le (tgt := 77) dX11_number_62 (by decide) hx2 (fun c6 => ?_) (fun c6 => ?_)
    · replace h := h.1 c6
      refine w_iconst dX11_number_77 ?_
      exact w_zret dX11_number_78 (Or.inl rfl) ⟨_, rfl, (Or.inl rfl), h⟩
    · replace h := h.2 c6
      refine w_aload_n dX11_number_65 0 rfl ?_
      refine w_getI (ci := 11) (k := 33) dX11_number_66 rfl fi11 (by decide) q937 s530 rfl l530 ?_
      refine w_iload_n dX11_number_69 1 rfl ?_
      refine w_icmp_gt (tgt := 77) dX11_number_70 (by decide) (hwM4.int _ _) hx1 (fun c7 => ?_) (fun c7 => ?_)
      · replace h := h.1 c7
        refine w_iconst dX11_number_77 ?_
        exact w_zret dX11_number_78 (Or.inl rfl) ⟨_, rfl, (Or.inl rfl), h⟩
      · replace h := h.2 c7
        refine w_iconst dX11_number_73 ?_
        refine w_goto (tgt := 78) dX11_number_74 (by decide) ?_
        exact w_zret dX11_number_78 (Or.inr rfl) ⟨_, rfl, (Or.inr rfl), h⟩
  · replace h := h.2 c5
    refine w_iload_n dX11_number_21 2 rfl ?_
    refine w_iconst dX11_number_22 ?_
    refine w_icmp_ge (tgt := 61) dX11_number_23 (by decide) hx2 ⟨by decide, by decide⟩ (fun c8 => ?_) (fun c8 => ?_)
    · replace h := h.1 c8
      refine w_iload_n dX11_number_61 2 rfl ?_
      refine w_if_le (tgt := 77) dX11_number_62 (by decide) hx2 (fun c9 => ?_) (fun c9 => ?_)
      · replace h := h.1 c9
        refine w_iconst dX11_number_77 ?_
        exact w_zret dX11_number_78 (Or.inl rfl) ⟨_, rfl, (Or.inl rfl), h⟩
      · replace h := h.2 c9
        refine w_aload_n dX11_number_65 0 rfl ?_
        refine w_getI (ci := 11) (k := 33) dX11_number_66 rfl fi11 (by decide) q937 s530 rfl l530 ?_
        refine w_iload_n dX11_number_69 1 rfl ?_
        refine w_icmp_gt (tgt := 77) dX11_number_70 (by decide) (hwM4.int _ _) hx1 (fun c10 => ?_) (fun c10 => ?_)
        · replace h := h.1 c10
          refine w_iconst dX11_number_77 ?_
          exact w_zret dX11_number_78 (Or.inl rfl) ⟨_, rfl, (Or.inl rfl), h⟩
        · replace h := h.2 c10
          refine w_iconst dX11_number_73 ?_
          refine w_goto (tgt := 78) dX11_number_74 (by decide) ?_
          exact w_zret dX11_number_78 (Or.inr rfl) ⟨_, rfl, (Or.inr rfl), h⟩
    · replace h := h.2 c8
      refine w_aload_n dX11_number_26 0 rfl ?_
      refine w_bipush dX11_number_27 rfl ?_
      refine w_aload_n dX11_number_29 0 rfl ?_
      refine w_getI (ci := 11) (k := 33) dX11_number_30 rfl fi11 (by decide) q937 s530 rfl l530 ?_
      refine w_imul dX11_number_33 ?_
      refine w_aload_n dX11_number_34 0 rfl ?_
      refine c_Mo_next dX11_number_35 q843 (by decide) (Nat.le_of_ble_eq_true rfl) h (fun r11 M12 h hr11 hwM12 => ?_)
      replace h := h hr11 hwM12
      refine w_iadd dX11_number_38 ?_
      refine w_bipush dX11_number_39 rfl ?_
      refine w_isub dX11_number_41 ?_
      obtain ⟨i13, h⟩ := h
      refine w_putI (ci := 11) (k := 33) dX11_number_42 rfl fi11 (by decide) q937 tyX11 tyX11_ok nmX11 rfl rfl rfl i13 s530 rfl l530 ?_
      have hw14 : WT (sI M12 (530) (33) (((10 * (gI M4 (530) (33))) + r11) - 48)) := hwM12.sI i13
      refine w_aload_n dX11_number_45 0 rfl ?_
      refine w_dup dX11_number_46 rfl ?_
      refine w_getI (ci := 11) (k := 32) dX11_number_47 rfl fi11 (by decide) q936 s530 rfl l530 ?_
      refine w_top (congrArg vi ((gI_ne _ _ _ _ _ _ (by omega)).trans rfl)) ?_
      have u15 : InR (gI M12 (530) (32)) := hwM12.int _ _
      refine w_iconst dX11_number_50 ?_
      refine w_iadd dX11_number_51 ?_
      obtain ⟨i16, h⟩ := h
      refine w_putI (ci := 11) (k := 32) dX11_number_52 rfl fi11 (by decide) q936 tyX11 tyX11_ok nmX11 rfl rfl rfl i16 s530 rfl l530 ?_
      have hw17 : WT (sI (sI M12 (530) (33) (((10 * (gI M4 (530) (33))) + r11) - 48)) (530) (32) ((gI M12 (530) (32)) + 1)) := hw14.sI i16
      refine w_iinc (lv' := [(2, vi (x2 + 1)), (0, vr g (530)), (1, vi (x1))]) dX11_number_55 2 rfl (by decide) rfl ?_
      refine w_goto (tgt := 7) dX11_number_58 (by decide) ?_
      refine w_lv [1, 2, 0] rfl ?_
      exact h
set_option maxHeartbeats 4000000 in
set_option maxRecDepth 100000 in
theorem b_Mo_macro_0 {g : Ctx} {p0 : Int} {M : Mem} {Q : Int → Mem → Prop} (hp0 : InR p0) (h : P_Mo_macro g 2 [(0, vr g (530)), (1, vi (p0)), (2, vi (0))] [] M Q) : P_Mo_macro g 0 [(0, vr g (530)), (1, vi (p0))] [] M Q := by
  refine w_wt (fun hw => ?_)
  refine w_iconst dX11_macro_0 ?_
  refine w_istore_n (lv' := [(2, vi (0)), (0, vr g (530)), (1, vi (p0))]) (i := 2) dX11_macro_1 rfl (by decide) rfl ?_
  refine w_lv [1, 2, 0] rfl ?_
  exact h
set_option maxHeartbeats 4000000 in
set_option maxRecDepth 100000 in
theorem b_Mo_macro_2 {g : Ctx} {x1 : Int} {x2 : Int} {M : Mem} {Q : Int → Mem → Prop} (hx1 : InR x1) (hx2 : InR x2) (h : K_Mo_next g  M (fun r1 M2 => InR r1 → WT M2 → (((r1 = 44) → (0 ≤ x1 ∧ x1 < 96) ∧ (((x2 ≤ 0) → Q 0 (sI M2 (554) (x1.toNat) (x2))) ∧ ((¬ (x2 ≤ 0)) → Q 1 (sI M2 (554) (x1.toNat) (x2))))) ∧ ((¬ (r1 = 44)) → K_Mo_next g  M2 (fun r7 M8 => InR r7 → WT M8 → (((r7 = 59) → (0 ≤ x1 ∧ x1 < 96) ∧ (((x2 ≤ 0) → Q 0 (sI M8 (554) (x1.toNat) (x2))) ∧ ((¬ (x2 ≤ 0)) → Q 1 (sI M8 (554) (x1.toNat) (x2))))) ∧ ((¬ (r7 = 59)) → (((x2 = 8) → Q 0 M8) ∧ ((¬ (x2 = 8)) → K_Mo_readsPart g  M8 (fun r14 M15 => (r14 = 0 ∨ r14 = 1) → WT M15 → (((¬ r14 = 0) → (0 ≤ ((8 * x1) + x2) ∧ ((8 * x1) + x2) < 768) ∧ P_Mo_macro g 2 [(0, vr g (530)), (1, vi (x1)), (2, vi (x2 + 1))] [] (sI M15 (555) (((8 * x1) + x2).toNat) (gI M15 (530) (33))) Q) ∧ ((r14 = 0) → Q 0 M15)))))))))))) : P_Mo_macro g 2 [(0, vr g (530)), (1, vi (x1)), (2, vi (x2))] [] M Q := by
  refine w_wt (fun hw => ?_)
  refine w_aload_n dX11_macro_2 0 rfl ?_
  refine c_Mo_next dX11_macro_3 q843 (by decide) (Nat.le_of_ble_eq_true rfl) h (fun r1 M2 h hr1 hwM2 => ?_)
  replace h := h hr1 hwM2
  refine w_bipush dX11_macro_6 rfl ?_
  refine w_icmp_eq (tgt := 56) dX11_macro_8 (by decide) hr1 ⟨by decide, by decide⟩ (fun c3 => ?_) (fun c3 => ?_)
  · replace h := h.1 c3
    refine w_aload_n dX11_macro_56 0 rfl ?_
    refine w_getS (ci := 11) (k := 27) dX11_macro_57 rfl fi11 (by decide) q931 s530 rfl l530 ?_
    refine w_iload_n dX11_macro_60 1 rfl ?_
    refine w_iload_n dX11_macro_61 2 rfl ?_
    obtain ⟨i4, h⟩ := h
    refine w_iast dX11_macro_62 s554 l554 (by decide) i4.1 i4.2 hx2 ?_
    have hw5 : WT (sI M2 (554) (x1.toNat) (x2)) := hwM2.sI hx2
    refine w_iload_n dX11_macro_63 2 rfl ?_
    refine w_if_le (tgt := 71) dX11_macro_64 (by decide) hx2 (fun c6 => ?_) (fun c6 => ?_)
    · replace h := h.1 c6
      refine w_iconst dX11_macro_71 ?_
      exact w_zret dX11_macro_72 (Or.inl rfl) ⟨_, rfl, (Or.inl rfl), h⟩
    · replace h := h.2 c6
      refine w_iconst dX11_macro_67 ?_
      refine w_goto (tgt := 72) dX11_macro_68 (by decide) ?_
      exact w_zret dX11_macro_72 (Or.inr rfl) ⟨_, rfl, (Or.inr rfl), h⟩
  · replace h := h.2 c3
    refine w_aload_n dX11_macro_11 0 rfl ?_
    refine c_Mo_next dX11_macro_12 q843 (by decide) (Nat.le_of_ble_eq_true rfl) h (fun r7 M8 h hr7 hwM8 => ?_)
    replace h := h hr7 hwM8
    refine w_bipush dX11_macro_15 rfl ?_
    refine w_icmp_eq (tgt := 56) dX11_macro_17 (by decide) hr7 ⟨by decide, by decide⟩ (fun c9 => ?_) (fun c9 => ?_)
    · replace h := h.1 c9
      refine w_aload_n dX11_macro_56 0 rfl ?_
      refine w_getS (ci := 11) (k := 27) dX11_macro_57 rfl fi11 (by decide) q931 s530 rfl l530 ?_
      refine w_iload_n dX11_macro_60 1 rfl ?_
      refine w_iload_n dX11_macro_61 2 rfl ?_
      obtain ⟨i10, h⟩ := h
      refine w_iast dX11_macro_62 s554 l554 (by decide) i10.1 i10.2 hx2 ?_
      have hw11 : WT (sI M8 (554) (x1.toNat) (x2)) := hwM8.sI hx2
      refine w_iload_n dX11_macro_63 2 rfl ?_
      refine w_if_le (tgt := 71) dX11_macro_64 (by decide) hx2 (fun c12 => ?_) (fun c12 => ?_)
      · replace h := h.1 c12
        refine w_iconst dX11_macro_71 ?_
        exact w_zret dX11_macro_72 (Or.inl rfl) ⟨_, rfl, (Or.inl rfl), h⟩
      · replace h := h.2 c12
        refine w_iconst dX11_macro_67 ?_
        refine w_goto (tgt := 72) dX11_macro_68 (by decide) ?_
        exact w_zret dX11_macro_72 (Or.inr rfl) ⟨_, rfl, (Or.inr rfl), h⟩
    · replace h := h.2 c9
      refine w_iload_n dX11_macro_20 2 rfl ?_
      refine w_bipush dX11_macro_21 rfl ?_
      refine w_icmp_eq (tgt := 33) dX11_macro_23 (by decide) hx2 ⟨by decide, by decide⟩ (fun c13 => ?_) (fun c13 => ?_)
      · replace h := h.1 c13
        refine w_iconst dX11_macro_33 ?_
        exact w_zret dX11_macro_34 (Or.inl rfl) ⟨_, rfl, (Or.inl rfl), h⟩
      · replace h := h.2 c13
        refine w_aload_n dX11_macro_26 0 rfl ?_
        refine c_Mo_readsPart dX11_macro_27 q885 (by decide) (Nat.le_of_ble_eq_true rfl) h (fun r14 M15 h hr14 hwM15 => ?_)
        replace h := h hr14 hwM15
        refine w_if_ne (tgt := 35) dX11_macro_30 (by decide) (inr_z hr14) (fun c16 => ?_) (fun c16 => ?_)
        · replace h := h.1 c16
          refine w_aload_n dX11_macro_35 0 rfl ?_
          refine w_getS (ci := 11) (k := 28) dX11_macro_36 rfl fi11 (by decide) q932 s530 rfl l530 ?_
          refine w_bipush dX11_macro_39 rfl ?_
          refine w_iload_n dX11_macro_41 1 rfl ?_
          refine w_imul dX11_macro_42 ?_
          refine w_iload_n dX11_macro_43 2 rfl ?_
          refine w_iadd dX11_macro_44 ?_
          refine w_aload_n dX11_macro_45 0 rfl ?_
          refine w_getI (ci := 11) (k := 33) dX11_macro_46 rfl fi11 (by decide) q937 s530 rfl l530 ?_
          obtain ⟨i17, h⟩ := h
          refine w_iast dX11_macro_49 s555 l555 (by decide) i17.1 i17.2 (hwM15.int _ _) ?_
          have hw18 : WT (sI M15 (555) (((8 * x1) + x2).toNat) (gI M15 (530) (33))) := hwM15.sI (hwM15.int _ _)
          refine w_iinc (lv' := [(2, vi (x2 + 1)), (0, vr g (530)), (1, vi (x1))]) dX11_macro_50 2 rfl (by decide) rfl ?_
          refine w_goto (tgt := 2) dX11_macro_53 (by decide) ?_
          refine w_lv [1, 2, 0] rfl ?_
          exact h
        · replace h := h.2 c16
          refine w_iconst dX11_macro_33 ?_
          exact w_zret dX11_macro_34 (Or.inl rfl) ⟨_, rfl, (Or.inl rfl), h⟩
set_option maxHeartbeats 4000000 in
set_option maxRecDepth 100000 in
theorem b_Mo_readsPart_0 {g : Ctx}  {M : Mem} {Q : Int → Mem → Prop}  (h : K_Mo_next g  M (fun r1 M2 => InR r1 → WT M2 → K_Mo_isIn g r1 97 112 M2 (fun r3 M4 => (r3 = 0 ∨ r3 = 1) → WT M4 → (((r3 = 0) → K_Mo_comes g 37 M4 (fun r6 M7 => (r6 = 0 ∨ r6 = 1) → WT M7 → (((¬ r6 = 0) → K_Mo_comes g 45 M7 (fun r9 M10 => (r9 = 0 ∨ r9 = 1) → WT M10 → (((r9 = 0) → (InR (16 + 0)) ∧ K_Mo_next g  (sI M10 (530) (33) (16 + 0)) (fun r14 M15 => InR r14 → WT M15 → K_Mo_isIn g r14 49 55 M15 (fun r16 M17 => (r16 = 0 ∨ r16 = 1) → WT M17 → (((r16 = 0) → K_Mo_next g  M17 (fun r19 M20 => InR r19 → WT M20 → K_Mo_sortOf g r19 M20 (fun r21 M22 => InR r21 → WT M22 → (InR ((gI M22 (530) (32)) + 1)) ∧ (InR ((gI M22 (530) (33)) + r21)) ∧ (((r21 = (-4)) → Q 0 (sI (sI M22 (530) (32) ((gI M22 (530) (32)) + 1)) (530) (33) ((gI M22 (530) (33)) + r21))) ∧ ((¬ (r21 = (-4))) → Q 1 (sI (sI M22 (530) (32) ((gI M22 (530) (32)) + 1)) (530) (33) ((gI M22 (530) (33)) + r21))))))) ∧ ((¬ (r16 = 0)) → K_Mo_next g  M17 (fun r29 M30 => InR r29 → WT M30 → (InR ((gI M17 (530) (33)) + (8 * (r29 - 48)))) ∧ (InR ((gI M30 (530) (32)) + 1)) ∧ K_Mo_next g  (sI (sI M30 (530) (33) ((gI M17 (530) (33)) + (8 * (r29 - 48)))) (530) (32) ((gI M30 (530) (32)) + 1)) (fun r36 M37 => InR r36 → WT M37 → K_Mo_sortOf g r36 M37 (fun r38 M39 => InR r38 → WT M39 → (InR ((gI M39 (530) (32)) + 1)) ∧ (InR ((gI M39 (530) (33)) + r38)) ∧ (((r38 = (-4)) → Q 0 (sI (sI M39 (530) (32) ((gI M39 (530) (32)) + 1)) (530) (33) ((gI M39 (530) (33)) + r38))) ∧ ((¬ (r38 = (-4))) → Q 1 (sI (sI M39 (530) (32) ((gI M39 (530) (32)) + 1)) (530) (33) ((gI M39 (530) (33)) + r38)))))))))))) ∧ ((¬ (r9 = 0)) → (InR (16 + 4)) ∧ K_Mo_next g  (sI M10 (530) (33) (16 + 4)) (fun r48 M49 => InR r48 → WT M49 → K_Mo_isIn g r48 49 55 M49 (fun r50 M51 => (r50 = 0 ∨ r50 = 1) → WT M51 → (((r50 = 0) → K_Mo_next g  M51 (fun r53 M54 => InR r53 → WT M54 → K_Mo_sortOf g r53 M54 (fun r55 M56 => InR r55 → WT M56 → (InR ((gI M56 (530) (32)) + 1)) ∧ (InR ((gI M56 (530) (33)) + r55)) ∧ (((r55 = (-4)) → Q 0 (sI (sI M56 (530) (32) ((gI M56 (530) (32)) + 1)) (530) (33) ((gI M56 (530) (33)) + r55))) ∧ ((¬ (r55 = (-4))) → Q 1 (sI (sI M56 (530) (32) ((gI M56 (530) (32)) + 1)) (530) (33) ((gI M56 (530) (33)) + r55))))))) ∧ ((¬ (r50 = 0)) → K_Mo_next g  M51 (fun r63 M64 => InR r63 → WT M64 → (InR ((gI M51 (530) (33)) + (8 * (r63 - 48)))) ∧ (InR ((gI M64 (530) (32)) + 1)) ∧ K_Mo_next g  (sI (sI M64 (530) (33) ((gI M51 (530) (33)) + (8 * (r63 - 48)))) (530) (32) ((gI M64 (530) (32)) + 1)) (fun r70 M71 => InR r70 → WT M71 → K_Mo_sortOf g r70 M71 (fun r72 M73 => InR r72 → WT M73 → (InR ((gI M73 (530) (32)) + 1)) ∧ (InR ((gI M73 (530) (33)) + r72)) ∧ (((r72 = (-4)) → Q 0 (sI (sI M73 (530) (32) ((gI M73 (530) (32)) + 1)) (530) (33) ((gI M73 (530) (33)) + r72))) ∧ ((¬ (r72 = (-4))) → Q 1 (sI (sI M73 (530) (32) ((gI M73 (530) (32)) + 1)) (530) (33) ((gI M73 (530) (33)) + r72))))))))))))))) ∧ ((r6 = 0) → Q 0 M7)))) ∧ ((¬ (r3 = 0)) → K_Mo_next g  M4 (fun r80 M81 => InR r80 → WT M81 → (InR (r80 - 97)) ∧ (InR ((gI M81 (530) (32)) + 1)) ∧ Q 1 (sI (sI M81 (530) (33) (r80 - 97)) (530) (32) ((gI M81 (530) (32)) + 1)))))))) : P_Mo_readsPart g 0 [(0, vr g (530))] [] M Q := by
  refine w_wt (fun hw => ?_)
  refine w_aload_n dX11_readsPart_0 0 rfl ?_
  refine c_Mo_next dX11_readsPart_1 q843 (by decide) (Nat.le_of_ble_eq_true rfl) h (fun r1 M2 h hr1 hwM2 => ?_)
  replace h := h hr1 hwM2
  refine w_bipush dX11_readsPart_4 rfl ?_
  refine w_bipush dX11_readsPart_6 rfl ?_
  refine c_Mo_isIn dX11_readsPart_8 q851 (by decide) (Nat.le_of_ble_eq_true rfl) h (fun r3 M4 h hr3 hwM4 => ?_)
  replace h := h hr3 hwM4
  refine w_if_eq (tgt := 37) dX11_readsPart_11 (by decide) (inr_z hr3) (fun c5 => ?_) (fun c5 => ?_)
  · replace h := h.1 c5
    refine w_aload_n dX11_readsPart_37 0 rfl ?_
    refine w_bipush dX11_readsPart_38 rfl ?_
    refine c_Mo_comes dX11_readsPart_40 q858 (by decide) (Nat.le_of_ble_eq_true rfl) h (fun r6 M7 h hr6 hwM7 => ?_)
    replace h := h hr6 hwM7
    refine w_if_ne (tgt := 48) dX11_readsPart_43 (by decide) (inr_z hr6) (fun c8 => ?_) (fun c8 => ?_)
    · replace h := h.1 c8
      refine w_aload_n dX11_readsPart_48 0 rfl ?_
      refine w_bipush dX11_readsPart_49 rfl ?_
      refine w_aload_n dX11_readsPart_51 0 rfl ?_
      refine w_bipush dX11_readsPart_52 rfl ?_
      refine c_Mo_comes dX11_readsPart_54 q858 (by decide) (Nat.le_of_ble_eq_true rfl) h (fun r9 M10 h hr9 hwM10 => ?_)
      replace h := h hr9 hwM10
      refine w_if_eq (tgt := 64) dX11_readsPart_57 (by decide) (inr_z hr9) (fun c11 => ?_) (fun c11 => ?_)
      · replace h := h.1 c11
        refine w_iconst dX11_readsPart_64 ?_
        refine w_iadd dX11_readsPart_65 ?_
        obtain ⟨i12, h⟩ := h
        refine w_putI (ci := 11) (k := 33) dX11_readsPart_66 rfl fi11 (by decide) q937 tyX11 tyX11_ok nmX11 rfl rfl rfl i12 s530 rfl l530 ?_
        have hw13 : WT (sI M10 (530) (33) (16 + 0)) := hwM10.sI i12
        refine w_aload_n dX11_readsPart_69 0 rfl ?_
        refine c_Mo_next dX11_readsPart_70 q843 (by decide) (Nat.le_of_ble_eq_true rfl) h (fun r14 M15 h hr14 hwM15 => ?_)
        replace h := h hr14 hwM15
        refine w_bipush dX11_readsPart_73 rfl ?_
        refine w_bipush dX11_readsPart_75 rfl ?_
        refine c_Mo_isIn dX11_readsPart_77 q851 (by decide) (Nat.le_of_ble_eq_true rfl) h (fun r16 M17 h hr16 hwM17 => ?_)
        replace h := h hr16 hwM17
        refine w_if_eq (tgt := 112) dX11_readsPart_80 (by decide) (inr_z hr16) (fun c18 => ?_) (fun c18 => ?_)
        · replace h := h.1 c18
          refine w_aload_n dX11_readsPart_112 0 rfl ?_
          refine c_Mo_next dX11_readsPart_113 q843 (by decide) (Nat.le_of_ble_eq_true rfl) h (fun r19 M20 h hr19 hwM20 => ?_)
          replace h := h hr19 hwM20
          refine c_Mo_sortOf dX11_readsPart_116 q889 (by decide) (Nat.le_of_ble_eq_true rfl) h (fun r21 M22 h hr21 hwM22 => ?_)
          replace h := h hr21 hwM22
          refine w_istore_n (lv' := [(1, vi (r21)), (0, vr g (530))]) (i := 1) dX11_readsPart_119 rfl (by decide) rfl ?_
          refine w_aload_n dX11_readsPart_120 1 rfl ?_
          refine w_dup dX11_readsPart_121 rfl ?_
          refine w_getI (ci := 11) (k := 32) dX11_readsPart_122 rfl fi11 (by decide) q936 s530 rfl l530 ?_
          refine w_iconst dX11_readsPart_125 ?_
          refine w_iadd dX11_readsPart_126 ?_
          obtain ⟨i23, h⟩ := h
          refine w_putI (ci := 11) (k := 32) dX11_readsPart_127 rfl fi11 (by decide) q936 tyX11 tyX11_ok nmX11 rfl rfl rfl i23 s530 rfl l530 ?_
          have hw24 : WT (sI M22 (530) (32) ((gI M22 (530) (32)) + 1)) := hwM22.sI i23
          refine w_aload_n dX11_readsPart_130 1 rfl ?_
          refine w_dup dX11_readsPart_131 rfl ?_
          refine w_getI (ci := 11) (k := 33) dX11_readsPart_132 rfl fi11 (by decide) q937 s530 rfl l530 ?_
          refine w_top (congrArg vi ((gI_ne _ _ _ _ _ _ (by omega)).trans rfl)) ?_
          have u25 : InR (gI M22 (530) (33)) := hwM22.int _ _
          refine w_iload_n dX11_readsPart_135 0 rfl ?_
          refine w_iadd dX11_readsPart_136 ?_
          obtain ⟨i26, h⟩ := h
          refine w_putI (ci := 11) (k := 33) dX11_readsPart_137 rfl fi11 (by decide) q937 tyX11 tyX11_ok nmX11 rfl rfl rfl i26 s530 rfl l530 ?_
          have hw27 : WT (sI (sI M22 (530) (32) ((gI M22 (530) (32)) + 1)) (530) (33) ((gI M22 (530) (33)) + r21)) := hw24.sI i26
          refine w_iload_n dX11_readsPart_140 0 rfl ?_
          refine w_bipush dX11_readsPart_141 rfl ?_
          refine w_icmp_eq (tgt := 150) dX11_readsPart_143 (by decide) hr21 ⟨by decide, by decide⟩ (fun c28 => ?_) (fun c28 => ?_)
          · replace h := h.1 c28
            refine w_iconst dX11_readsPart_150 ?_
            exact w_zret dX11_readsPart_151 (Or.inl rfl) ⟨_, rfl, (Or.inl rfl), h⟩
          · replace h := h.2 c28
            refine w_iconst dX11_readsPart_146 ?_
            refine w_goto (tgt := 151) dX11_readsPart_147 (by decide) ?_
            exact w_zret dX11_readsPart_151 (Or.inr rfl) ⟨_, rfl, (Or.inr rfl), h⟩
        · replace h := h.2 c18
          refine w_aload_n dX11_readsPart_83 0 rfl ?_
          refine w_dup dX11_readsPart_84 rfl ?_
          refine w_getI (ci := 11) (k := 33) dX11_readsPart_85 rfl fi11 (by decide) q937 s530 rfl l530 ?_
          refine w_bipush dX11_readsPart_88 rfl ?_
          refine w_aload_n dX11_readsPart_90 0 rfl ?_
          refine c_Mo_next dX11_readsPart_91 q843 (by decide) (Nat.le_of_ble_eq_true rfl) h (fun r29 M30 h hr29 hwM30 => ?_)
          replace h := h hr29 hwM30
          refine w_bipush dX11_readsPart_94 rfl ?_
          refine w_isub dX11_readsPart_96 ?_
          refine w_imul dX11_readsPart_97 ?_
          refine w_iadd dX11_readsPart_98 ?_
          obtain ⟨i31, h⟩ := h
          refine w_putI (ci := 11) (k := 33) dX11_readsPart_99 rfl fi11 (by decide) q937 tyX11 tyX11_ok nmX11 rfl rfl rfl i31 s530 rfl l530 ?_
          have hw32 : WT (sI M30 (530) (33) ((gI M17 (530) (33)) + (8 * (r29 - 48)))) := hwM30.sI i31
          refine w_aload_n dX11_readsPart_102 0 rfl ?_
          refine w_dup dX11_readsPart_103 rfl ?_
          refine w_getI (ci := 11) (k := 32) dX11_readsPart_104 rfl fi11 (by decide) q936 s530 rfl l530 ?_
          refine w_top (congrArg vi ((gI_ne _ _ _ _ _ _ (by omega)).trans rfl)) ?_
          have u33 : InR (gI M30 (530) (32)) := hwM30.int _ _
          refine w_iconst dX11_readsPart_107 ?_
          refine w_iadd dX11_readsPart_108 ?_
          obtain ⟨i34, h⟩ := h
          refine w_putI (ci := 11) (k := 32) dX11_readsPart_109 rfl fi11 (by decide) q936 tyX11 tyX11_ok nmX11 rfl rfl rfl i34 s530 rfl l530 ?_
          have hw35 : WT (sI (sI M30 (530) (33) ((gI M17 (530) (33)) + (8 * (r29 - 48)))) (530) (32) ((gI M30 (530) (32)) + 1)) := hw32.sI i34
          refine w_aload_n dX11_readsPart_112 0 rfl ?_
          refine c_Mo_next dX11_readsPart_113 q843 (by decide) (Nat.le_of_ble_eq_true rfl) h (fun r36 M37 h hr36 hwM37 => ?_)
          replace h := h hr36 hwM37
          refine c_Mo_sortOf dX11_readsPart_116 q889 (by decide) (Nat.le_of_ble_eq_true rfl) h (fun r38 M39 h hr38 hwM39 => ?_)
          replace h := h hr38 hwM39
          refine w_istore_n (lv' := [(1, vi (r38)), (0, vr g (530))]) (i := 1) dX11_readsPart_119 rfl (by decide) rfl ?_
          refine w_aload_n dX11_readsPart_120 1 rfl ?_
          refine w_dup dX11_readsPart_121 rfl ?_
          refine w_getI (ci := 11) (k := 32) dX11_readsPart_122 rfl fi11 (by decide) q936 s530 rfl l530 ?_
          refine w_iconst dX11_readsPart_125 ?_
          refine w_iadd dX11_readsPart_126 ?_
          obtain ⟨i40, h⟩ := h
          refine w_putI (ci := 11) (k := 32) dX11_readsPart_127 rfl fi11 (by decide) q936 tyX11 tyX11_ok nmX11 rfl rfl rfl i40 s530 rfl l530 ?_
          have hw41 : WT (sI M39 (530) (32) ((gI M39 (530) (32)) + 1)) := hwM39.sI i40
          refine w_aload_n dX11_readsPart_130 1 rfl ?_
          refine w_dup dX11_readsPart_131 rfl ?_
          refine w_getI (ci := 11) (k := 33) dX11_readsPart_132 rfl fi11 (by decide) q937 s530 rfl l530 ?_
          refine w_top (congrArg vi ((gI_ne _ _ _ _ _ _ (by omega)).trans rfl)) ?_
          have u42 : InR (gI M39 (530) (33)) := hwM39.int _ _
          refine w_iload_n dX11_readsPart_135 0 rfl ?_
          refine w_iadd dX11_readsPart_136 ?_
          obtain ⟨i43, h⟩ := h
          refine w_putI (ci := 11) (k := 33) dX11_readsPart_137 rfl fi11 (by decide) q937 tyX11 tyX11_ok nmX11 rfl rfl rfl i43 s530 rfl l530 ?_
          have hw44 : WT (sI (sI M39 (530) (32) ((gI M39 (530) (32)) + 1)) (530) (33) ((gI M39 (530) (33)) + r38)) := hw41.sI i43
          refine w_iload_n dX11_readsPart_140 0 rfl ?_
          refine w_bipush dX11_readsPart_141 rfl ?_
          refine w_icmp_eq (tgt := 150) dX11_readsPart_143 (by decide) hr38 ⟨by decide, by decide⟩ (fun c45 => ?_) (fun c45 => ?_)
          · replace h := h.1 c45
            refine w_iconst dX11_readsPart_150 ?_
            exact w_zret dX11_readsPart_151 (Or.inl rfl) ⟨_, rfl, (Or.inl rfl), h⟩
          · replace h := h.2 c45
            refine w_iconst dX11_readsPart_146 ?_
            refine w_goto (tgt := 151) dX11_readsPart_147 (by decide) ?_
            exact w_zret dX11_readsPart_151 (Or.inr rfl) ⟨_, rfl, (Or.inr rfl), h⟩
      · replace h := h.2 c11
        refine w_iconst dX11_readsPart_60 ?_
        refine w_goto (tgt := 65) dX11_readsPart_61 (by decide) ?_
        refine w_iadd dX11_readsPart_65 ?_
        obtain ⟨i46, h⟩ := h
        refine w_putI (ci := 11) (k := 33) dX11_readsPart_66 rfl fi11 (by decide) q937 tyX11 tyX11_ok nmX11 rfl rfl rfl i46 s530 rfl l530 ?_
        have hw47 : WT (sI M10 (530) (33) (16 + 4)) := hwM10.sI i46
        refine w_aload_n dX11_readsPart_69 0 rfl ?_
        refine c_Mo_next dX11_readsPart_70 q843 (by decide) (Nat.le_of_ble_eq_true rfl) h (fun r48 M49 h hr48 hwM49 => ?_)
        replace h := h hr48 hwM49
        refine w_bipush dX11_readsPart_73 rfl ?_
        refine w_bipush dX11_readsPart_75 rfl ?_
        refine c_Mo_isIn dX11_readsPart_77 q851 (by decide) (Nat.le_of_ble_eq_true rfl) h (fun r50 M51 h hr50 hwM51 => ?_)
        replace h := h hr50 hwM51
        refine w_if_eq (tgt := 112) dX11_readsPart_80 (by decide) (inr_z hr50) (fun c52 => ?_) (fun c52 => ?_)
        · replace h := h.1 c52
          refine w_aload_n dX11_readsPart_112 0 rfl ?_
          refine c_Mo_next dX11_readsPart_113 q843 (by decide) (Nat.le_of_ble_eq_true rfl) h (fun r53 M54 h hr53 hwM54 => ?_)
          replace h := h hr53 hwM54
          refine c_Mo_sortOf dX11_readsPart_116 q889 (by decide) (Nat.le_of_ble_eq_true rfl) h (fun r55 M56 h hr55 hwM56 => ?_)
          replace h := h hr55 hwM56
          refine w_istore_n (lv' := [(1, vi (r55)), (0, vr g (530))]) (i := 1) dX11_readsPart_119 rfl (by decide) rfl ?_
          refine w_aload_n dX11_readsPart_120 1 rfl ?_
          refine w_dup dX11_readsPart_121 rfl ?_
          refine w_getI (ci := 11) (k := 32) dX11_readsPart_122 rfl fi11 (by decide) q936 s530 rfl l530 ?_
          refine w_iconst dX11_readsPart_125 ?_
          refine w_iadd dX11_readsPart_126 ?_
          obtain ⟨i57, h⟩ := h
          refine w_putI (ci := 11) (k := 32) dX11_readsPart_127 rfl fi11 (by decide) q936 tyX11 tyX11_ok nmX11 rfl rfl rfl i57 s530 rfl l530 ?_
          have hw58 : WT (sI M56 (530) (32) ((gI M56 (530) (32)) + 1)) := hwM56.sI i57
          refine w_aload_n dX11_readsPart_130 1 rfl ?_
          refine w_dup dX11_readsPart_131 rfl ?_
          refine w_getI (ci := 11) (k := 33) dX11_readsPart_132 rfl fi11 (by decide) q937 s530 rfl l530 ?_
          refine w_top (congrArg vi ((gI_ne _ _ _ _ _ _ (by omega)).trans rfl)) ?_
          have u59 : InR (gI M56 (530) (33)) := hwM56.int _ _
          refine w_iload_n dX11_readsPart_135 0 rfl ?_
          refine w_iadd dX11_readsPart_136 ?_
          obtain ⟨i60, h⟩ := h
          refine w_putI (ci := 11) (k := 33) dX11_readsPart_137 rfl fi11 (by decide) q937 tyX11 tyX11_ok nmX11 rfl rfl rfl i60 s530 rfl l530 ?_
          have hw61 : WT (sI (sI M56 (530) (32) ((gI M56 (530) (32)) + 1)) (530) (33) ((gI M56 (530) (33)) + r55)) := hw58.sI i60
          refine w_iload_n dX11_readsPart_140 0 rfl ?_
          refine w_bipush dX11_readsPart_141 rfl ?_
          refine w_icmp_eq (tgt := 150) dX11_readsPart_143 (by decide) hr55 ⟨by decide, by decide⟩ (fun c62 => ?_) (fun c62 => ?_)
          · replace h := h.1 c62
            refine w_iconst dX11_readsPart_150 ?_
            exact w_zret dX11_readsPart_151 (Or.inl rfl) ⟨_, rfl, (Or.inl rfl), h⟩
          · replace h := h.2 c62
            refine w_iconst dX11_readsPart_146 ?_
            refine w_goto (tgt := 151) dX11_readsPart_147 (by decide) ?_
            exact w_zret dX11_readsPart_151 (Or.inr rfl) ⟨_, rfl, (Or.inr rfl), h⟩
        · replace h := h.2 c52
          refine w_aload_n dX11_readsPart_83 0 rfl ?_
          refine w_dup dX11_readsPart_84 rfl ?_
          refine w_getI (ci := 11) (k := 33) dX11_readsPart_85 rfl fi11 (by decide) q937 s530 rfl l530 ?_
          refine w_bipush dX11_readsPart_88 rfl ?_
          refine w_aload_n dX11_readsPart_90 0 rfl ?_
          refine c_Mo_next dX11_readsPart_91 q843 (by decide) (Nat.le_of_ble_eq_true rfl) h (fun r63 M64 h hr63 hwM64 => ?_)
          replace h := h hr63 hwM64
          refine w_bipush dX11_readsPart_94 rfl ?_
          refine w_isub dX11_readsPart_96 ?_
          refine w_imul dX11_readsPart_97 ?_
          refine w_iadd dX11_readsPart_98 ?_
          obtain ⟨i65, h⟩ := h
          refine w_putI (ci := 11) (k := 33) dX11_readsPart_99 rfl fi11 (by decide) q937 tyX11 tyX11_ok nmX11 rfl rfl rfl i65 s530 rfl l530 ?_
          have hw66 : WT (sI M64 (530) (33) ((gI M51 (530) (33)) + (8 * (r63 - 48)))) := hwM64.sI i65
          refine w_aload_n dX11_readsPart_102 0 rfl ?_
          refine w_dup dX11_readsPart_103 rfl ?_
          refine w_getI (ci := 11) (k := 32) dX11_readsPart_104 rfl fi11 (by decide) q936 s530 rfl l530 ?_
          refine w_top (congrArg vi ((gI_ne _ _ _ _ _ _ (by omega)).trans rfl)) ?_
          have u67 : InR (gI M64 (530) (32)) := hwM64.int _ _
          refine w_iconst dX11_readsPart_107 ?_
          refine w_iadd dX11_readsPart_108 ?_
          obtain ⟨i68, h⟩ := h
          refine w_putI (ci := 11) (k := 32) dX11_readsPart_109 rfl fi11 (by decide) q936 tyX11 tyX11_ok nmX11 rfl rfl rfl i68 s530 rfl l530 ?_
          have hw69 : WT (sI (sI M64 (530) (33) ((gI M51 (530) (33)) + (8 * (r63 - 48)))) (530) (32) ((gI M64 (530) (32)) + 1)) := hw66.sI i68
          refine w_aload_n dX11_readsPart_112 0 rfl ?_
          refine c_Mo_next dX11_readsPart_113 q843 (by decide) (Nat.le_of_ble_eq_true rfl) h (fun r70 M71 h hr70 hwM71 => ?_)
          replace h := h hr70 hwM71
          refine c_Mo_sortOf dX11_readsPart_116 q889 (by decide) (Nat.le_of_ble_eq_true rfl) h (fun r72 M73 h hr72 hwM73 => ?_)
          replace h := h hr72 hwM73
          refine w_istore_n (lv' := [(1, vi (r72)), (0, vr g (530))]) (i := 1) dX11_readsPart_119 rfl (by decide) rfl ?_
          refine w_aload_n dX11_readsPart_120 1 rfl ?_
          refine w_dup dX11_readsPart_121 rfl ?_
          refine w_getI (ci := 11) (k := 32) dX11_readsPart_122 rfl fi11 (by decide) q936 s530 rfl l530 ?_
          refine w_iconst dX11_readsPart_125 ?_
          refine w_iadd dX11_readsPart_126 ?_
          obtain ⟨i74, h⟩ := h
          refine w_putI (ci := 11) (k := 32) dX11_readsPart_127 rfl fi11 (by decide) q936 tyX11 tyX11_ok nmX11 rfl rfl rfl i74 s530 rfl l530 ?_
          have hw75 : WT (sI M73 (530) (32) ((gI M73 (530) (32)) + 1)) := hwM73.sI i74
          refine w_aload_n dX11_readsPart_130 1 rfl ?_
          refine w_dup dX11_readsPart_131 rfl ?_
          refine w_getI (ci := 11) (k := 33) dX11_readsPart_132 rfl fi11 (by decide) q937 s530 rfl l530 ?_
          refine w_top (congrArg vi ((gI_ne _ _ _ _ _ _ (by omega)).trans rfl)) ?_
          have u76 : InR (gI M73 (530) (33)) := hwM73.int _ _
          refine w_iload_n dX11_readsPart_135 0 rfl ?_
          refine w_iadd dX11_readsPart_136 ?_
          obtain ⟨i77, h⟩ := h
          refine w_putI (ci := 11) (k := 33) dX11_readsPart_137 rfl fi11 (by decide) q937 tyX11 tyX11_ok nmX11 rfl rfl rfl i77 s530 rfl l530 ?_
          have hw78 : WT (sI (sI M73 (530) (32) ((gI M73 (530) (32)) + 1)) (530) (33) ((gI M73 (530) (33)) + r72)) := hw75.sI i77
          refine w_iload_n dX11_readsPart_140 0 rfl ?_
          refine w_bipush dX11_readsPart_141 rfl ?_
          refine w_icmp_eq (tgt := 150) dX11_readsPart_143 (by decide) hr72 ⟨by decide, by decide⟩ (fun c79 => ?_) (fun c79 => ?_)
          · replace h := h.1 c79
            refine w_iconst dX11_readsPart_150 ?_
            exact w_zret dX11_readsPart_151 (Or.inl rfl) ⟨_, rfl, (Or.inl rfl), h⟩
          · replace h := h.2 c79
            refine w_iconst dX11_readsPart_146 ?_
            refine w_goto (tgt := 151) dX11_readsPart_147 (by decide) ?_
            exact w_zret dX11_readsPart_151 (Or.inr rfl) ⟨_, rfl, (Or.inr rfl), h⟩
    · replace h := h.2 c8
      refine w_iconst dX11_readsPart_46 ?_
      exact w_zret dX11_readsPart_47 (Or.inl rfl) ⟨_, rfl, (Or.inl rfl), h⟩
  · replace h := h.2 c5
    refine w_aload_n dX11_readsPart_14 0 rfl ?_
    refine w_aload_n dX11_readsPart_15 0 rfl ?_
    refine c_Mo_next dX11_readsPart_16 q843 (by decide) (Nat.le_of_ble_eq_true rfl) h (fun r80 M81 h hr80 hwM81 => ?_)
    replace h := h hr80 hwM81
    refine w_bipush dX11_readsPart_19 rfl ?_
    refine w_isub dX11_readsPart_21 ?_
    obtain ⟨i82, h⟩ := h
    refine w_putI (ci := 11) (k := 33) dX11_readsPart_22 rfl fi11 (by decide) q937 tyX11 tyX11_ok nmX11 rfl rfl rfl i82 s530 rfl l530 ?_
    have hw83 : WT (sI M81 (530) (33) (r80 - 97)) := hwM81.sI i82
    refine w_aload_n dX11_readsPart_25 0 rfl ?_
    refine w_dup dX11_readsPart_26 rfl ?_
    refine w_getI (ci := 11) (k := 32) dX11_readsPart_27 rfl fi11 (by decide) q936 s530 rfl l530 ?_
    refine w_top (congrArg vi ((gI_ne _ _ _ _ _ _ (by omega)).trans rfl)) ?_
    have u84 : InR (gI M81 (530) (32)) := hwM81.int _ _
    refine w_iconst dX11_readsPart_30 ?_
    refine w_iadd dX11_readsPart_31 ?_
    obtain ⟨i85, h⟩ := h
    refine w_putI (ci := 11) (k := 32) dX11_readsPart_32 rfl fi11 (by decide) q936 tyX11 tyX11_ok nmX11 rfl rfl rfl i85 s530 rfl l530 ?_
    have hw86 : WT (sI (sI M81 (530) (33) (r80 - 97)) (530) (32) ((gI M81 (530) (32)) + 1)) := hw83.sI i85
    refine w_iconst dX11_readsPart_35 ?_
    exact w_zret dX11_readsPart_36 (Or.inr rfl) ⟨_, rfl, (Or.inr rfl), h⟩
set_option maxHeartbeats 4000000 in
set_option maxRecDepth 100000 in
theorem b_Mo_sortOf_0 {g : Ctx} {p0 : Int} {M : Mem} {Q : Int → Mem → Prop} (hp0 : InR p0) (h : (((¬ p0 = 100) → (((¬ p0 = 111) → (((¬ p0 = 115) → (((¬ p0 = 108) → Q (-4) M) ∧ ((p0 = 108) → Q 3 M))) ∧ ((p0 = 115) → Q 2 M))) ∧ ((p0 = 111) → Q 1 M))) ∧ ((p0 = 100) → Q 0 M))) : P_Mo_sortOf g 0 [(0, vi (p0))] [] M Q := by
  refine w_wt (fun hw => ?_)
  refine w_iload_n dX11_sortOf_0 0 rfl ?_
  refine w_bipush dX11_sortOf_1 rfl ?_
  refine w_icmp_ne (tgt := 10) dX11_sortOf_3 (by decide) hp0 ⟨by decide, by decide⟩ (fun c1 => ?_) (fun c1 => ?_)
  · replace h := h.1 c1
    refine w_iload_n dX11_sortOf_10 0 rfl ?_
    refine w_bipush dX11_sortOf_11 rfl ?_
    refine w_icmp_ne (tgt := 20) dX11_sortOf_13 (by decide) hp0 ⟨by decide, by decide⟩ (fun c2 => ?_) (fun c2 => ?_)
    · replace h := h.1 c2
      refine w_iload_n dX11_sortOf_20 0 rfl ?_
      refine w_bipush dX11_sortOf_21 rfl ?_
      refine w_icmp_ne (tgt := 30) dX11_sortOf_23 (by decide) hp0 ⟨by decide, by decide⟩ (fun c3 => ?_) (fun c3 => ?_)
      · replace h := h.1 c3
        refine w_iload_n dX11_sortOf_30 0 rfl ?_
        refine w_bipush dX11_sortOf_31 rfl ?_
        refine w_icmp_ne (tgt := 40) dX11_sortOf_33 (by decide) hp0 ⟨by decide, by decide⟩ (fun c4 => ?_) (fun c4 => ?_)
        · replace h := h.1 c4
          refine w_bipush dX11_sortOf_40 rfl ?_
          exact w_iret dX11_sortOf_42 ⟨_, rfl, ⟨by decide, by decide⟩, h⟩
        · replace h := h.2 c4
          refine w_iconst dX11_sortOf_36 ?_
          refine w_goto (tgt := 42) dX11_sortOf_37 (by decide) ?_
          exact w_iret dX11_sortOf_42 ⟨_, rfl, ⟨by decide, by decide⟩, h⟩
      · replace h := h.2 c3
        refine w_iconst dX11_sortOf_26 ?_
        refine w_goto (tgt := 42) dX11_sortOf_27 (by decide) ?_
        exact w_iret dX11_sortOf_42 ⟨_, rfl, ⟨by decide, by decide⟩, h⟩
    · replace h := h.2 c2
      refine w_iconst dX11_sortOf_16 ?_
      refine w_goto (tgt := 42) dX11_sortOf_17 (by decide) ?_
      exact w_iret dX11_sortOf_42 ⟨_, rfl, ⟨by decide, by decide⟩, h⟩
  · replace h := h.2 c1
    refine w_iconst dX11_sortOf_6 ?_
    refine w_goto (tgt := 42) dX11_sortOf_7 (by decide) ?_
    exact w_iret dX11_sortOf_42 ⟨_, rfl, ⟨by decide, by decide⟩, h⟩
set_option maxHeartbeats 4000000 in
set_option maxRecDepth 100000 in
theorem b_Mo_hostsOf_0 {g : Ctx} {p0 : Int} {M : Mem} {Q : Int → Mem → Prop} (hp0 : InR p0) (h : P_Mo_hostsOf g 4 [(0, vr g (530)), (1, vi (p0)), (2, vi (0)), (3, vi (1))] [] M Q) : P_Mo_hostsOf g 0 [(0, vr g (530)), (1, vi (p0))] [] M Q := by
  refine w_wt (fun hw => ?_)
  refine w_iconst dX11_hostsOf_0 ?_
  refine w_istore_n (lv' := [(2, vi (0)), (0, vr g (530)), (1, vi (p0))]) (i := 2) dX11_hostsOf_1 rfl (by decide) rfl ?_
  refine w_iconst dX11_hostsOf_2 ?_
  refine w_istore_n (lv' := [(3, vi (1)), (2, vi (0)), (0, vr g (530)), (1, vi (p0))]) (i := 3) dX11_hostsOf_3 rfl (by decide) rfl ?_
  refine w_lv [2, 3, 1, 0] rfl ?_
  exact h
set_option maxHeartbeats 4000000 in
set_option maxRecDepth 100000 in
theorem b_Mo_hostsOf_4 {g : Ctx} {x1 : Int} {x2 : Int} {x3 : Int} {M : Mem} {Q : Int → Mem → Prop} (hx1 : InR x1) (hx2 : InR x2) (hx3 : InR x3) (h : (((x3 = 0) → (0 ≤ x1 ∧ x1 < 12) ∧ Q 1 (sI M (557) (x1.toNat) (x2))) ∧ ((¬ (x3 = 0)) → (((x2 = 4) → Q 0 M) ∧ ((¬ (x2 = 4)) → K_Mo_number g 255 M (fun r5 M6 => (r5 = 0 ∨ r5 = 1) → WT M6 → (((¬ r5 = 0) → (0 ≤ ((4 * x1) + x2) ∧ ((4 * x1) + x2) < 48) ∧ K_Mo_comes g 44 (sI M6 (558) (((4 * x1) + x2).toNat) (gI M6 (530) (33))) (fun r10 M11 => (r10 = 0 ∨ r10 = 1) → WT M11 → P_Mo_hostsOf g 4 [(0, vr g (530)), (1, vi (x1)), (2, vi (x2 + 1)), (3, vi (r10))] [] M11 Q)) ∧ ((r5 = 0) → Q 0 M6)))))))) : P_Mo_hostsOf g 4 [(0, vr g (530)), (1, vi (x1)), (2, vi (x2)), (3, vi (x3))] [] M Q := by
  refine w_wt (fun hw => ?_)
  refine w_iload_n dX11_hostsOf_4 3 rfl ?_
  refine w_if_eq (tgt := 52) dX11_hostsOf_5 (by decide) hx3 (fun c1 => ?_) (fun c1 => ?_)
  · replace h := h.1 c1
    refine w_aload_n dX11_hostsOf_52 0 rfl ?_
    refine w_getS (ci := 11) (k := 30) dX11_hostsOf_53 rfl fi11 (by decide) q934 s530 rfl l530 ?_
    refine w_iload_n dX11_hostsOf_56 1 rfl ?_
    refine w_iload_n dX11_hostsOf_57 2 rfl ?_
    obtain ⟨i2, h⟩ := h
    refine w_iast dX11_hostsOf_58 s557 l557 (by decide) i2.1 i2.2 hx2 ?_
    have hw3 : WT (sI M (557) (x1.toNat) (x2)) := hw.sI hx2
    refine w_iconst dX11_hostsOf_59 ?_
    exact w_zret dX11_hostsOf_60 (Or.inr rfl) ⟨_, rfl, (Or.inr rfl), h⟩
  · replace h := h.2 c1
    refine w_iload_n dX11_hostsOf_8 2 rfl ?_
    refine w_iconst dX11_hostsOf_9 ?_
    refine w_icmp_eq (tgt := 23) dX11_hostsOf_10 (by decide) hx2 ⟨by decide, by decide⟩ (fun c4 => ?_) (fun c4 => ?_)
    · replace h := h.1 c4
      refine w_iconst dX11_hostsOf_23 ?_
      exact w_zret dX11_hostsOf_24 (Or.inl rfl) ⟨_, rfl, (Or.inl rfl), h⟩
    · replace h := h.2 c4
      refine w_aload_n dX11_hostsOf_13 0 rfl ?_
      refine w_sipush dX11_hostsOf_14 rfl ?_
      refine c_Mo_number dX11_hostsOf_17 q877 (by decide) (Nat.le_of_ble_eq_true rfl) h (fun r5 M6 h hr5 hwM6 => ?_)
      replace h := h hr5 hwM6
      refine w_if_ne (tgt := 25) dX11_hostsOf_20 (by decide) (inr_z hr5) (fun c7 => ?_) (fun c7 => ?_)
      · replace h := h.1 c7
        refine w_aload_n dX11_hostsOf_25 0 rfl ?_
        refine w_getS (ci := 11) (k := 31) dX11_hostsOf_26 rfl fi11 (by decide) q935 s530 rfl l530 ?_
        refine w_iconst dX11_hostsOf_29 ?_
        refine w_iload_n dX11_hostsOf_30 1 rfl ?_
        refine w_imul dX11_hostsOf_31 ?_
        refine w_iload_n dX11_hostsOf_32 2 rfl ?_
        refine w_iadd dX11_hostsOf_33 ?_
        refine w_aload_n dX11_hostsOf_34 0 rfl ?_
        refine w_getI (ci := 11) (k := 33) dX11_hostsOf_35 rfl fi11 (by decide) q937 s530 rfl l530 ?_
        obtain ⟨i8, h⟩ := h
        refine w_iast dX11_hostsOf_38 s558 l558 (by decide) i8.1 i8.2 (hwM6.int _ _) ?_
        have hw9 : WT (sI M6 (558) (((4 * x1) + x2).toNat) (gI M6 (530) (33))) := hwM6.sI (hwM6.int _ _)
        refine w_iinc (lv' := [(2, vi (x2 + 1)), (0, vr g (530)), (1, vi (x1)), (3, vi (x3))]) dX11_hostsOf_39 2 rfl (by decide) rfl ?_
        refine w_aload_n dX11_hostsOf_42 1 rfl ?_
        refine w_bipush dX11_hostsOf_43 rfl ?_
        refine c_Mo_comes dX11_hostsOf_45 q858 (by decide) (Nat.le_of_ble_eq_true rfl) h (fun r10 M11 h hr10 hwM11 => ?_)
        replace h := h hr10 hwM11
        refine w_istore_n (lv' := [(3, vi (r10)), (2, vi (x2 + 1)), (0, vr g (530)), (1, vi (x1))]) (i := 3) dX11_hostsOf_48 rfl (by decide) rfl ?_
        refine w_goto (tgt := 4) dX11_hostsOf_49 (by decide) ?_
        refine w_lv [2, 3, 1, 0] rfl ?_
        exact h
      · replace h := h.2 c7
        refine w_iconst dX11_hostsOf_23 ?_
        exact w_zret dX11_hostsOf_24 (Or.inl rfl) ⟨_, rfl, (Or.inl rfl), h⟩
set_option maxHeartbeats 4000000 in
set_option maxRecDepth 100000 in
theorem b_Mo_exchangersOf_0 {g : Ctx} {p0 : Int} {M : Mem} {Q : Int → Mem → Prop} (hp0 : InR p0) (h : P_Mo_exchangersOf g 4 [(0, vr g (530)), (1, vi (p0)), (2, vi (0)), (3, vi (1))] [] M Q) : P_Mo_exchangersOf g 0 [(0, vr g (530)), (1, vi (p0))] [] M Q := by
  refine w_wt (fun hw => ?_)
  refine w_iconst dX11_exchangersOf_0 ?_
  refine w_istore_n (lv' := [(2, vi (0)), (0, vr g (530)), (1, vi (p0))]) (i := 2) dX11_exchangersOf_1 rfl (by decide) rfl ?_
  refine w_iconst dX11_exchangersOf_2 ?_
  refine w_istore_n (lv' := [(3, vi (1)), (2, vi (0)), (0, vr g (530)), (1, vi (p0))]) (i := 3) dX11_exchangersOf_3 rfl (by decide) rfl ?_
  refine w_lv [2, 3, 1, 0] rfl ?_
  exact h
set_option maxHeartbeats 4000000 in
set_option maxRecDepth 100000 in
theorem b_Mo_exchangersOf_4 {g : Ctx} {x1 : Int} {x2 : Int} {x3 : Int} {M : Mem} {Q : Int → Mem → Prop} (hx1 : InR x1) (hx2 : InR x2) (hx3 : InR x3) (h : (((x3 = 0) → (0 ≤ x1 ∧ x1 < 12) ∧ Q 1 (sI M (548) (x1.toNat) (x2))) ∧ ((¬ (x3 = 0)) → (((x2 = 3) → Q 0 M) ∧ ((¬ (x2 = 3)) → K_Mo_readsName g  M (fun r5 M6 => (r5 = 0 ∨ r5 = 1) → WT M6 → (((¬ r5 = 0) → (0 ≤ ((3 * x1) + x2) ∧ ((3 * x1) + x2) < 36) ∧ K_Mo_comes g 44 (sI M6 (549) (((3 * x1) + x2).toNat) (gI M6 (530) (33))) (fun r10 M11 => (r10 = 0 ∨ r10 = 1) → WT M11 → P_Mo_exchangersOf g 4 [(0, vr g (530)), (1, vi (x1)), (2, vi (x2 + 1)), (3, vi (r10))] [] M11 Q)) ∧ ((r5 = 0) → Q 0 M6)))))))) : P_Mo_exchangersOf g 4 [(0, vr g (530)), (1, vi (x1)), (2, vi (x2)), (3, vi (x3))] [] M Q := by
  refine w_wt (fun hw => ?_)
  refine w_iload_n dX11_exchangersOf_4 3 rfl ?_
  refine w_if_eq (tgt := 49) dX11_exchangersOf_5 (by decide) hx3 (fun c1 => ?_) (fun c1 => ?_)
  · replace h := h.1 c1
    refine w_aload_n dX11_exchangersOf_49 0 rfl ?_
    refine w_getS (ci := 11) (k := 21) dX11_exchangersOf_50 rfl fi11 (by decide) q925 s530 rfl l530 ?_
    refine w_iload_n dX11_exchangersOf_53 1 rfl ?_
    refine w_iload_n dX11_exchangersOf_54 2 rfl ?_
    obtain ⟨i2, h⟩ := h
    refine w_iast dX11_exchangersOf_55 s548 l548 (by decide) i2.1 i2.2 hx2 ?_
    have hw3 : WT (sI M (548) (x1.toNat) (x2)) := hw.sI hx2
    refine w_iconst dX11_exchangersOf_56 ?_
    exact w_zret dX11_exchangersOf_57 (Or.inr rfl) ⟨_, rfl, (Or.inr rfl), h⟩
  · replace h := h.2 c1
    refine w_iload_n dX11_exchangersOf_8 2 rfl ?_
    refine w_iconst dX11_exchangersOf_9 ?_
    refine w_icmp_eq (tgt := 20) dX11_exchangersOf_10 (by decide) hx2 ⟨by decide, by decide⟩ (fun c4 => ?_) (fun c4 => ?_)
    · replace h := h.1 c4
      refine w_iconst dX11_exchangersOf_20 ?_
      exact w_zret dX11_exchangersOf_21 (Or.inl rfl) ⟨_, rfl, (Or.inl rfl), h⟩
    · replace h := h.2 c4
      refine w_aload_n dX11_exchangersOf_13 0 rfl ?_
      refine c_Mo_readsName dX11_exchangersOf_14 q847 (by decide) (Nat.le_of_ble_eq_true rfl) h (fun r5 M6 h hr5 hwM6 => ?_)
      replace h := h hr5 hwM6
      refine w_if_ne (tgt := 22) dX11_exchangersOf_17 (by decide) (inr_z hr5) (fun c7 => ?_) (fun c7 => ?_)
      · replace h := h.1 c7
        refine w_aload_n dX11_exchangersOf_22 0 rfl ?_
        refine w_getS (ci := 11) (k := 22) dX11_exchangersOf_23 rfl fi11 (by decide) q926 s530 rfl l530 ?_
        refine w_iconst dX11_exchangersOf_26 ?_
        refine w_iload_n dX11_exchangersOf_27 1 rfl ?_
        refine w_imul dX11_exchangersOf_28 ?_
        refine w_iload_n dX11_exchangersOf_29 2 rfl ?_
        refine w_iadd dX11_exchangersOf_30 ?_
        refine w_aload_n dX11_exchangersOf_31 0 rfl ?_
        refine w_getI (ci := 11) (k := 33) dX11_exchangersOf_32 rfl fi11 (by decide) q937 s530 rfl l530 ?_
        obtain ⟨i8, h⟩ := h
        refine w_iast dX11_exchangersOf_35 s549 l549 (by decide) i8.1 i8.2 (hwM6.int _ _) ?_
        have hw9 : WT (sI M6 (549) (((3 * x1) + x2).toNat) (gI M6 (530) (33))) := hwM6.sI (hwM6.int _ _)
        refine w_iinc (lv' := [(2, vi (x2 + 1)), (0, vr g (530)), (1, vi (x1)), (3, vi (x3))]) dX11_exchangersOf_36 2 rfl (by decide) rfl ?_
        refine w_aload_n dX11_exchangersOf_39 1 rfl ?_
        refine w_bipush dX11_exchangersOf_40 rfl ?_
        refine c_Mo_comes dX11_exchangersOf_42 q858 (by decide) (Nat.le_of_ble_eq_true rfl) h (fun r10 M11 h hr10 hwM11 => ?_)
        replace h := h hr10 hwM11
        refine w_istore_n (lv' := [(3, vi (r10)), (2, vi (x2 + 1)), (0, vr g (530)), (1, vi (x1))]) (i := 3) dX11_exchangersOf_45 rfl (by decide) rfl ?_
        refine w_goto (tgt := 4) dX11_exchangersOf_46 (by decide) ?_
        refine w_lv [2, 3, 1, 0] rfl ?_
        exact h
      · replace h := h.2 c7
        refine w_iconst dX11_exchangersOf_20 ?_
        exact w_zret dX11_exchangersOf_21 (Or.inl rfl) ⟨_, rfl, (Or.inl rfl), h⟩
set_option maxHeartbeats 4000000 in
set_option maxRecDepth 100000 in
theorem b_Mo_takes_0 {g : Ctx} {p0 : Int} {p1 : Int} {M : Mem} {Q : Mem → Prop} (hp0 : InR p0) (hp1 : InR p1) (h : (0 ≤ p0 ∧ p0 < 12) ∧ (0 ≤ p1 ∧ p1 < 12) ∧ P_Mo_takes g 50 [(0, vr g (530)), (1, vi (p0)), (2, vi (p1)), (3, vi (0))] [] (sI (sI (sI (sI M (532) (p1.toNat) (gI M (545) (p0.toNat))) (533) (p1.toNat) (gI M (546) (p0.toNat))) (534) (p1.toNat) (gI M (547) (p0.toNat))) (535) (p1.toNat) (gI M (548) (p0.toNat))) Q) : P_Mo_takes g 0 [(0, vr g (530)), (1, vi (p0)), (2, vi (p1))] [] M Q := by
  refine w_wt (fun hw => ?_)
  refine w_aload_n dX11_takes_0 0 rfl ?_
  refine w_getS (ci := 11) (k := 3) dX11_takes_1 rfl fi11 (by decide) q907 s530 rfl l530 ?_
  refine w_iload_n dX11_takes_4 2 rfl ?_
  refine w_aload_n dX11_takes_5 0 rfl ?_
  refine w_getS (ci := 11) (k := 18) dX11_takes_6 rfl fi11 (by decide) q922 s530 rfl l530 ?_
  refine w_iload_n dX11_takes_9 1 rfl ?_
  obtain ⟨i1, h⟩ := h
  refine w_iald dX11_takes_10 s545 l545 (by decide) i1.1 i1.2 ?_
  obtain ⟨i2, h⟩ := h
  refine w_iast dX11_takes_11 s532 l532 (by decide) i2.1 i2.2 (hw.int _ _) ?_
  have hw3 : WT (sI M (532) (p1.toNat) (gI M (545) (p0.toNat))) := hw.sI (hw.int _ _)
  refine w_aload_n dX11_takes_12 0 rfl ?_
  refine w_getS (ci := 11) (k := 4) dX11_takes_13 rfl fi11 (by decide) q908 s530 rfl l530 ?_
  refine w_iload_n dX11_takes_16 2 rfl ?_
  refine w_aload_n dX11_takes_17 0 rfl ?_
  refine w_getS (ci := 11) (k := 19) dX11_takes_18 rfl fi11 (by decide) q923 s530 rfl l530 ?_
  refine w_iload_n dX11_takes_21 1 rfl ?_
  refine w_iald dX11_takes_22 s546 l546 (by decide) i1.1 i1.2 ?_
  refine w_top (congrArg vi ((gI_ne _ _ _ _ _ _ (by omega)).trans rfl)) ?_
  have u4 : InR (gI M (546) (p0.toNat)) := hw.int _ _
  refine w_iast dX11_takes_23 s533 l533 (by decide) i2.1 i2.2 u4 ?_
  have hw5 : WT (sI (sI M (532) (p1.toNat) (gI M (545) (p0.toNat))) (533) (p1.toNat) (gI M (546) (p0.toNat))) := hw3.sI u4
  refine w_aload_n dX11_takes_24 0 rfl ?_
  refine w_getS (ci := 11) (k := 5) dX11_takes_25 rfl fi11 (by decide) q909 s530 rfl l530 ?_
  refine w_iload_n dX11_takes_28 2 rfl ?_
  refine w_aload_n dX11_takes_29 0 rfl ?_
  refine w_getS (ci := 11) (k := 20) dX11_takes_30 rfl fi11 (by decide) q924 s530 rfl l530 ?_
  refine w_iload_n dX11_takes_33 1 rfl ?_
  refine w_iald dX11_takes_34 s547 l547 (by decide) i1.1 i1.2 ?_
  refine w_top (congrArg vi ((gI_ne _ _ _ _ _ _ (by omega)).trans ((gI_ne _ _ _ _ _ _ (by omega)).trans rfl))) ?_
  have u6 : InR (gI M (547) (p0.toNat)) := hw.int _ _
  refine w_iast dX11_takes_35 s534 l534 (by decide) i2.1 i2.2 u6 ?_
  have hw7 : WT (sI (sI (sI M (532) (p1.toNat) (gI M (545) (p0.toNat))) (533) (p1.toNat) (gI M (546) (p0.toNat))) (534) (p1.toNat) (gI M (547) (p0.toNat))) := hw5.sI u6
  refine w_aload_n dX11_takes_36 0 rfl ?_
  refine w_getS (ci := 11) (k := 6) dX11_takes_37 rfl fi11 (by decide) q910 s530 rfl l530 ?_
  refine w_iload_n dX11_takes_40 2 rfl ?_
  refine w_aload_n dX11_takes_41 0 rfl ?_
  refine w_getS (ci := 11) (k := 21) dX11_takes_42 rfl fi11 (by decide) q925 s530 rfl l530 ?_
  refine w_iload_n dX11_takes_45 1 rfl ?_
  refine w_iald dX11_takes_46 s548 l548 (by decide) i1.1 i1.2 ?_
  refine w_top (congrArg vi ((gI_ne _ _ _ _ _ _ (by omega)).trans ((gI_ne _ _ _ _ _ _ (by omega)).trans ((gI_ne _ _ _ _ _ _ (by omega)).trans rfl)))) ?_
  have u8 : InR (gI M (548) (p0.toNat)) := hw.int _ _
  refine w_iast dX11_takes_47 s535 l535 (by decide) i2.1 i2.2 u8 ?_
  have hw9 : WT (sI (sI (sI (sI M (532) (p1.toNat) (gI M (545) (p0.toNat))) (533) (p1.toNat) (gI M (546) (p0.toNat))) (534) (p1.toNat) (gI M (547) (p0.toNat))) (535) (p1.toNat) (gI M (548) (p0.toNat))) := hw7.sI u8
  refine w_iconst dX11_takes_48 ?_
  refine w_istore_n (lv' := [(3, vi (0)), (0, vr g (530)), (1, vi (p0)), (2, vi (p1))]) (i := 3) dX11_takes_49 rfl (by decide) rfl ?_
  refine w_lv [1, 2, 3, 0] rfl ?_
  exact h
set_option maxHeartbeats 4000000 in
set_option maxRecDepth 100000 in
theorem b_Mo_takes_50 {g : Ctx} {x1 : Int} {x2 : Int} {x3 : Int} {M : Mem} {Q : Mem → Prop} (hx1 : InR x1) (hx2 : InR x2) (hx3 : InR x3) (h : (((3 ≤ x3) → (0 ≤ x1 ∧ x1 < 12) ∧ (0 ≤ ((21 * x2) + 16) ∧ ((21 * x2) + 16) < 252) ∧ P_Mo_takes g 101 [(0, vr g (530)), (1, vi (x1)), (2, vi (x2)), (3, vi (0))] [] (sI M (543) (((21 * x2) + 16).toNat) (gI M (557) (x1.toNat))) Q) ∧ ((¬ (3 ≤ x3)) → (0 ≤ ((3 * x1) + x3) ∧ ((3 * x1) + x3) < 36) ∧ (0 ≤ ((3 * x2) + x3) ∧ ((3 * x2) + x3) < 36) ∧ P_Mo_takes g 50 [(0, vr g (530)), (1, vi (x1)), (2, vi (x2)), (3, vi (x3 + 1))] [] (sI M (536) (((3 * x2) + x3).toNat) (gI M (549) (((3 * x1) + x3).toNat))) Q))) : P_Mo_takes g 50 [(0, vr g (530)), (1, vi (x1)), (2, vi (x2)), (3, vi (x3))] [] M Q := by
  refine w_wt (fun hw => ?_)
  refine w_iload_n dX11_takes_50 3 rfl ?_
  refine w_iconst dX11_takes_51 ?_
  refine w_icmp_ge (tgt := 81) dX11_takes_52 (by decide) hx3 ⟨by decide, by decide⟩ (fun c1 => ?_) (fun c1 => ?_)
  · replace h := h.1 c1
    refine w_aload_n dX11_takes_81 0 rfl ?_
    refine w_getS (ci := 11) (k := 14) dX11_takes_82 rfl fi11 (by decide) q918 s530 rfl l530 ?_
    refine w_bipush dX11_takes_85 rfl ?_
    refine w_iload_n dX11_takes_87 2 rfl ?_
    refine w_imul dX11_takes_88 ?_
    refine w_bipush dX11_takes_89 rfl ?_
    refine w_iadd dX11_takes_91 ?_
    refine w_aload_n dX11_takes_92 0 rfl ?_
    refine w_getS (ci := 11) (k := 30) dX11_takes_93 rfl fi11 (by decide) q934 s530 rfl l530 ?_
    refine w_iload_n dX11_takes_96 1 rfl ?_
    obtain ⟨i2, h⟩ := h
    refine w_iald dX11_takes_97 s557 l557 (by decide) i2.1 i2.2 ?_
    obtain ⟨i3, h⟩ := h
    refine w_iast dX11_takes_98 s543 l543 (by decide) i3.1 i3.2 (hw.int _ _) ?_
    have hw4 : WT (sI M (543) (((21 * x2) + 16).toNat) (gI M (557) (x1.toNat))) := hw.sI (hw.int _ _)
    refine w_iconst dX11_takes_99 ?_
    refine w_istore_n (lv' := [(3, vi (0)), (0, vr g (530)), (1, vi (x1)), (2, vi (x2))]) (i := 3) dX11_takes_100 rfl (by decide) rfl ?_
    refine w_lv [1, 2, 3, 0] rfl ?_
    exact h
  · replace h := h.2 c1
    refine w_aload_n dX11_takes_55 0 rfl ?_
    refine w_getS (ci := 11) (k := 7) dX11_takes_56 rfl fi11 (by decide) q911 s530 rfl l530 ?_
    refine w_iconst dX11_takes_59 ?_
    refine w_iload_n dX11_takes_60 2 rfl ?_
    refine w_imul dX11_takes_61 ?_
    refine w_iload_n dX11_takes_62 3 rfl ?_
    refine w_iadd dX11_takes_63 ?_
    refine w_aload_n dX11_takes_64 0 rfl ?_
    refine w_getS (ci := 11) (k := 22) dX11_takes_65 rfl fi11 (by decide) q926 s530 rfl l530 ?_
    refine w_iconst dX11_takes_68 ?_
    refine w_iload_n dX11_takes_69 1 rfl ?_
    refine w_imul dX11_takes_70 ?_
    refine w_iload_n dX11_takes_71 3 rfl ?_
    refine w_iadd dX11_takes_72 ?_
    obtain ⟨i5, h⟩ := h
    refine w_iald dX11_takes_73 s549 l549 (by decide) i5.1 i5.2 ?_
    obtain ⟨i6, h⟩ := h
    refine w_iast dX11_takes_74 s536 l536 (by decide) i6.1 i6.2 (hw.int _ _) ?_
    have hw7 : WT (sI M (536) (((3 * x2) + x3).toNat) (gI M (549) (((3 * x1) + x3).toNat))) := hw.sI (hw.int _ _)
    refine w_iinc (lv' := [(3, vi (x3 + 1)), (0, vr g (530)), (1, vi (x1)), (2, vi (x2))]) dX11_takes_75 3 rfl (by decide) rfl ?_
    refine w_goto (tgt := 50) dX11_takes_78 (by decide) ?_
    refine w_lv [1, 2, 3, 0] rfl ?_
    exact h
set_option maxHeartbeats 4000000 in
set_option maxRecDepth 100000 in
theorem b_Mo_takes_101 {g : Ctx} {x1 : Int} {x2 : Int} {x3 : Int} {M : Mem} {Q : Mem → Prop} (hx1 : InR x1) (hx2 : InR x2) (hx3 : InR x3) (h : (((4 ≤ x3) → P_Mo_takes g 138 [(0, vr g (530)), (1, vi (x1)), (2, vi (x2)), (3, vi (0))] [] M Q) ∧ ((¬ (4 ≤ x3)) → (0 ≤ ((4 * x1) + x3) ∧ ((4 * x1) + x3) < 48) ∧ (0 ≤ (((21 * x2) + 17) + x3) ∧ (((21 * x2) + 17) + x3) < 252) ∧ P_Mo_takes g 101 [(0, vr g (530)), (1, vi (x1)), (2, vi (x2)), (3, vi (x3 + 1))] [] (sI M (543) ((((21 * x2) + 17) + x3).toNat) (gI M (558) (((4 * x1) + x3).toNat))) Q))) : P_Mo_takes g 101 [(0, vr g (530)), (1, vi (x1)), (2, vi (x2)), (3, vi (x3))] [] M Q := by
  refine w_wt (fun hw => ?_)
  refine w_iload_n dX11_takes_101 3 rfl ?_
  refine w_iconst dX11_takes_102 ?_
  refine w_icmp_ge (tgt := 136) dX11_takes_103 (by decide) hx3 ⟨by decide, by decide⟩ (fun c1 => ?_) (fun c1 => ?_)
  · replace h := h.1 c1
    refine w_iconst dX11_takes_136 ?_
    refine w_istore_n (lv' := [(3, vi (0)), (0, vr g (530)), (1, vi (x1)), (2, vi (x2))]) (i := 3) dX11_takes_137 rfl (by decide) rfl ?_
    refine w_lv [1, 2, 3, 0] rfl ?_
    exact h
  · replace h := h.2 c1
    refine w_aload_n dX11_takes_106 0 rfl ?_
    refine w_getS (ci := 11) (k := 14) dX11_takes_107 rfl fi11 (by decide) q918 s530 rfl l530 ?_
    refine w_bipush dX11_takes_110 rfl ?_
    refine w_iload_n dX11_takes_112 2 rfl ?_
    refine w_imul dX11_takes_113 ?_
    refine w_bipush dX11_takes_114 rfl ?_
    refine w_iadd dX11_takes_116 ?_
    refine w_iload_n dX11_takes_117 3 rfl ?_
    refine w_iadd dX11_takes_118 ?_
    refine w_aload_n dX11_takes_119 0 rfl ?_
    refine w_getS (ci := 11) (k := 31) dX11_takes_120 rfl fi11 (by decide) q935 s530 rfl l530 ?_
    refine w_iconst dX11_takes_123 ?_
    refine w_iload_n dX11_takes_124 1 rfl ?_
    refine w_imul dX11_takes_125 ?_
    refine w_iload_n dX11_takes_126 3 rfl ?_
    refine w_iadd dX11_takes_127 ?_
    obtain ⟨i2, h⟩ := h
    refine w_iald dX11_takes_128 s558 l558 (by decide) i2.1 i2.2 ?_
    obtain ⟨i3, h⟩ := h
    refine w_iast dX11_takes_129 s543 l543 (by decide) i3.1 i3.2 (hw.int _ _) ?_
    have hw4 : WT (sI M (543) ((((21 * x2) + 17) + x3).toNat) (gI M (558) (((4 * x1) + x3).toNat))) := hw.sI (hw.int _ _)
    refine w_iinc (lv' := [(3, vi (x3 + 1)), (0, vr g (530)), (1, vi (x1)), (2, vi (x2))]) dX11_takes_130 3 rfl (by decide) rfl ?_
    refine w_goto (tgt := 101) dX11_takes_133 (by decide) ?_
    refine w_lv [1, 2, 3, 0] rfl ?_
    exact h
set_option maxHeartbeats 4000000 in
set_option maxRecDepth 100000 in
theorem b_Mo_takes_138 {g : Ctx} {x1 : Int} {x2 : Int} {x3 : Int} {M : Mem} {Q : Mem → Prop} (hx1 : InR x1) (hx2 : InR x2) (hx3 : InR x3) (h : (((8 ≤ x3) → Q M) ∧ ((¬ (8 ≤ x3)) → (0 ≤ ((8 * x1) + x3) ∧ ((8 * x1) + x3) < 96) ∧ (0 ≤ ((8 * x2) + x3) ∧ ((8 * x2) + x3) < 96) ∧ (0 ≤ ((21 * x2) + x3) ∧ ((21 * x2) + x3) < 252) ∧ (0 ≤ (((21 * x2) + 8) + x3) ∧ (((21 * x2) + 8) + x3) < 252) ∧ P_Mo_takes g 266 [(0, vr g (530)), (1, vi (x1)), (2, vi (x2)), (3, vi (x3)), (4, vi ((8 * x1) + x3)), (5, vi ((8 * x2) + x3)), (6, vi (0))] [] (sI (sI (sI (sI (sI (sI (sI M (537) (((8 * x2) + x3).toNat) (gI M (550) (((8 * x1) + x3).toNat))) (538) (((8 * x2) + x3).toNat) (gI M (551) (((8 * x1) + x3).toNat))) (539) (((8 * x2) + x3).toNat) (gI M (552) (((8 * x1) + x3).toNat))) (540) (((8 * x2) + x3).toNat) (gI M (553) (((8 * x1) + x3).toNat))) (541) (((8 * x2) + x3).toNat) (gI M (554) (((8 * x1) + x3).toNat))) (543) (((21 * x2) + x3).toNat) (x3)) (543) ((((21 * x2) + 8) + x3).toNat) (gI M (556) (((8 * x1) + x3).toNat))) Q))) : P_Mo_takes g 138 [(0, vr g (530)), (1, vi (x1)), (2, vi (x2)), (3, vi (x3))] [] M Q := by
  refine w_wt (fun hw => ?_)
  refine w_iload_n dX11_takes_138 3 rfl ?_
  refine w_bipush dX11_takes_139 rfl ?_
  refine w_icmp_ge (tgt := 311) dX11_takes_141 (by decide) hx3 ⟨by decide, by decide⟩ (fun c1 => ?_) (fun c1 => ?_)
  · replace h := h.1 c1
    exact w_vret dX11_takes_311 ⟨rfl, h⟩
  · replace h := h.2 c1
    refine w_bipush dX11_takes_144 rfl ?_
    refine w_iload_n dX11_takes_146 1 rfl ?_
    refine w_imul dX11_takes_147 ?_
    refine w_iload_n dX11_takes_148 3 rfl ?_
    refine w_iadd dX11_takes_149 ?_
    refine w_istore (lv' := [(4, vi ((8 * x1) + x3)), (0, vr g (530)), (1, vi (x1)), (2, vi (x2)), (3, vi (x3))]) dX11_takes_150 (by decide) rfl ?_
    refine w_bipush dX11_takes_152 rfl ?_
    refine w_iload_n dX11_takes_154 3 rfl ?_
    refine w_imul dX11_takes_155 ?_
    refine w_iload_n dX11_takes_156 4 rfl ?_
    refine w_iadd dX11_takes_157 ?_
    refine w_istore (lv' := [(5, vi ((8 * x2) + x3)), (4, vi ((8 * x1) + x3)), (0, vr g (530)), (1, vi (x1)), (2, vi (x2)), (3, vi (x3))]) dX11_takes_158 (by decide) rfl ?_
    refine w_aload_n dX11_takes_160 2 rfl ?_
    refine w_getS (ci := 11) (k := 8) dX11_takes_161 rfl fi11 (by decide) q912 s530 rfl l530 ?_
    refine w_iload dX11_takes_164 0 rfl ?_
    refine w_aload_n dX11_takes_166 2 rfl ?_
    refine w_getS (ci := 11) (k := 23) dX11_takes_167 rfl fi11 (by decide) q927 s530 rfl l530 ?_
    refine w_iload dX11_takes_170 1 rfl ?_
    obtain ⟨i2, h⟩ := h
    refine w_iald dX11_takes_172 s550 l550 (by decide) i2.1 i2.2 ?_
    obtain ⟨i3, h⟩ := h
    refine w_iast dX11_takes_173 s537 l537 (by decide) i3.1 i3.2 (hw.int _ _) ?_
    have hw4 : WT (sI M (537) (((8 * x2) + x3).toNat) (gI M (550) (((8 * x1) + x3).toNat))) := hw.sI (hw.int _ _)
    refine w_aload_n dX11_takes_174 2 rfl ?_
    refine w_getS (ci := 11) (k := 9) dX11_takes_175 rfl fi11 (by decide) q913 s530 rfl l530 ?_
    refine w_iload dX11_takes_178 0 rfl ?_
    refine w_aload_n dX11_takes_180 2 rfl ?_
    refine w_getS (ci := 11) (k := 24) dX11_takes_181 rfl fi11 (by decide) q928 s530 rfl l530 ?_
    refine w_iload dX11_takes_184 1 rfl ?_
    refine w_iald dX11_takes_186 s551 l551 (by decide) i2.1 i2.2 ?_
    refine w_top (congrArg vi ((gI_ne _ _ _ _ _ _ (by omega)).trans rfl)) ?_
    have u5 : InR (gI M (551) (((8 * x1) + x3).toNat)) := hw.int _ _
    refine w_iast dX11_takes_187 s538 l538 (by decide) i3.1 i3.2 u5 ?_
    have hw6 : WT (sI (sI M (537) (((8 * x2) + x3).toNat) (gI M (550) (((8 * x1) + x3).toNat))) (538) (((8 * x2) + x3).toNat) (gI M (551) (((8 * x1) + x3).toNat))) := hw4.sI u5
    refine w_aload_n dX11_takes_188 2 rfl ?_
    refine w_getS (ci := 11) (k := 10) dX11_takes_189 rfl fi11 (by decide) q914 s530 rfl l530 ?_
    refine w_iload dX11_takes_192 0 rfl ?_
    refine w_aload_n dX11_takes_194 2 rfl ?_
    refine w_getS (ci := 11) (k := 25) dX11_takes_195 rfl fi11 (by decide) q929 s530 rfl l530 ?_
    refine w_iload dX11_takes_198 1 rfl ?_
    refine w_iald dX11_takes_200 s552 l552 (by decide) i2.1 i2.2 ?_
    refine w_top (congrArg vi ((gI_ne _ _ _ _ _ _ (by omega)).trans ((gI_ne _ _ _ _ _ _ (by omega)).trans rfl))) ?_
    have u7 : InR (gI M (552) (((8 * x1) + x3).toNat)) := hw.int _ _
    refine w_iast dX11_takes_201 s539 l539 (by decide) i3.1 i3.2 u7 ?_
    have hw8 : WT (sI (sI (sI M (537) (((8 * x2) + x3).toNat) (gI M (550) (((8 * x1) + x3).toNat))) (538) (((8 * x2) + x3).toNat) (gI M (551) (((8 * x1) + x3).toNat))) (539) (((8 * x2) + x3).toNat) (gI M (552) (((8 * x1) + x3).toNat))) := hw6.sI u7
    refine w_aload_n dX11_takes_202 2 rfl ?_
    refine w_getS (ci := 11) (k := 11) dX11_takes_203 rfl fi11 (by decide) q915 s530 rfl l530 ?_
    refine w_iload dX11_takes_206 0 rfl ?_
    refine w_aload_n dX11_takes_208 2 rfl ?_
    refine w_getS (ci := 11) (k := 26) dX11_takes_209 rfl fi11 (by decide) q930 s530 rfl l530 ?_
    refine w_iload dX11_takes_212 1 rfl ?_
    refine w_iald dX11_takes_214 s553 l553 (by decide) i2.1 i2.2 ?_
    refine w_top (congrArg vi ((gI_ne _ _ _ _ _ _ (by omega)).trans ((gI_ne _ _ _ _ _ _ (by omega)).trans ((gI_ne _ _ _ _ _ _ (by omega)).trans rfl)))) ?_
    have u9 : InR (gI M (553) (((8 * x1) + x3).toNat)) := hw.int _ _
    refine w_iast dX11_takes_215 s540 l540 (by decide) i3.1 i3.2 u9 ?_
    have hw10 : WT (sI (sI (sI (sI M (537) (((8 * x2) + x3).toNat) (gI M (550) (((8 * x1) + x3).toNat))) (538) (((8 * x2) + x3).toNat) (gI M (551) (((8 * x1) + x3).toNat))) (539) (((8 * x2) + x3).toNat) (gI M (552) (((8 * x1) + x3).toNat))) (540) (((8 * x2) + x3).toNat) (gI M (553) (((8 * x1) + x3).toNat))) := hw8.sI u9
    refine w_aload_n dX11_takes_216 2 rfl ?_
    refine w_getS (ci := 11) (k := 12) dX11_takes_217 rfl fi11 (by decide) q916 s530 rfl l530 ?_
    refine w_iload dX11_takes_220 0 rfl ?_
    refine w_aload_n dX11_takes_222 2 rfl ?_
    refine w_getS (ci := 11) (k := 27) dX11_takes_223 rfl fi11 (by decide) q931 s530 rfl l530 ?_
    refine w_iload dX11_takes_226 1 rfl ?_
    refine w_iald dX11_takes_228 s554 l554 (by decide) i2.1 i2.2 ?_
    refine w_top (congrArg vi ((gI_ne _ _ _ _ _ _ (by omega)).trans ((gI_ne _ _ _ _ _ _ (by omega)).trans ((gI_ne _ _ _ _ _ _ (by omega)).trans ((gI_ne _ _ _ _ _ _ (by omega)).trans rfl))))) ?_
    have u11 : InR (gI M (554) (((8 * x1) + x3).toNat)) := hw.int _ _
    refine w_iast dX11_takes_229 s541 l541 (by decide) i3.1 i3.2 u11 ?_
    have hw12 : WT (sI (sI (sI (sI (sI M (537) (((8 * x2) + x3).toNat) (gI M (550) (((8 * x1) + x3).toNat))) (538) (((8 * x2) + x3).toNat) (gI M (551) (((8 * x1) + x3).toNat))) (539) (((8 * x2) + x3).toNat) (gI M (552) (((8 * x1) + x3).toNat))) (540) (((8 * x2) + x3).toNat) (gI M (553) (((8 * x1) + x3).toNat))) (541) (((8 * x2) + x3).toNat) (gI M (554) (((8 * x1) + x3).toNat))) := hw10.sI u11
    refine w_aload_n dX11_takes_230 2 rfl ?_
    refine w_getS (ci := 11) (k := 14) dX11_takes_231 rfl fi11 (by decide) q918 s530 rfl l530 ?_
    refine w_bipush dX11_takes_234 rfl ?_
    refine w_iload_n dX11_takes_236 4 rfl ?_
    refine w_imul dX11_takes_237 ?_
    refine w_iload_n dX11_takes_238 5 rfl ?_
    refine w_iadd dX11_takes_239 ?_
    refine w_iload_n dX11_takes_240 5 rfl ?_
    obtain ⟨i13, h⟩ := h
    refine w_iast dX11_takes_241 s543 l543 (by decide) i13.1 i13.2 hx3 ?_
    have hw14 : WT (sI (sI (sI (sI (sI (sI M (537) (((8 * x2) + x3).toNat) (gI M (550) (((8 * x1) + x3).toNat))) (538) (((8 * x2) + x3).toNat) (gI M (551) (((8 * x1) + x3).toNat))) (539) (((8 * x2) + x3).toNat) (gI M (552) (((8 * x1) + x3).toNat))) (540) (((8 * x2) + x3).toNat) (gI M (553) (((8 * x1) + x3).toNat))) (541) (((8 * x2) + x3).toNat) (gI M (554) (((8 * x1) + x3).toNat))) (543) (((21 * x2) + x3).toNat) (x3)) := hw12.sI hx3
    refine w_aload_n dX11_takes_242 2 rfl ?_
    refine w_getS (ci := 11) (k := 14) dX11_takes_243 rfl fi11 (by decide) q918 s530 rfl l530 ?_
    refine w_bipush dX11_takes_246 rfl ?_
    refine w_iload_n dX11_takes_248 4 rfl ?_
    refine w_imul dX11_takes_249 ?_
    refine w_bipush dX11_takes_250 rfl ?_
    refine w_iadd dX11_takes_252 ?_
    refine w_iload_n dX11_takes_253 5 rfl ?_
    refine w_iadd dX11_takes_254 ?_
    refine w_aload_n dX11_takes_255 2 rfl ?_
    refine w_getS (ci := 11) (k := 29) dX11_takes_256 rfl fi11 (by decide) q933 s530 rfl l530 ?_
    refine w_iload dX11_takes_259 1 rfl ?_
    refine w_iald dX11_takes_261 s556 l556 (by decide) i2.1 i2.2 ?_
    refine w_top (congrArg vi ((gI_ne _ _ _ _ _ _ (by omega)).trans ((gI_ne _ _ _ _ _ _ (by omega)).trans ((gI_ne _ _ _ _ _ _ (by omega)).trans ((gI_ne _ _ _ _ _ _ (by omega)).trans ((gI_ne _ _ _ _ _ _ (by omega)).trans ((gI_ne _ _ _ _ _ _ (by omega)).trans rfl))))))) ?_
    have u15 : InR (gI M (556) (((8 * x1) + x3).toNat)) := hw.int _ _
    obtain ⟨i16, h⟩ := h
    refine w_iast dX11_takes_262 s543 l543 (by decide) i16.1 i16.2 u15 ?_
    have hw17 : WT (sI (sI (sI (sI (sI (sI (sI M (537) (((8 * x2) + x3).toNat) (gI M (550) (((8 * x1) + x3).toNat))) (538) (((8 * x2) + x3).toNat) (gI M (551) (((8 * x1) + x3).toNat))) (539) (((8 * x2) + x3).toNat) (gI M (552) (((8 * x1) + x3).toNat))) (540) (((8 * x2) + x3).toNat) (gI M (553) (((8 * x1) + x3).toNat))) (541) (((8 * x2) + x3).toNat) (gI M (554) (((8 * x1) + x3).toNat))) (543) (((21 * x2) + x3).toNat) (x3)) (543) ((((21 * x2) + 8) + x3).toNat) (gI M (556) (((8 * x1) + x3).toNat))) := hw14.sI u15
    refine w_iconst dX11_takes_263 ?_
    refine w_istore (lv' := [(6, vi (0)), (5, vi ((8 * x2) + x3)), (4, vi ((8 * x1) + x3)), (0, vr g (530)), (1, vi (x1)), (2, vi (x2)), (3, vi (x3))]) dX11_takes_264 (by decide) rfl ?_
    refine w_lv [3, 4, 5, 6, 2, 1, 0] rfl ?_
    exact h
set_option maxHeartbeats 4000000 in
set_option maxRecDepth 100000 in
theorem b_Mo_takes_266 {g : Ctx} {x1 : Int} {x2 : Int} {x3 : Int} {x4 : Int} {x5 : Int} {x6 : Int} {M : Mem} {Q : Mem → Prop} (hx1 : InR x1) (hx2 : InR x2) (hx3 : InR x3) (hx4 : InR x4) (hx5 : InR x5) (hx6 : InR x6) (h : (((8 ≤ x6) → P_Mo_takes g 138 [(0, vr g (530)), (1, vi (x1)), (2, vi (x2)), (3, vi (x3 + 1))] [] M Q) ∧ ((¬ (8 ≤ x6)) → (0 ≤ ((8 * x4) + x6) ∧ ((8 * x4) + x6) < 768) ∧ (0 ≤ ((8 * x5) + x6) ∧ ((8 * x5) + x6) < 768) ∧ P_Mo_takes g 266 [(0, vr g (530)), (1, vi (x1)), (2, vi (x2)), (3, vi (x3)), (4, vi (x4)), (5, vi (x5)), (6, vi (x6 + 1))] [] (sI M (542) (((8 * x5) + x6).toNat) (gI M (555) (((8 * x4) + x6).toNat))) Q))) : P_Mo_takes g 266 [(0, vr g (530)), (1, vi (x1)), (2, vi (x2)), (3, vi (x3)), (4, vi (x4)), (5, vi (x5)), (6, vi (x6))] [] M Q := by
  refine w_wt (fun hw => ?_)
  refine w_iload dX11_takes_266 6 rfl ?_
  refine w_bipush dX11_takes_268 rfl ?_
  refine w_icmp_ge (tgt := 305) dX11_takes_270 (by decide) hx6 ⟨by decide, by decide⟩ (fun c1 => ?_) (fun c1 => ?_)
  · replace h := h.1 c1
    refine w_iinc (lv' := [(3, vi (x3 + 1)), (0, vr g (530)), (1, vi (x1)), (2, vi (x2)), (4, vi (x4)), (5, vi (x5)), (6, vi (x6))]) dX11_takes_305 3 rfl (by decide) rfl ?_
    refine w_goto (tgt := 138) dX11_takes_308 (by decide) ?_
    refine w_lv [1, 2, 3, 0] rfl ?_
    exact h
  · replace h := h.2 c1
    refine w_aload_n dX11_takes_273 0 rfl ?_
    refine w_getS (ci := 11) (k := 13) dX11_takes_274 rfl fi11 (by decide) q917 s530 rfl l530 ?_
    refine w_bipush dX11_takes_277 rfl ?_
    refine w_iload dX11_takes_279 5 rfl ?_
    refine w_imul dX11_takes_281 ?_
    refine w_iload dX11_takes_282 6 rfl ?_
    refine w_iadd dX11_takes_284 ?_
    refine w_aload_n dX11_takes_285 0 rfl ?_
    refine w_getS (ci := 11) (k := 28) dX11_takes_286 rfl fi11 (by decide) q932 s530 rfl l530 ?_
    refine w_bipush dX11_takes_289 rfl ?_
    refine w_iload dX11_takes_291 4 rfl ?_
    refine w_imul dX11_takes_293 ?_
    refine w_iload dX11_takes_294 6 rfl ?_
    refine w_iadd dX11_takes_296 ?_
    obtain ⟨i2, h⟩ := h
    refine w_iald dX11_takes_297 s555 l555 (by decide) i2.1 i2.2 ?_
    obtain ⟨i3, h⟩ := h
    refine w_iast dX11_takes_298 s542 l542 (by decide) i3.1 i3.2 (hw.int _ _) ?_
    have hw4 : WT (sI M (542) (((8 * x5) + x6).toNat) (gI M (555) (((8 * x4) + x6).toNat))) := hw.sI (hw.int _ _)
    refine w_iinc (lv' := [(6, vi (x6 + 1)), (0, vr g (530)), (1, vi (x1)), (2, vi (x2)), (3, vi (x3)), (4, vi (x4)), (5, vi (x5))]) dX11_takes_299 6 rfl (by decide) rfl ?_
    refine w_goto (tgt := 266) dX11_takes_302 (by decide) ?_
    refine w_lv [1, 2, 3, 4, 5, 6, 0] rfl ?_
    exact h
set_option maxHeartbeats 4000000 in
set_option maxRecDepth 100000 in
theorem b_Mo_wipe_0 {g : Ctx}  {M : Mem} {Q : Int → Mem → Prop}  (h : Q (gI M (530) (0)) (sI M (530) (0) (0))) : P_Mo_wipe g 0 [(0, vr g (530))] [] M Q := by
  refine w_wt (fun hw => ?_)
  refine w_aload_n dX11_wipe_0 0 rfl ?_
  refine w_getI (ci := 11) (k := 0) dX11_wipe_1 rfl fi11 (by decide) q904 s530 rfl l530 ?_
  refine w_istore_n (lv' := [(1, vi (gI M (530) (0))), (0, vr g (530))]) (i := 1) dX11_wipe_4 rfl (by decide) rfl ?_
  refine w_aload_n dX11_wipe_5 1 rfl ?_
  refine w_iconst dX11_wipe_6 ?_
  refine w_putI (ci := 11) (k := 0) dX11_wipe_7 rfl fi11 (by decide) q904 tyX11 tyX11_ok nmX11 rfl rfl rfl ⟨by decide, by decide⟩ s530 rfl l530 ?_
  have hw1 : WT (sI M (530) (0) (0)) := hw.sI ⟨by decide, by decide⟩
  refine w_iload_n dX11_wipe_10 0 rfl ?_
  exact w_iret dX11_wipe_11 ⟨_, rfl, (hw.int _ _), h⟩
set_option maxHeartbeats 4000000 in
set_option maxRecDepth 100000 in
theorem b_Mo_fault_0 {g : Ctx}  {M : Mem} {Q : Int → Mem → Prop}  (h : K_Mo_reads g  M (fun r1 M2 => InR r1 → WT M2 → Q r1 M2)) : P_Mo_fault g 0 [(0, vr g (530))] [] M Q := by
  refine w_wt (fun hw => ?_)
  refine w_aload_n dX11_fault_0 0 rfl ?_
  refine c_Mo_reads dX11_fault_1 q835 (by decide) (Nat.le_of_ble_eq_true rfl) h (fun r1 M2 h hr1 hwM2 => ?_)
  replace h := h hr1 hwM2
  exact w_iret dX11_fault_4 ⟨_, rfl, hr1, h⟩
set_option maxHeartbeats 4000000 in
set_option maxRecDepth 100000 in
theorem b_Mo_named_0 {g : Ctx} {p0 : Int} {M : Mem} {Q : Int → Mem → Prop} (hp0 : InR p0) (h : K_Mo_isIn g p0 0 2 M (fun r1 M2 => (r1 = 0 ∨ r1 = 1) → WT M2 → (((¬ r1 = 0) → K_Mo_readsName g  (sI M2 (530) (32) (0)) (fun r5 M6 => (r5 = 0 ∨ r5 = 1) → WT M6 → (((r5 = 0) → Q (-2) M6) ∧ ((¬ (r5 = 0)) → ((((gI M6 (530) (32)) = (gI M6 (530) (0))) → P_Mo_named g 42 [(0, vr g (530)), (1, vi (p0)), (2, vi ((-4))), (3, vi (0))] [] M6 Q) ∧ ((¬ ((gI M6 (530) (32)) = (gI M6 (530) (0)))) → Q (-2) M6)))))) ∧ ((r1 = 0) → Q (-1) M2)))) : P_Mo_named g 0 [(0, vr g (530)), (1, vi (p0))] [] M Q := by
  refine w_wt (fun hw => ?_)
  refine w_iload_n dX11_named_0 1 rfl ?_
  refine w_iconst dX11_named_1 ?_
  refine w_iconst dX11_named_2 ?_
  refine c_Mo_isIn dX11_named_3 q851 (by decide) (Nat.le_of_ble_eq_true rfl) h (fun r1 M2 h hr1 hwM2 => ?_)
  replace h := h hr1 hwM2
  refine w_if_ne (tgt := 11) dX11_named_6 (by decide) (inr_z hr1) (fun c3 => ?_) (fun c3 => ?_)
  · replace h := h.1 c3
    refine w_aload_n dX11_named_11 0 rfl ?_
    refine w_iconst dX11_named_12 ?_
    refine w_putI (ci := 11) (k := 32) dX11_named_13 rfl fi11 (by decide) q936 tyX11 tyX11_ok nmX11 rfl rfl rfl ⟨by decide, by decide⟩ s530 rfl l530 ?_
    have hw4 : WT (sI M2 (530) (32) (0)) := hwM2.sI ⟨by decide, by decide⟩
    refine w_aload_n dX11_named_16 0 rfl ?_
    refine c_Mo_readsName dX11_named_17 q847 (by decide) (Nat.le_of_ble_eq_true rfl) h (fun r5 M6 h hr5 hwM6 => ?_)
    replace h := h hr5 hwM6
    refine w_if_eq (tgt := 34) dX11_named_20 (by decide) (inr_z hr5) (fun c7 => ?_) (fun c7 => ?_)
    · replace h := h.1 c7
      refine w_bipush dX11_named_34 rfl ?_
      exact w_iret dX11_named_36 ⟨_, rfl, ⟨by decide, by decide⟩, h⟩
    · replace h := h.2 c7
      refine w_aload_n dX11_named_23 0 rfl ?_
      refine w_getI (ci := 11) (k := 32) dX11_named_24 rfl fi11 (by decide) q936 s530 rfl l530 ?_
      refine w_aload_n dX11_named_27 0 rfl ?_
      refine w_getI (ci := 11) (k := 0) dX11_named_28 rfl fi11 (by decide) q904 s530 rfl l530 ?_
      refine w_icmp_eq (tgt := 37) dX11_named_31 (by decide) (hwM6.int _ _) (hwM6.int _ _) (fun c8 => ?_) (fun c8 => ?_)
      · replace h := h.1 c8
        refine w_bipush dX11_named_37 rfl ?_
        refine w_istore_n (lv' := [(2, vi ((-4))), (0, vr g (530)), (1, vi (p0))]) (i := 2) dX11_named_39 rfl (by decide) rfl ?_
        refine w_iconst dX11_named_40 ?_
        refine w_istore_n (lv' := [(3, vi (0)), (2, vi ((-4))), (0, vr g (530)), (1, vi (p0))]) (i := 3) dX11_named_41 rfl (by decide) rfl ?_
        refine w_lv [2, 3, 1, 0] rfl ?_
        exact h
      · replace h := h.2 c8
        refine w_bipush dX11_named_34 rfl ?_
        exact w_iret dX11_named_36 ⟨_, rfl, ⟨by decide, by decide⟩, h⟩
  · replace h := h.2 c3
    refine w_iconst dX11_named_9 ?_
    exact w_iret dX11_named_10 ⟨_, rfl, ⟨by decide, by decide⟩, h⟩
set_option maxHeartbeats 4000000 in
set_option maxRecDepth 100000 in
theorem b_Mo_named_42 {g : Ctx} {x1 : Int} {x2 : Int} {x3 : Int} {M : Mem} {Q : Int → Mem → Prop} (hx1 : InR x1) (hx2 : InR x2) (hx3 : InR x3) (h : ((((gI M (530) (2)) ≤ x3) → Q x2 M) ∧ ((¬ ((gI M (530) (2)) ≤ x3)) → (((¬ x1 = 0) → (((¬ x1 = 1) → (0 ≤ x3 ∧ x3 < 12) ∧ ((((gI M (532) (x3.toNat)) < (gI M (530) (33))) → P_Mo_named g 42 [(0, vr g (530)), (1, vi (x1)), (2, vi (x2)), (3, vi (x3 + 1))] [] M Q) ∧ ((¬ ((gI M (532) (x3.toNat)) < (gI M (530) (33)))) → (((¬ x2 = (-4)) → P_Mo_named g 42 [(0, vr g (530)), (1, vi (x1)), (2, vi (x2)), (3, vi (x3 + 1))] [] M Q) ∧ ((x2 = (-4)) → P_Mo_named g 42 [(0, vr g (530)), (1, vi (x1)), (2, vi (x3)), (3, vi (x3 + 1))] [] M Q))))) ∧ ((x1 = 1) → (0 ≤ x3 ∧ x3 < 12) ∧ ((((gI M (530) (33)) < (gI M (532) (x3.toNat))) → P_Mo_named g 42 [(0, vr g (530)), (1, vi (x1)), (2, vi (x2)), (3, vi (x3 + 1))] [] M Q) ∧ ((¬ ((gI M (530) (33)) < (gI M (532) (x3.toNat)))) → P_Mo_named g 42 [(0, vr g (530)), (1, vi (x1)), (2, vi (x3)), (3, vi (x3 + 1))] [] M Q))))) ∧ ((x1 = 0) → (0 ≤ x3 ∧ x3 < 12) ∧ (((¬ (gI M (532) (x3.toNat)) = (gI M (530) (33))) → P_Mo_named g 42 [(0, vr g (530)), (1, vi (x1)), (2, vi (x2)), (3, vi (x3 + 1))] [] M Q) ∧ (((gI M (532) (x3.toNat)) = (gI M (530) (33))) → P_Mo_named g 42 [(0, vr g (530)), (1, vi (x1)), (2, vi (x3)), (3, vi (x3 + 1))] [] M Q))))))) : P_Mo_named g 42 [(0, vr g (530)), (1, vi (x1)), (2, vi (x2)), (3, vi (x3))] [] M Q := by
  refine w_wt (fun hw => ?_)
  refine w_iload_n dX11_named_42 3 rfl ?_
  refine w_aload_n dX11_named_43 0 rfl ?_
  refine w_getI (ci := 11) (k := 2) dX11_named_44 rfl fi11 (by decide) q906 s530 rfl l530 ?_
  refine w_icmp_ge (tgt := 144) dX11_named_47 (by decide) hx3 (hw.int _ _) (fun c1 => ?_) (fun c1 => ?_)
  · replace h := h.1 c1
    refine w_iload_n dX11_named_144 2 rfl ?_
    exact w_iret dX11_named_145 ⟨_, rfl, hx2, h⟩
  · replace h := h.2 c1
    refine w_iload_n dX11_named_50 1 rfl ?_
    refine w_if_ne (tgt := 75) dX11_named_51 (by decide) hx1 (fun c2 => ?_) (fun c2 => ?_)
    · replace h := h.1 c2
      refine w_iload_n dX11_named_75 1 rfl ?_
      refine w_iconst dX11_named_76 ?_
      refine w_icmp_ne (tgt := 101) dX11_named_77 (by decide) hx1 ⟨by decide, by decide⟩ (fun c3 => ?_) (fun c3 => ?_)
      · replace h := h.1 c3
        refine w_aload_n dX11_named_101 0 rfl ?_
        refine w_getS (ci := 11) (k := 3) dX11_named_102 rfl fi11 (by decide) q907 s530 rfl l530 ?_
        refine w_iload_n dX11_named_105 3 rfl ?_
        obtain ⟨i4, h⟩ := h
        refine w_iald dX11_named_106 s532 l532 (by decide) i4.1 i4.2 ?_
        refine w_aload_n dX11_named_107 0 rfl ?_
        refine w_getI (ci := 11) (k := 33) dX11_named_108 rfl fi11 (by decide) q937 s530 rfl l530 ?_
        refine w_icmp_lt (tgt := 124) dX11_named_111 (by decide) (hw.int _ _) (hw.int _ _) (fun c5 => ?_) (fun c5 => ?_)
        · replace h := h.1 c5
          refine w_iconst dX11_named_124 ?_
          refine w_istore (lv' := [(4, vi (0)), (0, vr g (530)), (1, vi (x1)), (2, vi (x2)), (3, vi (x3))]) dX11_named_125 (by decide) rfl ?_
          refine w_iload dX11_named_127 0 rfl ?_
          refine w_if_eq (tgt := 136) dX11_named_129 (by decide) ⟨by decide, by decide⟩ (fun c => ?_) (fun c => ?_)
          · refine w_iload_n dX11_named_136 3 rfl ?_
            refine w_istore_n (lv' := [(2, vi (x2)), (4, vi (0)), (0, vr g (530)), (1, vi (x1)), (3, vi (x3))]) (i := 2) dX11_named_137 rfl (by decide) rfl ?_
            refine w_iinc (lv' := [(3, vi (x3 + 1)), (2, vi (x2)), (4, vi (0)), (0, vr g (530)), (1, vi (x1))]) dX11_named_138 4 rfl (by decide) rfl ?_
            refine w_goto (tgt := 42) dX11_named_141 (by decide) ?_
            refine w_lv [3, 4, 1, 0] rfl ?_
            exact h
          · exact absurd c (by decide)
        · replace h := h.2 c5
          refine w_iload_n dX11_named_114 2 rfl ?_
          refine w_bipush dX11_named_115 rfl ?_
          refine w_icmp_ne (tgt := 124) dX11_named_117 (by decide) hx2 ⟨by decide, by decide⟩ (fun c6 => ?_) (fun c6 => ?_)
          · replace h := h.1 c6
            refine w_iconst dX11_named_124 ?_
            refine w_istore (lv' := [(4, vi (0)), (0, vr g (530)), (1, vi (x1)), (2, vi (x2)), (3, vi (x3))]) dX11_named_125 (by decide) rfl ?_
            refine w_iload dX11_named_127 0 rfl ?_
            refine w_if_eq (tgt := 136) dX11_named_129 (by decide) ⟨by decide, by decide⟩ (fun c => ?_) (fun c => ?_)
            · refine w_iload_n dX11_named_136 3 rfl ?_
              refine w_istore_n (lv' := [(2, vi (x2)), (4, vi (0)), (0, vr g (530)), (1, vi (x1)), (3, vi (x3))]) (i := 2) dX11_named_137 rfl (by decide) rfl ?_
              refine w_iinc (lv' := [(3, vi (x3 + 1)), (2, vi (x2)), (4, vi (0)), (0, vr g (530)), (1, vi (x1))]) dX11_named_138 4 rfl (by decide) rfl ?_
              refine w_goto (tgt := 42) dX11_named_141 (by decide) ?_
              refine w_lv [3, 4, 1, 0] rfl ?_
              exact h
            · exact absurd c (by decide)
          · replace h := h.2 c6
            refine w_iconst dX11_named_120 ?_
            refine w_goto (tgt := 125) dX11_named_121 (by decide) ?_
            refine w_istore (lv' := [(4, vi (1)), (0, vr g (530)), (1, vi (x1)), (2, vi (x2)), (3, vi (x3))]) dX11_named_125 (by decide) rfl ?_
            refine w_iload dX11_named_127 0 rfl ?_
            refine w_if_eq (tgt := 136) dX11_named_129 (by decide) ⟨by decide, by decide⟩ (fun c => ?_) (fun c => ?_)
            · exact absurd c (by decide)
            · refine w_iload_n dX11_named_132 4 rfl ?_
              refine w_goto (tgt := 137) dX11_named_133 (by decide) ?_
              refine w_istore_n (lv' := [(2, vi (x3)), (4, vi (1)), (0, vr g (530)), (1, vi (x1)), (3, vi (x3))]) (i := 2) dX11_named_137 rfl (by decide) rfl ?_
              refine w_iinc (lv' := [(3, vi (x3 + 1)), (2, vi (x3)), (4, vi (1)), (0, vr g (530)), (1, vi (x1))]) dX11_named_138 4 rfl (by decide) rfl ?_
              refine w_goto (tgt := 42) dX11_named_141 (by decide) ?_
              refine w_lv [3, 4, 1, 0] rfl ?_
              exact h
      · replace h := h.2 c3
        refine w_aload_n dX11_named_80 0 rfl ?_
        refine w_getS (ci := 11) (k := 3) dX11_named_81 rfl fi11 (by decide) q907 s530 rfl l530 ?_
        refine w_iload_n dX11_named_84 3 rfl ?_
        obtain ⟨i7, h⟩ := h
        refine w_iald dX11_named_85 s532 l532 (by decide) i7.1 i7.2 ?_
        refine w_aload_n dX11_named_86 0 rfl ?_
        refine w_getI (ci := 11) (k := 33) dX11_named_87 rfl fi11 (by decide) q937 s530 rfl l530 ?_
        refine w_icmp_gt (tgt := 97) dX11_named_90 (by decide) (hw.int _ _) (hw.int _ _) (fun c8 => ?_) (fun c8 => ?_)
        · replace h := h.1 c8
          refine w_iconst dX11_named_97 ?_
          refine w_goto (tgt := 125) dX11_named_98 (by decide) ?_
          refine w_istore (lv' := [(4, vi (0)), (0, vr g (530)), (1, vi (x1)), (2, vi (x2)), (3, vi (x3))]) dX11_named_125 (by decide) rfl ?_
          refine w_iload dX11_named_127 0 rfl ?_
          refine w_if_eq (tgt := 136) dX11_named_129 (by decide) ⟨by decide, by decide⟩ (fun c => ?_) (fun c => ?_)
          · refine w_iload_n dX11_named_136 3 rfl ?_
            refine w_istore_n (lv' := [(2, vi (x2)), (4, vi (0)), (0, vr g (530)), (1, vi (x1)), (3, vi (x3))]) (i := 2) dX11_named_137 rfl (by decide) rfl ?_
            refine w_iinc (lv' := [(3, vi (x3 + 1)), (2, vi (x2)), (4, vi (0)), (0, vr g (530)), (1, vi (x1))]) dX11_named_138 4 rfl (by decide) rfl ?_
            refine w_goto (tgt := 42) dX11_named_141 (by decide) ?_
            refine w_lv [3, 4, 1, 0] rfl ?_
            exact h
          · exact absurd c (by decide)
        · replace h := h.2 c8
          refine w_iconst dX11_named_93 ?_
          refine w_goto (tgt := 125) dX11_named_94 (by decide) ?_
          refine w_istore (lv' := [(4, vi (1)), (0, vr g (530)), (1, vi (x1)), (2, vi (x2)), (3, vi (x3))]) dX11_named_125 (by decide) rfl ?_
          refine w_iload dX11_named_127 0 rfl ?_
          refine w_if_eq (tgt := 136) dX11_named_129 (by decide) ⟨by decide, by decide⟩ (fun c => ?_) (fun c => ?_)
          · exact absurd c (by decide)
          · refine w_iload_n dX11_named_132 4 rfl ?_
            refine w_goto (tgt := 137) dX11_named_133 (by decide) ?_
            refine w_istore_n (lv' := [(2, vi (x3)), (4, vi (1)), (0, vr g (530)), (1, vi (x1)), (3, vi (x3))]) (i := 2) dX11_named_137 rfl (by decide) rfl ?_
            refine w_iinc (lv' := [(3, vi (x3 + 1)), (2, vi (x3)), (4, vi (1)), (0, vr g (530)), (1, vi (x1))]) dX11_named_138 4 rfl (by decide) rfl ?_
            refine w_goto (tgt := 42) dX11_named_141 (by decide) ?_
            refine w_lv [3, 4, 1, 0] rfl ?_
            exact h
    · replace h := h.2 c2
      refine w_aload_n dX11_named_54 0 rfl ?_
      refine w_getS (ci := 11) (k := 3) dX11_named_55 rfl fi11 (by decide) q907 s530 rfl l530 ?_
      refine w_iload_n dX11_named_58 3 rfl ?_
      obtain ⟨i9, h⟩ := h
      refine w_iald dX11_named_59 s532 l532 (by decide) i9.1 i9.2 ?_
      refine w_aload_n dX11_named_60 0 rfl ?_
      refine w_getI (ci := 11) (k := 33) dX11_named_61 rfl fi11 (by decide) q937 s530 rfl l530 ?_
      refine w_icmp_ne (tgt := 71) dX11_named_64 (by decide) (hw.int _ _) (hw.int _ _) (fun c10 => ?_) (fun c10 => ?_)
      · replace h := h.1 c10
        refine w_iconst dX11_named_71 ?_
        refine w_goto (tgt := 125) dX11_named_72 (by decide) ?_
        refine w_istore (lv' := [(4, vi (0)), (0, vr g (530)), (1, vi (x1)), (2, vi (x2)), (3, vi (x3))]) dX11_named_125 (by decide) rfl ?_
        refine w_iload dX11_named_127 0 rfl ?_
        refine w_if_eq (tgt := 136) dX11_named_129 (by decide) ⟨by decide, by decide⟩ (fun c => ?_) (fun c => ?_)
        · refine w_iload_n dX11_named_136 3 rfl ?_
          refine w_istore_n (lv' := [(2, vi (x2)), (4, vi (0)), (0, vr g (530)), (1, vi (x1)), (3, vi (x3))]) (i := 2) dX11_named_137 rfl (by decide) rfl ?_
          refine w_iinc (lv' := [(3, vi (x3 + 1)), (2, vi (x2)), (4, vi (0)), (0, vr g (530)), (1, vi (x1))]) dX11_named_138 4 rfl (by decide) rfl ?_
          refine w_goto (tgt := 42) dX11_named_141 (by decide) ?_
          refine w_lv [3, 4, 1, 0] rfl ?_
          exact h
        · exact absurd c (by decide)
      · replace h := h.2 c10
        refine w_iconst dX11_named_67 ?_
        refine w_goto (tgt := 125) dX11_named_68 (by decide) ?_
        refine w_istore (lv' := [(4, vi (1)), (0, vr g (530)), (1, vi (x1)), (2, vi (x2)), (3, vi (x3))]) dX11_named_125 (by decide) rfl ?_
        refine w_iload dX11_named_127 0 rfl ?_
        refine w_if_eq (tgt := 136) dX11_named_129 (by decide) ⟨by decide, by decide⟩ (fun c => ?_) (fun c => ?_)
        · exact absurd c (by decide)
        · refine w_iload_n dX11_named_132 4 rfl ?_
          refine w_goto (tgt := 137) dX11_named_133 (by decide) ?_
          refine w_istore_n (lv' := [(2, vi (x3)), (4, vi (1)), (0, vr g (530)), (1, vi (x1)), (3, vi (x3))]) (i := 2) dX11_named_137 rfl (by decide) rfl ?_
          refine w_iinc (lv' := [(3, vi (x3 + 1)), (2, vi (x3)), (4, vi (1)), (0, vr g (530)), (1, vi (x1))]) dX11_named_138 4 rfl (by decide) rfl ?_
          refine w_goto (tgt := 42) dX11_named_141 (by decide) ?_
          refine w_lv [3, 4, 1, 0] rfl ?_
          exact h
set_option maxHeartbeats 4000000 in
set_option maxRecDepth 100000 in
theorem b_Mo_check_0 {g : Ctx} {p0 : Int} {p1 : Int} {p2 : Int} {M : Mem} {Q : Int → Mem → Prop} (hp0 : InR p0) (hp1 : InR p1) (hp2 : InR p2) (h : K_Mo_isName g p0 M (fun r1 M2 => (r1 = 0 ∨ r1 = 1) → WT M2 → (((r1 = 0) → Q (-1) M2) ∧ ((¬ (r1 = 0)) → K_Mo_isIn g p1 0 255 M2 (fun r4 M5 => (r4 = 0 ∨ r4 = 1) → WT M5 → (((r4 = 0) → Q (-1) M5) ∧ ((¬ (r4 = 0)) → K_Mo_isIn g p2 0 15 M5 (fun r7 M8 => (r7 = 0 ∨ r7 = 1) → WT M8 → (((¬ r7 = 0) → K_Mo_goes g p0 p1 p2 M8 (fun r10 M11 => InR r10 → WT M11 → P_Mo_check g 43 [(0, vr g (530)), (1, vi (p0)), (2, vi (p1)), (3, vi (p2)), (4, vi (r10)), (5, vi (0))] [] M11 Q)) ∧ ((r7 = 0) → Q (-1) M8)))))))))) : P_Mo_check g 0 [(0, vr g (530)), (1, vi (p0)), (2, vi (p1)), (3, vi (p2))] [] M Q := by
  refine w_wt (fun hw => ?_)
  refine w_aload_n dX11_check_0 0 rfl ?_
  refine w_iload_n dX11_check_1 1 rfl ?_
  refine c_Mo_isName dX11_check_2 q1067 (by decide) (Nat.le_of_ble_eq_true rfl) h (fun r1 M2 h hr1 hwM2 => ?_)
  replace h := h hr1 hwM2
  refine w_if_eq (tgt := 29) dX11_check_5 (by decide) (inr_z hr1) (fun c3 => ?_) (fun c3 => ?_)
  · replace h := h.1 c3
    refine w_iconst dX11_check_29 ?_
    exact w_iret dX11_check_30 ⟨_, rfl, ⟨by decide, by decide⟩, h⟩
  · replace h := h.2 c3
    refine w_iload_n dX11_check_8 2 rfl ?_
    refine w_iconst dX11_check_9 ?_
    refine w_sipush dX11_check_10 rfl ?_
    refine c_Mo_isIn dX11_check_13 q851 (by decide) (Nat.le_of_ble_eq_true rfl) h (fun r4 M5 h hr4 hwM5 => ?_)
    replace h := h hr4 hwM5
    refine w_if_eq (tgt := 29) dX11_check_16 (by decide) (inr_z hr4) (fun c6 => ?_) (fun c6 => ?_)
    · replace h := h.1 c6
      refine w_iconst dX11_check_29 ?_
      exact w_iret dX11_check_30 ⟨_, rfl, ⟨by decide, by decide⟩, h⟩
    · replace h := h.2 c6
      refine w_iload_n dX11_check_19 3 rfl ?_
      refine w_iconst dX11_check_20 ?_
      refine w_bipush dX11_check_21 rfl ?_
      refine c_Mo_isIn dX11_check_23 q851 (by decide) (Nat.le_of_ble_eq_true rfl) h (fun r7 M8 h hr7 hwM8 => ?_)
      replace h := h hr7 hwM8
      refine w_if_ne (tgt := 31) dX11_check_26 (by decide) (inr_z hr7) (fun c9 => ?_) (fun c9 => ?_)
      · replace h := h.1 c9
        refine w_aload_n dX11_check_31 0 rfl ?_
        refine w_iload_n dX11_check_32 1 rfl ?_
        refine w_iload_n dX11_check_33 2 rfl ?_
        refine w_iload_n dX11_check_34 3 rfl ?_
        refine c_Mo_goes dX11_check_35 q1071 (by decide) (Nat.le_of_ble_eq_true rfl) h (fun r10 M11 h hr10 hwM11 => ?_)
        replace h := h hr10 hwM11
        refine w_istore (lv' := [(4, vi (r10)), (0, vr g (530)), (1, vi (p0)), (2, vi (p1)), (3, vi (p2))]) dX11_check_38 (by decide) rfl ?_
        refine w_iconst dX11_check_40 ?_
        refine w_istore (lv' := [(5, vi (0)), (4, vi (r10)), (0, vr g (530)), (1, vi (p0)), (2, vi (p1)), (3, vi (p2))]) dX11_check_41 (by decide) rfl ?_
        refine w_lv [2, 3, 4, 5, 1, 0] rfl ?_
        exact h
      · replace h := h.2 c9
        refine w_iconst dX11_check_29 ?_
        exact w_iret dX11_check_30 ⟨_, rfl, ⟨by decide, by decide⟩, h⟩
set_option maxHeartbeats 4000000 in
set_option maxRecDepth 100000 in
theorem b_Mo_check_43 {g : Ctx} {x1 : Int} {x2 : Int} {x3 : Int} {x4 : Int} {x5 : Int} {M : Mem} {Q : Int → Mem → Prop} (hx1 : InR x1) (hx2 : InR x2) (hx3 : InR x3) (hx4 : InR x4) (hx5 : InR x5) (h : ((((gI M (530) (34)) ≤ x5) → ((((gI M (530) (34)) ≤ x5) → (((4 ≤ (gI M (530) (34))) → (((x5 < (gI M (530) (34))) → P_Mo_check g 179 [(0, vr g (530)), (1, vi (x1)), (2, vi (x2)), (3, vi (x3)), (4, vi (x4)), (7, vi ((8 * 3) - 1))] [] (sI M (530) (34) (gI M (530) (34))) Q) ∧ ((¬ (x5 < (gI M (530) (34)))) → (((¬ (gI M (530) (34)) = 4) → (InR ((gI M (530) (34)) + 1)) ∧ P_Mo_check g 179 [(0, vr g (530)), (1, vi (x1)), (2, vi (x2)), (3, vi (x3)), (4, vi (x4)), (7, vi ((8 * 3) - 1))] [] (sI M (530) (34) ((gI M (530) (34)) + 1)) Q) ∧ (((gI M (530) (34)) = 4) → P_Mo_check g 179 [(0, vr g (530)), (1, vi (x1)), (2, vi (x2)), (3, vi (x3)), (4, vi (x4)), (7, vi ((8 * 3) - 1))] [] (sI M (530) (34) (gI M (530) (34))) Q))))) ∧ ((¬ (4 ≤ (gI M (530) (34)))) → (((x5 < (gI M (530) (34))) → P_Mo_check g 179 [(0, vr g (530)), (1, vi (x1)), (2, vi (x2)), (3, vi (x3)), (4, vi (x4)), (7, vi ((8 * (gI M (530) (34))) - 1))] [] (sI M (530) (34) (gI M (530) (34))) Q) ∧ ((¬ (x5 < (gI M (530) (34)))) → (((¬ (gI M (530) (34)) = 4) → (InR ((gI M (530) (34)) + 1)) ∧ P_Mo_check g 179 [(0, vr g (530)), (1, vi (x1)), (2, vi (x2)), (3, vi (x3)), (4, vi (x4)), (7, vi ((8 * (gI M (530) (34))) - 1))] [] (sI M (530) (34) ((gI M (530) (34)) + 1)) Q) ∧ (((gI M (530) (34)) = 4) → P_Mo_check g 179 [(0, vr g (530)), (1, vi (x1)), (2, vi (x2)), (3, vi (x3)), (4, vi (x4)), (7, vi ((8 * (gI M (530) (34))) - 1))] [] (sI M (530) (34) (gI M (530) (34))) Q))))))) ∧ ((¬ ((gI M (530) (34)) ≤ x5)) → (((x5 < (gI M (530) (34))) → P_Mo_check g 179 [(0, vr g (530)), (1, vi (x1)), (2, vi (x2)), (3, vi (x3)), (4, vi (x4)), (7, vi ((8 * x5) - 1))] [] (sI M (530) (34) (gI M (530) (34))) Q) ∧ ((¬ (x5 < (gI M (530) (34)))) → (((¬ (gI M (530) (34)) = 4) → (InR ((gI M (530) (34)) + 1)) ∧ P_Mo_check g 179 [(0, vr g (530)), (1, vi (x1)), (2, vi (x2)), (3, vi (x3)), (4, vi (x4)), (7, vi ((8 * x5) - 1))] [] (sI M (530) (34) ((gI M (530) (34)) + 1)) Q) ∧ (((gI M (530) (34)) = 4) → P_Mo_check g 179 [(0, vr g (530)), (1, vi (x1)), (2, vi (x2)), (3, vi (x3)), (4, vi (x4)), (7, vi ((8 * x5) - 1))] [] (sI M (530) (34) (gI M (530) (34))) Q))))))) ∧ ((¬ ((gI M (530) (34)) ≤ x5)) → (0 ≤ (8 * x5) ∧ (8 * x5) < 32) ∧ (((¬ (gI M (559) ((8 * x5).toNat)) = x1) → P_Mo_check g 43 [(0, vr g (530)), (1, vi (x1)), (2, vi (x2)), (3, vi (x3)), (4, vi (x4)), (5, vi (x5 + 1))] [] M Q) ∧ (((gI M (559) ((8 * x5).toNat)) = x1) → (0 ≤ ((8 * x5) + 1) ∧ ((8 * x5) + 1) < 32) ∧ (((¬ (gI M (559) (((8 * x5) + 1).toNat)) = x2) → P_Mo_check g 43 [(0, vr g (530)), (1, vi (x1)), (2, vi (x2)), (3, vi (x3)), (4, vi (x4)), (5, vi (x5 + 1))] [] M Q) ∧ (((gI M (559) (((8 * x5) + 1).toNat)) = x2) → (0 ≤ ((8 * x5) + 2) ∧ ((8 * x5) + 2) < 32) ∧ ((((gI M (559) (((8 * x5) + 2).toNat)) = x3) → ((((gI M (530) (34)) ≤ x5) → (((4 ≤ (gI M (530) (34))) → (((x5 < (gI M (530) (34))) → P_Mo_check g 179 [(0, vr g (530)), (1, vi (x1)), (2, vi (x2)), (3, vi (x3)), (4, vi (x4)), (7, vi ((8 * 3) - 1))] [] (sI M (530) (34) (gI M (530) (34))) Q) ∧ ((¬ (x5 < (gI M (530) (34)))) → (((¬ (gI M (530) (34)) = 4) → (InR ((gI M (530) (34)) + 1)) ∧ P_Mo_check g 179 [(0, vr g (530)), (1, vi (x1)), (2, vi (x2)), (3, vi (x3)), (4, vi (x4)), (7, vi ((8 * 3) - 1))] [] (sI M (530) (34) ((gI M (530) (34)) + 1)) Q) ∧ (((gI M (530) (34)) = 4) → P_Mo_check g 179 [(0, vr g (530)), (1, vi (x1)), (2, vi (x2)), (3, vi (x3)), (4, vi (x4)), (7, vi ((8 * 3) - 1))] [] (sI M (530) (34) (gI M (530) (34))) Q))))) ∧ ((¬ (4 ≤ (gI M (530) (34)))) → (((x5 < (gI M (530) (34))) → P_Mo_check g 179 [(0, vr g (530)), (1, vi (x1)), (2, vi (x2)), (3, vi (x3)), (4, vi (x4)), (7, vi ((8 * (gI M (530) (34))) - 1))] [] (sI M (530) (34) (gI M (530) (34))) Q) ∧ ((¬ (x5 < (gI M (530) (34)))) → (((¬ (gI M (530) (34)) = 4) → (InR ((gI M (530) (34)) + 1)) ∧ P_Mo_check g 179 [(0, vr g (530)), (1, vi (x1)), (2, vi (x2)), (3, vi (x3)), (4, vi (x4)), (7, vi ((8 * (gI M (530) (34))) - 1))] [] (sI M (530) (34) ((gI M (530) (34)) + 1)) Q) ∧ (((gI M (530) (34)) = 4) → P_Mo_check g 179 [(0, vr g (530)), (1, vi (x1)), (2, vi (x2)), (3, vi (x3)), (4, vi (x4)), (7, vi ((8 * (gI M (530) (34))) - 1))] [] (sI M (530) (34) (gI M (530) (34))) Q))))))) ∧ ((¬ ((gI M (530) (34)) ≤ x5)) → (((x5 < (gI M (530) (34))) → P_Mo_check g 179 [(0, vr g (530)), (1, vi (x1)), (2, vi (x2)), (3, vi (x3)), (4, vi (x4)), (7, vi ((8 * x5) - 1))] [] (sI M (530) (34) (gI M (530) (34))) Q) ∧ ((¬ (x5 < (gI M (530) (34)))) → (((¬ (gI M (530) (34)) = 4) → (InR ((gI M (530) (34)) + 1)) ∧ P_Mo_check g 179 [(0, vr g (530)), (1, vi (x1)), (2, vi (x2)), (3, vi (x3)), (4, vi (x4)), (7, vi ((8 * x5) - 1))] [] (sI M (530) (34) ((gI M (530) (34)) + 1)) Q) ∧ (((gI M (530) (34)) = 4) → P_Mo_check g 179 [(0, vr g (530)), (1, vi (x1)), (2, vi (x2)), (3, vi (x3)), (4, vi (x4)), (7, vi ((8 * x5) - 1))] [] (sI M (530) (34) (gI M (530) (34))) Q))))))) ∧ ((¬ ((gI M (559) (((8 * x5) + 2).toNat)) = x3)) → P_Mo_check g 43 [(0, vr g (530)), (1, vi (x1)), (2, vi (x2)), (3, vi (x3)), (4, vi (x4)), (5, vi (x5 + 1))] [] M Q))))))))) : P_Mo_check g 43 [(0, vr g (530)), (1, vi (x1)), (2, vi (x2)), (3, vi (x3)), (4, vi (x4)), (5, vi (x5))] [] M Q := by
  refine w_wt (fun hw => ?_)
  refine w_iload dX11_check_43 5 rfl ?_
  refine w_aload_n dX11_check_45 0 rfl ?_
  refine w_getI (ci := 11) (k := 34) dX11_check_46 rfl fi11 (by decide) q938 s530 rfl l530 ?_
  refine w_icmp_ge (tgt := 104) dX11_check_49 (by decide) hx5 (hw.int _ _) (fun c1 => ?_) (fun c1 => ?_)
  · replace h := h.1 c1
    refine w_iload dX11_check_104 5 rfl ?_
    refine w_aload_n dX11_check_106 0 rfl ?_
    refine w_getI (ci := 11) (k := 34) dX11_check_107 rfl fi11 (by decide) q938 s530 rfl l530 ?_
    refine w_icmp_ge (tgt := 118) dX11_check_110 (by decide) hx5 (hw.int _ _) (fun c2 => ?_) (fun c2 => ?_)
    · replace h := h.1 c2
      refine w_aload_n dX11_check_118 0 rfl ?_
      refine w_getI (ci := 11) (k := 34) dX11_check_119 rfl fi11 (by decide) q938 s530 rfl l530 ?_
      refine w_iconst dX11_check_122 ?_
      refine w_icmp_ge (tgt := 133) dX11_check_123 (by decide) (hw.int _ _) ⟨by decide, by decide⟩ (fun c3 => ?_) (fun c3 => ?_)
      · replace h := h.1 c3
        refine w_iconst dX11_check_133 ?_
        refine w_istore (lv' := [(6, vi (3)), (0, vr g (530)), (1, vi (x1)), (2, vi (x2)), (3, vi (x3)), (4, vi (x4)), (5, vi (x5))]) dX11_check_134 (by decide) rfl ?_
        refine w_aload_n dX11_check_136 1 rfl ?_
        refine w_iload dX11_check_137 6 rfl ?_
        refine w_aload_n dX11_check_139 1 rfl ?_
        refine w_getI (ci := 11) (k := 34) dX11_check_140 rfl fi11 (by decide) q938 s530 rfl l530 ?_
        refine w_icmp_lt (tgt := 154) dX11_check_143 (by decide) hx5 (hw.int _ _) (fun c4 => ?_) (fun c4 => ?_)
        · replace h := h.1 c4
          refine w_aload_n dX11_check_154 1 rfl ?_
          refine w_getI (ci := 11) (k := 34) dX11_check_155 rfl fi11 (by decide) q938 s530 rfl l530 ?_
          refine w_goto (tgt := 167) dX11_check_158 (by decide) ?_
          refine w_putI (ci := 11) (k := 34) dX11_check_167 rfl fi11 (by decide) q938 tyX11 tyX11_ok nmX11 rfl rfl rfl (hw.int _ _) s530 rfl l530 ?_
          have hw5 : WT (sI M (530) (34) (gI M (530) (34))) := hw.sI (hw.int _ _)
          refine w_bipush dX11_check_170 rfl ?_
          refine w_iload dX11_check_172 0 rfl ?_
          refine w_imul dX11_check_174 ?_
          refine w_iconst dX11_check_175 ?_
          refine w_isub dX11_check_176 ?_
          refine w_istore (lv' := [(7, vi ((8 * 3) - 1)), (6, vi (3)), (0, vr g (530)), (1, vi (x1)), (2, vi (x2)), (3, vi (x3)), (4, vi (x4)), (5, vi (x5))]) dX11_check_177 (by decide) rfl ?_
          refine w_lv [2, 3, 4, 5, 6, 0] rfl ?_
          exact h
        · replace h := h.2 c4
          refine w_aload_n dX11_check_146 1 rfl ?_
          refine w_getI (ci := 11) (k := 34) dX11_check_147 rfl fi11 (by decide) q938 s530 rfl l530 ?_
          refine w_iconst dX11_check_150 ?_
          refine w_icmp_ne (tgt := 161) dX11_check_151 (by decide) (hw.int _ _) ⟨by decide, by decide⟩ (fun c6 => ?_) (fun c6 => ?_)
          · replace h := h.1 c6
            refine w_aload_n dX11_check_161 1 rfl ?_
            refine w_getI (ci := 11) (k := 34) dX11_check_162 rfl fi11 (by decide) q938 s530 rfl l530 ?_
            refine w_iconst dX11_check_165 ?_
            refine w_iadd dX11_check_166 ?_
            obtain ⟨i7, h⟩ := h
            refine w_putI (ci := 11) (k := 34) dX11_check_167 rfl fi11 (by decide) q938 tyX11 tyX11_ok nmX11 rfl rfl rfl i7 s530 rfl l530 ?_
            have hw8 : WT (sI M (530) (34) ((gI M (530) (34)) + 1)) := hw.sI i7
            refine w_bipush dX11_check_170 rfl ?_
            refine w_iload dX11_check_172 0 rfl ?_
            refine w_imul dX11_check_174 ?_
            refine w_iconst dX11_check_175 ?_
            refine w_isub dX11_check_176 ?_
            refine w_istore (lv' := [(7, vi ((8 * 3) - 1)), (6, vi (3)), (0, vr g (530)), (1, vi (x1)), (2, vi (x2)), (3, vi (x3)), (4, vi (x4)), (5, vi (x5))]) dX11_check_177 (by decide) rfl ?_
            refine w_lv [2, 3, 4, 5, 6, 0] rfl ?_
            exact h
          · replace h := h.2 c6
            refine w_aload_n dX11_check_154 1 rfl ?_
            refine w_getI (ci := 11) (k := 34) dX11_check_155 rfl fi11 (by decide) q938 s530 rfl l530 ?_
            refine w_goto (tgt := 167) dX11_check_158 (by decide) ?_
            refine w_putI (ci := 11) (k := 34) dX11_check_167 rfl fi11 (by decide) q938 tyX11 tyX11_ok nmX11 rfl rfl rfl (hw.int _ _) s530 rfl l530 ?_
            have hw9 : WT (sI M (530) (34) (gI M (530) (34))) := hw.sI (hw.int _ _)
            refine w_bipush dX11_check_170 rfl ?_
            refine w_iload dX11_check_172 0 rfl ?_
            refine w_imul dX11_check_174 ?_
            refine w_iconst dX11_check_175 ?_
            refine w_isub dX11_check_176 ?_
            refine w_istore (lv' := [(7, vi ((8 * 3) - 1)), (6, vi (3)), (0, vr g (530)), (1, vi (x1)), (2, vi (x2)), (3, vi (x3)), (4, vi (x4)), (5, vi (x5))]) dX11_check_177 (by decide) rfl ?_
            refine w_lv [2, 3, 4, 5, 6, 0] rfl ?_
            exact h
      · replace h := h.2 c3
        refine w_aload_n dX11_check_126 0 rfl ?_
        refine w_getI (ci := 11) (k := 34) dX11_check_127 rfl fi11 (by decide) q938 s530 rfl l530 ?_
        refine w_goto (tgt := 134) dX11_check_130 (by decide) ?_
        refine w_istore (lv' := [(6, vi (gI M (530) (34))), (0, vr g (530)), (1, vi (x1)), (2, vi (x2)), (3, vi (x3)), (4, vi (x4)), (5, vi (x5))]) dX11_check_134 (by decide) rfl ?_
        refine w_aload_n dX11_check_136 1 rfl ?_
        refine w_iload dX11_check_137 6 rfl ?_
        refine w_aload_n dX11_check_139 1 rfl ?_
        refine w_getI (ci := 11) (k := 34) dX11_check_140 rfl fi11 (by decide) q938 s530 rfl l530 ?_
        refine w_icmp_lt (tgt := 154) dX11_check_143 (by decide) hx5 (hw.int _ _) (fun c10 => ?_) (fun c10 => ?_)
        · replace h := h.1 c10
          refine w_aload_n dX11_check_154 1 rfl ?_
          refine w_getI (ci := 11) (k := 34) dX11_check_155 rfl fi11 (by decide) q938 s530 rfl l530 ?_
          refine w_goto (tgt := 167) dX11_check_158 (by decide) ?_
          refine w_putI (ci := 11) (k := 34) dX11_check_167 rfl fi11 (by decide) q938 tyX11 tyX11_ok nmX11 rfl rfl rfl (hw.int _ _) s530 rfl l530 ?_
          have hw11 : WT (sI M (530) (34) (gI M (530) (34))) := hw.sI (hw.int _ _)
          refine w_bipush dX11_check_170 rfl ?_
          refine w_iload dX11_check_172 0 rfl ?_
          refine w_imul dX11_check_174 ?_
          refine w_iconst dX11_check_175 ?_
          refine w_isub dX11_check_176 ?_
          refine w_istore (lv' := [(7, vi ((8 * (gI M (530) (34))) - 1)), (6, vi (gI M (530) (34))), (0, vr g (530)), (1, vi (x1)), (2, vi (x2)), (3, vi (x3)), (4, vi (x4)), (5, vi (x5))]) dX11_check_177 (by decide) rfl ?_
          refine w_lv [2, 3, 4, 5, 6, 0] rfl ?_
          exact h
        · replace h := h.2 c10
          refine w_aload_n dX11_check_146 1 rfl ?_
          refine w_getI (ci := 11) (k := 34) dX11_check_147 rfl fi11 (by decide) q938 s530 rfl l530 ?_
          refine w_iconst dX11_check_150 ?_
          refine w_icmp_ne (tgt := 161) dX11_check_151 (by decide) (hw.int _ _) ⟨by decide, by decide⟩ (fun c12 => ?_) (fun c12 => ?_)
          · replace h := h.1 c12
            refine w_aload_n dX11_check_161 1 rfl ?_
            refine w_getI (ci := 11) (k := 34) dX11_check_162 rfl fi11 (by decide) q938 s530 rfl l530 ?_
            refine w_iconst dX11_check_165 ?_
            refine w_iadd dX11_check_166 ?_
            obtain ⟨i13, h⟩ := h
            refine w_putI (ci := 11) (k := 34) dX11_check_167 rfl fi11 (by decide) q938 tyX11 tyX11_ok nmX11 rfl rfl rfl i13 s530 rfl l530 ?_
            have hw14 : WT (sI M (530) (34) ((gI M (530) (34)) + 1)) := hw.sI i13
            refine w_bipush dX11_check_170 rfl ?_
            refine w_iload dX11_check_172 0 rfl ?_
            refine w_imul dX11_check_174 ?_
            refine w_iconst dX11_check_175 ?_
            refine w_isub dX11_check_176 ?_
            refine w_istore (lv' := [(7, vi ((8 * (gI M (530) (34))) - 1)), (6, vi (gI M (530) (34))), (0, vr g (530)), (1, vi (x1)), (2, vi (x2)), (3, vi (x3)), (4, vi (x4)), (5, vi (x5))]) dX11_check_177 (by decide) rfl ?_
            refine w_lv [2, 3, 4, 5, 6, 0] rfl ?_
            exact h
          · replace h := h.2 c12
            refine w_aload_n dX11_check_154 1 rfl ?_
            refine w_getI (ci := 11) (k := 34) dX11_check_155 rfl fi11 (by decide) q938 s530 rfl l530 ?_
            refine w_goto (tgt := 167) dX11_check_158 (by decide) ?_
            refine w_putI (ci := 11) (k := 34) dX11_check_167 rfl fi11 (by decide) q938 tyX11 tyX11_ok nmX11 rfl rfl rfl (hw.int _ _) s530 rfl l530 ?_
            have hw15 : WT (sI M (530) (34) (gI M (530) (34))) := hw.sI (hw.int _ _)
            refine w_bipush dX11_check_170 rfl ?_
            refine w_iload dX11_check_172 0 rfl ?_
            refine w_imul dX11_check_174 ?_
            refine w_iconst dX11_check_175 ?_
            refine w_isub dX11_check_176 ?_
            refine w_istore (lv' := [(7, vi ((8 * (gI M (530) (34))) - 1)), (6, vi (gI M (530) (34))), (0, vr g (530)), (1, vi (x1)), (2, vi (x2)), (3, vi (x3)), (4, vi (x4)), (5, vi (x5))]) dX11_check_177 (by decide) rfl ?_
            refine w_lv [2, 3, 4, 5, 6, 0] rfl ?_
            exact h
    · replace h := h.2 c2
      refine w_iload dX11_check_113 5 rfl ?_
      refine w_goto (tgt := 134) dX11_check_115 (by decide) ?_
      refine w_istore (lv' := [(6, vi (x5)), (0, vr g (530)), (1, vi (x1)), (2, vi (x2)), (3, vi (x3)), (4, vi (x4)), (5, vi (x5))]) dX11_check_134 (by decide) rfl ?_
      refine w_aload_n dX11_check_136 1 rfl ?_
      refine w_iload dX11_check_137 6 rfl ?_
      refine w_aload_n dX11_check_139 1 rfl ?_
      refine w_getI (ci := 11) (k := 34) dX11_check_140 rfl fi11 (by decide) q938 s530 rfl l530 ?_
      refine w_icmp_lt (tgt := 154) dX11_check_143 (by decide) hx5 (hw.int _ _) (fun c16 => ?_) (fun c16 => ?_)
      · replace h := h.1 c16
        refine w_aload_n dX11_check_154 1 rfl ?_
        refine w_getI (ci := 11) (k := 34) dX11_check_155 rfl fi11 (by decide) q938 s530 rfl l530 ?_
        refine w_goto (tgt := 167) dX11_check_158 (by decide) ?_
        refine w_putI (ci := 11) (k := 34) dX11_check_167 rfl fi11 (by decide) q938 tyX11 tyX11_ok nmX11 rfl rfl rfl (hw.int _ _) s530 rfl l530 ?_
        have hw17 : WT (sI M (530) (34) (gI M (530) (34))) := hw.sI (hw.int _ _)
        refine w_bipush dX11_check_170 rfl ?_
        refine w_iload dX11_check_172 0 rfl ?_
        refine w_imul dX11_check_174 ?_
        refine w_iconst dX11_check_175 ?_
        refine w_isub dX11_check_176 ?_
        refine w_istore (lv' := [(7, vi ((8 * x5) - 1)), (6, vi (x5)), (0, vr g (530)), (1, vi (x1)), (2, vi (x2)), (3, vi (x3)), (4, vi (x4)), (5, vi (x5))]) dX11_check_177 (by decide) rfl ?_
        refine w_lv [2, 3, 4, 5, 6, 0] rfl ?_
        exact h
      · replace h := h.2 c16
        refine w_aload_n dX11_check_146 1 rfl ?_
        refine w_getI (ci := 11) (k := 34) dX11_check_147 rfl fi11 (by decide) q938 s530 rfl l530 ?_
        refine w_iconst dX11_check_150 ?_
        refine w_icmp_ne (tgt := 161) dX11_check_151 (by decide) (hw.int _ _) ⟨by decide, by decide⟩ (fun c18 => ?_) (fun c18 => ?_)
        · replace h := h.1 c18
          refine w_aload_n dX11_check_161 1 rfl ?_
          refine w_getI (ci := 11) (k := 34) dX11_check_162 rfl fi11 (by decide) q938 s530 rfl l530 ?_
          refine w_iconst dX11_check_165 ?_
          refine w_iadd dX11_check_166 ?_
          obtain ⟨i19, h⟩ := h
          refine w_putI (ci := 11) (k := 34) dX11_check_167 rfl fi11 (by decide) q938 tyX11 tyX11_ok nmX11 rfl rfl rfl i19 s530 rfl l530 ?_
          have hw20 : WT (sI M (530) (34) ((gI M (530) (34)) + 1)) := hw.sI i19
          refine w_bipush dX11_check_170 rfl ?_
          refine w_iload dX11_check_172 0 rfl ?_
          refine w_imul dX11_check_174 ?_
          refine w_iconst dX11_check_175 ?_
          refine w_isub dX11_check_176 ?_
          refine w_istore (lv' := [(7, vi ((8 * x5) - 1)), (6, vi (x5)), (0, vr g (530)), (1, vi (x1)), (2, vi (x2)), (3, vi (x3)), (4, vi (x4)), (5, vi (x5))]) dX11_check_177 (by decide) rfl ?_
          refine w_lv [2, 3, 4, 5, 6, 0] rfl ?_
          exact h
        · replace h := h.2 c18
          refine w_aload_n dX11_check_154 1 rfl ?_
          refine w_getI (ci := 11) (k := 34) dX11_check_155 rfl fi11 (by decide) q938 s530 rfl l530 ?_
          refine w_goto (tgt := 167) dX11_check_158 (by decide) ?_
          refine w_putI (ci := 11) (k := 34) dX11_check_167 rfl fi11 (by decide) q938 tyX11 tyX11_ok nmX11 rfl rfl rfl (hw.int _ _) s530 rfl l530 ?_
          have hw21 : WT (sI M (530) (34) (gI M (530) (34))) := hw.sI (hw.int _ _)
          refine w_bipush dX11_check_170 rfl ?_
          refine w_iload dX11_check_172 0 rfl ?_
          refine w_imul dX11_check_174 ?_
          refine w_iconst dX11_check_175 ?_
          refine w_isub dX11_check_176 ?_
          refine w_istore (lv' := [(7, vi ((8 * x5) - 1)), (6, vi (x5)), (0, vr g (530)), (1, vi (x1)), (2, vi (x2)), (3, vi (x3)), (4, vi (x4)), (5, vi (x5))]) dX11_check_177 (by decide) rfl ?_
          refine w_lv [2, 3, 4, 5, 6, 0] rfl ?_
          exact h
  · replace h := h.2 c1
    refine w_aload_n dX11_check_52 0 rfl ?_
    refine w_getS (ci := 11) (k := 35) dX11_check_53 rfl fi11 (by decide) q939 s530 rfl l530 ?_
    refine w_bipush dX11_check_56 rfl ?_
    refine w_iload dX11_check_58 5 rfl ?_
    refine w_imul dX11_check_60 ?_
    obtain ⟨i22, h⟩ := h
    refine w_iald dX11_check_61 s559 l559 (by decide) i22.1 i22.2 ?_
    refine w_iload_n dX11_check_62 1 rfl ?_
    refine w_icmp_ne (tgt := 98) dX11_check_63 (by decide) (hw.int _ _) hx1 (fun c23 => ?_) (fun c23 => ?_)
    · replace h := h.1 c23
      refine w_iinc (lv' := [(5, vi (x5 + 1)), (0, vr g (530)), (1, vi (x1)), (2, vi (x2)), (3, vi (x3)), (4, vi (x4))]) dX11_check_98 5 rfl (by decide) rfl ?_
      refine w_goto (tgt := 43) dX11_check_101 (by decide) ?_
      refine w_lv [1, 2, 3, 4, 5, 0] rfl ?_
      exact h
    · replace h := h.2 c23
      refine w_aload_n dX11_check_66 0 rfl ?_
      refine w_getS (ci := 11) (k := 35) dX11_check_67 rfl fi11 (by decide) q939 s530 rfl l530 ?_
      refine w_bipush dX11_check_70 rfl ?_
      refine w_iload dX11_check_72 5 rfl ?_
      refine w_imul dX11_check_74 ?_
      refine w_iconst dX11_check_75 ?_
      refine w_iadd dX11_check_76 ?_
      obtain ⟨i24, h⟩ := h
      refine w_iald dX11_check_77 s559 l559 (by decide) i24.1 i24.2 ?_
      refine w_iload_n dX11_check_78 2 rfl ?_
      refine w_icmp_ne (tgt := 98) dX11_check_79 (by decide) (hw.int _ _) hx2 (fun c25 => ?_) (fun c25 => ?_)
      · replace h := h.1 c25
        refine w_iinc (lv' := [(5, vi (x5 + 1)), (0, vr g (530)), (1, vi (x1)), (2, vi (x2)), (3, vi (x3)), (4, vi (x4))]) dX11_check_98 5 rfl (by decide) rfl ?_
        refine w_goto (tgt := 43) dX11_check_101 (by decide) ?_
        refine w_lv [1, 2, 3, 4, 5, 0] rfl ?_
        exact h
      · replace h := h.2 c25
        refine w_aload_n dX11_check_82 0 rfl ?_
        refine w_getS (ci := 11) (k := 35) dX11_check_83 rfl fi11 (by decide) q939 s530 rfl l530 ?_
        refine w_bipush dX11_check_86 rfl ?_
        refine w_iload dX11_check_88 5 rfl ?_
        refine w_imul dX11_check_90 ?_
        refine w_iconst dX11_check_91 ?_
        refine w_iadd dX11_check_92 ?_
        obtain ⟨i26, h⟩ := h
        refine w_iald dX11_check_93 s559 l559 (by decide) i26.1 i26.2 ?_
        refine w_iload_n dX11_check_94 3 rfl ?_
        refine w_icmp_eq (tgt := 104) dX11_check_95 (by decide) (hw.int _ _) hx3 (fun c27 => ?_) (fun c27 => ?_)
        · replace h := h.1 c27
          refine w_iload dX11_check_104 5 rfl ?_
          refine w_aload_n dX11_check_106 0 rfl ?_
          refine w_getI (ci := 11) (k := 34) dX11_check_107 rfl fi11 (by decide) q938 s530 rfl l530 ?_
          refine w_icmp_ge (tgt := 118) dX11_check_110 (by decide) hx5 (hw.int _ _) (fun c28 => ?_) (fun c28 => ?_)
          · replace h := h.1 c28
            refine w_aload_n dX11_check_118 0 rfl ?_
            refine w_getI (ci := 11) (k := 34) dX11_check_119 rfl fi11 (by decide) q938 s530 rfl l530 ?_
            refine w_iconst dX11_check_122 ?_
            refine w_icmp_ge (tgt := 133) dX11_check_123 (by decide) (hw.int _ _) ⟨by decide, by decide⟩ (fun c29 => ?_) (fun c29 => ?_)
            · replace h := h.1 c29
              refine w_iconst dX11_check_133 ?_
              refine w_istore (lv' := [(6, vi (3)), (0, vr g (530)), (1, vi (x1)), (2, vi (x2)), (3, vi (x3)), (4, vi (x4)), (5, vi (x5))]) dX11_check_134 (by decide) rfl ?_
              refine w_aload_n dX11_check_136 1 rfl ?_
              refine w_iload dX11_check_137 6 rfl ?_
              refine w_aload_n dX11_check_139 1 rfl ?_
              refine w_getI (ci := 11) (k := 34) dX11_check_140 rfl fi11 (by decide) q938 s530 rfl l530 ?_
              refine w_icmp_lt (tgt := 154) dX11_check_143 (by decide) hx5 (hw.int _ _) (fun c30 => ?_) (fun c30 => ?_)
              · replace h := h.1 c30
                refine w_aload_n dX11_check_154 1 rfl ?_
                refine w_getI (ci := 11) (k := 34) dX11_check_155 rfl fi11 (by decide) q938 s530 rfl l530 ?_
                refine w_goto (tgt := 167) dX11_check_158 (by decide) ?_
                refine w_putI (ci := 11) (k := 34) dX11_check_167 rfl fi11 (by decide) q938 tyX11 tyX11_ok nmX11 rfl rfl rfl (hw.int _ _) s530 rfl l530 ?_
                have hw31 : WT (sI M (530) (34) (gI M (530) (34))) := hw.sI (hw.int _ _)
                refine w_bipush dX11_check_170 rfl ?_
                refine w_iload dX11_check_172 0 rfl ?_
                refine w_imul dX11_check_174 ?_
                refine w_iconst dX11_check_175 ?_
                refine w_isub dX11_check_176 ?_
                refine w_istore (lv' := [(7, vi ((8 * 3) - 1)), (6, vi (3)), (0, vr g (530)), (1, vi (x1)), (2, vi (x2)), (3, vi (x3)), (4, vi (x4)), (5, vi (x5))]) dX11_check_177 (by decide) rfl ?_
                refine w_lv [2, 3, 4, 5, 6, 0] rfl ?_
                exact h
              · replace h := h.2 c30
                refine w_aload_n dX11_check_146 1 rfl ?_
                refine w_getI (ci := 11) (k := 34) dX11_check_147 rfl fi11 (by decide) q938 s530 rfl l530 ?_
                refine w_iconst dX11_check_150 ?_
                refine w_icmp_ne (tgt := 161) dX11_check_151 (by decide) (hw.int _ _) ⟨by decide, by decide⟩ (fun c32 => ?_) (fun c32 => ?_)
                · replace h := h.1 c32
                  refine w_aload_n dX11_check_161 1 rfl ?_
                  refine w_getI (ci := 11) (k := 34) dX11_check_162 rfl fi11 (by decide) q938 s530 rfl l530 ?_
                  refine w_iconst dX11_check_165 ?_
                  refine w_iadd dX11_check_166 ?_
                  obtain ⟨i33, h⟩ := h
                  refine w_putI (ci := 11) (k := 34) dX11_check_167 rfl fi11 (by decide) q938 tyX11 tyX11_ok nmX11 rfl rfl rfl i33 s530 rfl l530 ?_
                  have hw34 : WT (sI M (530) (34) ((gI M (530) (34)) + 1)) := hw.sI i33
                  refine w_bipush dX11_check_170 rfl ?_
                  refine w_iload dX11_check_172 0 rfl ?_
                  refine w_imul dX11_check_174 ?_
                  refine w_iconst dX11_check_175 ?_
                  refine w_isub dX11_check_176 ?_
                  refine w_istore (lv' := [(7, vi ((8 * 3) - 1)), (6, vi (3)), (0, vr g (530)), (1, vi (x1)), (2, vi (x2)), (3, vi (x3)), (4, vi (x4)), (5, vi (x5))]) dX11_check_177 (by decide) rfl ?_
                  refine w_lv [2, 3, 4, 5, 6, 0] rfl ?_
                  exact h
                · replace h := h.2 c32
                  refine w_aload_n dX11_check_154 1 rfl ?_
                  refine w_getI (ci := 11) (k := 34) dX11_check_155 rfl fi11 (by decide) q938 s530 rfl l530 ?_
                  refine w_goto (tgt := 167) dX11_check_158 (by decide) ?_
                  refine w_putI (ci := 11) (k := 34) dX11_check_167 rfl fi11 (by decide) q938 tyX11 tyX11_ok nmX11 rfl rfl rfl (hw.int _ _) s530 rfl l530 ?_
                  have hw35 : WT (sI M (530) (34) (gI M (530) (34))) := hw.sI (hw.int _ _)
                  refine w_bipush dX11_check_170 rfl ?_
                  refine w_iload dX11_check_172 0 rfl ?_
                  refine w_imul dX11_check_174 ?_
                  refine w_iconst dX11_check_175 ?_
                  refine w_isub dX11_check_176 ?_
                  refine w_istore (lv' := [(7, vi ((8 * 3) - 1)), (6, vi (3)), (0, vr g (530)), (1, vi (x1)), (2, vi (x2)), (3, vi (x3)), (4, vi (x4)), (5, vi (x5))]) dX11_check_177 (by decide) rfl ?_
                  refine w_lv [2, 3, 4, 5, 6, 0] rfl ?_
                  exact h
            · replace h := h.2 c29
              refine w_aload_n dX11_check_126 0 rfl ?_
              refine w_getI (ci := 11) (k := 34) dX11_check_127 rfl fi11 (by decide) q938 s530 rfl l530 ?_
              refine w_goto (tgt := 134) dX11_check_130 (by decide) ?_
              refine w_istore (lv' := [(6, vi (gI M (530) (34))), (0, vr g (530)), (1, vi (x1)), (2, vi (x2)), (3, vi (x3)), (4, vi (x4)), (5, vi (x5))]) dX11_check_134 (by decide) rfl ?_
              refine w_aload_n dX11_check_136 1 rfl ?_
              refine w_iload dX11_check_137 6 rfl ?_
              refine w_aload_n dX11_check_139 1 rfl ?_
              refine w_getI (ci := 11) (k := 34) dX11_check_140 rfl fi11 (by decide) q938 s530 rfl l530 ?_
              refine w_icmp_lt (tgt := 154) dX11_check_143 (by decide) hx5 (hw.int _ _) (fun c36 => ?_) (fun c36 => ?_)
              · replace h := h.1 c36
                refine w_aload_n dX11_check_154 1 rfl ?_
                refine w_getI (ci := 11) (k := 34) dX11_check_155 rfl fi11 (by decide) q938 s530 rfl l530 ?_
                refine w_goto (tgt := 167) dX11_check_158 (by decide) ?_
                refine w_putI (ci := 11) (k := 34) dX11_check_167 rfl fi11 (by decide) q938 tyX11 tyX11_ok nmX11 rfl rfl rfl (hw.int _ _) s530 rfl l530 ?_
                have hw37 : WT (sI M (530) (34) (gI M (530) (34))) := hw.sI (hw.int _ _)
                refine w_bipush dX11_check_170 rfl ?_
                refine w_iload dX11_check_172 0 rfl ?_
                refine w_imul dX11_check_174 ?_
                refine w_iconst dX11_check_175 ?_
                refine w_isub dX11_check_176 ?_
                refine w_istore (lv' := [(7, vi ((8 * (gI M (530) (34))) - 1)), (6, vi (gI M (530) (34))), (0, vr g (530)), (1, vi (x1)), (2, vi (x2)), (3, vi (x3)), (4, vi (x4)), (5, vi (x5))]) dX11_check_177 (by decide) rfl ?_
                refine w_lv [2, 3, 4, 5, 6, 0] rfl ?_
                exact h
              · replace h := h.2 c36
                refine w_aload_n dX11_check_146 1 rfl ?_
                refine w_getI (ci := 11) (k := 34) dX11_check_147 rfl fi11 (by decide) q938 s530 rfl l530 ?_
                refine w_iconst dX11_check_150 ?_
                refine w_icmp_ne (tgt := 161) dX11_check_151 (by decide) (hw.int _ _) ⟨by decide, by decide⟩ (fun c38 => ?_) (fun c38 => ?_)
                · replace h := h.1 c38
                  refine w_aload_n dX11_check_161 1 rfl ?_
                  refine w_getI (ci := 11) (k := 34) dX11_check_162 rfl fi11 (by decide) q938 s530 rfl l530 ?_
                  refine w_iconst dX11_check_165 ?_
                  refine w_iadd dX11_check_166 ?_
                  obtain ⟨i39, h⟩ := h
                  refine w_putI (ci := 11) (k := 34) dX11_check_167 rfl fi11 (by decide) q938 tyX11 tyX11_ok nmX11 rfl rfl rfl i39 s530 rfl l530 ?_
                  have hw40 : WT (sI M (530) (34) ((gI M (530) (34)) + 1)) := hw.sI i39
                  refine w_bipush dX11_check_170 rfl ?_
                  refine w_iload dX11_check_172 0 rfl ?_
                  refine w_imul dX11_check_174 ?_
                  refine w_iconst dX11_check_175 ?_
                  refine w_isub dX11_check_176 ?_
                  refine w_istore (lv' := [(7, vi ((8 * (gI M (530) (34))) - 1)), (6, vi (gI M (530) (34))), (0, vr g (530)), (1, vi (x1)), (2, vi (x2)), (3, vi (x3)), (4, vi (x4)), (5, vi (x5))]) dX11_check_177 (by decide) rfl ?_
                  refine w_lv [2, 3, 4, 5, 6, 0] rfl ?_
                  exact h
                · replace h := h.2 c38
                  refine w_aload_n dX11_check_154 1 rfl ?_
                  refine w_getI (ci := 11) (k := 34) dX11_check_155 rfl fi11 (by decide) q938 s530 rfl l530 ?_
                  refine w_goto (tgt := 167) dX11_check_158 (by decide) ?_
                  refine w_putI (ci := 11) (k := 34) dX11_check_167 rfl fi11 (by decide) q938 tyX11 tyX11_ok nmX11 rfl rfl rfl (hw.int _ _) s530 rfl l530 ?_
                  have hw41 : WT (sI M (530) (34) (gI M (530) (34))) := hw.sI (hw.int _ _)
                  refine w_bipush dX11_check_170 rfl ?_
                  refine w_iload dX11_check_172 0 rfl ?_
                  refine w_imul dX11_check_174 ?_
                  refine w_iconst dX11_check_175 ?_
                  refine w_isub dX11_check_176 ?_
                  refine w_istore (lv' := [(7, vi ((8 * (gI M (530) (34))) - 1)), (6, vi (gI M (530) (34))), (0, vr g (530)), (1, vi (x1)), (2, vi (x2)), (3, vi (x3)), (4, vi (x4)), (5, vi (x5))]) dX11_check_177 (by decide) rfl ?_
                  refine w_lv [2, 3, 4, 5, 6, 0] rfl ?_
                  exact h
          · replace h := h.2 c28
            refine w_iload dX11_check_113 5 rfl ?_
            refine w_goto (tgt := 134) dX11_check_115 (by decide) ?_
            refine w_istore (lv' := [(6, vi (x5)), (0, vr g (530)), (1, vi (x1)), (2, vi (x2)), (3, vi (x3)), (4, vi (x4)), (5, vi (x5))]) dX11_check_134 (by decide) rfl ?_
            refine w_aload_n dX11_check_136 1 rfl ?_
            refine w_iload dX11_check_137 6 rfl ?_
            refine w_aload_n dX11_check_139 1 rfl ?_
            refine w_getI (ci := 11) (k := 34) dX11_check_140 rfl fi11 (by decide) q938 s530 rfl l530 ?_
            refine w_icmp_lt (tgt := 154) dX11_check_143 (by decide) hx5 (hw.int _ _) (fun c42 => ?_) (fun c42 => ?_)
            · replace h := h.1 c42
              refine w_aload_n dX11_check_154 1 rfl ?_
              refine w_getI (ci := 11) (k := 34) dX11_check_155 rfl fi11 (by decide) q938 s530 rfl l530 ?_
              refine w_goto (tgt := 167) dX11_check_158 (by decide) ?_
              refine w_putI (ci := 11) (k := 34) dX11_check_167 rfl fi11 (by decide) q938 tyX11 tyX11_ok nmX11 rfl rfl rfl (hw.int _ _) s530 rfl l530 ?_
              have hw43 : WT (sI M (530) (34) (gI M (530) (34))) := hw.sI (hw.int _ _)
              refine w_bipush dX11_check_170 rfl ?_
              refine w_iload dX11_check_172 0 rfl ?_
              refine w_imul dX11_check_174 ?_
              refine w_iconst dX11_check_175 ?_
              refine w_isub dX11_check_176 ?_
              refine w_istore (lv' := [(7, vi ((8 * x5) - 1)), (6, vi (x5)), (0, vr g (530)), (1, vi (x1)), (2, vi (x2)), (3, vi (x3)), (4, vi (x4)), (5, vi (x5))]) dX11_check_177 (by decide) rfl ?_
              refine w_lv [2, 3, 4, 5, 6, 0] rfl ?_
              exact h
            · replace h := h.2 c42
              refine w_aload_n dX11_check_146 1 rfl ?_
              refine w_getI (ci := 11) (k := 34) dX11_check_147 rfl fi11 (by decide) q938 s530 rfl l530 ?_
              refine w_iconst dX11_check_150 ?_
              refine w_icmp_ne (tgt := 161) dX11_check_151 (by decide) (hw.int _ _) ⟨by decide, by decide⟩ (fun c44 => ?_) (fun c44 => ?_)
              · replace h := h.1 c44
                refine w_aload_n dX11_check_161 1 rfl ?_
                refine w_getI (ci := 11) (k := 34) dX11_check_162 rfl fi11 (by decide) q938 s530 rfl l530 ?_
                refine w_iconst dX11_check_165 ?_
                refine w_iadd dX11_check_166 ?_
                obtain ⟨i45, h⟩ := h
                refine w_putI (ci := 11) (k := 34) dX11_check_167 rfl fi11 (by decide) q938 tyX11 tyX11_ok nmX11 rfl rfl rfl i45 s530 rfl l530 ?_
                have hw46 : WT (sI M (530) (34) ((gI M (530) (34)) + 1)) := hw.sI i45
                refine w_bipush dX11_check_170 rfl ?_
                refine w_iload dX11_check_172 0 rfl ?_
                refine w_imul dX11_check_174 ?_
                refine w_iconst dX11_check_175 ?_
                refine w_isub dX11_check_176 ?_
                refine w_istore (lv' := [(7, vi ((8 * x5) - 1)), (6, vi (x5)), (0, vr g (530)), (1, vi (x1)), (2, vi (x2)), (3, vi (x3)), (4, vi (x4)), (5, vi (x5))]) dX11_check_177 (by decide) rfl ?_
                refine w_lv [2, 3, 4, 5, 6, 0] rfl ?_
                exact h
              · replace h := h.2 c44
                refine w_aload_n dX11_check_154 1 rfl ?_
                refine w_getI (ci := 11) (k := 34) dX11_check_155 rfl fi11 (by decide) q938 s530 rfl l530 ?_
                refine w_goto (tgt := 167) dX11_check_158 (by decide) ?_
                refine w_putI (ci := 11) (k := 34) dX11_check_167 rfl fi11 (by decide) q938 tyX11 tyX11_ok nmX11 rfl rfl rfl (hw.int _ _) s530 rfl l530 ?_
                have hw47 : WT (sI M (530) (34) (gI M (530) (34))) := hw.sI (hw.int _ _)
                refine w_bipush dX11_check_170 rfl ?_
                refine w_iload dX11_check_172 0 rfl ?_
                refine w_imul dX11_check_174 ?_
                refine w_iconst dX11_check_175 ?_
                refine w_isub dX11_check_176 ?_
                refine w_istore (lv' := [(7, vi ((8 * x5) - 1)), (6, vi (x5)), (0, vr g (530)), (1, vi (x1)), (2, vi (x2)), (3, vi (x3)), (4, vi (x4)), (5, vi (x5))]) dX11_check_177 (by decide) rfl ?_
                refine w_lv [2, 3, 4, 5, 6, 0] rfl ?_
                exact h
        · replace h := h.2 c27
          refine w_iinc (lv' := [(5, vi (x5 + 1)), (0, vr g (530)), (1, vi (x1)), (2, vi (x2)), (3, vi (x3)), (4, vi (x4))]) dX11_check_98 5 rfl (by decide) rfl ?_
          refine w_goto (tgt := 43) dX11_check_101 (by decide) ?_
          refine w_lv [1, 2, 3, 4, 5, 0] rfl ?_
          exact h
set_option maxHeartbeats 4000000 in
set_option maxRecDepth 100000 in
theorem b_Mo_check_179 {g : Ctx} {x1 : Int} {x2 : Int} {x3 : Int} {x4 : Int} {x7 : Int} {M : Mem} {Q : Int → Mem → Prop} (hx1 : InR x1) (hx2 : InR x2) (hx3 : InR x3) (hx4 : InR x4) (hx7 : InR x7) (h : (((x7 < 0) → Q x4 (sI (sI (sI (sI (sI (sI (sI (sI M (559) (0) (x1)) (559) (1) (x2)) (559) (2) (x3)) (559) (3) (x4)) (559) (4) (gI M (530) (39))) (559) (5) (gI M (530) (40))) (559) (6) (gI M (530) (41))) (559) (7) (gI M (530) (42)))) ∧ ((¬ (x7 < 0)) → (0 ≤ x7 ∧ x7 < 32) ∧ (0 ≤ (x7 + 8) ∧ (x7 + 8) < 32) ∧ P_Mo_check g 179 [(0, vr g (530)), (1, vi (x1)), (2, vi (x2)), (3, vi (x3)), (4, vi (x4)), (7, vi (x7 + (-1)))] [] (sI M (559) ((x7 + 8).toNat) (gI M (559) (x7.toNat))) Q))) : P_Mo_check g 179 [(0, vr g (530)), (1, vi (x1)), (2, vi (x2)), (3, vi (x3)), (4, vi (x4)), (7, vi (x7))] [] M Q := by
  refine w_wt (fun hw => ?_)
  refine w_iload dX11_check_179 5 rfl ?_
  refine w_if_lt (tgt := 207) dX11_check_181 (by decide) hx7 (fun c1 => ?_) (fun c1 => ?_)
  · replace h := h.1 c1
    refine w_aload_n dX11_check_207 0 rfl ?_
    refine w_getS (ci := 11) (k := 35) dX11_check_208 rfl fi11 (by decide) q939 s530 rfl l530 ?_
    refine w_iconst dX11_check_211 ?_
    refine w_iload_n dX11_check_212 1 rfl ?_
    refine w_iast dX11_check_213 s559 l559 (by decide) (by decide) (by decide) hx1 ?_
    have hw2 : WT (sI M (559) (0) (x1)) := hw.sI hx1
    refine w_aload_n dX11_check_214 0 rfl ?_
    refine w_getS (ci := 11) (k := 35) dX11_check_215 rfl fi11 (by decide) q939 s530 rfl l530 ?_
    refine w_iconst dX11_check_218 ?_
    refine w_iload_n dX11_check_219 2 rfl ?_
    refine w_iast dX11_check_220 s559 l559 (by decide) (by decide) (by decide) hx2 ?_
    have hw3 : WT (sI (sI M (559) (0) (x1)) (559) (1) (x2)) := hw2.sI hx2
    refine w_aload_n dX11_check_221 0 rfl ?_
    refine w_getS (ci := 11) (k := 35) dX11_check_222 rfl fi11 (by decide) q939 s530 rfl l530 ?_
    refine w_iconst dX11_check_225 ?_
    refine w_iload_n dX11_check_226 3 rfl ?_
    refine w_iast dX11_check_227 s559 l559 (by decide) (by decide) (by decide) hx3 ?_
    have hw4 : WT (sI (sI (sI M (559) (0) (x1)) (559) (1) (x2)) (559) (2) (x3)) := hw3.sI hx3
    refine w_aload_n dX11_check_228 0 rfl ?_
    refine w_getS (ci := 11) (k := 35) dX11_check_229 rfl fi11 (by decide) q939 s530 rfl l530 ?_
    refine w_iconst dX11_check_232 ?_
    refine w_iload dX11_check_233 4 rfl ?_
    refine w_iast dX11_check_235 s559 l559 (by decide) (by decide) (by decide) hx4 ?_
    have hw5 : WT (sI (sI (sI (sI M (559) (0) (x1)) (559) (1) (x2)) (559) (2) (x3)) (559) (3) (x4)) := hw4.sI hx4
    refine w_aload_n dX11_check_236 0 rfl ?_
    refine w_getS (ci := 11) (k := 35) dX11_check_237 rfl fi11 (by decide) q939 s530 rfl l530 ?_
    refine w_iconst dX11_check_240 ?_
    refine w_aload_n dX11_check_241 0 rfl ?_
    refine w_getI (ci := 11) (k := 39) dX11_check_242 rfl fi11 (by decide) q943 s530 rfl l530 ?_
    refine w_top (congrArg vi ((gI_ne _ _ _ _ _ _ (by omega)).trans ((gI_ne _ _ _ _ _ _ (by omega)).trans ((gI_ne _ _ _ _ _ _ (by omega)).trans ((gI_ne _ _ _ _ _ _ (by omega)).trans rfl))))) ?_
    have u6 : InR (gI M (530) (39)) := hw.int _ _
    refine w_iast dX11_check_245 s559 l559 (by decide) (by decide) (by decide) u6 ?_
    have hw7 : WT (sI (sI (sI (sI (sI M (559) (0) (x1)) (559) (1) (x2)) (559) (2) (x3)) (559) (3) (x4)) (559) (4) (gI M (530) (39))) := hw5.sI u6
    refine w_aload_n dX11_check_246 0 rfl ?_
    refine w_getS (ci := 11) (k := 35) dX11_check_247 rfl fi11 (by decide) q939 s530 rfl l530 ?_
    refine w_iconst dX11_check_250 ?_
    refine w_aload_n dX11_check_251 0 rfl ?_
    refine w_getI (ci := 11) (k := 40) dX11_check_252 rfl fi11 (by decide) q944 s530 rfl l530 ?_
    refine w_top (congrArg vi ((gI_ne _ _ _ _ _ _ (by omega)).trans ((gI_ne _ _ _ _ _ _ (by omega)).trans ((gI_ne _ _ _ _ _ _ (by omega)).trans ((gI_ne _ _ _ _ _ _ (by omega)).trans ((gI_ne _ _ _ _ _ _ (by omega)).trans rfl)))))) ?_
    have u8 : InR (gI M (530) (40)) := hw.int _ _
    refine w_iast dX11_check_255 s559 l559 (by decide) (by decide) (by decide) u8 ?_
    have hw9 : WT (sI (sI (sI (sI (sI (sI M (559) (0) (x1)) (559) (1) (x2)) (559) (2) (x3)) (559) (3) (x4)) (559) (4) (gI M (530) (39))) (559) (5) (gI M (530) (40))) := hw7.sI u8
    refine w_aload_n dX11_check_256 0 rfl ?_
    refine w_getS (ci := 11) (k := 35) dX11_check_257 rfl fi11 (by decide) q939 s530 rfl l530 ?_
    refine w_bipush dX11_check_260 rfl ?_
    refine w_aload_n dX11_check_262 0 rfl ?_
    refine w_getI (ci := 11) (k := 41) dX11_check_263 rfl fi11 (by decide) q945 s530 rfl l530 ?_
    refine w_top (congrArg vi ((gI_ne _ _ _ _ _ _ (by omega)).trans ((gI_ne _ _ _ _ _ _ (by omega)).trans ((gI_ne _ _ _ _ _ _ (by omega)).trans ((gI_ne _ _ _ _ _ _ (by omega)).trans ((gI_ne _ _ _ _ _ _ (by omega)).trans ((gI_ne _ _ _ _ _ _ (by omega)).trans rfl))))))) ?_
    have u10 : InR (gI M (530) (41)) := hw.int _ _
    refine w_iast dX11_check_266 s559 l559 (by decide) (by decide) (by decide) u10 ?_
    have hw11 : WT (sI (sI (sI (sI (sI (sI (sI M (559) (0) (x1)) (559) (1) (x2)) (559) (2) (x3)) (559) (3) (x4)) (559) (4) (gI M (530) (39))) (559) (5) (gI M (530) (40))) (559) (6) (gI M (530) (41))) := hw9.sI u10
    refine w_aload_n dX11_check_267 0 rfl ?_
    refine w_getS (ci := 11) (k := 35) dX11_check_268 rfl fi11 (by decide) q939 s530 rfl l530 ?_
    refine w_bipush dX11_check_271 rfl ?_
    refine w_aload_n dX11_check_273 0 rfl ?_
    refine w_getI (ci := 11) (k := 42) dX11_check_274 rfl fi11 (by decide) q946 s530 rfl l530 ?_
    refine w_top (congrArg vi ((gI_ne _ _ _ _ _ _ (by omega)).trans ((gI_ne _ _ _ _ _ _ (by omega)).trans ((gI_ne _ _ _ _ _ _ (by omega)).trans ((gI_ne _ _ _ _ _ _ (by omega)).trans ((gI_ne _ _ _ _ _ _ (by omega)).trans ((gI_ne _ _ _ _ _ _ (by omega)).trans ((gI_ne _ _ _ _ _ _ (by omega)).trans rfl)))))))) ?_
    have u12 : InR (gI M (530) (42)) := hw.int _ _
    refine w_iast dX11_check_277 s559 l559 (by decide) (by decide) (by decide) u12 ?_
    have hw13 : WT (sI (sI (sI (sI (sI (sI (sI (sI M (559) (0) (x1)) (559) (1) (x2)) (559) (2) (x3)) (559) (3) (x4)) (559) (4) (gI M (530) (39))) (559) (5) (gI M (530) (40))) (559) (6) (gI M (530) (41))) (559) (7) (gI M (530) (42))) := hw11.sI u12
    refine w_iload dX11_check_278 4 rfl ?_
    exact w_iret dX11_check_280 ⟨_, rfl, hx4, h⟩
  · replace h := h.2 c1
    refine w_aload_n dX11_check_184 0 rfl ?_
    refine w_getS (ci := 11) (k := 35) dX11_check_185 rfl fi11 (by decide) q939 s530 rfl l530 ?_
    refine w_iload dX11_check_188 5 rfl ?_
    refine w_bipush dX11_check_190 rfl ?_
    refine w_iadd dX11_check_192 ?_
    refine w_aload_n dX11_check_193 0 rfl ?_
    refine w_getS (ci := 11) (k := 35) dX11_check_194 rfl fi11 (by decide) q939 s530 rfl l530 ?_
    refine w_iload dX11_check_197 5 rfl ?_
    obtain ⟨i14, h⟩ := h
    refine w_iald dX11_check_199 s559 l559 (by decide) i14.1 i14.2 ?_
    obtain ⟨i15, h⟩ := h
    refine w_iast dX11_check_200 s559 l559 (by decide) i15.1 i15.2 (hw.int _ _) ?_
    have hw16 : WT (sI M (559) ((x7 + 8).toNat) (gI M (559) (x7.toNat))) := hw.sI (hw.int _ _)
    refine w_iinc (lv' := [(7, vi (x7 + (-1))), (0, vr g (530)), (1, vi (x1)), (2, vi (x2)), (3, vi (x3)), (4, vi (x4))]) dX11_check_201 5 rfl (by decide) rfl ?_
    refine w_goto (tgt := 179) dX11_check_204 (by decide) ?_
    refine w_lv [1, 2, 3, 4, 5, 0] rfl ?_
    exact h
set_option maxHeartbeats 4000000 in
set_option maxRecDepth 100000 in
theorem b_Mo_isName_0 {g : Ctx} {p0 : Int} {M : Mem} {Q : Int → Mem → Prop} (hp0 : InR p0) (h : K_Mo_isIn g p0 0 ((gI M (530) (2)) - 1) M (fun r1 M2 => (r1 = 0 ∨ r1 = 1) → WT M2 → Q r1 M2)) : P_Mo_isName g 0 [(0, vr g (530)), (1, vi (p0))] [] M Q := by
  refine w_wt (fun hw => ?_)
  refine w_iload_n dX11_isName_0 1 rfl ?_
  refine w_iconst dX11_isName_1 ?_
  refine w_aload_n dX11_isName_2 0 rfl ?_
  refine w_getI (ci := 11) (k := 2) dX11_isName_3 rfl fi11 (by decide) q906 s530 rfl l530 ?_
  refine w_iconst dX11_isName_6 ?_
  refine w_isub dX11_isName_7 ?_
  refine c_Mo_isIn dX11_isName_8 q851 (by decide) (Nat.le_of_ble_eq_true rfl) h (fun r1 M2 h hr1 hwM2 => ?_)
  replace h := h hr1 hwM2
  exact w_zret dX11_isName_11 hr1 ⟨_, rfl, hr1, h⟩
set_option maxHeartbeats 4000000 in
set_option maxRecDepth 100000 in
theorem b_Mo_goes_0 {g : Ctx} {p0 : Int} {p1 : Int} {p2 : Int} {M : Mem} {Q : Int → Mem → Prop} (hp0 : InR p0) (hp1 : InR p1) (hp2 : InR p2) (h : K_Mo_enters g p0 (sI (sI (sI (sI (sI (sI (sI (sI M (530) (36) (p0)) (530) (37) (p1)) (530) (38) (p2)) (530) (39) (0)) (530) (40) (0)) (530) (41) ((-4))) (530) (42) ((-4))) (530) (45) (0)) (fun r9 M10 => (r9 = 0 ∨ r9 = 1) → WT M10 → (((¬ r9 = 0) → P_Mo_goes g 52 [(0, vr g (530))] [] M10 Q) ∧ ((r9 = 0) → Q 0 M10)))) : P_Mo_goes g 0 [(0, vr g (530)), (1, vi (p0)), (2, vi (p1)), (3, vi (p2))] [] M Q := by
  refine w_wt (fun hw => ?_)
  refine w_aload_n dX11_goes_0 0 rfl ?_
  refine w_iload_n dX11_goes_1 1 rfl ?_
  refine w_putI (ci := 11) (k := 36) dX11_goes_2 rfl fi11 (by decide) q940 tyX11 tyX11_ok nmX11 rfl rfl rfl hp0 s530 rfl l530 ?_
  have hw1 : WT (sI M (530) (36) (p0)) := hw.sI hp0
  refine w_aload_n dX11_goes_5 0 rfl ?_
  refine w_iload_n dX11_goes_6 2 rfl ?_
  refine w_putI (ci := 11) (k := 37) dX11_goes_7 rfl fi11 (by decide) q941 tyX11 tyX11_ok nmX11 rfl rfl rfl hp1 s530 rfl l530 ?_
  have hw2 : WT (sI (sI M (530) (36) (p0)) (530) (37) (p1)) := hw1.sI hp1
  refine w_aload_n dX11_goes_10 0 rfl ?_
  refine w_iload_n dX11_goes_11 3 rfl ?_
  refine w_putI (ci := 11) (k := 38) dX11_goes_12 rfl fi11 (by decide) q942 tyX11 tyX11_ok nmX11 rfl rfl rfl hp2 s530 rfl l530 ?_
  have hw3 : WT (sI (sI (sI M (530) (36) (p0)) (530) (37) (p1)) (530) (38) (p2)) := hw2.sI hp2
  refine w_aload_n dX11_goes_15 0 rfl ?_
  refine w_iconst dX11_goes_16 ?_
  refine w_putI (ci := 11) (k := 39) dX11_goes_17 rfl fi11 (by decide) q943 tyX11 tyX11_ok nmX11 rfl rfl rfl ⟨by decide, by decide⟩ s530 rfl l530 ?_
  have hw4 : WT (sI (sI (sI (sI M (530) (36) (p0)) (530) (37) (p1)) (530) (38) (p2)) (530) (39) (0)) := hw3.sI ⟨by decide, by decide⟩
  refine w_aload_n dX11_goes_20 0 rfl ?_
  refine w_iconst dX11_goes_21 ?_
  refine w_putI (ci := 11) (k := 40) dX11_goes_22 rfl fi11 (by decide) q944 tyX11 tyX11_ok nmX11 rfl rfl rfl ⟨by decide, by decide⟩ s530 rfl l530 ?_
  have hw5 : WT (sI (sI (sI (sI (sI M (530) (36) (p0)) (530) (37) (p1)) (530) (38) (p2)) (530) (39) (0)) (530) (40) (0)) := hw4.sI ⟨by decide, by decide⟩
  refine w_aload_n dX11_goes_25 0 rfl ?_
  refine w_bipush dX11_goes_26 rfl ?_
  refine w_putI (ci := 11) (k := 41) dX11_goes_28 rfl fi11 (by decide) q945 tyX11 tyX11_ok nmX11 rfl rfl rfl ⟨by decide, by decide⟩ s530 rfl l530 ?_
  have hw6 : WT (sI (sI (sI (sI (sI (sI M (530) (36) (p0)) (530) (37) (p1)) (530) (38) (p2)) (530) (39) (0)) (530) (40) (0)) (530) (41) ((-4))) := hw5.sI ⟨by decide, by decide⟩
  refine w_aload_n dX11_goes_31 0 rfl ?_
  refine w_bipush dX11_goes_32 rfl ?_
  refine w_putI (ci := 11) (k := 42) dX11_goes_34 rfl fi11 (by decide) q946 tyX11 tyX11_ok nmX11 rfl rfl rfl ⟨by decide, by decide⟩ s530 rfl l530 ?_
  have hw7 : WT (sI (sI (sI (sI (sI (sI (sI M (530) (36) (p0)) (530) (37) (p1)) (530) (38) (p2)) (530) (39) (0)) (530) (40) (0)) (530) (41) ((-4))) (530) (42) ((-4))) := hw6.sI ⟨by decide, by decide⟩
  refine w_aload_n dX11_goes_37 0 rfl ?_
  refine w_iconst dX11_goes_38 ?_
  refine w_putI (ci := 11) (k := 45) dX11_goes_39 rfl fi11 (by decide) q949 tyX11 tyX11_ok nmX11 rfl rfl rfl ⟨by decide, by decide⟩ s530 rfl l530 ?_
  have hw8 : WT (sI (sI (sI (sI (sI (sI (sI (sI M (530) (36) (p0)) (530) (37) (p1)) (530) (38) (p2)) (530) (39) (0)) (530) (40) (0)) (530) (41) ((-4))) (530) (42) ((-4))) (530) (45) (0)) := hw7.sI ⟨by decide, by decide⟩
  refine w_aload_n dX11_goes_42 0 rfl ?_
  refine w_iload_n dX11_goes_43 1 rfl ?_
  refine c_Mo_enters dX11_goes_44 q1075 (by decide) (Nat.le_of_ble_eq_true rfl) h (fun r9 M10 h hr9 hwM10 => ?_)
  replace h := h hr9 hwM10
  refine w_if_ne (tgt := 52) dX11_goes_47 (by decide) (inr_z hr9) (fun c11 => ?_) (fun c11 => ?_)
  · replace h := h.1 c11
    refine w_lv [0] rfl ?_
    exact h
  · replace h := h.2 c11
    refine w_iconst dX11_goes_50 ?_
    exact w_iret dX11_goes_51 ⟨_, rfl, ⟨by decide, by decide⟩, h⟩
set_option maxHeartbeats 4000000 in
set_option maxRecDepth 100000 in
theorem b_Mo_goes_52 {g : Ctx}  {M : Mem} {Q : Int → Mem → Prop}  (h : (0 ≤ ((gI M (530) (45)) - 1) ∧ ((gI M (530) (45)) - 1) < 12) ∧ (0 ≤ (gI M (560) (((gI M (530) (45)) - 1).toNat)) ∧ (gI M (560) (((gI M (530) (45)) - 1).toNat)) < 12) ∧ (((¬ (gI M (561) (((gI M (530) (45)) - 1).toNat)) = (gI M (533) ((gI M (560) (((gI M (530) (45)) - 1).toNat)).toNat))) → K_Mo_ruleAt g (gI M (560) (((gI M (530) (45)) - 1).toNat)) (gI M (561) (((gI M (530) (45)) - 1).toNat)) M (fun r4 M5 => InR r4 → WT M5 → (0 ≤ r4 ∧ r4 < 96) ∧ (((¬ (gI M5 (537) (r4.toNat)) = 2) → K_Mo_ruleAt g (gI M (560) (((gI M (530) (45)) - 1).toNat)) (gI M (561) (((gI M (530) (45)) - 1).toNat)) M5 (fun r8 M9 => InR r8 → WT M9 → K_Mo_fits g r8 M9 (fun r10 M11 => InR r10 → WT M11 → (((¬ r10 = 5) → (InR ((gI M11 (561) (((gI M (530) (45)) - 1).toNat)) + (1 - r10))) ∧ (((¬ r10 = 1) → P_Mo_goes g 263 [(0, vr g (530)), (7, vi ((-4)))] [] (sI M11 (561) (((gI M (530) (45)) - 1).toNat) ((gI M11 (561) (((gI M (530) (45)) - 1).toNat)) + (1 - r10))) Q) ∧ ((r10 = 1) → K_Mo_ends g (gI M (560) (((gI M (530) (45)) - 1).toNat)) (gI M (561) (((gI M (530) (45)) - 1).toNat)) (sI M11 (561) (((gI M (530) (45)) - 1).toNat) ((gI M11 (561) (((gI M (530) (45)) - 1).toNat)) + (1 - r10))) (fun r16 M17 => InR r16 → WT M17 → P_Mo_goes g 263 [(0, vr g (530)), (7, vi (r16))] [] M17 Q)))) ∧ ((r10 = 5) → K_Mo_error g  M11 (fun r18 M19 => InR r18 → WT M19 → Q r18 M19)))))) ∧ (((gI M5 (537) (r4.toNat)) = 2) → K_Mo_looks g  M5 (fun r20 M21 => (r20 = 0 ∨ r20 = 1) → WT M21 → (((r20 = 0) → K_Mo_error g  M21 (fun r23 M24 => InR r23 → WT M24 → Q r23 M24)) ∧ ((¬ (r20 = 0)) → K_Mo_ruleAt g (gI M (560) (((gI M (530) (45)) - 1).toNat)) (gI M (561) (((gI M (530) (45)) - 1).toNat)) M21 (fun r25 M26 => InR r25 → WT M26 → (0 ≤ r25 ∧ r25 < 96) ∧ K_Mo_numberOf g (gI M26 (540) (r25.toNat)) M26 (fun r28 M29 => InR r28 → WT M29 → K_Mo_enters g r28 M29 (fun r30 M31 => (r30 = 0 ∨ r30 = 1) → WT M31 → (((¬ r30 = 0) → P_Mo_goes g 263 [(0, vr g (530)), (7, vi ((-4)))] [] M31 Q) ∧ ((r30 = 0) → K_Mo_error g  M31 (fun r33 M34 => InR r33 → WT M34 → Q r33 M34))))))))))))) ∧ (((gI M (561) (((gI M (530) (45)) - 1).toNat)) = (gI M (533) ((gI M (560) (((gI M (530) (45)) - 1).toNat)).toNat))) → (((¬ (gI M (534) ((gI M (560) (((gI M (530) (45)) - 1).toNat)).toNat)) = 0) → (InR ((gI M (530) (45)) - 1)) ∧ K_Mo_looks g  (sI M (530) (45) ((gI M (530) (45)) - 1)) (fun r38 M39 => (r38 = 0 ∨ r38 = 1) → WT M39 → (((r38 = 0) → K_Mo_error g  M39 (fun r41 M42 => InR r41 → WT M42 → Q r41 M42)) ∧ ((¬ (r38 = 0)) → K_Mo_numberOf g (gI M39 (534) ((gI M (560) (((gI M (530) (45)) - 1).toNat)).toNat)) M39 (fun r43 M44 => InR r43 → WT M44 → K_Mo_enters g r43 M44 (fun r45 M46 => (r45 = 0 ∨ r45 = 1) → WT M46 → (((¬ r45 = 0) → P_Mo_goes g 263 [(0, vr g (530)), (7, vi ((-4)))] [] M46 Q) ∧ ((r45 = 0) → K_Mo_error g  M46 (fun r48 M49 => InR r48 → WT M49 → Q r48 M49))))))))) ∧ (((gI M (534) ((gI M (560) (((gI M (530) (45)) - 1).toNat)).toNat)) = 0) → P_Mo_goes g 263 [(0, vr g (530)), (7, vi (1))] [] M Q))))) : P_Mo_goes g 52 [(0, vr g (530))] [] M Q := by
  refine w_wt (fun hw => ?_)
  refine w_aload_n dX11_goes_52 0 rfl ?_
  refine w_getI (ci := 11) (k := 45) dX11_goes_53 rfl fi11 (by decide) q949 s530 rfl l530 ?_
  refine w_iconst dX11_goes_56 ?_
  refine w_isub dX11_goes_57 ?_
  refine w_istore (lv' := [(4, vi ((gI M (530) (45)) - 1)), (0, vr g (530))]) dX11_goes_58 (by decide) rfl ?_
  refine w_aload_n dX11_goes_60 1 rfl ?_
  refine w_getS (ci := 11) (k := 43) dX11_goes_61 rfl fi11 (by decide) q947 s530 rfl l530 ?_
  refine w_iload dX11_goes_64 0 rfl ?_
  obtain ⟨i1, h⟩ := h
  refine w_iald dX11_goes_66 s560 l560 (by decide) i1.1 i1.2 ?_
  refine w_istore (lv' := [(5, vi (gI M (560) (((gI M (530) (45)) - 1).toNat))), (4, vi ((gI M (530) (45)) - 1)), (0, vr g (530))]) dX11_goes_67 (by decide) rfl ?_
  refine w_aload_n dX11_goes_69 2 rfl ?_
  refine w_getS (ci := 11) (k := 44) dX11_goes_70 rfl fi11 (by decide) q948 s530 rfl l530 ?_
  refine w_iload dX11_goes_73 1 rfl ?_
  refine w_iald dX11_goes_75 s561 l561 (by decide) i1.1 i1.2 ?_
  refine w_istore (lv' := [(6, vi (gI M (561) (((gI M (530) (45)) - 1).toNat))), (5, vi (gI M (560) (((gI M (530) (45)) - 1).toNat))), (4, vi ((gI M (530) (45)) - 1)), (0, vr g (530))]) dX11_goes_76 (by decide) rfl ?_
  refine w_bipush dX11_goes_78 rfl ?_
  refine w_istore (lv' := [(7, vi ((-4))), (6, vi (gI M (561) (((gI M (530) (45)) - 1).toNat))), (5, vi (gI M (560) (((gI M (530) (45)) - 1).toNat))), (4, vi ((gI M (530) (45)) - 1)), (0, vr g (530))]) dX11_goes_80 (by decide) rfl ?_
  refine w_iload dX11_goes_82 1 rfl ?_
  refine w_aload_n dX11_goes_84 4 rfl ?_
  refine w_getS (ci := 11) (k := 4) dX11_goes_85 rfl fi11 (by decide) q908 s530 rfl l530 ?_
  refine w_iload dX11_goes_88 2 rfl ?_
  obtain ⟨i2, h⟩ := h
  refine w_iald dX11_goes_90 s533 l533 (by decide) i2.1 i2.2 ?_
  refine w_icmp_ne (tgt := 150) dX11_goes_91 (by decide) (hw.int _ _) (hw.int _ _) (fun c3 => ?_) (fun c3 => ?_)
  · replace h := h.1 c3
    refine w_aload_n dX11_goes_150 4 rfl ?_
    refine w_getS (ci := 11) (k := 8) dX11_goes_151 rfl fi11 (by decide) q912 s530 rfl l530 ?_
    refine w_aload_n dX11_goes_154 4 rfl ?_
    refine w_iload dX11_goes_155 2 rfl ?_
    refine w_iload dX11_goes_157 1 rfl ?_
    refine c_Mo_ruleAt dX11_goes_159 q1091 (by decide) (Nat.le_of_ble_eq_true rfl) h (fun r4 M5 h hr4 hwM5 => ?_)
    replace h := h hr4 hwM5
    obtain ⟨i6, h⟩ := h
    refine w_iald dX11_goes_162 s537 l537 (by decide) i6.1 i6.2 ?_
    refine w_iconst dX11_goes_163 ?_
    refine w_icmp_ne (tgt := 203) dX11_goes_164 (by decide) (hwM5.int _ _) ⟨by decide, by decide⟩ (fun c7 => ?_) (fun c7 => ?_)
    · replace h := h.1 c7
      refine w_aload_n dX11_goes_203 4 rfl ?_
      refine w_aload_n dX11_goes_204 4 rfl ?_
      refine w_iload dX11_goes_205 2 rfl ?_
      refine w_iload dX11_goes_207 1 rfl ?_
      refine c_Mo_ruleAt dX11_goes_209 q1091 (by decide) (Nat.le_of_ble_eq_true rfl) h (fun r8 M9 h hr8 hwM9 => ?_)
      replace h := h hr8 hwM9
      refine c_Mo_fits dX11_goes_212 q1095 (by decide) (Nat.le_of_ble_eq_true rfl) h (fun r10 M11 h hr10 hwM11 => ?_)
      replace h := h hr10 hwM11
      refine w_istore (lv' := [(8, vi (r10)), (7, vi ((-4))), (6, vi (gI M (561) (((gI M (530) (45)) - 1).toNat))), (5, vi (gI M (560) (((gI M (530) (45)) - 1).toNat))), (4, vi ((gI M (530) (45)) - 1)), (0, vr g (530))]) dX11_goes_215 (by decide) rfl ?_
      refine w_iload dX11_goes_217 0 rfl ?_
      refine w_iconst dX11_goes_219 ?_
      refine w_icmp_ne (tgt := 228) dX11_goes_220 (by decide) hr10 ⟨by decide, by decide⟩ (fun c12 => ?_) (fun c12 => ?_)
      · replace h := h.1 c12
        refine w_aload_n dX11_goes_228 5 rfl ?_
        refine w_getS (ci := 11) (k := 44) dX11_goes_229 rfl fi11 (by decide) q948 s530 rfl l530 ?_
        refine w_iload dX11_goes_232 4 rfl ?_
        refine w_dup2 dX11_goes_234 rfl rfl ?_
        refine w_iald dX11_goes_235 s561 l561 (by decide) i1.1 i1.2 ?_
        refine w_iconst dX11_goes_236 ?_
        refine w_iload dX11_goes_237 0 rfl ?_
        refine w_isub dX11_goes_239 ?_
        refine w_iadd dX11_goes_240 ?_
        obtain ⟨i13, h⟩ := h
        refine w_iast dX11_goes_241 s561 l561 (by decide) i1.1 i1.2 i13 ?_
        have hw14 : WT (sI M11 (561) (((gI M (530) (45)) - 1).toNat) ((gI M11 (561) (((gI M (530) (45)) - 1).toNat)) + (1 - r10))) := hwM11.sI i13
        refine w_iload dX11_goes_242 0 rfl ?_
        refine w_iconst dX11_goes_244 ?_
        refine w_icmp_ne (tgt := 259) dX11_goes_245 (by decide) hr10 ⟨by decide, by decide⟩ (fun c15 => ?_) (fun c15 => ?_)
        · replace h := h.1 c15
          refine w_bipush dX11_goes_259 rfl ?_
          refine w_istore (lv' := [(7, vi ((-4))), (8, vi (r10)), (6, vi (gI M (561) (((gI M (530) (45)) - 1).toNat))), (5, vi (gI M (560) (((gI M (530) (45)) - 1).toNat))), (4, vi ((gI M (530) (45)) - 1)), (0, vr g (530))]) dX11_goes_261 (by decide) rfl ?_
          refine w_lv [5, 0] rfl ?_
          exact h
        · replace h := h.2 c15
          refine w_aload_n dX11_goes_248 5 rfl ?_
          refine w_iload dX11_goes_249 3 rfl ?_
          refine w_iload dX11_goes_251 2 rfl ?_
          refine c_Mo_ends dX11_goes_253 q1129 (by decide) (Nat.le_of_ble_eq_true rfl) h (fun r16 M17 h hr16 hwM17 => ?_)
          replace h := h hr16 hwM17
          refine w_goto (tgt := 261) dX11_goes_256 (by decide) ?_
          refine w_istore (lv' := [(7, vi (r16)), (8, vi (r10)), (6, vi (gI M (561) (((gI M (530) (45)) - 1).toNat))), (5, vi (gI M (560) (((gI M (530) (45)) - 1).toNat))), (4, vi ((gI M (530) (45)) - 1)), (0, vr g (530))]) dX11_goes_261 (by decide) rfl ?_
          refine w_lv [5, 0] rfl ?_
          exact h
      · replace h := h.2 c12
        refine w_aload_n dX11_goes_223 5 rfl ?_
        refine c_Mo_error dX11_goes_224 q1087 (by decide) (Nat.le_of_ble_eq_true rfl) h (fun r18 M19 h hr18 hwM19 => ?_)
        replace h := h hr18 hwM19
        exact w_iret dX11_goes_227 ⟨_, rfl, hr18, h⟩
    · replace h := h.2 c7
      refine w_aload_n dX11_goes_167 4 rfl ?_
      refine c_Mo_looks dX11_goes_168 q1079 (by decide) (Nat.le_of_ble_eq_true rfl) h (fun r20 M21 h hr20 hwM21 => ?_)
      replace h := h hr20 hwM21
      refine w_if_eq (tgt := 198) dX11_goes_171 (by decide) (inr_z hr20) (fun c22 => ?_) (fun c22 => ?_)
      · replace h := h.1 c22
        refine w_aload_n dX11_goes_198 4 rfl ?_
        refine c_Mo_error dX11_goes_199 q1087 (by decide) (Nat.le_of_ble_eq_true rfl) h (fun r23 M24 h hr23 hwM24 => ?_)
        replace h := h hr23 hwM24
        exact w_iret dX11_goes_202 ⟨_, rfl, hr23, h⟩
      · replace h := h.2 c22
        refine w_aload_n dX11_goes_174 4 rfl ?_
        refine w_aload_n dX11_goes_175 4 rfl ?_
        refine w_aload_n dX11_goes_176 4 rfl ?_
        refine w_getS (ci := 11) (k := 11) dX11_goes_177 rfl fi11 (by decide) q915 s530 rfl l530 ?_
        refine w_aload_n dX11_goes_180 4 rfl ?_
        refine w_iload dX11_goes_181 2 rfl ?_
        refine w_iload dX11_goes_183 1 rfl ?_
        refine c_Mo_ruleAt dX11_goes_185 q1091 (by decide) (Nat.le_of_ble_eq_true rfl) h (fun r25 M26 h hr25 hwM26 => ?_)
        replace h := h hr25 hwM26
        obtain ⟨i27, h⟩ := h
        refine w_iald dX11_goes_188 s540 l540 (by decide) i27.1 i27.2 ?_
        refine c_Mo_numberOf dX11_goes_189 q1083 (by decide) (Nat.le_of_ble_eq_true rfl) h (fun r28 M29 h hr28 hwM29 => ?_)
        replace h := h hr28 hwM29
        refine c_Mo_enters dX11_goes_192 q1075 (by decide) (Nat.le_of_ble_eq_true rfl) h (fun r30 M31 h hr30 hwM31 => ?_)
        replace h := h hr30 hwM31
        refine w_if_ne (tgt := 263) dX11_goes_195 (by decide) (inr_z hr30) (fun c32 => ?_) (fun c32 => ?_)
        · replace h := h.1 c32
          refine w_lv [4, 0] rfl ?_
          exact h
        · replace h := h.2 c32
          refine w_aload_n dX11_goes_198 4 rfl ?_
          refine c_Mo_error dX11_goes_199 q1087 (by decide) (Nat.le_of_ble_eq_true rfl) h (fun r33 M34 h hr33 hwM34 => ?_)
          replace h := h hr33 hwM34
          exact w_iret dX11_goes_202 ⟨_, rfl, hr33, h⟩
  · replace h := h.2 c3
    refine w_aload_n dX11_goes_94 4 rfl ?_
    refine w_getS (ci := 11) (k := 5) dX11_goes_95 rfl fi11 (by decide) q909 s530 rfl l530 ?_
    refine w_iload dX11_goes_98 2 rfl ?_
    refine w_iald dX11_goes_100 s534 l534 (by decide) i2.1 i2.2 ?_
    refine w_if_ne (tgt := 110) dX11_goes_101 (by decide) (hw.int _ _) (fun c35 => ?_) (fun c35 => ?_)
    · replace h := h.1 c35
      refine w_aload_n dX11_goes_110 4 rfl ?_
      refine w_dup dX11_goes_111 rfl ?_
      refine w_getI (ci := 11) (k := 45) dX11_goes_112 rfl fi11 (by decide) q949 s530 rfl l530 ?_
      refine w_iconst dX11_goes_115 ?_
      refine w_isub dX11_goes_116 ?_
      obtain ⟨i36, h⟩ := h
      refine w_putI (ci := 11) (k := 45) dX11_goes_117 rfl fi11 (by decide) q949 tyX11 tyX11_ok nmX11 rfl rfl rfl i36 s530 rfl l530 ?_
      have hw37 : WT (sI M (530) (45) ((gI M (530) (45)) - 1)) := hw.sI i36
      refine w_aload_n dX11_goes_120 4 rfl ?_
      refine c_Mo_looks dX11_goes_121 q1079 (by decide) (Nat.le_of_ble_eq_true rfl) h (fun r38 M39 h hr38 hwM39 => ?_)
      replace h := h hr38 hwM39
      refine w_if_eq (tgt := 145) dX11_goes_124 (by decide) (inr_z hr38) (fun c40 => ?_) (fun c40 => ?_)
      · replace h := h.1 c40
        refine w_aload_n dX11_goes_145 4 rfl ?_
        refine c_Mo_error dX11_goes_146 q1087 (by decide) (Nat.le_of_ble_eq_true rfl) h (fun r41 M42 h hr41 hwM42 => ?_)
        replace h := h hr41 hwM42
        exact w_iret dX11_goes_149 ⟨_, rfl, hr41, h⟩
      · replace h := h.2 c40
        refine w_aload_n dX11_goes_127 4 rfl ?_
        refine w_aload_n dX11_goes_128 4 rfl ?_
        refine w_aload_n dX11_goes_129 4 rfl ?_
        refine w_getS (ci := 11) (k := 5) dX11_goes_130 rfl fi11 (by decide) q909 s530 rfl l530 ?_
        refine w_iload dX11_goes_133 2 rfl ?_
        refine w_iald dX11_goes_135 s534 l534 (by decide) i2.1 i2.2 ?_
        refine c_Mo_numberOf dX11_goes_136 q1083 (by decide) (Nat.le_of_ble_eq_true rfl) h (fun r43 M44 h hr43 hwM44 => ?_)
        replace h := h hr43 hwM44
        refine c_Mo_enters dX11_goes_139 q1075 (by decide) (Nat.le_of_ble_eq_true rfl) h (fun r45 M46 h hr45 hwM46 => ?_)
        replace h := h hr45 hwM46
        refine w_if_ne (tgt := 263) dX11_goes_142 (by decide) (inr_z hr45) (fun c47 => ?_) (fun c47 => ?_)
        · replace h := h.1 c47
          refine w_lv [4, 0] rfl ?_
          exact h
        · replace h := h.2 c47
          refine w_aload_n dX11_goes_145 4 rfl ?_
          refine c_Mo_error dX11_goes_146 q1087 (by decide) (Nat.le_of_ble_eq_true rfl) h (fun r48 M49 h hr48 hwM49 => ?_)
          replace h := h hr48 hwM49
          exact w_iret dX11_goes_149 ⟨_, rfl, hr48, h⟩
    · replace h := h.2 c35
      refine w_iconst dX11_goes_104 ?_
      refine w_istore (lv' := [(7, vi (1)), (6, vi (gI M (561) (((gI M (530) (45)) - 1).toNat))), (5, vi (gI M (560) (((gI M (530) (45)) - 1).toNat))), (4, vi ((gI M (530) (45)) - 1)), (0, vr g (530))]) dX11_goes_105 (by decide) rfl ?_
      refine w_goto (tgt := 263) dX11_goes_107 (by decide) ?_
      refine w_lv [4, 0] rfl ?_
      exact h
set_option maxHeartbeats 4000000 in
set_option maxRecDepth 100000 in
theorem b_Mo_goes_263 {g : Ctx} {x7 : Int} {M : Mem} {Q : Int → Mem → Prop} (hx7 : InR x7) (h : (((x7 = (-4)) → P_Mo_goes g 52 [(0, vr g (530))] [] M Q) ∧ ((¬ (x7 = (-4))) → (InR ((gI M (530) (45)) - 1)) ∧ (((¬ ((gI M (530) (45)) - 1) = 0) → (0 ≤ (((gI M (530) (45)) - 1) - 1) ∧ (((gI M (530) (45)) - 1) - 1) < 12) ∧ (((¬ x7 = 2) → (InR ((gI M (561) ((((gI M (530) (45)) - 1) - 1).toNat)) + 1)) ∧ P_Mo_goes g 263 [(0, vr g (530)), (7, vi ((-4)))] [] (sI (sI M (530) (45) ((gI M (530) (45)) - 1)) (561) ((((gI M (530) (45)) - 1) - 1).toNat) ((gI M (561) ((((gI M (530) (45)) - 1) - 1).toNat)) + 1)) Q) ∧ ((x7 = 2) → K_Mo_ends g (gI M (560) ((((gI M (530) (45)) - 1) - 1).toNat)) (gI M (561) ((((gI M (530) (45)) - 1) - 1).toNat)) (sI M (530) (45) ((gI M (530) (45)) - 1)) (fun r12 M13 => InR r12 → WT M13 → P_Mo_goes g 263 [(0, vr g (530)), (7, vi (r12))] [] M13 Q)))) ∧ ((((gI M (530) (45)) - 1) = 0) → Q x7 (sI M (530) (45) ((gI M (530) (45)) - 1))))))) : P_Mo_goes g 263 [(0, vr g (530)), (7, vi (x7))] [] M Q := by
  refine w_wt (fun hw => ?_)
  refine w_iload dX11_goes_263 1 rfl ?_
  refine w_bipush dX11_goes_265 rfl ?_
  refine w_icmp_eq (tgt := 353) dX11_goes_267 (by decide) hx7 ⟨by decide, by decide⟩ (fun c1 => ?_) (fun c1 => ?_)
  · replace h := h.1 c1
    refine w_goto (tgt := 52) dX11_goes_353 (by decide) ?_
    refine w_lv [0] rfl ?_
    exact h
  · replace h := h.2 c1
    refine w_aload_n dX11_goes_270 0 rfl ?_
    refine w_dup dX11_goes_271 rfl ?_
    refine w_getI (ci := 11) (k := 45) dX11_goes_272 rfl fi11 (by decide) q949 s530 rfl l530 ?_
    refine w_iconst dX11_goes_275 ?_
    refine w_isub dX11_goes_276 ?_
    obtain ⟨i2, h⟩ := h
    refine w_putI (ci := 11) (k := 45) dX11_goes_277 rfl fi11 (by decide) q949 tyX11 tyX11_ok nmX11 rfl rfl rfl i2 s530 rfl l530 ?_
    have hw3 : WT (sI M (530) (45) ((gI M (530) (45)) - 1)) := hw.sI i2
    refine w_aload_n dX11_goes_280 0 rfl ?_
    refine w_getI (ci := 11) (k := 45) dX11_goes_281 rfl fi11 (by decide) q949 s530 rfl l530 ?_
    refine w_top (congrArg vi (gI_same _ _ _ _)) ?_
    refine w_if_ne (tgt := 290) dX11_goes_284 (by decide) i2 (fun c4 => ?_) (fun c4 => ?_)
    · replace h := h.1 c4
      refine w_aload_n dX11_goes_290 0 rfl ?_
      refine w_getS (ci := 11) (k := 43) dX11_goes_291 rfl fi11 (by decide) q947 s530 rfl l530 ?_
      refine w_aload_n dX11_goes_294 0 rfl ?_
      refine w_getI (ci := 11) (k := 45) dX11_goes_295 rfl fi11 (by decide) q949 s530 rfl l530 ?_
      refine w_top (congrArg vi (gI_same _ _ _ _)) ?_
      refine w_iconst dX11_goes_298 ?_
      refine w_isub dX11_goes_299 ?_
      obtain ⟨i5, h⟩ := h
      refine w_iald dX11_goes_300 s560 l560 (by decide) i5.1 i5.2 ?_
      refine w_top (congrArg vi ((gI_ne _ _ _ _ _ _ (by omega)).trans rfl)) ?_
      have u6 : InR (gI M (560) ((((gI M (530) (45)) - 1) - 1).toNat)) := hw.int _ _
      refine w_istore (lv' := [(8, vi (gI M (560) ((((gI M (530) (45)) - 1) - 1).toNat))), (0, vr g (530)), (7, vi (x7))]) dX11_goes_301 (by decide) rfl ?_
      refine w_iload dX11_goes_303 2 rfl ?_
      refine w_iconst dX11_goes_305 ?_
      refine w_icmp_ne (tgt := 331) dX11_goes_306 (by decide) hx7 ⟨by decide, by decide⟩ (fun c7 => ?_) (fun c7 => ?_)
      · replace h := h.1 c7
        refine w_aload_n dX11_goes_331 1 rfl ?_
        refine w_getS (ci := 11) (k := 44) dX11_goes_332 rfl fi11 (by decide) q948 s530 rfl l530 ?_
        refine w_aload_n dX11_goes_335 1 rfl ?_
        refine w_getI (ci := 11) (k := 45) dX11_goes_336 rfl fi11 (by decide) q949 s530 rfl l530 ?_
        refine w_top (congrArg vi (gI_same _ _ _ _)) ?_
        refine w_iconst dX11_goes_339 ?_
        refine w_isub dX11_goes_340 ?_
        refine w_dup2 dX11_goes_341 rfl rfl ?_
        refine w_iald dX11_goes_342 s561 l561 (by decide) i5.1 i5.2 ?_
        refine w_top (congrArg vi ((gI_ne _ _ _ _ _ _ (by omega)).trans rfl)) ?_
        have u8 : InR (gI M (561) ((((gI M (530) (45)) - 1) - 1).toNat)) := hw.int _ _
        refine w_iconst dX11_goes_343 ?_
        refine w_iadd dX11_goes_344 ?_
        obtain ⟨i9, h⟩ := h
        refine w_iast dX11_goes_345 s561 l561 (by decide) i5.1 i5.2 i9 ?_
        have hw10 : WT (sI (sI M (530) (45) ((gI M (530) (45)) - 1)) (561) ((((gI M (530) (45)) - 1) - 1).toNat) ((gI M (561) ((((gI M (530) (45)) - 1) - 1).toNat)) + 1)) := hw3.sI i9
        refine w_bipush dX11_goes_346 rfl ?_
        refine w_istore (lv' := [(7, vi ((-4))), (8, vi (gI M (560) ((((gI M (530) (45)) - 1) - 1).toNat))), (0, vr g (530))]) dX11_goes_348 (by decide) rfl ?_
        refine w_goto (tgt := 263) dX11_goes_350 (by decide) ?_
        refine w_lv [2, 0] rfl ?_
        exact h
      · replace h := h.2 c7
        refine w_aload_n dX11_goes_309 1 rfl ?_
        refine w_iload dX11_goes_310 0 rfl ?_
        refine w_aload_n dX11_goes_312 1 rfl ?_
        refine w_getS (ci := 11) (k := 44) dX11_goes_313 rfl fi11 (by decide) q948 s530 rfl l530 ?_
        refine w_aload_n dX11_goes_316 1 rfl ?_
        refine w_getI (ci := 11) (k := 45) dX11_goes_317 rfl fi11 (by decide) q949 s530 rfl l530 ?_
        refine w_top (congrArg vi (gI_same _ _ _ _)) ?_
        refine w_iconst dX11_goes_320 ?_
        refine w_isub dX11_goes_321 ?_
        refine w_iald dX11_goes_322 s561 l561 (by decide) i5.1 i5.2 ?_
        refine w_top (congrArg vi ((gI_ne _ _ _ _ _ _ (by omega)).trans rfl)) ?_
        have u11 : InR (gI M (561) ((((gI M (530) (45)) - 1) - 1).toNat)) := hw.int _ _
        refine c_Mo_ends dX11_goes_323 q1129 (by decide) (Nat.le_of_ble_eq_true rfl) h (fun r12 M13 h hr12 hwM13 => ?_)
        replace h := h hr12 hwM13
        refine w_istore (lv' := [(7, vi (r12)), (8, vi (gI M (560) ((((gI M (530) (45)) - 1) - 1).toNat))), (0, vr g (530))]) dX11_goes_326 (by decide) rfl ?_
        refine w_goto (tgt := 350) dX11_goes_328 (by decide) ?_
        refine w_goto (tgt := 263) dX11_goes_350 (by decide) ?_
        refine w_lv [2, 0] rfl ?_
        exact h
    · replace h := h.2 c4
      refine w_iload dX11_goes_287 1 rfl ?_
      exact w_iret dX11_goes_289 ⟨_, rfl, hx7, h⟩
set_option maxHeartbeats 4000000 in
set_option maxRecDepth 100000 in
theorem b_Mo_enters_0 {g : Ctx} {p0 : Int} {M : Mem} {Q : Int → Mem → Prop} (hp0 : InR p0) (h : (((p0 = (-4)) → Q 0 M) ∧ ((¬ (p0 = (-4))) → (0 ≤ p0 ∧ p0 < 12) ∧ (((¬ (gI M (533) (p0.toNat)) = 0) → (0 ≤ (gI M (530) (45)) ∧ (gI M (530) (45)) < 12) ∧ (InR ((gI M (530) (45)) + 1)) ∧ Q 1 (sI (sI (sI M (560) ((gI M (530) (45)).toNat) (p0)) (561) ((gI M (530) (45)).toNat) (0)) (530) (45) ((gI M (530) (45)) + 1))) ∧ (((gI M (533) (p0.toNat)) = 0) → Q 0 M))))) : P_Mo_enters g 0 [(0, vr g (530)), (1, vi (p0))] [] M Q := by
  refine w_wt (fun hw => ?_)
  refine w_iload_n dX11_enters_0 1 rfl ?_
  refine w_bipush dX11_enters_1 rfl ?_
  refine w_icmp_eq (tgt := 15) dX11_enters_3 (by decide) hp0 ⟨by decide, by decide⟩ (fun c1 => ?_) (fun c1 => ?_)
  · replace h := h.1 c1
    refine w_iconst dX11_enters_15 ?_
    exact w_zret dX11_enters_16 (Or.inl rfl) ⟨_, rfl, (Or.inl rfl), h⟩
  · replace h := h.2 c1
    refine w_aload_n dX11_enters_6 0 rfl ?_
    refine w_getS (ci := 11) (k := 4) dX11_enters_7 rfl fi11 (by decide) q908 s530 rfl l530 ?_
    refine w_iload_n dX11_enters_10 1 rfl ?_
    obtain ⟨i2, h⟩ := h
    refine w_iald dX11_enters_11 s533 l533 (by decide) i2.1 i2.2 ?_
    refine w_if_ne (tgt := 17) dX11_enters_12 (by decide) (hw.int _ _) (fun c3 => ?_) (fun c3 => ?_)
    · replace h := h.1 c3
      refine w_aload_n dX11_enters_17 0 rfl ?_
      refine w_getS (ci := 11) (k := 43) dX11_enters_18 rfl fi11 (by decide) q947 s530 rfl l530 ?_
      refine w_aload_n dX11_enters_21 0 rfl ?_
      refine w_getI (ci := 11) (k := 45) dX11_enters_22 rfl fi11 (by decide) q949 s530 rfl l530 ?_
      refine w_iload_n dX11_enters_25 1 rfl ?_
      obtain ⟨i4, h⟩ := h
      refine w_iast dX11_enters_26 s560 l560 (by decide) i4.1 i4.2 hp0 ?_
      have hw5 : WT (sI M (560) ((gI M (530) (45)).toNat) (p0)) := hw.sI hp0
      refine w_aload_n dX11_enters_27 0 rfl ?_
      refine w_getS (ci := 11) (k := 44) dX11_enters_28 rfl fi11 (by decide) q948 s530 rfl l530 ?_
      refine w_aload_n dX11_enters_31 0 rfl ?_
      refine w_getI (ci := 11) (k := 45) dX11_enters_32 rfl fi11 (by decide) q949 s530 rfl l530 ?_
      refine w_top (congrArg vi ((gI_ne _ _ _ _ _ _ (by omega)).trans rfl)) ?_
      have u6 : InR (gI M (530) (45)) := hw.int _ _
      refine w_iconst dX11_enters_35 ?_
      refine w_iast dX11_enters_36 s561 l561 (by decide) i4.1 i4.2 ⟨by decide, by decide⟩ ?_
      have hw7 : WT (sI (sI M (560) ((gI M (530) (45)).toNat) (p0)) (561) ((gI M (530) (45)).toNat) (0)) := hw5.sI ⟨by decide, by decide⟩
      refine w_aload_n dX11_enters_37 0 rfl ?_
      refine w_dup dX11_enters_38 rfl ?_
      refine w_getI (ci := 11) (k := 45) dX11_enters_39 rfl fi11 (by decide) q949 s530 rfl l530 ?_
      refine w_top (congrArg vi ((gI_ne _ _ _ _ _ _ (by omega)).trans ((gI_ne _ _ _ _ _ _ (by omega)).trans rfl))) ?_
      have u8 : InR (gI M (530) (45)) := hw.int _ _
      refine w_iconst dX11_enters_42 ?_
      refine w_iadd dX11_enters_43 ?_
      obtain ⟨i9, h⟩ := h
      refine w_putI (ci := 11) (k := 45) dX11_enters_44 rfl fi11 (by decide) q949 tyX11 tyX11_ok nmX11 rfl rfl rfl i9 s530 rfl l530 ?_
      have hw10 : WT (sI (sI (sI M (560) ((gI M (530) (45)).toNat) (p0)) (561) ((gI M (530) (45)).toNat) (0)) (530) (45) ((gI M (530) (45)) + 1)) := hw7.sI i9
      refine w_iconst dX11_enters_47 ?_
      exact w_zret dX11_enters_48 (Or.inr rfl) ⟨_, rfl, (Or.inr rfl), h⟩
    · replace h := h.2 c3
      refine w_iconst dX11_enters_15 ?_
      exact w_zret dX11_enters_16 (Or.inl rfl) ⟨_, rfl, (Or.inl rfl), h⟩
set_option maxHeartbeats 4000000 in
set_option maxRecDepth 100000 in
theorem b_Mo_looks_0 {g : Ctx}  {M : Mem} {Q : Int → Mem → Prop}  (h : (InR ((gI M (530) (39)) + 1)) ∧ (((11 ≤ ((gI M (530) (39)) + 1)) → Q 0 (sI M (530) (39) ((gI M (530) (39)) + 1))) ∧ ((¬ (11 ≤ ((gI M (530) (39)) + 1))) → Q 1 (sI M (530) (39) ((gI M (530) (39)) + 1))))) : P_Mo_looks g 0 [(0, vr g (530))] [] M Q := by
  refine w_wt (fun hw => ?_)
  refine w_aload_n dX11_looks_0 0 rfl ?_
  refine w_dup dX11_looks_1 rfl ?_
  refine w_getI (ci := 11) (k := 39) dX11_looks_2 rfl fi11 (by decide) q943 s530 rfl l530 ?_
  refine w_iconst dX11_looks_5 ?_
  refine w_iadd dX11_looks_6 ?_
  obtain ⟨i1, h⟩ := h
  refine w_putI (ci := 11) (k := 39) dX11_looks_7 rfl fi11 (by decide) q943 tyX11 tyX11_ok nmX11 rfl rfl rfl i1 s530 rfl l530 ?_
  have hw2 : WT (sI M (530) (39) ((gI M (530) (39)) + 1)) := hw.sI i1
  refine w_aload_n dX11_looks_10 0 rfl ?_
  refine w_getI (ci := 11) (k := 39) dX11_looks_11 rfl fi11 (by decide) q943 s530 rfl l530 ?_
  refine w_top (congrArg vi (gI_same _ _ _ _)) ?_
  refine w_bipush dX11_looks_14 rfl ?_
  refine w_icmp_ge (tgt := 23) dX11_looks_16 (by decide) i1 ⟨by decide, by decide⟩ (fun c3 => ?_) (fun c3 => ?_)
  · replace h := h.1 c3
    refine w_iconst dX11_looks_23 ?_
    exact w_zret dX11_looks_24 (Or.inl rfl) ⟨_, rfl, (Or.inl rfl), h⟩
  · replace h := h.2 c3
    refine w_iconst dX11_looks_19 ?_
    refine w_goto (tgt := 24) dX11_looks_20 (by decide) ?_
    exact w_zret dX11_looks_24 (Or.inr rfl) ⟨_, rfl, (Or.inr rfl), h⟩
set_option maxHeartbeats 4000000 in
set_option maxRecDepth 100000 in
theorem b_Mo_numberOf_0 {g : Ctx} {p0 : Int} {M : Mem} {Q : Int → Mem → Prop} (hp0 : InR p0) (h : P_Mo_numberOf g 2 [(0, vr g (530)), (1, vi (p0)), (2, vi (0))] [] M Q) : P_Mo_numberOf g 0 [(0, vr g (530)), (1, vi (p0))] [] M Q := by
  refine w_wt (fun hw => ?_)
  refine w_iconst dX11_numberOf_0 ?_
  refine w_istore_n (lv' := [(2, vi (0)), (0, vr g (530)), (1, vi (p0))]) (i := 2) dX11_numberOf_1 rfl (by decide) rfl ?_
  refine w_lv [1, 2, 0] rfl ?_
  exact h
set_option maxHeartbeats 4000000 in
set_option maxRecDepth 100000 in
theorem b_Mo_numberOf_2 {g : Ctx} {x1 : Int} {x2 : Int} {M : Mem} {Q : Int → Mem → Prop} (hx1 : InR x1) (hx2 : InR x2) (h : ((((gI M (530) (2)) ≤ x2) → Q (-4) M) ∧ ((¬ ((gI M (530) (2)) ≤ x2)) → (0 ≤ x2 ∧ x2 < 12) ∧ (((¬ (gI M (532) (x2.toNat)) = x1) → P_Mo_numberOf g 2 [(0, vr g (530)), (1, vi (x1)), (2, vi (x2 + 1))] [] M Q) ∧ (((gI M (532) (x2.toNat)) = x1) → Q x2 M))))) : P_Mo_numberOf g 2 [(0, vr g (530)), (1, vi (x1)), (2, vi (x2))] [] M Q := by
  refine w_wt (fun hw => ?_)
  refine w_iload_n dX11_numberOf_2 2 rfl ?_
  refine w_aload_n dX11_numberOf_3 0 rfl ?_
  refine w_getI (ci := 11) (k := 2) dX11_numberOf_4 rfl fi11 (by decide) q906 s530 rfl l530 ?_
  refine w_icmp_ge (tgt := 28) dX11_numberOf_7 (by decide) hx2 (hw.int _ _) (fun c1 => ?_) (fun c1 => ?_)
  · replace h := h.1 c1
    refine w_bipush dX11_numberOf_28 rfl ?_
    exact w_iret dX11_numberOf_30 ⟨_, rfl, ⟨by decide, by decide⟩, h⟩
  · replace h := h.2 c1
    refine w_aload_n dX11_numberOf_10 0 rfl ?_
    refine w_getS (ci := 11) (k := 3) dX11_numberOf_11 rfl fi11 (by decide) q907 s530 rfl l530 ?_
    refine w_iload_n dX11_numberOf_14 2 rfl ?_
    obtain ⟨i2, h⟩ := h
    refine w_iald dX11_numberOf_15 s532 l532 (by decide) i2.1 i2.2 ?_
    refine w_iload_n dX11_numberOf_16 1 rfl ?_
    refine w_icmp_ne (tgt := 22) dX11_numberOf_17 (by decide) (hw.int _ _) hx1 (fun c3 => ?_) (fun c3 => ?_)
    · replace h := h.1 c3
      refine w_iinc (lv' := [(2, vi (x2 + 1)), (0, vr g (530)), (1, vi (x1))]) dX11_numberOf_22 2 rfl (by decide) rfl ?_
      refine w_goto (tgt := 2) dX11_numberOf_25 (by decide) ?_
      refine w_lv [1, 2, 0] rfl ?_
      exact h
    · replace h := h.2 c3
      refine w_iload_n dX11_numberOf_20 2 rfl ?_
      exact w_iret dX11_numberOf_21 ⟨_, rfl, hx2, h⟩
set_option maxHeartbeats 4000000 in
set_option maxRecDepth 100000 in
theorem b_Mo_error_0 {g : Ctx}  {M : Mem} {Q : Int → Mem → Prop}  (h : Q 5 (sI (sI M (530) (41) ((-4))) (530) (42) ((-4)))) : P_Mo_error g 0 [(0, vr g (530))] [] M Q := by
  refine w_wt (fun hw => ?_)
  refine w_aload_n dX11_error_0 0 rfl ?_
  refine w_bipush dX11_error_1 rfl ?_
  refine w_putI (ci := 11) (k := 41) dX11_error_3 rfl fi11 (by decide) q945 tyX11 tyX11_ok nmX11 rfl rfl rfl ⟨by decide, by decide⟩ s530 rfl l530 ?_
  have hw1 : WT (sI M (530) (41) ((-4))) := hw.sI ⟨by decide, by decide⟩
  refine w_aload_n dX11_error_6 0 rfl ?_
  refine w_bipush dX11_error_7 rfl ?_
  refine w_putI (ci := 11) (k := 42) dX11_error_9 rfl fi11 (by decide) q946 tyX11 tyX11_ok nmX11 rfl rfl rfl ⟨by decide, by decide⟩ s530 rfl l530 ?_
  have hw2 : WT (sI (sI M (530) (41) ((-4))) (530) (42) ((-4))) := hw1.sI ⟨by decide, by decide⟩
  refine w_iconst dX11_error_12 ?_
  exact w_iret dX11_error_13 ⟨_, rfl, ⟨by decide, by decide⟩, h⟩
set_option maxHeartbeats 4000000 in
set_option maxRecDepth 100000 in
theorem b_Mo_ruleAt_0 {g : Ctx} {p0 : Int} {p1 : Int} {M : Mem} {Q : Int → Mem → Prop} (hp0 : InR p0) (hp1 : InR p1) (h : (0 ≤ ((21 * p0) + p1) ∧ ((21 * p0) + p1) < 252) ∧ (InR ((8 * p0) + (gI M (543) (((21 * p0) + p1).toNat)))) ∧ Q ((8 * p0) + (gI M (543) (((21 * p0) + p1).toNat))) M) : P_Mo_ruleAt g 0 [(0, vr g (530)), (1, vi (p0)), (2, vi (p1))] [] M Q := by
  refine w_wt (fun hw => ?_)
  refine w_bipush dX11_ruleAt_0 rfl ?_
  refine w_iload_n dX11_ruleAt_2 1 rfl ?_
  refine w_imul dX11_ruleAt_3 ?_
  refine w_aload_n dX11_ruleAt_4 0 rfl ?_
  refine w_getS (ci := 11) (k := 14) dX11_ruleAt_5 rfl fi11 (by decide) q918 s530 rfl l530 ?_
  refine w_bipush dX11_ruleAt_8 rfl ?_
  refine w_iload_n dX11_ruleAt_10 1 rfl ?_
  refine w_imul dX11_ruleAt_11 ?_
  refine w_iload_n dX11_ruleAt_12 2 rfl ?_
  refine w_iadd dX11_ruleAt_13 ?_
  obtain ⟨i1, h⟩ := h
  refine w_iald dX11_ruleAt_14 s543 l543 (by decide) i1.1 i1.2 ?_
  refine w_iadd dX11_ruleAt_15 ?_
  obtain ⟨i2, h⟩ := h
  exact w_iret dX11_ruleAt_16 ⟨_, rfl, i2, h⟩
set_option maxHeartbeats 4000000 in
set_option maxRecDepth 100000 in
theorem b_Mo_fits_0 {g : Ctx} {p0 : Int} {M : Mem} {Q : Int → Mem → Prop} (hp0 : InR p0) (h : (0 ≤ p0 ∧ p0 < 96) ∧ (((¬ (gI M (537) (p0.toNat)) = 0) → (((¬ (gI M (537) (p0.toNat)) = 1) → K_Mo_looks g  M (fun r4 M5 => (r4 = 0 ∨ r4 = 1) → WT M5 → (((¬ r4 = 0) → (((¬ (gI M5 (537) (p0.toNat)) = 5) → K_Mo_numberOf g (gI M5 (540) (p0.toNat)) M5 (fun r8 M9 => InR r8 → WT M9 → (((¬ (gI M9 (537) (p0.toNat)) = 4) → K_Mo_hostMany g r8 M9 (fun r11 M12 => InR r11 → WT M12 → (((¬ r11 = 0) → ((((gI M12 (537) (p0.toNat)) = 5) → Q 1 M12) ∧ ((¬ ((gI M12 (537) (p0.toNat)) = 5)) → K_Mo_hasHost g r8 (gI M12 (530) (37)) M12 (fun r15 M16 => (r15 = 0 ∨ r15 = 1) → WT M16 → (((r15 = 0) → Q 0 M16) ∧ ((¬ (r15 = 0)) → Q 1 M16)))))) ∧ ((r11 = 0) → K_Mo_isEmpty g  M12 (fun r18 M19 => (r18 = 0 ∨ r18 = 1) → WT M19 → (((r18 = 0) → Q 5 M19) ∧ ((¬ (r18 = 0)) → Q 0 M19))))))) ∧ (((gI M9 (537) (p0.toNat)) = 4) → (((¬ r8 = (-4)) → (0 ≤ r8 ∧ r8 < 12) ∧ P_Mo_fits g 122 [(0, vr g (530)), (2, vi (r8)), (3, vi (gI M9 (535) (r8.toNat))), (4, vi (0)), (5, vi (0))] [] M9 Q) ∧ ((r8 = (-4)) → P_Mo_fits g 122 [(0, vr g (530)), (2, vi (r8)), (3, vi (0)), (4, vi (0)), (5, vi (0))] [] M9 Q)))))) ∧ (((gI M5 (537) (p0.toNat)) = 5) → K_Mo_macroName g p0 M5 (fun r23 M24 => InR r23 → WT M24 → K_Mo_numberOf g r23 M24 (fun r25 M26 => InR r25 → WT M26 → (((¬ (gI M26 (537) (p0.toNat)) = 4) → K_Mo_hostMany g r25 M26 (fun r28 M29 => InR r28 → WT M29 → (((¬ r28 = 0) → ((((gI M29 (537) (p0.toNat)) = 5) → Q 1 M29) ∧ ((¬ ((gI M29 (537) (p0.toNat)) = 5)) → K_Mo_hasHost g r25 (gI M29 (530) (37)) M29 (fun r32 M33 => (r32 = 0 ∨ r32 = 1) → WT M33 → (((r32 = 0) → Q 0 M33) ∧ ((¬ (r32 = 0)) → Q 1 M33)))))) ∧ ((r28 = 0) → K_Mo_isEmpty g  M29 (fun r35 M36 => (r35 = 0 ∨ r35 = 1) → WT M36 → (((r35 = 0) → Q 5 M36) ∧ ((¬ (r35 = 0)) → Q 0 M36))))))) ∧ (((gI M26 (537) (p0.toNat)) = 4) → (((¬ r25 = (-4)) → (0 ≤ r25 ∧ r25 < 12) ∧ P_Mo_fits g 122 [(0, vr g (530)), (2, vi (r25)), (3, vi (gI M26 (535) (r25.toNat))), (4, vi (0)), (5, vi (0))] [] M26 Q) ∧ ((r25 = (-4)) → P_Mo_fits g 122 [(0, vr g (530)), (2, vi (r25)), (3, vi (0)), (4, vi (0)), (5, vi (0))] [] M26 Q))))))))) ∧ ((r4 = 0) → Q 5 M5)))) ∧ (((gI M (537) (p0.toNat)) = 1) → (((¬ (jshr (jxor (gI M (530) (37)) (gI M (538) (p0.toNat))) (8 - (gI M (539) (p0.toNat)))) = 0) → Q 0 M) ∧ (((jshr (jxor (gI M (530) (37)) (gI M (538) (p0.toNat))) (8 - (gI M (539) (p0.toNat)))) = 0) → Q 1 M))))) ∧ (((gI M (537) (p0.toNat)) = 0) → Q 1 M))) : P_Mo_fits g 0 [(0, vr g (530)), (1, vi (p0))] [] M Q := by
  refine w_wt (fun hw => ?_)
  refine w_aload_n dX11_fits_0 0 rfl ?_
  refine w_getS (ci := 11) (k := 8) dX11_fits_1 rfl fi11 (by decide) q912 s530 rfl l530 ?_
  refine w_iload_n dX11_fits_4 1 rfl ?_
  obtain ⟨i1, h⟩ := h
  refine w_iald dX11_fits_5 s537 l537 (by decide) i1.1 i1.2 ?_
  refine w_if_ne (tgt := 11) dX11_fits_6 (by decide) (hw.int _ _) (fun c2 => ?_) (fun c2 => ?_)
  · replace h := h.1 c2
    refine w_aload_n dX11_fits_11 0 rfl ?_
    refine w_getS (ci := 11) (k := 8) dX11_fits_12 rfl fi11 (by decide) q912 s530 rfl l530 ?_
    refine w_iload_n dX11_fits_15 1 rfl ?_
    refine w_iald dX11_fits_16 s537 l537 (by decide) i1.1 i1.2 ?_
    refine w_iconst dX11_fits_17 ?_
    refine w_icmp_ne (tgt := 51) dX11_fits_18 (by decide) (hw.int _ _) ⟨by decide, by decide⟩ (fun c3 => ?_) (fun c3 => ?_)
    · replace h := h.1 c3
      refine w_aload_n dX11_fits_51 0 rfl ?_
      refine c_Mo_looks dX11_fits_52 q1079 (by decide) (Nat.le_of_ble_eq_true rfl) h (fun r4 M5 h hr4 hwM5 => ?_)
      replace h := h hr4 hwM5
      refine w_if_ne (tgt := 60) dX11_fits_55 (by decide) (inr_z hr4) (fun c6 => ?_) (fun c6 => ?_)
      · replace h := h.1 c6
        refine w_aload_n dX11_fits_60 0 rfl ?_
        refine w_aload_n dX11_fits_61 0 rfl ?_
        refine w_getS (ci := 11) (k := 8) dX11_fits_62 rfl fi11 (by decide) q912 s530 rfl l530 ?_
        refine w_iload_n dX11_fits_65 1 rfl ?_
        refine w_iald dX11_fits_66 s537 l537 (by decide) i1.1 i1.2 ?_
        refine w_iconst dX11_fits_67 ?_
        refine w_icmp_ne (tgt := 79) dX11_fits_68 (by decide) (hwM5.int _ _) ⟨by decide, by decide⟩ (fun c7 => ?_) (fun c7 => ?_)
        · replace h := h.1 c7
          refine w_aload_n dX11_fits_79 0 rfl ?_
          refine w_getS (ci := 11) (k := 11) dX11_fits_80 rfl fi11 (by decide) q915 s530 rfl l530 ?_
          refine w_iload_n dX11_fits_83 1 rfl ?_
          refine w_iald dX11_fits_84 s540 l540 (by decide) i1.1 i1.2 ?_
          refine c_Mo_numberOf dX11_fits_85 q1083 (by decide) (Nat.le_of_ble_eq_true rfl) h (fun r8 M9 h hr8 hwM9 => ?_)
          replace h := h hr8 hwM9
          refine w_istore_n (lv' := [(2, vi (r8)), (0, vr g (530)), (1, vi (p0))]) (i := 2) dX11_fits_88 rfl (by decide) rfl ?_
          refine w_aload_n dX11_fits_89 1 rfl ?_
          refine w_getS (ci := 11) (k := 8) dX11_fits_90 rfl fi11 (by decide) q912 s530 rfl l530 ?_
          refine w_iload_n dX11_fits_93 2 rfl ?_
          refine w_iald dX11_fits_94 s537 l537 (by decide) i1.1 i1.2 ?_
          refine w_iconst dX11_fits_95 ?_
          refine w_icmp_ne (tgt := 202) dX11_fits_96 (by decide) (hwM9.int _ _) ⟨by decide, by decide⟩ (fun c10 => ?_) (fun c10 => ?_)
          · replace h := h.1 c10
            refine w_aload_n dX11_fits_202 1 rfl ?_
            refine w_iload_n dX11_fits_203 0 rfl ?_
            refine c_Mo_hostMany dX11_fits_204 q1125 (by decide) (Nat.le_of_ble_eq_true rfl) h (fun r11 M12 h hr11 hwM12 => ?_)
            replace h := h hr11 hwM12
            refine w_if_ne (tgt := 223) dX11_fits_207 (by decide) hr11 (fun c13 => ?_) (fun c13 => ?_)
            · replace h := h.1 c13
              refine w_aload_n dX11_fits_223 1 rfl ?_
              refine w_getS (ci := 11) (k := 8) dX11_fits_224 rfl fi11 (by decide) q912 s530 rfl l530 ?_
              refine w_iload_n dX11_fits_227 2 rfl ?_
              refine w_iald dX11_fits_228 s537 l537 (by decide) i1.1 i1.2 ?_
              refine w_iconst dX11_fits_229 ?_
              refine w_icmp_eq (tgt := 245) dX11_fits_230 (by decide) (hwM12.int _ _) ⟨by decide, by decide⟩ (fun c14 => ?_) (fun c14 => ?_)
              · replace h := h.1 c14
                refine w_iconst dX11_fits_245 ?_
                refine w_goto (tgt := 250) dX11_fits_246 (by decide) ?_
                exact w_iret dX11_fits_250 ⟨_, rfl, ⟨by decide, by decide⟩, h⟩
              · replace h := h.2 c14
                refine w_aload_n dX11_fits_233 1 rfl ?_
                refine w_iload_n dX11_fits_234 0 rfl ?_
                refine w_aload_n dX11_fits_235 1 rfl ?_
                refine w_getI (ci := 11) (k := 37) dX11_fits_236 rfl fi11 (by decide) q941 s530 rfl l530 ?_
                refine c_Mo_hasHost dX11_fits_239 q1117 (by decide) (Nat.le_of_ble_eq_true rfl) h (fun r15 M16 h hr15 hwM16 => ?_)
                replace h := h hr15 hwM16
                refine w_if_eq (tgt := 249) dX11_fits_242 (by decide) (inr_z hr15) (fun c17 => ?_) (fun c17 => ?_)
                · replace h := h.1 c17
                  refine w_iconst dX11_fits_249 ?_
                  exact w_iret dX11_fits_250 ⟨_, rfl, ⟨by decide, by decide⟩, h⟩
                · replace h := h.2 c17
                  refine w_iconst dX11_fits_245 ?_
                  refine w_goto (tgt := 250) dX11_fits_246 (by decide) ?_
                  exact w_iret dX11_fits_250 ⟨_, rfl, ⟨by decide, by decide⟩, h⟩
            · replace h := h.2 c13
              refine w_aload_n dX11_fits_210 1 rfl ?_
              refine c_Mo_isEmpty dX11_fits_211 q1121 (by decide) (Nat.le_of_ble_eq_true rfl) h (fun r18 M19 h hr18 hwM19 => ?_)
              replace h := h hr18 hwM19
              refine w_if_eq (tgt := 221) dX11_fits_214 (by decide) (inr_z hr18) (fun c20 => ?_) (fun c20 => ?_)
              · replace h := h.1 c20
                refine w_iconst dX11_fits_221 ?_
                exact w_iret dX11_fits_222 ⟨_, rfl, ⟨by decide, by decide⟩, h⟩
              · replace h := h.2 c20
                refine w_iconst dX11_fits_217 ?_
                refine w_goto (tgt := 222) dX11_fits_218 (by decide) ?_
                exact w_iret dX11_fits_222 ⟨_, rfl, ⟨by decide, by decide⟩, h⟩
          · replace h := h.2 c10
            refine w_iload_n dX11_fits_99 0 rfl ?_
            refine w_bipush dX11_fits_100 rfl ?_
            refine w_icmp_ne (tgt := 109) dX11_fits_102 (by decide) hr8 ⟨by decide, by decide⟩ (fun c21 => ?_) (fun c21 => ?_)
            · replace h := h.1 c21
              refine w_aload_n dX11_fits_109 1 rfl ?_
              refine w_getS (ci := 11) (k := 6) dX11_fits_110 rfl fi11 (by decide) q910 s530 rfl l530 ?_
              refine w_iload_n dX11_fits_113 0 rfl ?_
              obtain ⟨i22, h⟩ := h
              refine w_iald dX11_fits_114 s535 l535 (by decide) i22.1 i22.2 ?_
              refine w_istore_n (lv' := [(3, vi (gI M9 (535) (r8.toNat))), (2, vi (r8)), (0, vr g (530)), (1, vi (p0))]) (i := 3) dX11_fits_115 rfl (by decide) rfl ?_
              refine w_iconst dX11_fits_116 ?_
              refine w_istore (lv' := [(4, vi (0)), (3, vi (gI M9 (535) (r8.toNat))), (2, vi (r8)), (0, vr g (530)), (1, vi (p0))]) dX11_fits_117 (by decide) rfl ?_
              refine w_iconst dX11_fits_119 ?_
              refine w_istore (lv' := [(5, vi (0)), (4, vi (0)), (3, vi (gI M9 (535) (r8.toNat))), (2, vi (r8)), (0, vr g (530)), (1, vi (p0))]) dX11_fits_120 (by decide) rfl ?_
              refine w_lv [4, 3, 2, 1, 0] rfl ?_
              exact h
            · replace h := h.2 c21
              refine w_iconst dX11_fits_105 ?_
              refine w_goto (tgt := 115) dX11_fits_106 (by decide) ?_
              refine w_istore_n (lv' := [(3, vi (0)), (2, vi (r8)), (0, vr g (530)), (1, vi (p0))]) (i := 3) dX11_fits_115 rfl (by decide) rfl ?_
              refine w_iconst dX11_fits_116 ?_
              refine w_istore (lv' := [(4, vi (0)), (3, vi (0)), (2, vi (r8)), (0, vr g (530)), (1, vi (p0))]) dX11_fits_117 (by decide) rfl ?_
              refine w_iconst dX11_fits_119 ?_
              refine w_istore (lv' := [(5, vi (0)), (4, vi (0)), (3, vi (0)), (2, vi (r8)), (0, vr g (530)), (1, vi (p0))]) dX11_fits_120 (by decide) rfl ?_
              refine w_lv [4, 3, 2, 1, 0] rfl ?_
              exact h
        · replace h := h.2 c7
          refine w_aload_n dX11_fits_71 0 rfl ?_
          refine w_iload_n dX11_fits_72 1 rfl ?_
          refine c_Mo_macroName dX11_fits_73 q1099 (by decide) (Nat.le_of_ble_eq_true rfl) h (fun r23 M24 h hr23 hwM24 => ?_)
          replace h := h hr23 hwM24
          refine w_goto (tgt := 85) dX11_fits_76 (by decide) ?_
          refine c_Mo_numberOf dX11_fits_85 q1083 (by decide) (Nat.le_of_ble_eq_true rfl) h (fun r25 M26 h hr25 hwM26 => ?_)
          replace h := h hr25 hwM26
          refine w_istore_n (lv' := [(2, vi (r25)), (0, vr g (530)), (1, vi (p0))]) (i := 2) dX11_fits_88 rfl (by decide) rfl ?_
          refine w_aload_n dX11_fits_89 1 rfl ?_
          refine w_getS (ci := 11) (k := 8) dX11_fits_90 rfl fi11 (by decide) q912 s530 rfl l530 ?_
          refine w_iload_n dX11_fits_93 2 rfl ?_
          refine w_iald dX11_fits_94 s537 l537 (by decide) i1.1 i1.2 ?_
          refine w_iconst dX11_fits_95 ?_
          refine w_icmp_ne (tgt := 202) dX11_fits_96 (by decide) (hwM26.int _ _) ⟨by decide, by decide⟩ (fun c27 => ?_) (fun c27 => ?_)
          · replace h := h.1 c27
            refine w_aload_n dX11_fits_202 1 rfl ?_
            refine w_iload_n dX11_fits_203 0 rfl ?_
            refine c_Mo_hostMany dX11_fits_204 q1125 (by decide) (Nat.le_of_ble_eq_true rfl) h (fun r28 M29 h hr28 hwM29 => ?_)
            replace h := h hr28 hwM29
            refine w_if_ne (tgt := 223) dX11_fits_207 (by decide) hr28 (fun c30 => ?_) (fun c30 => ?_)
            · replace h := h.1 c30
              refine w_aload_n dX11_fits_223 1 rfl ?_
              refine w_getS (ci := 11) (k := 8) dX11_fits_224 rfl fi11 (by decide) q912 s530 rfl l530 ?_
              refine w_iload_n dX11_fits_227 2 rfl ?_
              refine w_iald dX11_fits_228 s537 l537 (by decide) i1.1 i1.2 ?_
              refine w_iconst dX11_fits_229 ?_
              refine w_icmp_eq (tgt := 245) dX11_fits_230 (by decide) (hwM29.int _ _) ⟨by decide, by decide⟩ (fun c31 => ?_) (fun c31 => ?_)
              · replace h := h.1 c31
                refine w_iconst dX11_fits_245 ?_
                refine w_goto (tgt := 250) dX11_fits_246 (by decide) ?_
                exact w_iret dX11_fits_250 ⟨_, rfl, ⟨by decide, by decide⟩, h⟩
              · replace h := h.2 c31
                refine w_aload_n dX11_fits_233 1 rfl ?_
                refine w_iload_n dX11_fits_234 0 rfl ?_
                refine w_aload_n dX11_fits_235 1 rfl ?_
                refine w_getI (ci := 11) (k := 37) dX11_fits_236 rfl fi11 (by decide) q941 s530 rfl l530 ?_
                refine c_Mo_hasHost dX11_fits_239 q1117 (by decide) (Nat.le_of_ble_eq_true rfl) h (fun r32 M33 h hr32 hwM33 => ?_)
                replace h := h hr32 hwM33
                refine w_if_eq (tgt := 249) dX11_fits_242 (by decide) (inr_z hr32) (fun c34 => ?_) (fun c34 => ?_)
                · replace h := h.1 c34
                  refine w_iconst dX11_fits_249 ?_
                  exact w_iret dX11_fits_250 ⟨_, rfl, ⟨by decide, by decide⟩, h⟩
                · replace h := h.2 c34
                  refine w_iconst dX11_fits_245 ?_
                  refine w_goto (tgt := 250) dX11_fits_246 (by decide) ?_
                  exact w_iret dX11_fits_250 ⟨_, rfl, ⟨by decide, by decide⟩, h⟩
            · replace h := h.2 c30
              refine w_aload_n dX11_fits_210 1 rfl ?_
              refine c_Mo_isEmpty dX11_fits_211 q1121 (by decide) (Nat.le_of_ble_eq_true rfl) h (fun r35 M36 h hr35 hwM36 => ?_)
              replace h := h hr35 hwM36
              refine w_if_eq (tgt := 221) dX11_fits_214 (by decide) (inr_z hr35) (fun c37 => ?_) (fun c37 => ?_)
              · replace h := h.1 c37
                refine w_iconst dX11_fits_221 ?_
                exact w_iret dX11_fits_222 ⟨_, rfl, ⟨by decide, by decide⟩, h⟩
              · replace h := h.2 c37
                refine w_iconst dX11_fits_217 ?_
                refine w_goto (tgt := 222) dX11_fits_218 (by decide) ?_
                exact w_iret dX11_fits_222 ⟨_, rfl, ⟨by decide, by decide⟩, h⟩
          · replace h := h.2 c27
            refine w_iload_n dX11_fits_99 0 rfl ?_
            refine w_bipush dX11_fits_100 rfl ?_
            refine w_icmp_ne (tgt := 109) dX11_fits_102 (by decide) hr25 ⟨by decide, by decide⟩ (fun c38 => ?_) (fun c38 => ?_)
            · replace h := h.1 c38
              refine w_aload_n dX11_fits_109 1 rfl ?_
              refine w_getS (ci := 11) (k := 6) dX11_fits_110 rfl fi11 (by decide) q910 s530 rfl l530 ?_
              refine w_iload_n dX11_fits_113 0 rfl ?_
              obtain ⟨i39, h⟩ := h
              refine w_iald dX11_fits_114 s535 l535 (by decide) i39.1 i39.2 ?_
              refine w_istore_n (lv' := [(3, vi (gI M26 (535) (r25.toNat))), (2, vi (r25)), (0, vr g (530)), (1, vi (p0))]) (i := 3) dX11_fits_115 rfl (by decide) rfl ?_
              refine w_iconst dX11_fits_116 ?_
              refine w_istore (lv' := [(4, vi (0)), (3, vi (gI M26 (535) (r25.toNat))), (2, vi (r25)), (0, vr g (530)), (1, vi (p0))]) dX11_fits_117 (by decide) rfl ?_
              refine w_iconst dX11_fits_119 ?_
              refine w_istore (lv' := [(5, vi (0)), (4, vi (0)), (3, vi (gI M26 (535) (r25.toNat))), (2, vi (r25)), (0, vr g (530)), (1, vi (p0))]) dX11_fits_120 (by decide) rfl ?_
              refine w_lv [4, 3, 2, 1, 0] rfl ?_
              exact h
            · replace h := h.2 c38
              refine w_iconst dX11_fits_105 ?_
              refine w_goto (tgt := 115) dX11_fits_106 (by decide) ?_
              refine w_istore_n (lv' := [(3, vi (0)), (2, vi (r25)), (0, vr g (530)), (1, vi (p0))]) (i := 3) dX11_fits_115 rfl (by decide) rfl ?_
              refine w_iconst dX11_fits_116 ?_
              refine w_istore (lv' := [(4, vi (0)), (3, vi (0)), (2, vi (r25)), (0, vr g (530)), (1, vi (p0))]) dX11_fits_117 (by decide) rfl ?_
              refine w_iconst dX11_fits_119 ?_
              refine w_istore (lv' := [(5, vi (0)), (4, vi (0)), (3, vi (0)), (2, vi (r25)), (0, vr g (530)), (1, vi (p0))]) dX11_fits_120 (by decide) rfl ?_
              refine w_lv [4, 3, 2, 1, 0] rfl ?_
              exact h
      · replace h := h.2 c6
        refine w_iconst dX11_fits_58 ?_
        exact w_iret dX11_fits_59 ⟨_, rfl, ⟨by decide, by decide⟩, h⟩
    · replace h := h.2 c3
      refine w_aload_n dX11_fits_21 0 rfl ?_
      refine w_getI (ci := 11) (k := 37) dX11_fits_22 rfl fi11 (by decide) q941 s530 rfl l530 ?_
      refine w_aload_n dX11_fits_25 0 rfl ?_
      refine w_getS (ci := 11) (k := 9) dX11_fits_26 rfl fi11 (by decide) q913 s530 rfl l530 ?_
      refine w_iload_n dX11_fits_29 1 rfl ?_
      refine w_iald dX11_fits_30 s538 l538 (by decide) i1.1 i1.2 ?_
      refine w_ixor dX11_fits_31 ?_
      refine w_bipush dX11_fits_32 rfl ?_
      refine w_aload_n dX11_fits_34 0 rfl ?_
      refine w_getS (ci := 11) (k := 10) dX11_fits_35 rfl fi11 (by decide) q914 s530 rfl l530 ?_
      refine w_iload_n dX11_fits_38 1 rfl ?_
      refine w_iald dX11_fits_39 s539 l539 (by decide) i1.1 i1.2 ?_
      refine w_isub dX11_fits_40 ?_
      refine w_ishr dX11_fits_41 ?_
      refine w_if_ne (tgt := 49) dX11_fits_42 (by decide) (inr_jshr _ _) (fun c40 => ?_) (fun c40 => ?_)
      · replace h := h.1 c40
        refine w_iconst dX11_fits_49 ?_
        exact w_iret dX11_fits_50 ⟨_, rfl, ⟨by decide, by decide⟩, h⟩
      · replace h := h.2 c40
        refine w_iconst dX11_fits_45 ?_
        refine w_goto (tgt := 50) dX11_fits_46 (by decide) ?_
        exact w_iret dX11_fits_50 ⟨_, rfl, ⟨by decide, by decide⟩, h⟩
  · replace h := h.2 c2
    refine w_iconst dX11_fits_9 ?_
    exact w_iret dX11_fits_10 ⟨_, rfl, ⟨by decide, by decide⟩, h⟩
set_option maxHeartbeats 4000000 in
set_option maxRecDepth 100000 in
theorem b_Mo_fits_122 {g : Ctx} {x2 : Int} {x3 : Int} {x4 : Int} {x5 : Int} {M : Mem} {Q : Int → Mem → Prop} (hx2 : InR x2) (hx3 : InR x3) (hx4 : InR x4) (hx5 : InR x5) (h : (((x3 ≤ x5) → (((¬ x3 = 0) → (((x4 = 0) → Q 0 M) ∧ ((¬ (x4 = 0)) → Q 1 M))) ∧ ((x3 = 0) → K_Mo_isEmpty g  M (fun r4 M5 => (r4 = 0 ∨ r4 = 1) → WT M5 → (((r4 = 0) → Q 5 M5) ∧ ((¬ (r4 = 0)) → Q 0 M5)))))) ∧ ((¬ (x3 ≤ x5)) → (((¬ x4 = 0) → P_Mo_fits g 122 [(0, vr g (530)), (2, vi (x2)), (3, vi (x3)), (4, vi (1)), (5, vi (x5 + 1))] [] M Q) ∧ ((x4 = 0) → (0 ≤ ((3 * x2) + x5) ∧ ((3 * x2) + x5) < 36) ∧ K_Mo_numberOf g (gI M (536) (((3 * x2) + x5).toNat)) M (fun r9 M10 => InR r9 → WT M10 → K_Mo_hasHost g r9 (gI M10 (530) (37)) M10 (fun r11 M12 => (r11 = 0 ∨ r11 = 1) → WT M12 → (((r11 = 0) → P_Mo_fits g 122 [(0, vr g (530)), (2, vi (x2)), (3, vi (x3)), (4, vi (0)), (5, vi (x5 + 1))] [] M12 Q) ∧ ((¬ (r11 = 0)) → P_Mo_fits g 122 [(0, vr g (530)), (2, vi (x2)), (3, vi (x3)), (4, vi (1)), (5, vi (x5 + 1))] [] M12 Q))))))))) : P_Mo_fits g 122 [(0, vr g (530)), (2, vi (x2)), (3, vi (x3)), (4, vi (x4)), (5, vi (x5))] [] M Q := by
  refine w_wt (fun hw => ?_)
  refine w_iload dX11_fits_122 4 rfl ?_
  refine w_iload_n dX11_fits_124 2 rfl ?_
  refine w_icmp_ge (tgt := 172) dX11_fits_125 (by decide) hx5 hx3 (fun c1 => ?_) (fun c1 => ?_)
  · replace h := h.1 c1
    refine w_iload_n dX11_fits_172 2 rfl ?_
    refine w_if_ne (tgt := 191) dX11_fits_173 (by decide) hx3 (fun c2 => ?_) (fun c2 => ?_)
    · replace h := h.1 c2
      refine w_iload dX11_fits_191 3 rfl ?_
      refine w_if_eq (tgt := 200) dX11_fits_193 (by decide) hx4 (fun c3 => ?_) (fun c3 => ?_)
      · replace h := h.1 c3
        refine w_iconst dX11_fits_200 ?_
        exact w_iret dX11_fits_201 ⟨_, rfl, ⟨by decide, by decide⟩, h⟩
      · replace h := h.2 c3
        refine w_iconst dX11_fits_196 ?_
        refine w_goto (tgt := 201) dX11_fits_197 (by decide) ?_
        exact w_iret dX11_fits_201 ⟨_, rfl, ⟨by decide, by decide⟩, h⟩
    · replace h := h.2 c2
      refine w_aload_n dX11_fits_176 0 rfl ?_
      refine c_Mo_isEmpty dX11_fits_177 q1121 (by decide) (Nat.le_of_ble_eq_true rfl) h (fun r4 M5 h hr4 hwM5 => ?_)
      replace h := h hr4 hwM5
      refine w_if_eq (tgt := 187) dX11_fits_180 (by decide) (inr_z hr4) (fun c6 => ?_) (fun c6 => ?_)
      · replace h := h.1 c6
        refine w_iconst dX11_fits_187 ?_
        refine w_goto (tgt := 201) dX11_fits_188 (by decide) ?_
        exact w_iret dX11_fits_201 ⟨_, rfl, ⟨by decide, by decide⟩, h⟩
      · replace h := h.2 c6
        refine w_iconst dX11_fits_183 ?_
        refine w_goto (tgt := 201) dX11_fits_184 (by decide) ?_
        exact w_iret dX11_fits_201 ⟨_, rfl, ⟨by decide, by decide⟩, h⟩
  · replace h := h.2 c1
    refine w_iload dX11_fits_128 3 rfl ?_
    refine w_if_ne (tgt := 159) dX11_fits_130 (by decide) hx4 (fun c7 => ?_) (fun c7 => ?_)
    · replace h := h.1 c7
      refine w_iconst dX11_fits_159 ?_
      refine w_goto (tgt := 164) dX11_fits_160 (by decide) ?_
      refine w_istore (lv' := [(4, vi (1)), (0, vr g (530)), (2, vi (x2)), (3, vi (x3)), (5, vi (x5))]) dX11_fits_164 (by decide) rfl ?_
      refine w_iinc (lv' := [(5, vi (x5 + 1)), (4, vi (1)), (0, vr g (530)), (2, vi (x2)), (3, vi (x3))]) dX11_fits_166 4 rfl (by decide) rfl ?_
      refine w_goto (tgt := 122) dX11_fits_169 (by decide) ?_
      refine w_lv [2, 3, 4, 1, 0] rfl ?_
      exact h
    · replace h := h.2 c7
      refine w_aload_n dX11_fits_133 0 rfl ?_
      refine w_aload_n dX11_fits_134 0 rfl ?_
      refine w_aload_n dX11_fits_135 0 rfl ?_
      refine w_getS (ci := 11) (k := 7) dX11_fits_136 rfl fi11 (by decide) q911 s530 rfl l530 ?_
      refine w_iconst dX11_fits_139 ?_
      refine w_iload_n dX11_fits_140 1 rfl ?_
      refine w_imul dX11_fits_141 ?_
      refine w_iload dX11_fits_142 4 rfl ?_
      refine w_iadd dX11_fits_144 ?_
      obtain ⟨i8, h⟩ := h
      refine w_iald dX11_fits_145 s536 l536 (by decide) i8.1 i8.2 ?_
      refine c_Mo_numberOf dX11_fits_146 q1083 (by decide) (Nat.le_of_ble_eq_true rfl) h (fun r9 M10 h hr9 hwM10 => ?_)
      replace h := h hr9 hwM10
      refine w_aload_n dX11_fits_149 0 rfl ?_
      refine w_getI (ci := 11) (k := 37) dX11_fits_150 rfl fi11 (by decide) q941 s530 rfl l530 ?_
      refine c_Mo_hasHost dX11_fits_153 q1117 (by decide) (Nat.le_of_ble_eq_true rfl) h (fun r11 M12 h hr11 hwM12 => ?_)
      replace h := h hr11 hwM12
      refine w_if_eq (tgt := 163) dX11_fits_156 (by decide) (inr_z hr11) (fun c13 => ?_) (fun c13 => ?_)
      · replace h := h.1 c13
        refine w_iconst dX11_fits_163 ?_
        refine w_istore (lv' := [(4, vi (0)), (0, vr g (530)), (2, vi (x2)), (3, vi (x3)), (5, vi (x5))]) dX11_fits_164 (by decide) rfl ?_
        refine w_iinc (lv' := [(5, vi (x5 + 1)), (4, vi (0)), (0, vr g (530)), (2, vi (x2)), (3, vi (x3))]) dX11_fits_166 4 rfl (by decide) rfl ?_
        refine w_goto (tgt := 122) dX11_fits_169 (by decide) ?_
        refine w_lv [2, 3, 4, 1, 0] rfl ?_
        exact h
      · replace h := h.2 c13
        refine w_iconst dX11_fits_159 ?_
        refine w_goto (tgt := 164) dX11_fits_160 (by decide) ?_
        refine w_istore (lv' := [(4, vi (1)), (0, vr g (530)), (2, vi (x2)), (3, vi (x3)), (5, vi (x5))]) dX11_fits_164 (by decide) rfl ?_
        refine w_iinc (lv' := [(5, vi (x5 + 1)), (4, vi (1)), (0, vr g (530)), (2, vi (x2)), (3, vi (x3))]) dX11_fits_166 4 rfl (by decide) rfl ?_
        refine w_goto (tgt := 122) dX11_fits_169 (by decide) ?_
        refine w_lv [2, 3, 4, 1, 0] rfl ?_
        exact h
set_option maxHeartbeats 4000000 in
set_option maxRecDepth 100000 in
theorem b_Mo_macroName_0 {g : Ctx} {p0 : Int} {M : Mem} {Q : Int → Mem → Prop} (hp0 : InR p0) (h : P_Mo_macroName g 4 [(0, vr g (530)), (1, vi (p0)), (2, vi (0)), (3, vi (0))] [] M Q) : P_Mo_macroName g 0 [(0, vr g (530)), (1, vi (p0))] [] M Q := by
  refine w_wt (fun hw => ?_)
  refine w_iconst dX11_macroName_0 ?_
  refine w_istore_n (lv' := [(2, vi (0)), (0, vr g (530)), (1, vi (p0))]) (i := 2) dX11_macroName_1 rfl (by decide) rfl ?_
  refine w_iconst dX11_macroName_2 ?_
  refine w_istore_n (lv' := [(3, vi (0)), (2, vi (0)), (0, vr g (530)), (1, vi (p0))]) (i := 3) dX11_macroName_3 rfl (by decide) rfl ?_
  refine w_lv [2, 3, 1, 0] rfl ?_
  exact h
set_option maxHeartbeats 4000000 in
set_option maxRecDepth 100000 in
theorem b_Mo_macroName_4 {g : Ctx} {x1 : Int} {x2 : Int} {x3 : Int} {M : Mem} {Q : Int → Mem → Prop} (hx1 : InR x1) (hx2 : InR x2) (hx3 : InR x3) (h : (0 ≤ x1 ∧ x1 < 96) ∧ ((((gI M (541) (x1.toNat)) ≤ x3) → Q x2 M) ∧ ((¬ ((gI M (541) (x1.toNat)) ≤ x3)) → (0 ≤ ((8 * x1) + x3) ∧ ((8 * x1) + x3) < 768) ∧ K_Mo_spellsPart g (gI M (542) (((8 * x1) + x3).toNat)) M (fun M5 => WT M5 → ((((gI M (542) (((8 * x1) + x3).toNat)) < 16) → ((((gI M (542) (((8 * x1) + x3).toNat)) < 16) → P_Mo_macroName g 109 [(0, vr g (530)), (1, vi (x1)), (2, vi (x2)), (3, vi (x3)), (5, vi (0)), (8, vi (0))] [] M5 Q) ∧ ((¬ ((gI M (542) (((8 * x1) + x3).toNat)) < 16)) → (InR ((gI M (542) (((8 * x1) + x3).toNat)) - 16)) ∧ (0 ≤ ((gI M (542) (((8 * x1) + x3).toNat)) - 16)) ∧ (InR (((gI M (542) (((8 * x1) + x3).toNat)) - 16) / 8)) ∧ ((((((gI M (542) (((8 * x1) + x3).toNat)) - 16) / 8) ≤ 0) → P_Mo_macroName g 109 [(0, vr g (530)), (1, vi (x1)), (2, vi (x2)), (3, vi (x3)), (5, vi (0)), (8, vi (0))] [] M5 Q) ∧ ((¬ ((((gI M (542) (((8 * x1) + x3).toNat)) - 16) / 8) ≤ 0)) → ((((gI M5 (530) (47)) ≤ (((gI M (542) (((8 * x1) + x3).toNat)) - 16) / 8)) → P_Mo_macroName g 109 [(0, vr g (530)), (1, vi (x1)), (2, vi (x2)), (3, vi (x3)), (5, vi (0)), (8, vi (0))] [] M5 Q) ∧ ((¬ ((gI M5 (530) (47)) ≤ (((gI M (542) (((8 * x1) + x3).toNat)) - 16) / 8))) → P_Mo_macroName g 109 [(0, vr g (530)), (1, vi (x1)), (2, vi (x2)), (3, vi (x3)), (5, vi (0)), (8, vi ((gI M5 (530) (47)) - (((gI M (542) (((8 * x1) + x3).toNat)) - 16) / 8)))] [] M5 Q))))))) ∧ ((¬ ((gI M (542) (((8 * x1) + x3).toNat)) < 16)) → (0 ≤ (gI M (542) (((8 * x1) + x3).toNat))) ∧ (((¬ (jand ((gI M (542) (((8 * x1) + x3).toNat)) / 4) 1) = 1) → ((((gI M (542) (((8 * x1) + x3).toNat)) < 16) → P_Mo_macroName g 109 [(0, vr g (530)), (1, vi (x1)), (2, vi (x2)), (3, vi (x3)), (5, vi (0)), (8, vi (0))] [] M5 Q) ∧ ((¬ ((gI M (542) (((8 * x1) + x3).toNat)) < 16)) → (InR ((gI M (542) (((8 * x1) + x3).toNat)) - 16)) ∧ (0 ≤ ((gI M (542) (((8 * x1) + x3).toNat)) - 16)) ∧ (InR (((gI M (542) (((8 * x1) + x3).toNat)) - 16) / 8)) ∧ ((((((gI M (542) (((8 * x1) + x3).toNat)) - 16) / 8) ≤ 0) → P_Mo_macroName g 109 [(0, vr g (530)), (1, vi (x1)), (2, vi (x2)), (3, vi (x3)), (5, vi (0)), (8, vi (0))] [] M5 Q) ∧ ((¬ ((((gI M (542) (((8 * x1) + x3).toNat)) - 16) / 8) ≤ 0)) → ((((gI M5 (530) (47)) ≤ (((gI M (542) (((8 * x1) + x3).toNat)) - 16) / 8)) → P_Mo_macroName g 109 [(0, vr g (530)), (1, vi (x1)), (2, vi (x2)), (3, vi (x3)), (5, vi (0)), (8, vi (0))] [] M5 Q) ∧ ((¬ ((gI M5 (530) (47)) ≤ (((gI M (542) (((8 * x1) + x3).toNat)) - 16) / 8))) → P_Mo_macroName g 109 [(0, vr g (530)), (1, vi (x1)), (2, vi (x2)), (3, vi (x3)), (5, vi (0)), (8, vi ((gI M5 (530) (47)) - (((gI M (542) (((8 * x1) + x3).toNat)) - 16) / 8)))] [] M5 Q))))))) ∧ (((jand ((gI M (542) (((8 * x1) + x3).toNat)) / 4) 1) = 1) → ((((gI M (542) (((8 * x1) + x3).toNat)) < 16) → P_Mo_macroName g 109 [(0, vr g (530)), (1, vi (x1)), (2, vi (x2)), (3, vi (x3)), (5, vi (1)), (8, vi (0))] [] M5 Q) ∧ ((¬ ((gI M (542) (((8 * x1) + x3).toNat)) < 16)) → (InR ((gI M (542) (((8 * x1) + x3).toNat)) - 16)) ∧ (0 ≤ ((gI M (542) (((8 * x1) + x3).toNat)) - 16)) ∧ (InR (((gI M (542) (((8 * x1) + x3).toNat)) - 16) / 8)) ∧ ((((((gI M (542) (((8 * x1) + x3).toNat)) - 16) / 8) ≤ 0) → P_Mo_macroName g 109 [(0, vr g (530)), (1, vi (x1)), (2, vi (x2)), (3, vi (x3)), (5, vi (1)), (8, vi (0))] [] M5 Q) ∧ ((¬ ((((gI M (542) (((8 * x1) + x3).toNat)) - 16) / 8) ≤ 0)) → ((((gI M5 (530) (47)) ≤ (((gI M (542) (((8 * x1) + x3).toNat)) - 16) / 8)) → P_Mo_macroName g 109 [(0, vr g (530)), (1, vi (x1)), (2, vi (x2)), (3, vi (x3)), (5, vi (1)), (8, vi (0))] [] M5 Q) ∧ ((¬ ((gI M5 (530) (47)) ≤ (((gI M (542) (((8 * x1) + x3).toNat)) - 16) / 8))) → P_Mo_macroName g 109 [(0, vr g (530)), (1, vi (x1)), (2, vi (x2)), (3, vi (x3)), (5, vi (1)), (8, vi ((gI M5 (530) (47)) - (((gI M (542) (((8 * x1) + x3).toNat)) - 16) / 8)))] [] M5 Q)))))))))))))) : P_Mo_macroName g 4 [(0, vr g (530)), (1, vi (x1)), (2, vi (x2)), (3, vi (x3))] [] M Q := by
  refine w_wt (fun hw => ?_)
  refine w_iload_n dX11_macroName_4 3 rfl ?_
  refine w_aload_n dX11_macroName_5 0 rfl ?_
  refine w_getS (ci := 11) (k := 12) dX11_macroName_6 rfl fi11 (by decide) q916 s530 rfl l530 ?_
  refine w_iload_n dX11_macroName_9 1 rfl ?_
  obtain ⟨i1, h⟩ := h
  refine w_iald dX11_macroName_10 s541 l541 (by decide) i1.1 i1.2 ?_
  refine w_icmp_ge (tgt := 159) dX11_macroName_11 (by decide) hx3 (hw.int _ _) (fun c2 => ?_) (fun c2 => ?_)
  · replace h := h.1 c2
    refine w_iload_n dX11_macroName_159 2 rfl ?_
    exact w_iret dX11_macroName_160 ⟨_, rfl, hx2, h⟩
  · replace h := h.2 c2
    refine w_aload_n dX11_macroName_14 0 rfl ?_
    refine w_getS (ci := 11) (k := 13) dX11_macroName_15 rfl fi11 (by decide) q917 s530 rfl l530 ?_
    refine w_bipush dX11_macroName_18 rfl ?_
    refine w_iload_n dX11_macroName_20 1 rfl ?_
    refine w_imul dX11_macroName_21 ?_
    refine w_iload_n dX11_macroName_22 3 rfl ?_
    refine w_iadd dX11_macroName_23 ?_
    obtain ⟨i3, h⟩ := h
    refine w_iald dX11_macroName_24 s542 l542 (by decide) i3.1 i3.2 ?_
    refine w_istore (lv' := [(4, vi (gI M (542) (((8 * x1) + x3).toNat))), (0, vr g (530)), (1, vi (x1)), (2, vi (x2)), (3, vi (x3))]) dX11_macroName_25 (by decide) rfl ?_
    refine w_aload_n dX11_macroName_27 1 rfl ?_
    refine w_iload dX11_macroName_28 0 rfl ?_
    refine c_Mo_spellsPart dX11_macroName_30 q1103 (by decide) (Nat.le_of_ble_eq_true rfl) h (fun M5 h hwM5 => ?_)
    replace h := h hwM5
    refine w_iload dX11_macroName_33 0 rfl ?_
    refine w_bipush dX11_macroName_35 rfl ?_
    refine w_icmp_lt (tgt := 54) dX11_macroName_37 (by decide) (hw.int _ _) ⟨by decide, by decide⟩ (fun c6 => ?_) (fun c6 => ?_)
    · replace h := h.1 c6
      refine w_iconst dX11_macroName_54 ?_
      refine w_istore (lv' := [(5, vi (0)), (4, vi (gI M (542) (((8 * x1) + x3).toNat))), (0, vr g (530)), (1, vi (x1)), (2, vi (x2)), (3, vi (x3))]) dX11_macroName_55 (by decide) rfl ?_
      refine w_iload dX11_macroName_57 1 rfl ?_
      refine w_bipush dX11_macroName_59 rfl ?_
      refine w_icmp_lt (tgt := 75) dX11_macroName_61 (by decide) (hw.int _ _) ⟨by decide, by decide⟩ (fun c7 => ?_) (fun c7 => ?_)
      · replace h := h.1 c7
        refine w_iconst dX11_macroName_75 ?_
        refine w_istore (lv' := [(6, vi (0)), (5, vi (0)), (4, vi (gI M (542) (((8 * x1) + x3).toNat))), (0, vr g (530)), (1, vi (x1)), (2, vi (x2)), (3, vi (x3))]) dX11_macroName_76 (by decide) rfl ?_
        refine w_iload dX11_macroName_78 0 rfl ?_
        refine w_if_le (tgt := 102) dX11_macroName_80 (by decide) ⟨by decide, by decide⟩ (fun c => ?_) (fun c => ?_)
        · refine w_iconst dX11_macroName_102 ?_
          refine w_istore (lv' := [(7, vi (0)), (6, vi (0)), (5, vi (0)), (4, vi (gI M (542) (((8 * x1) + x3).toNat))), (0, vr g (530)), (1, vi (x1)), (2, vi (x2)), (3, vi (x3))]) dX11_macroName_103 (by decide) rfl ?_
          refine w_iload dX11_macroName_105 0 rfl ?_
          refine w_istore (lv' := [(8, vi (0)), (7, vi (0)), (6, vi (0)), (5, vi (0)), (4, vi (gI M (542) (((8 * x1) + x3).toNat))), (0, vr g (530)), (1, vi (x1)), (2, vi (x2)), (3, vi (x3))]) dX11_macroName_107 (by decide) rfl ?_
          refine w_lv [5, 6, 7, 8, 3, 0] rfl ?_
          exact h
        · exact absurd c (by decide)
      · replace h := h.2 c7
        refine w_iload dX11_macroName_64 1 rfl ?_
        refine w_bipush dX11_macroName_66 rfl ?_
        refine w_isub dX11_macroName_68 ?_
        refine w_bipush dX11_macroName_69 rfl ?_
        obtain ⟨i8, h⟩ := h
        obtain ⟨i9, h⟩ := h
        refine w_idiv dX11_macroName_71 i8 ⟨by decide, by decide⟩ i9 (by decide) ?_
        refine w_goto (tgt := 76) dX11_macroName_72 (by decide) ?_
        refine w_istore (lv' := [(6, vi (((gI M (542) (((8 * x1) + x3).toNat)) - 16) / 8)), (5, vi (0)), (4, vi (gI M (542) (((8 * x1) + x3).toNat))), (0, vr g (530)), (1, vi (x1)), (2, vi (x2)), (3, vi (x3))]) dX11_macroName_76 (by decide) rfl ?_
        refine w_iload dX11_macroName_78 0 rfl ?_
        obtain ⟨i10, h⟩ := h
        refine w_if_le (tgt := 102) dX11_macroName_80 (by decide) i10 (fun c11 => ?_) (fun c11 => ?_)
        · replace h := h.1 c11
          refine w_iconst dX11_macroName_102 ?_
          refine w_istore (lv' := [(7, vi (0)), (6, vi (((gI M (542) (((8 * x1) + x3).toNat)) - 16) / 8)), (5, vi (0)), (4, vi (gI M (542) (((8 * x1) + x3).toNat))), (0, vr g (530)), (1, vi (x1)), (2, vi (x2)), (3, vi (x3))]) dX11_macroName_103 (by decide) rfl ?_
          refine w_iload dX11_macroName_105 0 rfl ?_
          refine w_istore (lv' := [(8, vi (0)), (7, vi (0)), (6, vi (((gI M (542) (((8 * x1) + x3).toNat)) - 16) / 8)), (5, vi (0)), (4, vi (gI M (542) (((8 * x1) + x3).toNat))), (0, vr g (530)), (1, vi (x1)), (2, vi (x2)), (3, vi (x3))]) dX11_macroName_107 (by decide) rfl ?_
          refine w_lv [5, 6, 7, 8, 3, 0] rfl ?_
          exact h
        · replace h := h.2 c11
          refine w_iload dX11_macroName_83 0 rfl ?_
          refine w_aload_n dX11_macroName_85 3 rfl ?_
          refine w_getI (ci := 11) (k := 47) dX11_macroName_86 rfl fi11 (by decide) q951 s530 rfl l530 ?_
          refine w_icmp_ge (tgt := 102) dX11_macroName_89 (by decide) i10 (hwM5.int _ _) (fun c12 => ?_) (fun c12 => ?_)
          · replace h := h.1 c12
            refine w_iconst dX11_macroName_102 ?_
            refine w_istore (lv' := [(7, vi (0)), (6, vi (((gI M (542) (((8 * x1) + x3).toNat)) - 16) / 8)), (5, vi (0)), (4, vi (gI M (542) (((8 * x1) + x3).toNat))), (0, vr g (530)), (1, vi (x1)), (2, vi (x2)), (3, vi (x3))]) dX11_macroName_103 (by decide) rfl ?_
            refine w_iload dX11_macroName_105 0 rfl ?_
            refine w_istore (lv' := [(8, vi (0)), (7, vi (0)), (6, vi (((gI M (542) (((8 * x1) + x3).toNat)) - 16) / 8)), (5, vi (0)), (4, vi (gI M (542) (((8 * x1) + x3).toNat))), (0, vr g (530)), (1, vi (x1)), (2, vi (x2)), (3, vi (x3))]) dX11_macroName_107 (by decide) rfl ?_
            refine w_lv [5, 6, 7, 8, 3, 0] rfl ?_
            exact h
          · replace h := h.2 c12
            refine w_aload_n dX11_macroName_92 3 rfl ?_
            refine w_getI (ci := 11) (k := 47) dX11_macroName_93 rfl fi11 (by decide) q951 s530 rfl l530 ?_
            refine w_iload dX11_macroName_96 0 rfl ?_
            refine w_isub dX11_macroName_98 ?_
            refine w_goto (tgt := 103) dX11_macroName_99 (by decide) ?_
            refine w_istore (lv' := [(7, vi ((gI M5 (530) (47)) - (((gI M (542) (((8 * x1) + x3).toNat)) - 16) / 8))), (6, vi (((gI M (542) (((8 * x1) + x3).toNat)) - 16) / 8)), (5, vi (0)), (4, vi (gI M (542) (((8 * x1) + x3).toNat))), (0, vr g (530)), (1, vi (x1)), (2, vi (x2)), (3, vi (x3))]) dX11_macroName_103 (by decide) rfl ?_
            refine w_iload dX11_macroName_105 0 rfl ?_
            refine w_istore (lv' := [(8, vi ((gI M5 (530) (47)) - (((gI M (542) (((8 * x1) + x3).toNat)) - 16) / 8))), (7, vi ((gI M5 (530) (47)) - (((gI M (542) (((8 * x1) + x3).toNat)) - 16) / 8))), (6, vi (((gI M (542) (((8 * x1) + x3).toNat)) - 16) / 8)), (5, vi (0)), (4, vi (gI M (542) (((8 * x1) + x3).toNat))), (0, vr g (530)), (1, vi (x1)), (2, vi (x2)), (3, vi (x3))]) dX11_macroName_107 (by decide) rfl ?_
            refine w_lv [5, 6, 7, 8, 3, 0] rfl ?_
            exact h
    · replace h := h.2 c6
      refine w_iload dX11_macroName_40 0 rfl ?_
      refine w_iconst dX11_macroName_42 ?_
      obtain ⟨i13, h⟩ := h
      refine w_idiv dX11_macroName_43 (hw.int _ _) ⟨by decide, by decide⟩ i13 (by decide) ?_
      refine w_iconst dX11_macroName_44 ?_
      refine w_iand dX11_macroName_45 ?_
      refine w_iconst dX11_macroName_46 ?_
      refine w_icmp_ne (tgt := 54) dX11_macroName_47 (by decide) (inr_jand _ _) ⟨by decide, by decide⟩ (fun c14 => ?_) (fun c14 => ?_)
      · replace h := h.1 c14
        refine w_iconst dX11_macroName_54 ?_
        refine w_istore (lv' := [(5, vi (0)), (4, vi (gI M (542) (((8 * x1) + x3).toNat))), (0, vr g (530)), (1, vi (x1)), (2, vi (x2)), (3, vi (x3))]) dX11_macroName_55 (by decide) rfl ?_
        refine w_iload dX11_macroName_57 1 rfl ?_
        refine w_bipush dX11_macroName_59 rfl ?_
        refine w_icmp_lt (tgt := 75) dX11_macroName_61 (by decide) (hw.int _ _) ⟨by decide, by decide⟩ (fun c15 => ?_) (fun c15 => ?_)
        · replace h := h.1 c15
          refine w_iconst dX11_macroName_75 ?_
          refine w_istore (lv' := [(6, vi (0)), (5, vi (0)), (4, vi (gI M (542) (((8 * x1) + x3).toNat))), (0, vr g (530)), (1, vi (x1)), (2, vi (x2)), (3, vi (x3))]) dX11_macroName_76 (by decide) rfl ?_
          refine w_iload dX11_macroName_78 0 rfl ?_
          refine w_if_le (tgt := 102) dX11_macroName_80 (by decide) ⟨by decide, by decide⟩ (fun c => ?_) (fun c => ?_)
          · refine w_iconst dX11_macroName_102 ?_
            refine w_istore (lv' := [(7, vi (0)), (6, vi (0)), (5, vi (0)), (4, vi (gI M (542) (((8 * x1) + x3).toNat))), (0, vr g (530)), (1, vi (x1)), (2, vi (x2)), (3, vi (x3))]) dX11_macroName_103 (by decide) rfl ?_
            refine w_iload dX11_macroName_105 0 rfl ?_
            refine w_istore (lv' := [(8, vi (0)), (7, vi (0)), (6, vi (0)), (5, vi (0)), (4, vi (gI M (542) (((8 * x1) + x3).toNat))), (0, vr g (530)), (1, vi (x1)), (2, vi (x2)), (3, vi (x3))]) dX11_macroName_107 (by decide) rfl ?_
            refine w_lv [5, 6, 7, 8, 3, 0] rfl ?_
            exact h
          · exact absurd c (by decide)
        · replace h := h.2 c15
          refine w_iload dX11_macroName_64 1 rfl ?_
          refine w_bipush dX11_macroName_66 rfl ?_
          refine w_isub dX11_macroName_68 ?_
          refine w_bipush dX11_macroName_69 rfl ?_
          obtain ⟨i16, h⟩ := h
          obtain ⟨i17, h⟩ := h
          refine w_idiv dX11_macroName_71 i16 ⟨by decide, by decide⟩ i17 (by decide) ?_
          refine w_goto (tgt := 76) dX11_macroName_72 (by decide) ?_
          refine w_istore (lv' := [(6, vi (((gI M (542) (((8 * x1) + x3).toNat)) - 16) / 8)), (5, vi (0)), (4, vi (gI M (542) (((8 * x1) + x3).toNat))), (0, vr g (530)), (1, vi (x1)), (2, vi (x2)), (3, vi (x3))]) dX11_macroName_76 (by decide) rfl ?_
          refine w_iload dX11_macroName_78 0 rfl ?_
          obtain ⟨i18, h⟩ := h
          refine w_if_le (tgt := 102) dX11_macroName_80 (by decide) i18 (fun c19 => ?_) (fun c19 => ?_)
          · replace h := h.1 c19
            refine w_iconst dX11_macroName_102 ?_
            refine w_istore (lv' := [(7, vi (0)), (6, vi (((gI M (542) (((8 * x1) + x3).toNat)) - 16) / 8)), (5, vi (0)), (4, vi (gI M (542) (((8 * x1) + x3).toNat))), (0, vr g (530)), (1, vi (x1)), (2, vi (x2)), (3, vi (x3))]) dX11_macroName_103 (by decide) rfl ?_
            refine w_iload dX11_macroName_105 0 rfl ?_
            refine w_istore (lv' := [(8, vi (0)), (7, vi (0)), (6, vi (((gI M (542) (((8 * x1) + x3).toNat)) - 16) / 8)), (5, vi (0)), (4, vi (gI M (542) (((8 * x1) + x3).toNat))), (0, vr g (530)), (1, vi (x1)), (2, vi (x2)), (3, vi (x3))]) dX11_macroName_107 (by decide) rfl ?_
            refine w_lv [5, 6, 7, 8, 3, 0] rfl ?_
            exact h
          · replace h := h.2 c19
            refine w_iload dX11_macroName_83 0 rfl ?_
            refine w_aload_n dX11_macroName_85 3 rfl ?_
            refine w_getI (ci := 11) (k := 47) dX11_macroName_86 rfl fi11 (by decide) q951 s530 rfl l530 ?_
            refine w_icmp_ge (tgt := 102) dX11_macroName_89 (by decide) i18 (hwM5.int _ _) (fun c20 => ?_) (fun c20 => ?_)
            · replace h := h.1 c20
              refine w_iconst dX11_macroName_102 ?_
              refine w_istore (lv' := [(7, vi (0)), (6, vi (((gI M (542) (((8 * x1) + x3).toNat)) - 16) / 8)), (5, vi (0)), (4, vi (gI M (542) (((8 * x1) + x3).toNat))), (0, vr g (530)), (1, vi (x1)), (2, vi (x2)), (3, vi (x3))]) dX11_macroName_103 (by decide) rfl ?_
              refine w_iload dX11_macroName_105 0 rfl ?_
              refine w_istore (lv' := [(8, vi (0)), (7, vi (0)), (6, vi (((gI M (542) (((8 * x1) + x3).toNat)) - 16) / 8)), (5, vi (0)), (4, vi (gI M (542) (((8 * x1) + x3).toNat))), (0, vr g (530)), (1, vi (x1)), (2, vi (x2)), (3, vi (x3))]) dX11_macroName_107 (by decide) rfl ?_
              refine w_lv [5, 6, 7, 8, 3, 0] rfl ?_
              exact h
            · replace h := h.2 c20
              refine w_aload_n dX11_macroName_92 3 rfl ?_
              refine w_getI (ci := 11) (k := 47) dX11_macroName_93 rfl fi11 (by decide) q951 s530 rfl l530 ?_
              refine w_iload dX11_macroName_96 0 rfl ?_
              refine w_isub dX11_macroName_98 ?_
              refine w_goto (tgt := 103) dX11_macroName_99 (by decide) ?_
              refine w_istore (lv' := [(7, vi ((gI M5 (530) (47)) - (((gI M (542) (((8 * x1) + x3).toNat)) - 16) / 8))), (6, vi (((gI M (542) (((8 * x1) + x3).toNat)) - 16) / 8)), (5, vi (0)), (4, vi (gI M (542) (((8 * x1) + x3).toNat))), (0, vr g (530)), (1, vi (x1)), (2, vi (x2)), (3, vi (x3))]) dX11_macroName_103 (by decide) rfl ?_
              refine w_iload dX11_macroName_105 0 rfl ?_
              refine w_istore (lv' := [(8, vi ((gI M5 (530) (47)) - (((gI M (542) (((8 * x1) + x3).toNat)) - 16) / 8))), (7, vi ((gI M5 (530) (47)) - (((gI M (542) (((8 * x1) + x3).toNat)) - 16) / 8))), (6, vi (((gI M (542) (((8 * x1) + x3).toNat)) - 16) / 8)), (5, vi (0)), (4, vi (gI M (542) (((8 * x1) + x3).toNat))), (0, vr g (530)), (1, vi (x1)), (2, vi (x2)), (3, vi (x3))]) dX11_macroName_107 (by decide) rfl ?_
              refine w_lv [5, 6, 7, 8, 3, 0] rfl ?_
              exact h
      · replace h := h.2 c14
        refine w_iconst dX11_macroName_50 ?_
        refine w_goto (tgt := 55) dX11_macroName_51 (by decide) ?_
        refine w_istore (lv' := [(5, vi (1)), (4, vi (gI M (542) (((8 * x1) + x3).toNat))), (0, vr g (530)), (1, vi (x1)), (2, vi (x2)), (3, vi (x3))]) dX11_macroName_55 (by decide) rfl ?_
        refine w_iload dX11_macroName_57 1 rfl ?_
        refine w_bipush dX11_macroName_59 rfl ?_
        refine w_icmp_lt (tgt := 75) dX11_macroName_61 (by decide) (hw.int _ _) ⟨by decide, by decide⟩ (fun c21 => ?_) (fun c21 => ?_)
        · replace h := h.1 c21
          refine w_iconst dX11_macroName_75 ?_
          refine w_istore (lv' := [(6, vi (0)), (5, vi (1)), (4, vi (gI M (542) (((8 * x1) + x3).toNat))), (0, vr g (530)), (1, vi (x1)), (2, vi (x2)), (3, vi (x3))]) dX11_macroName_76 (by decide) rfl ?_
          refine w_iload dX11_macroName_78 0 rfl ?_
          refine w_if_le (tgt := 102) dX11_macroName_80 (by decide) ⟨by decide, by decide⟩ (fun c => ?_) (fun c => ?_)
          · refine w_iconst dX11_macroName_102 ?_
            refine w_istore (lv' := [(7, vi (0)), (6, vi (0)), (5, vi (1)), (4, vi (gI M (542) (((8 * x1) + x3).toNat))), (0, vr g (530)), (1, vi (x1)), (2, vi (x2)), (3, vi (x3))]) dX11_macroName_103 (by decide) rfl ?_
            refine w_iload dX11_macroName_105 0 rfl ?_
            refine w_istore (lv' := [(8, vi (0)), (7, vi (0)), (6, vi (0)), (5, vi (1)), (4, vi (gI M (542) (((8 * x1) + x3).toNat))), (0, vr g (530)), (1, vi (x1)), (2, vi (x2)), (3, vi (x3))]) dX11_macroName_107 (by decide) rfl ?_
            refine w_lv [5, 6, 7, 8, 3, 0] rfl ?_
            exact h
          · exact absurd c (by decide)
        · replace h := h.2 c21
          refine w_iload dX11_macroName_64 1 rfl ?_
          refine w_bipush dX11_macroName_66 rfl ?_
          refine w_isub dX11_macroName_68 ?_
          refine w_bipush dX11_macroName_69 rfl ?_
          obtain ⟨i22, h⟩ := h
          obtain ⟨i23, h⟩ := h
          refine w_idiv dX11_macroName_71 i22 ⟨by decide, by decide⟩ i23 (by decide) ?_
          refine w_goto (tgt := 76) dX11_macroName_72 (by decide) ?_
          refine w_istore (lv' := [(6, vi (((gI M (542) (((8 * x1) + x3).toNat)) - 16) / 8)), (5, vi (1)), (4, vi (gI M (542) (((8 * x1) + x3).toNat))), (0, vr g (530)), (1, vi (x1)), (2, vi (x2)), (3, vi (x3))]) dX11_macroName_76 (by decide) rfl ?_
          refine w_iload dX11_macroName_78 0 rfl ?_
          obtain ⟨i24, h⟩ := h
          refine w_if_le (tgt := 102) dX11_macroName_80 (by decide) i24 (fun c25 => ?_) (fun c25 => ?_)
          · replace h := h.1 c25
            refine w_iconst dX11_macroName_102 ?_
            refine w_istore (lv' := [(7, vi (0)), (6, vi (((gI M (542) (((8 * x1) + x3).toNat)) - 16) / 8)), (5, vi (1)), (4, vi (gI M (542) (((8 * x1) + x3).toNat))), (0, vr g (530)), (1, vi (x1)), (2, vi (x2)), (3, vi (x3))]) dX11_macroName_103 (by decide) rfl ?_
            refine w_iload dX11_macroName_105 0 rfl ?_
            refine w_istore (lv' := [(8, vi (0)), (7, vi (0)), (6, vi (((gI M (542) (((8 * x1) + x3).toNat)) - 16) / 8)), (5, vi (1)), (4, vi (gI M (542) (((8 * x1) + x3).toNat))), (0, vr g (530)), (1, vi (x1)), (2, vi (x2)), (3, vi (x3))]) dX11_macroName_107 (by decide) rfl ?_
            refine w_lv [5, 6, 7, 8, 3, 0] rfl ?_
            exact h
          · replace h := h.2 c25
            refine w_iload dX11_macroName_83 0 rfl ?_
            refine w_aload_n dX11_macroName_85 3 rfl ?_
            refine w_getI (ci := 11) (k := 47) dX11_macroName_86 rfl fi11 (by decide) q951 s530 rfl l530 ?_
            refine w_icmp_ge (tgt := 102) dX11_macroName_89 (by decide) i24 (hwM5.int _ _) (fun c26 => ?_) (fun c26 => ?_)
            · replace h := h.1 c26
              refine w_iconst dX11_macroName_102 ?_
              refine w_istore (lv' := [(7, vi (0)), (6, vi (((gI M (542) (((8 * x1) + x3).toNat)) - 16) / 8)), (5, vi (1)), (4, vi (gI M (542) (((8 * x1) + x3).toNat))), (0, vr g (530)), (1, vi (x1)), (2, vi (x2)), (3, vi (x3))]) dX11_macroName_103 (by decide) rfl ?_
              refine w_iload dX11_macroName_105 0 rfl ?_
              refine w_istore (lv' := [(8, vi (0)), (7, vi (0)), (6, vi (((gI M (542) (((8 * x1) + x3).toNat)) - 16) / 8)), (5, vi (1)), (4, vi (gI M (542) (((8 * x1) + x3).toNat))), (0, vr g (530)), (1, vi (x1)), (2, vi (x2)), (3, vi (x3))]) dX11_macroName_107 (by decide) rfl ?_
              refine w_lv [5, 6, 7, 8, 3, 0] rfl ?_
              exact h
            · replace h := h.2 c26
              refine w_aload_n dX11_macroName_92 3 rfl ?_
              refine w_getI (ci := 11) (k := 47) dX11_macroName_93 rfl fi11 (by decide) q951 s530 rfl l530 ?_
              refine w_iload dX11_macroName_96 0 rfl ?_
              refine w_isub dX11_macroName_98 ?_
              refine w_goto (tgt := 103) dX11_macroName_99 (by decide) ?_
              refine w_istore (lv' := [(7, vi ((gI M5 (530) (47)) - (((gI M (542) (((8 * x1) + x3).toNat)) - 16) / 8))), (6, vi (((gI M (542) (((8 * x1) + x3).toNat)) - 16) / 8)), (5, vi (1)), (4, vi (gI M (542) (((8 * x1) + x3).toNat))), (0, vr g (530)), (1, vi (x1)), (2, vi (x2)), (3, vi (x3))]) dX11_macroName_103 (by decide) rfl ?_
              refine w_iload dX11_macroName_105 0 rfl ?_
              refine w_istore (lv' := [(8, vi ((gI M5 (530) (47)) - (((gI M (542) (((8 * x1) + x3).toNat)) - 16) / 8))), (7, vi ((gI M5 (530) (47)) - (((gI M (542) (((8 * x1) + x3).toNat)) - 16) / 8))), (6, vi (((gI M (542) (((8 * x1) + x3).toNat)) - 16) / 8)), (5, vi (1)), (4, vi (gI M (542) (((8 * x1) + x3).toNat))), (0, vr g (530)), (1, vi (x1)), (2, vi (x2)), (3, vi (x3))]) dX11_macroName_107 (by decide) rfl ?_
              refine w_lv [5, 6, 7, 8, 3, 0] rfl ?_
              exact h
set_option maxHeartbeats 4000000 in
set_option maxRecDepth 100000 in
theorem b_Mo_macroName_109 {g : Ctx} {x1 : Int} {x2 : Int} {x3 : Int} {x5 : Int} {x8 : Int} {M : Mem} {Q : Int → Mem → Prop} (hx1 : InR x1) (hx2 : InR x2) (hx3 : InR x3) (hx5 : InR x5) (hx8 : InR x8) (h : ((((gI M (530) (47)) ≤ x8) → P_Mo_macroName g 4 [(0, vr g (530)), (1, vi (x1)), (2, vi (x2)), (3, vi (x3 + 1))] [] M Q) ∧ ((¬ ((gI M (530) (47)) ≤ x8)) → (((x5 = 0) → (0 ≤ x8 ∧ x8 < 7) ∧ K_Mo_longer g x2 (gI M (562) (x8.toNat)) M (fun r4 M5 => InR r4 → WT M5 → P_Mo_macroName g 109 [(0, vr g (530)), (1, vi (x1)), (2, vi (r4)), (3, vi (x3)), (5, vi (x5)), (8, vi (x8 + 1))] [] M5 Q)) ∧ ((¬ (x5 = 0)) → (0 ≤ (((gI M (530) (47)) - 1) - x8) ∧ (((gI M (530) (47)) - 1) - x8) < 7) ∧ K_Mo_longer g x2 (gI M (562) ((((gI M (530) (47)) - 1) - x8).toNat)) M (fun r7 M8 => InR r7 → WT M8 → P_Mo_macroName g 109 [(0, vr g (530)), (1, vi (x1)), (2, vi (r7)), (3, vi (x3)), (5, vi (x5)), (8, vi (x8 + 1))] [] M8 Q)))))) : P_Mo_macroName g 109 [(0, vr g (530)), (1, vi (x1)), (2, vi (x2)), (3, vi (x3)), (5, vi (x5)), (8, vi (x8))] [] M Q := by
  refine w_wt (fun hw => ?_)
  refine w_iload dX11_macroName_109 5 rfl ?_
  refine w_aload_n dX11_macroName_111 0 rfl ?_
  refine w_getI (ci := 11) (k := 47) dX11_macroName_112 rfl fi11 (by decide) q951 s530 rfl l530 ?_
  refine w_icmp_ge (tgt := 153) dX11_macroName_115 (by decide) hx8 (hw.int _ _) (fun c1 => ?_) (fun c1 => ?_)
  · replace h := h.1 c1
    refine w_iinc (lv' := [(3, vi (x3 + 1)), (0, vr g (530)), (1, vi (x1)), (2, vi (x2)), (5, vi (x5)), (8, vi (x8))]) dX11_macroName_153 3 rfl (by decide) rfl ?_
    refine w_goto (tgt := 4) dX11_macroName_156 (by decide) ?_
    refine w_lv [1, 2, 3, 0] rfl ?_
    exact h
  · replace h := h.2 c1
    refine w_iload_n dX11_macroName_118 2 rfl ?_
    refine w_aload_n dX11_macroName_119 0 rfl ?_
    refine w_getS (ci := 11) (k := 46) dX11_macroName_120 rfl fi11 (by decide) q950 s530 rfl l530 ?_
    refine w_iload dX11_macroName_123 4 rfl ?_
    refine w_if_eq (tgt := 140) dX11_macroName_125 (by decide) hx5 (fun c2 => ?_) (fun c2 => ?_)
    · replace h := h.1 c2
      refine w_iload dX11_macroName_140 5 rfl ?_
      obtain ⟨i3, h⟩ := h
      refine w_iald dX11_macroName_142 s562 l562 (by decide) i3.1 i3.2 ?_
      refine c_Mo_longer dX11_macroName_143 q854 (by decide) (Nat.le_of_ble_eq_true rfl) h (fun r4 M5 h hr4 hwM5 => ?_)
      replace h := h hr4 hwM5
      refine w_istore_n (lv' := [(2, vi (r4)), (0, vr g (530)), (1, vi (x1)), (3, vi (x3)), (5, vi (x5)), (8, vi (x8))]) (i := 2) dX11_macroName_146 rfl (by decide) rfl ?_
      refine w_iinc (lv' := [(8, vi (x8 + 1)), (2, vi (r4)), (0, vr g (530)), (1, vi (x1)), (3, vi (x3)), (5, vi (x5))]) dX11_macroName_147 5 rfl (by decide) rfl ?_
      refine w_goto (tgt := 109) dX11_macroName_150 (by decide) ?_
      refine w_lv [2, 3, 1, 4, 5, 0] rfl ?_
      exact h
    · replace h := h.2 c2
      refine w_aload_n dX11_macroName_128 0 rfl ?_
      refine w_getI (ci := 11) (k := 47) dX11_macroName_129 rfl fi11 (by decide) q951 s530 rfl l530 ?_
      refine w_iconst dX11_macroName_132 ?_
      refine w_isub dX11_macroName_133 ?_
      refine w_iload dX11_macroName_134 5 rfl ?_
      refine w_isub dX11_macroName_136 ?_
      refine w_goto (tgt := 142) dX11_macroName_137 (by decide) ?_
      obtain ⟨i6, h⟩ := h
      refine w_iald dX11_macroName_142 s562 l562 (by decide) i6.1 i6.2 ?_
      refine c_Mo_longer dX11_macroName_143 q854 (by decide) (Nat.le_of_ble_eq_true rfl) h (fun r7 M8 h hr7 hwM8 => ?_)
      replace h := h hr7 hwM8
      refine w_istore_n (lv' := [(2, vi (r7)), (0, vr g (530)), (1, vi (x1)), (3, vi (x3)), (5, vi (x5)), (8, vi (x8))]) (i := 2) dX11_macroName_146 rfl (by decide) rfl ?_
      refine w_iinc (lv' := [(8, vi (x8 + 1)), (2, vi (r7)), (0, vr g (530)), (1, vi (x1)), (3, vi (x3)), (5, vi (x5))]) dX11_macroName_147 5 rfl (by decide) rfl ?_
      refine w_goto (tgt := 109) dX11_macroName_150 (by decide) ?_
      refine w_lv [2, 3, 1, 4, 5, 0] rfl ?_
      exact h
set_option maxHeartbeats 4000000 in
set_option maxRecDepth 100000 in
theorem b_Mo_spellsPart_0 {g : Ctx} {p0 : Int} {M : Mem} {Q : Mem → Prop} (hp0 : InR p0) (h : (0 ≤ p0) ∧ (((16 ≤ p0) → (InR (p0 % 4)) ∧ (((2 ≤ (p0 % 4)) → (((¬ (p0 % 4) = 2) → Q (sI (sI M (530) (47) (1)) (562) (0) (gI M (530) (38)))) ∧ (((p0 % 4) = 2) → P_Mo_spellsPart g 76 [(0, vr g (530)), (3, vi (0))] [] (sI M (530) (47) (4)) Q))) ∧ ((¬ (2 ≤ (p0 % 4))) → (((¬ (p0 % 4) = 0) → (0 ≤ (gI M (530) (36)) ∧ (gI M (530) (36)) < 12) ∧ K_Mo_spells g (gI M (532) ((gI M (530) (36)).toNat)) M (fun M13 => WT M13 → Q M13)) ∧ (((p0 % 4) = 0) → (0 ≤ ((gI M (530) (45)) - 1) ∧ ((gI M (530) (45)) - 1) < 12) ∧ (0 ≤ (gI M (560) (((gI M (530) (45)) - 1).toNat)) ∧ (gI M (560) (((gI M (530) (45)) - 1).toNat)) < 12) ∧ K_Mo_spells g (gI M (532) ((gI M (560) (((gI M (530) (45)) - 1).toNat)).toNat)) M (fun M17 => WT M17 → Q M17)))))) ∧ ((¬ (16 ≤ p0)) → Q (sI (sI M (530) (47) (1)) (562) (0) (p0))))) : P_Mo_spellsPart g 0 [(0, vr g (530)), (1, vi (p0))] [] M Q := by
  refine w_wt (fun hw => ?_)
  refine w_iload_n dX11_spellsPart_0 1 rfl ?_
  refine w_iconst dX11_spellsPart_1 ?_
  obtain ⟨i1, h⟩ := h
  refine w_irem dX11_spellsPart_2 hp0 ⟨by decide, by decide⟩ i1 (by decide) ?_
  refine w_istore_n (lv' := [(2, vi (p0 % 4)), (0, vr g (530)), (1, vi (p0))]) (i := 2) dX11_spellsPart_3 rfl (by decide) rfl ?_
  refine w_iload_n dX11_spellsPart_4 2 rfl ?_
  refine w_bipush dX11_spellsPart_5 rfl ?_
  refine w_icmp_ge (tgt := 25) dX11_spellsPart_7 (by decide) hp0 ⟨by decide, by decide⟩ (fun c2 => ?_) (fun c2 => ?_)
  · replace h := h.1 c2
    refine w_iload_n dX11_spellsPart_25 0 rfl ?_
    refine w_iconst dX11_spellsPart_26 ?_
    obtain ⟨i3, h⟩ := h
    refine w_icmp_ge (tgt := 64) dX11_spellsPart_27 (by decide) i3 ⟨by decide, by decide⟩ (fun c4 => ?_) (fun c4 => ?_)
    · replace h := h.1 c4
      refine w_iload_n dX11_spellsPart_64 0 rfl ?_
      refine w_iconst dX11_spellsPart_65 ?_
      refine w_icmp_ne (tgt := 109) dX11_spellsPart_66 (by decide) i3 ⟨by decide, by decide⟩ (fun c5 => ?_) (fun c5 => ?_)
      · replace h := h.1 c5
        refine w_aload_n dX11_spellsPart_109 1 rfl ?_
        refine w_iconst dX11_spellsPart_110 ?_
        refine w_putI (ci := 11) (k := 47) dX11_spellsPart_111 rfl fi11 (by decide) q951 tyX11 tyX11_ok nmX11 rfl rfl rfl ⟨by decide, by decide⟩ s530 rfl l530 ?_
        have hw6 : WT (sI M (530) (47) (1)) := hw.sI ⟨by decide, by decide⟩
        refine w_aload_n dX11_spellsPart_114 1 rfl ?_
        refine w_getS (ci := 11) (k := 46) dX11_spellsPart_115 rfl fi11 (by decide) q950 s530 rfl l530 ?_
        refine w_iconst dX11_spellsPart_118 ?_
        refine w_aload_n dX11_spellsPart_119 1 rfl ?_
        refine w_getI (ci := 11) (k := 38) dX11_spellsPart_120 rfl fi11 (by decide) q942 s530 rfl l530 ?_
        refine w_top (congrArg vi ((gI_ne _ _ _ _ _ _ (by omega)).trans rfl)) ?_
        have u7 : InR (gI M (530) (38)) := hw.int _ _
        refine w_iast dX11_spellsPart_123 s562 l562 (by decide) (by decide) (by decide) u7 ?_
        have hw8 : WT (sI (sI M (530) (47) (1)) (562) (0) (gI M (530) (38))) := hw6.sI u7
        exact w_vret dX11_spellsPart_124 ⟨rfl, h⟩
      · replace h := h.2 c5
        refine w_aload_n dX11_spellsPart_69 1 rfl ?_
        refine w_iconst dX11_spellsPart_70 ?_
        refine w_putI (ci := 11) (k := 47) dX11_spellsPart_71 rfl fi11 (by decide) q951 tyX11 tyX11_ok nmX11 rfl rfl rfl ⟨by decide, by decide⟩ s530 rfl l530 ?_
        have hw9 : WT (sI M (530) (47) (4)) := hw.sI ⟨by decide, by decide⟩
        refine w_iconst dX11_spellsPart_74 ?_
        refine w_istore_n (lv' := [(3, vi (0)), (2, vi (p0 % 4)), (0, vr g (530)), (1, vi (p0))]) (i := 3) dX11_spellsPart_75 rfl (by decide) rfl ?_
        refine w_lv [2, 0] rfl ?_
        exact h
    · replace h := h.2 c4
      refine w_aload_n dX11_spellsPart_30 1 rfl ?_
      refine w_aload_n dX11_spellsPart_31 1 rfl ?_
      refine w_getS (ci := 11) (k := 3) dX11_spellsPart_32 rfl fi11 (by decide) q907 s530 rfl l530 ?_
      refine w_iload_n dX11_spellsPart_35 0 rfl ?_
      refine w_if_ne (tgt := 53) dX11_spellsPart_36 (by decide) i3 (fun c10 => ?_) (fun c10 => ?_)
      · replace h := h.1 c10
        refine w_aload_n dX11_spellsPart_53 1 rfl ?_
        refine w_getI (ci := 11) (k := 36) dX11_spellsPart_54 rfl fi11 (by decide) q940 s530 rfl l530 ?_
        obtain ⟨i11, h⟩ := h
        refine w_iald dX11_spellsPart_57 s532 l532 (by decide) i11.1 i11.2 ?_
        refine c_Mo_spells dX11_spellsPart_58 q1107 (by decide) (Nat.le_of_ble_eq_true rfl) h (fun M13 h hwM13 => ?_)
        replace h := h hwM13
        refine w_goto (tgt := 124) dX11_spellsPart_61 (by decide) ?_
        exact w_vret dX11_spellsPart_124 ⟨rfl, h⟩
      · replace h := h.2 c10
        refine w_aload_n dX11_spellsPart_39 1 rfl ?_
        refine w_getS (ci := 11) (k := 43) dX11_spellsPart_40 rfl fi11 (by decide) q947 s530 rfl l530 ?_
        refine w_aload_n dX11_spellsPart_43 1 rfl ?_
        refine w_getI (ci := 11) (k := 45) dX11_spellsPart_44 rfl fi11 (by decide) q949 s530 rfl l530 ?_
        refine w_iconst dX11_spellsPart_47 ?_
        refine w_isub dX11_spellsPart_48 ?_
        obtain ⟨i14, h⟩ := h
        refine w_iald dX11_spellsPart_49 s560 l560 (by decide) i14.1 i14.2 ?_
        refine w_goto (tgt := 57) dX11_spellsPart_50 (by decide) ?_
        obtain ⟨i15, h⟩ := h
        refine w_iald dX11_spellsPart_57 s532 l532 (by decide) i15.1 i15.2 ?_
        refine c_Mo_spells dX11_spellsPart_58 q1107 (by decide) (Nat.le_of_ble_eq_true rfl) h (fun M17 h hwM17 => ?_)
        replace h := h hwM17
        refine w_goto (tgt := 124) dX11_spellsPart_61 (by decide) ?_
        exact w_vret dX11_spellsPart_124 ⟨rfl, h⟩
  · replace h := h.2 c2
    refine w_aload_n dX11_spellsPart_10 1 rfl ?_
    refine w_iconst dX11_spellsPart_11 ?_
    refine w_putI (ci := 11) (k := 47) dX11_spellsPart_12 rfl fi11 (by decide) q951 tyX11 tyX11_ok nmX11 rfl rfl rfl ⟨by decide, by decide⟩ s530 rfl l530 ?_
    have hw18 : WT (sI M (530) (47) (1)) := hw.sI ⟨by decide, by decide⟩
    refine w_aload_n dX11_spellsPart_15 1 rfl ?_
    refine w_getS (ci := 11) (k := 46) dX11_spellsPart_16 rfl fi11 (by decide) q950 s530 rfl l530 ?_
    refine w_iconst dX11_spellsPart_19 ?_
    refine w_iload_n dX11_spellsPart_20 2 rfl ?_
    refine w_iast dX11_spellsPart_21 s562 l562 (by decide) (by decide) (by decide) hp0 ?_
    have hw19 : WT (sI (sI M (530) (47) (1)) (562) (0) (p0)) := hw18.sI hp0
    refine w_goto (tgt := 124) dX11_spellsPart_22 (by decide) ?_
    exact w_vret dX11_spellsPart_124 ⟨rfl, h⟩
set_option maxHeartbeats 4000000 in
set_option maxRecDepth 100000 in
theorem b_Mo_spellsPart_76 {g : Ctx} {x3 : Int} {M : Mem} {Q : Mem → Prop} (hx3 : InR x3) (h : (((4 ≤ x3) → Q M) ∧ ((¬ (4 ≤ x3)) → (0 ≤ x3 ∧ x3 < 7) ∧ P_Mo_spellsPart g 76 [(0, vr g (530)), (3, vi (x3 + 1))] [] (sI M (562) (x3.toNat) (jand (jshr (gI M (530) (37)) (6 - (2 * x3))) 3)) Q))) : P_Mo_spellsPart g 76 [(0, vr g (530)), (3, vi (x3))] [] M Q := by
  refine w_wt (fun hw => ?_)
  refine w_iload_n dX11_spellsPart_76 1 rfl ?_
  refine w_iconst dX11_spellsPart_77 ?_
  refine w_icmp_ge (tgt := 106) dX11_spellsPart_78 (by decide) hx3 ⟨by decide, by decide⟩ (fun c1 => ?_) (fun c1 => ?_)
  · replace h := h.1 c1
    refine w_goto (tgt := 124) dX11_spellsPart_106 (by decide) ?_
    exact w_vret dX11_spellsPart_124 ⟨rfl, h⟩
  · replace h := h.2 c1
    refine w_aload_n dX11_spellsPart_81 0 rfl ?_
    refine w_getS (ci := 11) (k := 46) dX11_spellsPart_82 rfl fi11 (by decide) q950 s530 rfl l530 ?_
    refine w_iload_n dX11_spellsPart_85 1 rfl ?_
    refine w_aload_n dX11_spellsPart_86 0 rfl ?_
    refine w_getI (ci := 11) (k := 37) dX11_spellsPart_87 rfl fi11 (by decide) q941 s530 rfl l530 ?_
    refine w_bipush dX11_spellsPart_90 rfl ?_
    refine w_iconst dX11_spellsPart_92 ?_
    refine w_iload_n dX11_spellsPart_93 1 rfl ?_
    refine w_imul dX11_spellsPart_94 ?_
    refine w_isub dX11_spellsPart_95 ?_
    refine w_ishr dX11_spellsPart_96 ?_
    refine w_iconst dX11_spellsPart_97 ?_
    refine w_iand dX11_spellsPart_98 ?_
    obtain ⟨i2, h⟩ := h
    refine w_iast dX11_spellsPart_99 s562 l562 (by decide) i2.1 i2.2 (inr_jand _ _) ?_
    have hw3 : WT (sI M (562) (x3.toNat) (jand (jshr (gI M (530) (37)) (6 - (2 * x3))) 3)) := hw.sI (inr_jand _ _)
    refine w_iinc (lv' := [(3, vi (x3 + 1)), (0, vr g (530))]) dX11_spellsPart_100 1 rfl (by decide) rfl ?_
    refine w_goto (tgt := 76) dX11_spellsPart_103 (by decide) ?_
    refine w_lv [1, 0] rfl ?_
    exact h
set_option maxHeartbeats 4000000 in
set_option maxRecDepth 100000 in
theorem b_Mo_spells_0 {g : Ctx} {p0 : Int} {M : Mem} {Q : Mem → Prop} (hp0 : InR p0) (h : K_Mo_lettersOf g p0 M (fun r1 M2 => InR r1 → WT M2 → P_Mo_spells g 10 [(0, vr g (530)), (1, vi (p0)), (2, vi (0))] [] (sI M2 (530) (47) (r1)) Q)) : P_Mo_spells g 0 [(0, vr g (530)), (1, vi (p0))] [] M Q := by
  refine w_wt (fun hw => ?_)
  refine w_aload_n dX11_spells_0 0 rfl ?_
  refine w_iload_n dX11_spells_1 1 rfl ?_
  refine c_Mo_lettersOf dX11_spells_2 q1111 (by decide) (Nat.le_of_ble_eq_true rfl) h (fun r1 M2 h hr1 hwM2 => ?_)
  replace h := h hr1 hwM2
  refine w_putI (ci := 11) (k := 47) dX11_spells_5 rfl fi11 (by decide) q951 tyX11 tyX11_ok nmX11 rfl rfl rfl hr1 s530 rfl l530 ?_
  have hw3 : WT (sI M2 (530) (47) (r1)) := hwM2.sI hr1
  refine w_iconst dX11_spells_8 ?_
  refine w_istore_n (lv' := [(2, vi (0)), (0, vr g (530)), (1, vi (p0))]) (i := 2) dX11_spells_9 rfl (by decide) rfl ?_
  refine w_lv [1, 2, 0] rfl ?_
  exact h
set_option maxHeartbeats 4000000 in
set_option maxRecDepth 100000 in
theorem b_Mo_spells_10 {g : Ctx} {x1 : Int} {x2 : Int} {M : Mem} {Q : Mem → Prop} (hx1 : InR x1) (hx2 : InR x2) (h : ((((gI M (530) (47)) ≤ x2) → Q M) ∧ ((¬ ((gI M (530) (47)) ≤ x2)) → K_Mo_fromLast g x1 (((gI M (530) (47)) - 1) - x2) M (fun r2 M3 => InR r2 → WT M3 → (0 ≤ x2 ∧ x2 < 7) ∧ P_Mo_spells g 10 [(0, vr g (530)), (1, vi (x1)), (2, vi (x2 + 1))] [] (sI M3 (562) (x2.toNat) (r2)) Q)))) : P_Mo_spells g 10 [(0, vr g (530)), (1, vi (x1)), (2, vi (x2))] [] M Q := by
  refine w_wt (fun hw => ?_)
  refine w_iload_n dX11_spells_10 2 rfl ?_
  refine w_aload_n dX11_spells_11 0 rfl ?_
  refine w_getI (ci := 11) (k := 47) dX11_spells_12 rfl fi11 (by decide) q951 s530 rfl l530 ?_
  refine w_icmp_ge (tgt := 42) dX11_spells_15 (by decide) hx2 (hw.int _ _) (fun c1 => ?_) (fun c1 => ?_)
  · replace h := h.1 c1
    exact w_vret dX11_spells_42 ⟨rfl, h⟩
  · replace h := h.2 c1
    refine w_aload_n dX11_spells_18 0 rfl ?_
    refine w_getS (ci := 11) (k := 46) dX11_spells_19 rfl fi11 (by decide) q950 s530 rfl l530 ?_
    refine w_iload_n dX11_spells_22 2 rfl ?_
    refine w_iload_n dX11_spells_23 1 rfl ?_
    refine w_aload_n dX11_spells_24 0 rfl ?_
    refine w_getI (ci := 11) (k := 47) dX11_spells_25 rfl fi11 (by decide) q951 s530 rfl l530 ?_
    refine w_iconst dX11_spells_28 ?_
    refine w_isub dX11_spells_29 ?_
    refine w_iload_n dX11_spells_30 2 rfl ?_
    refine w_isub dX11_spells_31 ?_
    refine c_Mo_fromLast dX11_spells_32 q1114 (by decide) (Nat.le_of_ble_eq_true rfl) h (fun r2 M3 h hr2 hwM3 => ?_)
    replace h := h hr2 hwM3
    obtain ⟨i4, h⟩ := h
    refine w_iast dX11_spells_35 s562 l562 (by decide) i4.1 i4.2 hr2 ?_
    have hw5 : WT (sI M3 (562) (x2.toNat) (r2)) := hwM3.sI hr2
    refine w_iinc (lv' := [(2, vi (x2 + 1)), (0, vr g (530)), (1, vi (x1))]) dX11_spells_36 2 rfl (by decide) rfl ?_
    refine w_goto (tgt := 10) dX11_spells_39 (by decide) ?_
    refine w_lv [1, 2, 0] rfl ?_
    exact h
set_option maxHeartbeats 4000000 in
set_option maxRecDepth 100000 in
theorem b_Mo_lettersOf_0 {g : Ctx} {p0 : Int} {M : Mem} {Q : Int → Mem → Prop} (hp0 : InR p0) (h : P_Mo_lettersOf g 5 [(0, vi (p0)), (1, vi (0)), (2, vi (24137569))] [] M Q) : P_Mo_lettersOf g 0 [(0, vi (p0))] [] M Q := by
  refine w_wt (fun hw => ?_)
  refine w_iconst dX11_lettersOf_0 ?_
  refine w_istore_n (lv' := [(1, vi (0)), (0, vi (p0))]) (i := 1) dX11_lettersOf_1 rfl (by decide) rfl ?_
  refine w_ldc (n := 24137569) dX11_lettersOf_2 q857 ?_
  refine w_istore_n (lv' := [(2, vi (24137569)), (1, vi (0)), (0, vi (p0))]) (i := 2) dX11_lettersOf_4 rfl (by decide) rfl ?_
  refine w_lv [2, 1, 0] rfl ?_
  exact h
set_option maxHeartbeats 4000000 in
set_option maxRecDepth 100000 in
theorem b_Mo_lettersOf_5 {g : Ctx} {x0 : Int} {x1 : Int} {x2 : Int} {M : Mem} {Q : Int → Mem → Prop} (hx0 : InR x0) (hx1 : InR x1) (hx2 : InR x2) (h : (((7 ≤ x1) → Q x1 M) ∧ ((¬ (7 ≤ x1)) → (0 ≤ x0) ∧ (0 < x2) ∧ (InR (x0 / x2)) ∧ (0 ≤ (x0 / x2)) ∧ (InR ((x0 / x2) % 17)) ∧ (((((x0 / x2) % 17) ≤ 0) → Q x1 M) ∧ ((¬ (((x0 / x2) % 17) ≤ 0)) → (((x2 ≤ 1) → P_Mo_lettersOf g 5 [(0, vi (x0)), (1, vi (x1 + 1)), (2, vi (1))] [] M Q) ∧ ((¬ (x2 ≤ 1)) → (0 ≤ x2) ∧ P_Mo_lettersOf g 5 [(0, vi (x0)), (1, vi (x1 + 1)), (2, vi (x2 / 17))] [] M Q))))))) : P_Mo_lettersOf g 5 [(0, vi (x0)), (1, vi (x1)), (2, vi (x2))] [] M Q := by
  refine w_wt (fun hw => ?_)
  refine w_iload_n dX11_lettersOf_5 1 rfl ?_
  refine w_bipush dX11_lettersOf_6 rfl ?_
  refine w_icmp_ge (tgt := 40) dX11_lettersOf_8 (by decide) hx1 ⟨by decide, by decide⟩ (fun c1 => ?_) (fun c1 => ?_)
  · replace h := h.1 c1
    refine w_iload_n dX11_lettersOf_40 1 rfl ?_
    exact w_iret dX11_lettersOf_41 ⟨_, rfl, hx1, h⟩
  · replace h := h.2 c1
    refine w_iload_n dX11_lettersOf_11 0 rfl ?_
    refine w_iload_n dX11_lettersOf_12 2 rfl ?_
    obtain ⟨i2, h⟩ := h
    obtain ⟨i3, h⟩ := h
    refine w_idiv dX11_lettersOf_13 hx0 hx2 i2 i3 ?_
    refine w_bipush dX11_lettersOf_14 rfl ?_
    obtain ⟨i4, h⟩ := h
    obtain ⟨i5, h⟩ := h
    refine w_irem dX11_lettersOf_16 i4 ⟨by decide, by decide⟩ i5 (by decide) ?_
    obtain ⟨i6, h⟩ := h
    refine w_if_le (tgt := 40) dX11_lettersOf_17 (by decide) i6 (fun c7 => ?_) (fun c7 => ?_)
    · replace h := h.1 c7
      refine w_iload_n dX11_lettersOf_40 1 rfl ?_
      exact w_iret dX11_lettersOf_41 ⟨_, rfl, hx1, h⟩
    · replace h := h.2 c7
      refine w_iinc (lv' := [(1, vi (x1 + 1)), (0, vi (x0)), (2, vi (x2))]) dX11_lettersOf_20 1 rfl (by decide) rfl ?_
      refine w_iload_n dX11_lettersOf_23 2 rfl ?_
      refine w_iconst dX11_lettersOf_24 ?_
      refine w_icmp_le (tgt := 35) dX11_lettersOf_25 (by decide) hx2 ⟨by decide, by decide⟩ (fun c8 => ?_) (fun c8 => ?_)
      · replace h := h.1 c8
        refine w_iconst dX11_lettersOf_35 ?_
        refine w_istore_n (lv' := [(2, vi (1)), (1, vi (x1 + 1)), (0, vi (x0))]) (i := 2) dX11_lettersOf_36 rfl (by decide) rfl ?_
        refine w_goto (tgt := 5) dX11_lettersOf_37 (by decide) ?_
        refine w_lv [2, 1, 0] rfl ?_
        exact h
      · replace h := h.2 c8
        refine w_iload_n dX11_lettersOf_28 2 rfl ?_
        refine w_bipush dX11_lettersOf_29 rfl ?_
        obtain ⟨i9, h⟩ := h
        refine w_idiv dX11_lettersOf_31 hx2 ⟨by decide, by decide⟩ i9 (by decide) ?_
        refine w_goto (tgt := 36) dX11_lettersOf_32 (by decide) ?_
        refine w_istore_n (lv' := [(2, vi (x2 / 17)), (1, vi (x1 + 1)), (0, vi (x0))]) (i := 2) dX11_lettersOf_36 rfl (by decide) rfl ?_
        refine w_goto (tgt := 5) dX11_lettersOf_37 (by decide) ?_
        refine w_lv [2, 1, 0] rfl ?_
        exact h
set_option maxHeartbeats 4000000 in
set_option maxRecDepth 100000 in
theorem b_Mo_fromLast_0 {g : Ctx} {p0 : Int} {p1 : Int} {M : Mem} {Q : Int → Mem → Prop} (hp0 : InR p0) (hp1 : InR p1) (h : P_Mo_fromLast g 5 [(0, vi (p0)), (1, vi (p1)), (2, vi (24137569)), (3, vi (0))] [] M Q) : P_Mo_fromLast g 0 [(0, vi (p0)), (1, vi (p1))] [] M Q := by
  refine w_wt (fun hw => ?_)
  refine w_ldc (n := 24137569) dX11_fromLast_0 q857 ?_
  refine w_istore_n (lv' := [(2, vi (24137569)), (0, vi (p0)), (1, vi (p1))]) (i := 2) dX11_fromLast_2 rfl (by decide) rfl ?_
  refine w_iconst dX11_fromLast_3 ?_
  refine w_istore_n (lv' := [(3, vi (0)), (2, vi (24137569)), (0, vi (p0)), (1, vi (p1))]) (i := 3) dX11_fromLast_4 rfl (by decide) rfl ?_
  refine w_lv [2, 3, 1, 0] rfl ?_
  exact h
set_option maxHeartbeats 4000000 in
set_option maxRecDepth 100000 in
theorem b_Mo_fromLast_5 {g : Ctx} {x0 : Int} {x1 : Int} {x2 : Int} {x3 : Int} {M : Mem} {Q : Int → Mem → Prop} (hx0 : InR x0) (hx1 : InR x1) (hx2 : InR x2) (hx3 : InR x3) (h : (((x1 ≤ x3) → (0 ≤ x0) ∧ (0 < x2) ∧ (InR (x0 / x2)) ∧ (0 ≤ (x0 / x2)) ∧ (InR (((x0 / x2) % 17) - 1)) ∧ Q (((x0 / x2) % 17) - 1) M) ∧ ((¬ (x1 ≤ x3)) → (0 ≤ x2) ∧ P_Mo_fromLast g 5 [(0, vi (x0)), (1, vi (x1)), (2, vi (x2 / 17)), (3, vi (x3 + 1))] [] M Q))) : P_Mo_fromLast g 5 [(0, vi (x0)), (1, vi (x1)), (2, vi (x2)), (3, vi (x3))] [] M Q := by
  refine w_wt (fun hw => ?_)
  refine w_iload_n dX11_fromLast_5 3 rfl ?_
  refine w_iload_n dX11_fromLast_6 1 rfl ?_
  refine w_icmp_ge (tgt := 21) dX11_fromLast_7 (by decide) hx3 hx1 (fun c1 => ?_) (fun c1 => ?_)
  · replace h := h.1 c1
    refine w_iload_n dX11_fromLast_21 0 rfl ?_
    refine w_iload_n dX11_fromLast_22 2 rfl ?_
    obtain ⟨i2, h⟩ := h
    obtain ⟨i3, h⟩ := h
    refine w_idiv dX11_fromLast_23 hx0 hx2 i2 i3 ?_
    refine w_bipush dX11_fromLast_24 rfl ?_
    obtain ⟨i4, h⟩ := h
    obtain ⟨i5, h⟩ := h
    refine w_irem dX11_fromLast_26 i4 ⟨by decide, by decide⟩ i5 (by decide) ?_
    refine w_iconst dX11_fromLast_27 ?_
    refine w_isub dX11_fromLast_28 ?_
    obtain ⟨i6, h⟩ := h
    exact w_iret dX11_fromLast_29 ⟨_, rfl, i6, h⟩
  · replace h := h.2 c1
    refine w_iload_n dX11_fromLast_10 2 rfl ?_
    refine w_bipush dX11_fromLast_11 rfl ?_
    obtain ⟨i7, h⟩ := h
    refine w_idiv dX11_fromLast_13 hx2 ⟨by decide, by decide⟩ i7 (by decide) ?_
    refine w_istore_n (lv' := [(2, vi (x2 / 17)), (0, vi (x0)), (1, vi (x1)), (3, vi (x3))]) (i := 2) dX11_fromLast_14 rfl (by decide) rfl ?_
    refine w_iinc (lv' := [(3, vi (x3 + 1)), (2, vi (x2 / 17)), (0, vi (x0)), (1, vi (x1))]) dX11_fromLast_15 3 rfl (by decide) rfl ?_
    refine w_goto (tgt := 5) dX11_fromLast_18 (by decide) ?_
    refine w_lv [2, 3, 1, 0] rfl ?_
    exact h
set_option maxHeartbeats 4000000 in
set_option maxRecDepth 100000 in
theorem b_Mo_hasHost_0 {g : Ctx} {p0 : Int} {p1 : Int} {M : Mem} {Q : Int → Mem → Prop} (hp0 : InR p0) (hp1 : InR p1) (h : P_Mo_hasHost g 5 [(0, vr g (530)), (1, vi (p0)), (2, vi (p1)), (3, vi (0)), (4, vi (0))] [] M Q) : P_Mo_hasHost g 0 [(0, vr g (530)), (1, vi (p0)), (2, vi (p1))] [] M Q := by
  refine w_wt (fun hw => ?_)
  refine w_iconst dX11_hasHost_0 ?_
  refine w_istore_n (lv' := [(3, vi (0)), (0, vr g (530)), (1, vi (p0)), (2, vi (p1))]) (i := 3) dX11_hasHost_1 rfl (by decide) rfl ?_
  refine w_iconst dX11_hasHost_2 ?_
  refine w_istore (lv' := [(4, vi (0)), (3, vi (0)), (0, vr g (530)), (1, vi (p0)), (2, vi (p1))]) dX11_hasHost_3 (by decide) rfl ?_
  refine w_lv [2, 3, 4, 1, 0] rfl ?_
  exact h
set_option maxHeartbeats 4000000 in
set_option maxRecDepth 100000 in
theorem b_Mo_hasHost_5 {g : Ctx} {x1 : Int} {x2 : Int} {x3 : Int} {x4 : Int} {M : Mem} {Q : Int → Mem → Prop} (hx1 : InR x1) (hx2 : InR x2) (hx3 : InR x3) (hx4 : InR x4) (h : (((x1 = (-4)) → (x3 = 0 ∨ x3 = 1) ∧ Q x3 M) ∧ ((¬ (x1 = (-4))) → (0 ≤ ((21 * x1) + 16) ∧ ((21 * x1) + 16) < 252) ∧ ((((gI M (543) (((21 * x1) + 16).toNat)) ≤ x4) → (x3 = 0 ∨ x3 = 1) ∧ Q x3 M) ∧ ((¬ ((gI M (543) (((21 * x1) + 16).toNat)) ≤ x4)) → (((¬ x3 = 0) → P_Mo_hasHost g 5 [(0, vr g (530)), (1, vi (x1)), (2, vi (x2)), (3, vi (1)), (4, vi (x4 + 1))] [] M Q) ∧ ((x3 = 0) → (0 ≤ (((21 * x1) + 17) + x4) ∧ (((21 * x1) + 17) + x4) < 252) ∧ (((¬ (gI M (543) ((((21 * x1) + 17) + x4).toNat)) = x2) → P_Mo_hasHost g 5 [(0, vr g (530)), (1, vi (x1)), (2, vi (x2)), (3, vi (0)), (4, vi (x4 + 1))] [] M Q) ∧ (((gI M (543) ((((21 * x1) + 17) + x4).toNat)) = x2) → P_Mo_hasHost g 5 [(0, vr g (530)), (1, vi (x1)), (2, vi (x2)), (3, vi (1)), (4, vi (x4 + 1))] [] M Q))))))))) : P_Mo_hasHost g 5 [(0, vr g (530)), (1, vi (x1)), (2, vi (x2)), (3, vi (x3)), (4, vi (x4))] [] M Q := by
  refine w_wt (fun hw => ?_)
  refine w_iload_n dX11_hasHost_5 1 rfl ?_
  refine w_bipush dX11_hasHost_6 rfl ?_
  refine w_icmp_eq (tgt := 63) dX11_hasHost_8 (by decide) hx1 ⟨by decide, by decide⟩ (fun c1 => ?_) (fun c1 => ?_)
  · replace h := h.1 c1
    refine w_iload_n dX11_hasHost_63 3 rfl ?_
    obtain ⟨i2, h⟩ := h
    exact w_zret dX11_hasHost_64 i2 ⟨_, rfl, i2, h⟩
  · replace h := h.2 c1
    refine w_iload dX11_hasHost_11 4 rfl ?_
    refine w_aload_n dX11_hasHost_13 0 rfl ?_
    refine w_getS (ci := 11) (k := 14) dX11_hasHost_14 rfl fi11 (by decide) q918 s530 rfl l530 ?_
    refine w_bipush dX11_hasHost_17 rfl ?_
    refine w_iload_n dX11_hasHost_19 1 rfl ?_
    refine w_imul dX11_hasHost_20 ?_
    refine w_bipush dX11_hasHost_21 rfl ?_
    refine w_iadd dX11_hasHost_23 ?_
    obtain ⟨i3, h⟩ := h
    refine w_iald dX11_hasHost_24 s543 l543 (by decide) i3.1 i3.2 ?_
    refine w_icmp_ge (tgt := 63) dX11_hasHost_25 (by decide) hx4 (hw.int _ _) (fun c4 => ?_) (fun c4 => ?_)
    · replace h := h.1 c4
      refine w_iload_n dX11_hasHost_63 3 rfl ?_
      obtain ⟨i5, h⟩ := h
      exact w_zret dX11_hasHost_64 i5 ⟨_, rfl, i5, h⟩
    · replace h := h.2 c4
      refine w_iload_n dX11_hasHost_28 3 rfl ?_
      refine w_if_ne (tgt := 51) dX11_hasHost_29 (by decide) hx3 (fun c6 => ?_) (fun c6 => ?_)
      · replace h := h.1 c6
        refine w_iconst dX11_hasHost_51 ?_
        refine w_goto (tgt := 56) dX11_hasHost_52 (by decide) ?_
        refine w_istore_n (lv' := [(3, vi (1)), (0, vr g (530)), (1, vi (x1)), (2, vi (x2)), (4, vi (x4))]) (i := 3) dX11_hasHost_56 rfl (by decide) rfl ?_
        refine w_iinc (lv' := [(4, vi (x4 + 1)), (3, vi (1)), (0, vr g (530)), (1, vi (x1)), (2, vi (x2))]) dX11_hasHost_57 4 rfl (by decide) rfl ?_
        refine w_goto (tgt := 5) dX11_hasHost_60 (by decide) ?_
        refine w_lv [2, 3, 4, 1, 0] rfl ?_
        exact h
      · replace h := h.2 c6
        refine w_aload_n dX11_hasHost_32 0 rfl ?_
        refine w_getS (ci := 11) (k := 14) dX11_hasHost_33 rfl fi11 (by decide) q918 s530 rfl l530 ?_
        refine w_bipush dX11_hasHost_36 rfl ?_
        refine w_iload_n dX11_hasHost_38 1 rfl ?_
        refine w_imul dX11_hasHost_39 ?_
        refine w_bipush dX11_hasHost_40 rfl ?_
        refine w_iadd dX11_hasHost_42 ?_
        refine w_iload dX11_hasHost_43 4 rfl ?_
        refine w_iadd dX11_hasHost_45 ?_
        obtain ⟨i7, h⟩ := h
        refine w_iald dX11_hasHost_46 s543 l543 (by decide) i7.1 i7.2 ?_
        refine w_iload_n dX11_hasHost_47 2 rfl ?_
        refine w_icmp_ne (tgt := 55) dX11_hasHost_48 (by decide) (hw.int _ _) hx2 (fun c8 => ?_) (fun c8 => ?_)
        · replace h := h.1 c8
          refine w_iconst dX11_hasHost_55 ?_
          refine w_istore_n (lv' := [(3, vi (0)), (0, vr g (530)), (1, vi (x1)), (2, vi (x2)), (4, vi (x4))]) (i := 3) dX11_hasHost_56 rfl (by decide) rfl ?_
          refine w_iinc (lv' := [(4, vi (x4 + 1)), (3, vi (0)), (0, vr g (530)), (1, vi (x1)), (2, vi (x2))]) dX11_hasHost_57 4 rfl (by decide) rfl ?_
          refine w_goto (tgt := 5) dX11_hasHost_60 (by decide) ?_
          refine w_lv [2, 3, 4, 1, 0] rfl ?_
          exact h
        · replace h := h.2 c8
          refine w_iconst dX11_hasHost_51 ?_
          refine w_goto (tgt := 56) dX11_hasHost_52 (by decide) ?_
          refine w_istore_n (lv' := [(3, vi (1)), (0, vr g (530)), (1, vi (x1)), (2, vi (x2)), (4, vi (x4))]) (i := 3) dX11_hasHost_56 rfl (by decide) rfl ?_
          refine w_iinc (lv' := [(4, vi (x4 + 1)), (3, vi (1)), (0, vr g (530)), (1, vi (x1)), (2, vi (x2))]) dX11_hasHost_57 4 rfl (by decide) rfl ?_
          refine w_goto (tgt := 5) dX11_hasHost_60 (by decide) ?_
          refine w_lv [2, 3, 4, 1, 0] rfl ?_
          exact h
set_option maxHeartbeats 4000000 in
set_option maxRecDepth 100000 in
theorem b_Mo_isEmpty_0 {g : Ctx}  {M : Mem} {Q : Int → Mem → Prop}  (h : (InR ((gI M (530) (40)) + 1)) ∧ (((3 ≤ ((gI M (530) (40)) + 1)) → Q 0 (sI M (530) (40) ((gI M (530) (40)) + 1))) ∧ ((¬ (3 ≤ ((gI M (530) (40)) + 1))) → Q 1 (sI M (530) (40) ((gI M (530) (40)) + 1))))) : P_Mo_isEmpty g 0 [(0, vr g (530))] [] M Q := by
  refine w_wt (fun hw => ?_)
  refine w_aload_n dX11_isEmpty_0 0 rfl ?_
  refine w_dup dX11_isEmpty_1 rfl ?_
  refine w_getI (ci := 11) (k := 40) dX11_isEmpty_2 rfl fi11 (by decide) q944 s530 rfl l530 ?_
  refine w_iconst dX11_isEmpty_5 ?_
  refine w_iadd dX11_isEmpty_6 ?_
  obtain ⟨i1, h⟩ := h
  refine w_putI (ci := 11) (k := 40) dX11_isEmpty_7 rfl fi11 (by decide) q944 tyX11 tyX11_ok nmX11 rfl rfl rfl i1 s530 rfl l530 ?_
  have hw2 : WT (sI M (530) (40) ((gI M (530) (40)) + 1)) := hw.sI i1
  refine w_aload_n dX11_isEmpty_10 0 rfl ?_
  refine w_getI (ci := 11) (k := 40) dX11_isEmpty_11 rfl fi11 (by decide) q944 s530 rfl l530 ?_
  refine w_top (congrArg vi (gI_same _ _ _ _)) ?_
  refine w_iconst dX11_isEmpty_14 ?_
  refine w_icmp_ge (tgt := 22) dX11_isEmpty_15 (by decide) i1 ⟨by decide, by decide⟩ (fun c3 => ?_) (fun c3 => ?_)
  · replace h := h.1 c3
    refine w_iconst dX11_isEmpty_22 ?_
    exact w_zret dX11_isEmpty_23 (Or.inl rfl) ⟨_, rfl, (Or.inl rfl), h⟩
  · replace h := h.2 c3
    refine w_iconst dX11_isEmpty_18 ?_
    refine w_goto (tgt := 23) dX11_isEmpty_19 (by decide) ?_
    exact w_zret dX11_isEmpty_23 (Or.inr rfl) ⟨_, rfl, (Or.inr rfl), h⟩
set_option maxHeartbeats 4000000 in
set_option maxRecDepth 100000 in
theorem b_Mo_hostMany_0 {g : Ctx} {p0 : Int} {M : Mem} {Q : Int → Mem → Prop} (hp0 : InR p0) (h : (((¬ p0 = (-4)) → (0 ≤ ((21 * p0) + 16) ∧ ((21 * p0) + 16) < 252) ∧ Q (gI M (543) (((21 * p0) + 16).toNat)) M) ∧ ((p0 = (-4)) → Q 0 M))) : P_Mo_hostMany g 0 [(0, vr g (530)), (1, vi (p0))] [] M Q := by
  refine w_wt (fun hw => ?_)
  refine w_iload_n dX11_hostMany_0 1 rfl ?_
  refine w_bipush dX11_hostMany_1 rfl ?_
  refine w_icmp_ne (tgt := 10) dX11_hostMany_3 (by decide) hp0 ⟨by decide, by decide⟩ (fun c1 => ?_) (fun c1 => ?_)
  · replace h := h.1 c1
    refine w_aload_n dX11_hostMany_10 0 rfl ?_
    refine w_getS (ci := 11) (k := 14) dX11_hostMany_11 rfl fi11 (by decide) q918 s530 rfl l530 ?_
    refine w_bipush dX11_hostMany_14 rfl ?_
    refine w_iload_n dX11_hostMany_16 1 rfl ?_
    refine w_imul dX11_hostMany_17 ?_
    refine w_bipush dX11_hostMany_18 rfl ?_
    refine w_iadd dX11_hostMany_20 ?_
    obtain ⟨i2, h⟩ := h
    refine w_iald dX11_hostMany_21 s543 l543 (by decide) i2.1 i2.2 ?_
    exact w_iret dX11_hostMany_22 ⟨_, rfl, (hw.int _ _), h⟩
  · replace h := h.2 c1
    refine w_iconst dX11_hostMany_6 ?_
    refine w_goto (tgt := 22) dX11_hostMany_7 (by decide) ?_
    exact w_iret dX11_hostMany_22 ⟨_, rfl, ⟨by decide, by decide⟩, h⟩
set_option maxHeartbeats 4000000 in
set_option maxRecDepth 100000 in
theorem b_Mo_ends_0 {g : Ctx} {p0 : Int} {p1 : Int} {M : Mem} {Q : Int → Mem → Prop} (hp0 : InR p0) (hp1 : InR p1) (h : (((¬ (gI M (530) (45)) = 1) → K_Mo_signAt g p0 p1 M (fun r2 M3 => InR r2 → WT M3 → K_Mo_answerOf g r2 M3 (fun r4 M5 => InR r4 → WT M5 → Q r4 M5))) ∧ (((gI M (530) (45)) = 1) → K_Mo_signAt g p0 p1 (sI (sI M (530) (41) (p0)) (530) (42) (p1)) (fun r8 M9 => InR r8 → WT M9 → K_Mo_answerOf g r8 M9 (fun r10 M11 => InR r10 → WT M11 → Q r10 M11))))) : P_Mo_ends g 0 [(0, vr g (530)), (1, vi (p0)), (2, vi (p1))] [] M Q := by
  refine w_wt (fun hw => ?_)
  refine w_aload_n dX11_ends_0 0 rfl ?_
  refine w_getI (ci := 11) (k := 45) dX11_ends_1 rfl fi11 (by decide) q949 s530 rfl l530 ?_
  refine w_iconst dX11_ends_4 ?_
  refine w_icmp_ne (tgt := 18) dX11_ends_5 (by decide) (hw.int _ _) ⟨by decide, by decide⟩ (fun c1 => ?_) (fun c1 => ?_)
  · replace h := h.1 c1
    refine w_aload_n dX11_ends_18 0 rfl ?_
    refine w_iload_n dX11_ends_19 1 rfl ?_
    refine w_iload_n dX11_ends_20 2 rfl ?_
    refine c_Mo_signAt dX11_ends_21 q1133 (by decide) (Nat.le_of_ble_eq_true rfl) h (fun r2 M3 h hr2 hwM3 => ?_)
    replace h := h hr2 hwM3
    refine c_Mo_answerOf dX11_ends_24 q1137 (by decide) (Nat.le_of_ble_eq_true rfl) h (fun r4 M5 h hr4 hwM5 => ?_)
    replace h := h hr4 hwM5
    exact w_iret dX11_ends_27 ⟨_, rfl, hr4, h⟩
  · replace h := h.2 c1
    refine w_aload_n dX11_ends_8 0 rfl ?_
    refine w_iload_n dX11_ends_9 1 rfl ?_
    refine w_putI (ci := 11) (k := 41) dX11_ends_10 rfl fi11 (by decide) q945 tyX11 tyX11_ok nmX11 rfl rfl rfl hp0 s530 rfl l530 ?_
    have hw6 : WT (sI M (530) (41) (p0)) := hw.sI hp0
    refine w_aload_n dX11_ends_13 0 rfl ?_
    refine w_iload_n dX11_ends_14 2 rfl ?_
    refine w_putI (ci := 11) (k := 42) dX11_ends_15 rfl fi11 (by decide) q946 tyX11 tyX11_ok nmX11 rfl rfl rfl hp1 s530 rfl l530 ?_
    have hw7 : WT (sI (sI M (530) (41) (p0)) (530) (42) (p1)) := hw6.sI hp1
    refine w_aload_n dX11_ends_18 0 rfl ?_
    refine w_iload_n dX11_ends_19 1 rfl ?_
    refine w_iload_n dX11_ends_20 2 rfl ?_
    refine c_Mo_signAt dX11_ends_21 q1133 (by decide) (Nat.le_of_ble_eq_true rfl) h (fun r8 M9 h hr8 hwM9 => ?_)
    replace h := h hr8 hwM9
    refine c_Mo_answerOf dX11_ends_24 q1137 (by decide) (Nat.le_of_ble_eq_true rfl) h (fun r10 M11 h hr10 hwM11 => ?_)
    replace h := h hr10 hwM11
    exact w_iret dX11_ends_27 ⟨_, rfl, hr10, h⟩
set_option maxHeartbeats 4000000 in
set_option maxRecDepth 100000 in
theorem b_Mo_signAt_0 {g : Ctx} {p0 : Int} {p1 : Int} {M : Mem} {Q : Int → Mem → Prop} (hp0 : InR p0) (hp1 : InR p1) (h : (0 ≤ ((21 * p0) + p1) ∧ ((21 * p0) + p1) < 252) ∧ (0 ≤ (((21 * p0) + 8) + (gI M (543) (((21 * p0) + p1).toNat))) ∧ (((21 * p0) + 8) + (gI M (543) (((21 * p0) + p1).toNat))) < 252) ∧ Q (gI M (543) ((((21 * p0) + 8) + (gI M (543) (((21 * p0) + p1).toNat))).toNat)) M) : P_Mo_signAt g 0 [(0, vr g (530)), (1, vi (p0)), (2, vi (p1))] [] M Q := by
  refine w_wt (fun hw => ?_)
  refine w_aload_n dX11_signAt_0 0 rfl ?_
  refine w_getS (ci := 11) (k := 14) dX11_signAt_1 rfl fi11 (by decide) q918 s530 rfl l530 ?_
  refine w_bipush dX11_signAt_4 rfl ?_
  refine w_iload_n dX11_signAt_6 1 rfl ?_
  refine w_imul dX11_signAt_7 ?_
  refine w_bipush dX11_signAt_8 rfl ?_
  refine w_iadd dX11_signAt_10 ?_
  refine w_aload_n dX11_signAt_11 0 rfl ?_
  refine w_getS (ci := 11) (k := 14) dX11_signAt_12 rfl fi11 (by decide) q918 s530 rfl l530 ?_
  refine w_bipush dX11_signAt_15 rfl ?_
  refine w_iload_n dX11_signAt_17 1 rfl ?_
  refine w_imul dX11_signAt_18 ?_
  refine w_iload_n dX11_signAt_19 2 rfl ?_
  refine w_iadd dX11_signAt_20 ?_
  obtain ⟨i1, h⟩ := h
  refine w_iald dX11_signAt_21 s543 l543 (by decide) i1.1 i1.2 ?_
  refine w_iadd dX11_signAt_22 ?_
  obtain ⟨i2, h⟩ := h
  refine w_iald dX11_signAt_23 s543 l543 (by decide) i2.1 i2.2 ?_
  exact w_iret dX11_signAt_24 ⟨_, rfl, (hw.int _ _), h⟩
set_option maxHeartbeats 4000000 in
set_option maxRecDepth 100000 in
theorem b_Mo_answerOf_0 {g : Ctx} {p0 : Int} {M : Mem} {Q : Int → Mem → Prop} (hp0 : InR p0) (h : (((¬ p0 = 0) → (((¬ p0 = 3) → (InR (p0 + 2)) ∧ Q (p0 + 2) M) ∧ ((p0 = 3) → Q 1 M))) ∧ ((p0 = 0) → Q 2 M))) : P_Mo_answerOf g 0 [(0, vi (p0))] [] M Q := by
  refine w_wt (fun hw => ?_)
  refine w_iload_n dX11_answerOf_0 0 rfl ?_
  refine w_if_ne (tgt := 8) dX11_answerOf_1 (by decide) hp0 (fun c1 => ?_) (fun c1 => ?_)
  · replace h := h.1 c1
    refine w_iload_n dX11_answerOf_8 0 rfl ?_
    refine w_iconst dX11_answerOf_9 ?_
    refine w_icmp_ne (tgt := 17) dX11_answerOf_10 (by decide) hp0 ⟨by decide, by decide⟩ (fun c2 => ?_) (fun c2 => ?_)
    · replace h := h.1 c2
      refine w_iload_n dX11_answerOf_17 0 rfl ?_
      refine w_iconst dX11_answerOf_18 ?_
      refine w_iadd dX11_answerOf_19 ?_
      obtain ⟨i3, h⟩ := h
      exact w_iret dX11_answerOf_20 ⟨_, rfl, i3, h⟩
    · replace h := h.2 c2
      refine w_iconst dX11_answerOf_13 ?_
      refine w_goto (tgt := 20) dX11_answerOf_14 (by decide) ?_
      exact w_iret dX11_answerOf_20 ⟨_, rfl, ⟨by decide, by decide⟩, h⟩
  · replace h := h.2 c1
    refine w_iconst dX11_answerOf_4 ?_
    refine w_goto (tgt := 20) dX11_answerOf_5 (by decide) ?_
    exact w_iret dX11_answerOf_20 ⟨_, rfl, ⟨by decide, by decide⟩, h⟩
set_option maxHeartbeats 4000000 in
set_option maxRecDepth 100000 in
theorem b_Mo_kept_0 {g : Ctx} {p0 : Int} {p1 : Int} {M : Mem} {Q : Int → Mem → Prop} (hp0 : InR p0) (hp1 : InR p1) (h : (((p0 < 0) → Q (-1) M) ∧ ((¬ (p0 < 0)) → K_Mo_isIn g p1 0 7 M (fun r2 M3 => (r2 = 0 ∨ r2 = 1) → WT M3 → (((¬ r2 = 0) → ((((gI M3 (530) (34)) ≤ p0) → Q (-4) M3) ∧ ((¬ ((gI M3 (530) (34)) ≤ p0)) → (0 ≤ ((8 * p0) + p1) ∧ ((8 * p0) + p1) < 32) ∧ Q (gI M3 (559) (((8 * p0) + p1).toNat)) M3))) ∧ ((r2 = 0) → Q (-1) M3)))))) : P_Mo_kept g 0 [(0, vr g (530)), (1, vi (p0)), (2, vi (p1))] [] M Q := by
  refine w_wt (fun hw => ?_)
  refine w_iload_n dX11_kept_0 1 rfl ?_
  refine w_if_lt (tgt := 14) dX11_kept_1 (by decide) hp0 (fun c1 => ?_) (fun c1 => ?_)
  · replace h := h.1 c1
    refine w_iconst dX11_kept_14 ?_
    exact w_iret dX11_kept_15 ⟨_, rfl, ⟨by decide, by decide⟩, h⟩
  · replace h := h.2 c1
    refine w_iload_n dX11_kept_4 2 rfl ?_
    refine w_iconst dX11_kept_5 ?_
    refine w_bipush dX11_kept_6 rfl ?_
    refine c_Mo_isIn dX11_kept_8 q851 (by decide) (Nat.le_of_ble_eq_true rfl) h (fun r2 M3 h hr2 hwM3 => ?_)
    replace h := h hr2 hwM3
    refine w_if_ne (tgt := 16) dX11_kept_11 (by decide) (inr_z hr2) (fun c4 => ?_) (fun c4 => ?_)
    · replace h := h.1 c4
      refine w_iload_n dX11_kept_16 1 rfl ?_
      refine w_aload_n dX11_kept_17 0 rfl ?_
      refine w_getI (ci := 11) (k := 34) dX11_kept_18 rfl fi11 (by decide) q938 s530 rfl l530 ?_
      refine w_icmp_ge (tgt := 38) dX11_kept_21 (by decide) hp0 (hwM3.int _ _) (fun c5 => ?_) (fun c5 => ?_)
      · replace h := h.1 c5
        refine w_bipush dX11_kept_38 rfl ?_
        exact w_iret dX11_kept_40 ⟨_, rfl, ⟨by decide, by decide⟩, h⟩
      · replace h := h.2 c5
        refine w_aload_n dX11_kept_24 0 rfl ?_
        refine w_getS (ci := 11) (k := 35) dX11_kept_25 rfl fi11 (by decide) q939 s530 rfl l530 ?_
        refine w_bipush dX11_kept_28 rfl ?_
        refine w_iload_n dX11_kept_30 1 rfl ?_
        refine w_imul dX11_kept_31 ?_
        refine w_iload_n dX11_kept_32 2 rfl ?_
        refine w_iadd dX11_kept_33 ?_
        obtain ⟨i6, h⟩ := h
        refine w_iald dX11_kept_34 s559 l559 (by decide) i6.1 i6.2 ?_
        refine w_goto (tgt := 40) dX11_kept_35 (by decide) ?_
        exact w_iret dX11_kept_40 ⟨_, rfl, (hwM3.int _ _), h⟩
    · replace h := h.2 c4
      refine w_iconst dX11_kept_14 ?_
      exact w_iret dX11_kept_15 ⟨_, rfl, ⟨by decide, by decide⟩, h⟩
set_option maxHeartbeats 4000000 in
set_option maxRecDepth 100000 in
theorem b_Mo_undo_0 {g : Ctx}  {M : Mem} {Q : Int → Mem → Prop}  (h : (((¬ (gI M (530) (16)) = 0) → (InR ((gI M (530) (16)) - 1)) ∧ P_Mo_undo g 22 [(0, vr g (530)), (1, vi (0))] [] (sI M (530) (16) ((gI M (530) (16)) - 1)) Q) ∧ (((gI M (530) (16)) = 0) → Q (-2) M))) : P_Mo_undo g 0 [(0, vr g (530))] [] M Q := by
  refine w_wt (fun hw => ?_)
  refine w_aload_n dX11_undo_0 0 rfl ?_
  refine w_getI (ci := 11) (k := 16) dX11_undo_1 rfl fi11 (by decide) q920 s530 rfl l530 ?_
  refine w_if_ne (tgt := 10) dX11_undo_4 (by decide) (hw.int _ _) (fun c1 => ?_) (fun c1 => ?_)
  · replace h := h.1 c1
    refine w_aload_n dX11_undo_10 0 rfl ?_
    refine w_dup dX11_undo_11 rfl ?_
    refine w_getI (ci := 11) (k := 16) dX11_undo_12 rfl fi11 (by decide) q920 s530 rfl l530 ?_
    refine w_iconst dX11_undo_15 ?_
    refine w_isub dX11_undo_16 ?_
    obtain ⟨i2, h⟩ := h
    refine w_putI (ci := 11) (k := 16) dX11_undo_17 rfl fi11 (by decide) q920 tyX11 tyX11_ok nmX11 rfl rfl rfl i2 s530 rfl l530 ?_
    have hw3 : WT (sI M (530) (16) ((gI M (530) (16)) - 1)) := hw.sI i2
    refine w_iconst dX11_undo_20 ?_
    refine w_istore_n (lv' := [(1, vi (0)), (0, vr g (530))]) (i := 1) dX11_undo_21 rfl (by decide) rfl ?_
    refine w_lv [1, 0] rfl ?_
    exact h
  · replace h := h.2 c1
    refine w_bipush dX11_undo_7 rfl ?_
    exact w_iret dX11_undo_9 ⟨_, rfl, ⟨by decide, by decide⟩, h⟩
set_option maxHeartbeats 4000000 in
set_option maxRecDepth 100000 in
theorem b_Mo_undo_22 {g : Ctx} {x1 : Int} {M : Mem} {Q : Int → Mem → Prop} (hx1 : InR x1) (h : (((252 ≤ x1) → Q (gI M (530) (16)) (sI M (530) (34) (0))) ∧ ((¬ (252 ≤ x1)) → (0 ≤ ((252 * (gI M (530) (16))) + x1) ∧ ((252 * (gI M (530) (16))) + x1) < 1008) ∧ (0 ≤ x1 ∧ x1 < 252) ∧ P_Mo_undo g 22 [(0, vr g (530)), (1, vi (x1 + 1))] [] (sI M (543) (x1.toNat) (gI M (544) (((252 * (gI M (530) (16))) + x1).toNat))) Q))) : P_Mo_undo g 22 [(0, vr g (530)), (1, vi (x1))] [] M Q := by
  refine w_wt (fun hw => ?_)
  refine w_iload_n dX11_undo_22 1 rfl ?_
  refine w_sipush dX11_undo_23 rfl ?_
  refine w_icmp_ge (tgt := 56) dX11_undo_26 (by decide) hx1 ⟨by decide, by decide⟩ (fun c1 => ?_) (fun c1 => ?_)
  · replace h := h.1 c1
    refine w_aload_n dX11_undo_56 0 rfl ?_
    refine w_iconst dX11_undo_57 ?_
    refine w_putI (ci := 11) (k := 34) dX11_undo_58 rfl fi11 (by decide) q938 tyX11 tyX11_ok nmX11 rfl rfl rfl ⟨by decide, by decide⟩ s530 rfl l530 ?_
    have hw2 : WT (sI M (530) (34) (0)) := hw.sI ⟨by decide, by decide⟩
    refine w_aload_n dX11_undo_61 0 rfl ?_
    refine w_getI (ci := 11) (k := 16) dX11_undo_62 rfl fi11 (by decide) q920 s530 rfl l530 ?_
    refine w_top (congrArg vi ((gI_ne _ _ _ _ _ _ (by omega)).trans rfl)) ?_
    have u3 : InR (gI M (530) (16)) := hw.int _ _
    exact w_iret dX11_undo_65 ⟨_, rfl, u3, h⟩
  · replace h := h.2 c1
    refine w_aload_n dX11_undo_29 0 rfl ?_
    refine w_getS (ci := 11) (k := 14) dX11_undo_30 rfl fi11 (by decide) q918 s530 rfl l530 ?_
    refine w_iload_n dX11_undo_33 1 rfl ?_
    refine w_aload_n dX11_undo_34 0 rfl ?_
    refine w_getS (ci := 11) (k := 15) dX11_undo_35 rfl fi11 (by decide) q919 s530 rfl l530 ?_
    refine w_sipush dX11_undo_38 rfl ?_
    refine w_aload_n dX11_undo_41 0 rfl ?_
    refine w_getI (ci := 11) (k := 16) dX11_undo_42 rfl fi11 (by decide) q920 s530 rfl l530 ?_
    refine w_imul dX11_undo_45 ?_
    refine w_iload_n dX11_undo_46 1 rfl ?_
    refine w_iadd dX11_undo_47 ?_
    obtain ⟨i4, h⟩ := h
    refine w_iald dX11_undo_48 s544 l544 (by decide) i4.1 i4.2 ?_
    obtain ⟨i5, h⟩ := h
    refine w_iast dX11_undo_49 s543 l543 (by decide) i5.1 i5.2 (hw.int _ _) ?_
    have hw6 : WT (sI M (543) (x1.toNat) (gI M (544) (((252 * (gI M (530) (16))) + x1).toNat))) := hw.sI (hw.int _ _)
    refine w_iinc (lv' := [(1, vi (x1 + 1)), (0, vr g (530))]) dX11_undo_50 1 rfl (by decide) rfl ?_
    refine w_goto (tgt := 22) dX11_undo_53 (by decide) ?_
    refine w_lv [1, 0] rfl ?_
    exact h
set_option maxHeartbeats 4000000 in
set_option maxRecDepth 100000 in
theorem b_Mo_sign_0 {g : Ctx} {p0 : Int} {p1 : Int} {p2 : Int} {M : Mem} {Q : Int → Mem → Prop} (hp0 : InR p0) (hp1 : InR p1) (hp2 : InR p2) (h : K_Mo_isRule g p0 p1 M (fun r1 M2 => (r1 = 0 ∨ r1 = 1) → WT M2 → (((r1 = 0) → Q (-1) M2) ∧ ((¬ (r1 = 0)) → K_Mo_isIn g p2 0 3 M2 (fun r4 M5 => (r4 = 0 ∨ r4 = 1) → WT M5 → (((¬ r4 = 0) → K_Mo_signAt g p0 p1 M5 (fun r7 M8 => InR r7 → WT M8 → (((¬ r7 = p2) → K_Mo_keeps g  M8 (fun M11 => WT M11 → (0 ≤ ((21 * p0) + p1) ∧ ((21 * p0) + p1) < 252) ∧ (0 ≤ (((21 * p0) + 8) + (gI M11 (543) (((21 * p0) + p1).toNat))) ∧ (((21 * p0) + 8) + (gI M11 (543) (((21 * p0) + p1).toNat))) < 252) ∧ Q r7 (sI M11 (543) ((((21 * p0) + 8) + (gI M11 (543) (((21 * p0) + p1).toNat))).toNat) (p2)))) ∧ ((r7 = p2) → Q (-2) M8)))) ∧ ((r4 = 0) → Q (-1) M5))))))) : P_Mo_sign g 0 [(0, vr g (530)), (1, vi (p0)), (2, vi (p1)), (3, vi (p2))] [] M Q := by
  refine w_wt (fun hw => ?_)
  refine w_aload_n dX11_sign_0 0 rfl ?_
  refine w_iload_n dX11_sign_1 1 rfl ?_
  refine w_iload_n dX11_sign_2 2 rfl ?_
  refine c_Mo_isRule dX11_sign_3 q1152 (by decide) (Nat.le_of_ble_eq_true rfl) h (fun r1 M2 h hr1 hwM2 => ?_)
  replace h := h hr1 hwM2
  refine w_if_eq (tgt := 18) dX11_sign_6 (by decide) (inr_z hr1) (fun c3 => ?_) (fun c3 => ?_)
  · replace h := h.1 c3
    refine w_iconst dX11_sign_18 ?_
    exact w_iret dX11_sign_19 ⟨_, rfl, ⟨by decide, by decide⟩, h⟩
  · replace h := h.2 c3
    refine w_iload_n dX11_sign_9 3 rfl ?_
    refine w_iconst dX11_sign_10 ?_
    refine w_iconst dX11_sign_11 ?_
    refine c_Mo_isIn dX11_sign_12 q851 (by decide) (Nat.le_of_ble_eq_true rfl) h (fun r4 M5 h hr4 hwM5 => ?_)
    replace h := h hr4 hwM5
    refine w_if_ne (tgt := 20) dX11_sign_15 (by decide) (inr_z hr4) (fun c6 => ?_) (fun c6 => ?_)
    · replace h := h.1 c6
      refine w_aload_n dX11_sign_20 0 rfl ?_
      refine w_iload_n dX11_sign_21 1 rfl ?_
      refine w_iload_n dX11_sign_22 2 rfl ?_
      refine c_Mo_signAt dX11_sign_23 q1133 (by decide) (Nat.le_of_ble_eq_true rfl) h (fun r7 M8 h hr7 hwM8 => ?_)
      replace h := h hr7 hwM8
      refine w_istore (lv' := [(4, vi (r7)), (0, vr g (530)), (1, vi (p0)), (2, vi (p1)), (3, vi (p2))]) dX11_sign_26 (by decide) rfl ?_
      refine w_iload dX11_sign_28 0 rfl ?_
      refine w_iload_n dX11_sign_30 4 rfl ?_
      refine w_icmp_ne (tgt := 37) dX11_sign_31 (by decide) hr7 hp2 (fun c9 => ?_) (fun c9 => ?_)
      · replace h := h.1 c9
        refine w_aload_n dX11_sign_37 1 rfl ?_
        refine c_Mo_keeps dX11_sign_38 q1156 (by decide) (Nat.le_of_ble_eq_true rfl) h (fun M11 h hwM11 => ?_)
        replace h := h hwM11
        refine w_aload_n dX11_sign_41 1 rfl ?_
        refine w_getS (ci := 11) (k := 14) dX11_sign_42 rfl fi11 (by decide) q918 s530 rfl l530 ?_
        refine w_bipush dX11_sign_45 rfl ?_
        refine w_iload_n dX11_sign_47 2 rfl ?_
        refine w_imul dX11_sign_48 ?_
        refine w_bipush dX11_sign_49 rfl ?_
        refine w_iadd dX11_sign_51 ?_
        refine w_aload_n dX11_sign_52 1 rfl ?_
        refine w_getS (ci := 11) (k := 14) dX11_sign_53 rfl fi11 (by decide) q918 s530 rfl l530 ?_
        refine w_bipush dX11_sign_56 rfl ?_
        refine w_iload_n dX11_sign_58 2 rfl ?_
        refine w_imul dX11_sign_59 ?_
        refine w_iload_n dX11_sign_60 3 rfl ?_
        refine w_iadd dX11_sign_61 ?_
        obtain ⟨i12, h⟩ := h
        refine w_iald dX11_sign_62 s543 l543 (by decide) i12.1 i12.2 ?_
        refine w_iadd dX11_sign_63 ?_
        refine w_iload_n dX11_sign_64 4 rfl ?_
        obtain ⟨i13, h⟩ := h
        refine w_iast dX11_sign_65 s543 l543 (by decide) i13.1 i13.2 hp2 ?_
        have hw14 : WT (sI M11 (543) ((((21 * p0) + 8) + (gI M11 (543) (((21 * p0) + p1).toNat))).toNat) (p2)) := hwM11.sI hp2
        refine w_iload dX11_sign_66 0 rfl ?_
        exact w_iret dX11_sign_68 ⟨_, rfl, hr7, h⟩
      · replace h := h.2 c9
        refine w_bipush dX11_sign_34 rfl ?_
        exact w_iret dX11_sign_36 ⟨_, rfl, ⟨by decide, by decide⟩, h⟩
    · replace h := h.2 c6
      refine w_iconst dX11_sign_18 ?_
      exact w_iret dX11_sign_19 ⟨_, rfl, ⟨by decide, by decide⟩, h⟩
set_option maxHeartbeats 4000000 in
set_option maxRecDepth 100000 in
theorem b_Mo_isRule_0 {g : Ctx} {p0 : Int} {p1 : Int} {M : Mem} {Q : Int → Mem → Prop} (hp0 : InR p0) (hp1 : InR p1) (h : K_Mo_isName g p0 M (fun r1 M2 => (r1 = 0 ∨ r1 = 1) → WT M2 → (((r1 = 0) → Q 0 M2) ∧ ((¬ (r1 = 0)) → (0 ≤ p0 ∧ p0 < 12) ∧ K_Mo_isIn g p1 0 ((gI M2 (533) (p0.toNat)) - 1) M2 (fun r5 M6 => (r5 = 0 ∨ r5 = 1) → WT M6 → (((r5 = 0) → Q 0 M6) ∧ ((¬ (r5 = 0)) → Q 1 M6))))))) : P_Mo_isRule g 0 [(0, vr g (530)), (1, vi (p0)), (2, vi (p1))] [] M Q := by
  refine w_wt (fun hw => ?_)
  refine w_aload_n dX11_isRule_0 0 rfl ?_
  refine w_iload_n dX11_isRule_1 1 rfl ?_
  refine c_Mo_isName dX11_isRule_2 q1067 (by decide) (Nat.le_of_ble_eq_true rfl) h (fun r1 M2 h hr1 hwM2 => ?_)
  replace h := h hr1 hwM2
  refine w_if_eq (tgt := 28) dX11_isRule_5 (by decide) (inr_z hr1) (fun c3 => ?_) (fun c3 => ?_)
  · replace h := h.1 c3
    refine w_iconst dX11_isRule_28 ?_
    exact w_zret dX11_isRule_29 (Or.inl rfl) ⟨_, rfl, (Or.inl rfl), h⟩
  · replace h := h.2 c3
    refine w_iload_n dX11_isRule_8 2 rfl ?_
    refine w_iconst dX11_isRule_9 ?_
    refine w_aload_n dX11_isRule_10 0 rfl ?_
    refine w_getS (ci := 11) (k := 4) dX11_isRule_11 rfl fi11 (by decide) q908 s530 rfl l530 ?_
    refine w_iload_n dX11_isRule_14 1 rfl ?_
    obtain ⟨i4, h⟩ := h
    refine w_iald dX11_isRule_15 s533 l533 (by decide) i4.1 i4.2 ?_
    refine w_iconst dX11_isRule_16 ?_
    refine w_isub dX11_isRule_17 ?_
    refine c_Mo_isIn dX11_isRule_18 q851 (by decide) (Nat.le_of_ble_eq_true rfl) h (fun r5 M6 h hr5 hwM6 => ?_)
    replace h := h hr5 hwM6
    refine w_if_eq (tgt := 28) dX11_isRule_21 (by decide) (inr_z hr5) (fun c7 => ?_) (fun c7 => ?_)
    · replace h := h.1 c7
      refine w_iconst dX11_isRule_28 ?_
      exact w_zret dX11_isRule_29 (Or.inl rfl) ⟨_, rfl, (Or.inl rfl), h⟩
    · replace h := h.2 c7
      refine w_iconst dX11_isRule_24 ?_
      refine w_goto (tgt := 29) dX11_isRule_25 (by decide) ?_
      exact w_zret dX11_isRule_29 (Or.inr rfl) ⟨_, rfl, (Or.inr rfl), h⟩
set_option maxHeartbeats 4000000 in
set_option maxRecDepth 100000 in
theorem b_Mo_keeps_0 {g : Ctx}  {M : Mem} {Q : Mem → Prop}  (h : (((¬ (gI M (530) (16)) = 4) → P_Mo_keeps g 51 [(0, vr g (530)), (1, vi (0))] [] M Q) ∧ (((gI M (530) (16)) = 4) → P_Mo_keeps g 10 [(0, vr g (530)), (1, vi (0))] [] M Q))) : P_Mo_keeps g 0 [(0, vr g (530))] [] M Q := by
  refine w_wt (fun hw => ?_)
  refine w_aload_n dX11_keeps_0 0 rfl ?_
  refine w_getI (ci := 11) (k := 16) dX11_keeps_1 rfl fi11 (by decide) q920 s530 rfl l530 ?_
  refine w_iconst dX11_keeps_4 ?_
  refine w_icmp_ne (tgt := 49) dX11_keeps_5 (by decide) (hw.int _ _) ⟨by decide, by decide⟩ (fun c1 => ?_) (fun c1 => ?_)
  · replace h := h.1 c1
    refine w_iconst dX11_keeps_49 ?_
    refine w_istore_n (lv' := [(1, vi (0)), (0, vr g (530))]) (i := 1) dX11_keeps_50 rfl (by decide) rfl ?_
    refine w_lv [1, 0] rfl ?_
    exact h
  · replace h := h.2 c1
    refine w_iconst dX11_keeps_8 ?_
    refine w_istore_n (lv' := [(1, vi (0)), (0, vr g (530))]) (i := 1) dX11_keeps_9 rfl (by decide) rfl ?_
    refine w_lv [1, 0] rfl ?_
    exact h
set_option maxHeartbeats 4000000 in
set_option maxRecDepth 100000 in
theorem b_Mo_keeps_51 {g : Ctx} {x1 : Int} {M : Mem} {Q : Mem → Prop} (hx1 : InR x1) (h : (((252 ≤ x1) → (InR ((gI M (530) (16)) + 1)) ∧ Q (sI (sI M (530) (16) ((gI M (530) (16)) + 1)) (530) (34) (0))) ∧ ((¬ (252 ≤ x1)) → (0 ≤ x1 ∧ x1 < 252) ∧ (0 ≤ ((252 * (gI M (530) (16))) + x1) ∧ ((252 * (gI M (530) (16))) + x1) < 1008) ∧ P_Mo_keeps g 51 [(0, vr g (530)), (1, vi (x1 + 1))] [] (sI M (544) (((252 * (gI M (530) (16))) + x1).toNat) (gI M (543) (x1.toNat))) Q))) : P_Mo_keeps g 51 [(0, vr g (530)), (1, vi (x1))] [] M Q := by
  refine w_wt (fun hw => ?_)
  refine w_iload_n dX11_keeps_51 1 rfl ?_
  refine w_sipush dX11_keeps_52 rfl ?_
  refine w_icmp_ge (tgt := 85) dX11_keeps_55 (by decide) hx1 ⟨by decide, by decide⟩ (fun c1 => ?_) (fun c1 => ?_)
  · replace h := h.1 c1
    refine w_aload_n dX11_keeps_85 0 rfl ?_
    refine w_dup dX11_keeps_86 rfl ?_
    refine w_getI (ci := 11) (k := 16) dX11_keeps_87 rfl fi11 (by decide) q920 s530 rfl l530 ?_
    refine w_iconst dX11_keeps_90 ?_
    refine w_iadd dX11_keeps_91 ?_
    obtain ⟨i2, h⟩ := h
    refine w_putI (ci := 11) (k := 16) dX11_keeps_92 rfl fi11 (by decide) q920 tyX11 tyX11_ok nmX11 rfl rfl rfl i2 s530 rfl l530 ?_
    have hw3 : WT (sI M (530) (16) ((gI M (530) (16)) + 1)) := hw.sI i2
    refine w_aload_n dX11_keeps_95 0 rfl ?_
    refine w_iconst dX11_keeps_96 ?_
    refine w_putI (ci := 11) (k := 34) dX11_keeps_97 rfl fi11 (by decide) q938 tyX11 tyX11_ok nmX11 rfl rfl rfl ⟨by decide, by decide⟩ s530 rfl l530 ?_
    have hw4 : WT (sI (sI M (530) (16) ((gI M (530) (16)) + 1)) (530) (34) (0)) := hw3.sI ⟨by decide, by decide⟩
    exact w_vret dX11_keeps_100 ⟨rfl, h⟩
  · replace h := h.2 c1
    refine w_aload_n dX11_keeps_58 0 rfl ?_
    refine w_getS (ci := 11) (k := 15) dX11_keeps_59 rfl fi11 (by decide) q919 s530 rfl l530 ?_
    refine w_sipush dX11_keeps_62 rfl ?_
    refine w_aload_n dX11_keeps_65 0 rfl ?_
    refine w_getI (ci := 11) (k := 16) dX11_keeps_66 rfl fi11 (by decide) q920 s530 rfl l530 ?_
    refine w_imul dX11_keeps_69 ?_
    refine w_iload_n dX11_keeps_70 1 rfl ?_
    refine w_iadd dX11_keeps_71 ?_
    refine w_aload_n dX11_keeps_72 0 rfl ?_
    refine w_getS (ci := 11) (k := 14) dX11_keeps_73 rfl fi11 (by decide) q918 s530 rfl l530 ?_
    refine w_iload_n dX11_keeps_76 1 rfl ?_
    obtain ⟨i5, h⟩ := h
    refine w_iald dX11_keeps_77 s543 l543 (by decide) i5.1 i5.2 ?_
    obtain ⟨i6, h⟩ := h
    refine w_iast dX11_keeps_78 s544 l544 (by decide) i6.1 i6.2 (hw.int _ _) ?_
    have hw7 : WT (sI M (544) (((252 * (gI M (530) (16))) + x1).toNat) (gI M (543) (x1.toNat))) := hw.sI (hw.int _ _)
    refine w_iinc (lv' := [(1, vi (x1 + 1)), (0, vr g (530))]) dX11_keeps_79 1 rfl (by decide) rfl ?_
    refine w_goto (tgt := 51) dX11_keeps_82 (by decide) ?_
    refine w_lv [1, 0] rfl ?_
    exact h
set_option maxHeartbeats 4000000 in
set_option maxRecDepth 100000 in
theorem b_Mo_keeps_10 {g : Ctx} {x1 : Int} {M : Mem} {Q : Mem → Prop} (hx1 : InR x1) (h : (((756 ≤ x1) → (InR ((gI M (530) (16)) - 1)) ∧ P_Mo_keeps g 51 [(0, vr g (530)), (1, vi (0))] [] (sI M (530) (16) ((gI M (530) (16)) - 1)) Q) ∧ ((¬ (756 ≤ x1)) → (0 ≤ (x1 + 252) ∧ (x1 + 252) < 1008) ∧ (0 ≤ x1 ∧ x1 < 1008) ∧ P_Mo_keeps g 10 [(0, vr g (530)), (1, vi (x1 + 1))] [] (sI M (544) (x1.toNat) (gI M (544) ((x1 + 252).toNat))) Q))) : P_Mo_keeps g 10 [(0, vr g (530)), (1, vi (x1))] [] M Q := by
  refine w_wt (fun hw => ?_)
  refine w_iload_n dX11_keeps_10 1 rfl ?_
  refine w_sipush dX11_keeps_11 rfl ?_
  refine w_icmp_ge (tgt := 39) dX11_keeps_14 (by decide) hx1 ⟨by decide, by decide⟩ (fun c1 => ?_) (fun c1 => ?_)
  · replace h := h.1 c1
    refine w_aload_n dX11_keeps_39 0 rfl ?_
    refine w_dup dX11_keeps_40 rfl ?_
    refine w_getI (ci := 11) (k := 16) dX11_keeps_41 rfl fi11 (by decide) q920 s530 rfl l530 ?_
    refine w_iconst dX11_keeps_44 ?_
    refine w_isub dX11_keeps_45 ?_
    obtain ⟨i2, h⟩ := h
    refine w_putI (ci := 11) (k := 16) dX11_keeps_46 rfl fi11 (by decide) q920 tyX11 tyX11_ok nmX11 rfl rfl rfl i2 s530 rfl l530 ?_
    have hw3 : WT (sI M (530) (16) ((gI M (530) (16)) - 1)) := hw.sI i2
    refine w_iconst dX11_keeps_49 ?_
    refine w_istore_n (lv' := [(1, vi (0)), (0, vr g (530))]) (i := 1) dX11_keeps_50 rfl (by decide) rfl ?_
    refine w_lv [1, 0] rfl ?_
    exact h
  · replace h := h.2 c1
    refine w_aload_n dX11_keeps_17 0 rfl ?_
    refine w_getS (ci := 11) (k := 15) dX11_keeps_18 rfl fi11 (by decide) q919 s530 rfl l530 ?_
    refine w_iload_n dX11_keeps_21 1 rfl ?_
    refine w_aload_n dX11_keeps_22 0 rfl ?_
    refine w_getS (ci := 11) (k := 15) dX11_keeps_23 rfl fi11 (by decide) q919 s530 rfl l530 ?_
    refine w_iload_n dX11_keeps_26 1 rfl ?_
    refine w_sipush dX11_keeps_27 rfl ?_
    refine w_iadd dX11_keeps_30 ?_
    obtain ⟨i4, h⟩ := h
    refine w_iald dX11_keeps_31 s544 l544 (by decide) i4.1 i4.2 ?_
    obtain ⟨i5, h⟩ := h
    refine w_iast dX11_keeps_32 s544 l544 (by decide) i5.1 i5.2 (hw.int _ _) ?_
    have hw6 : WT (sI M (544) (x1.toNat) (gI M (544) ((x1 + 252).toNat))) := hw.sI (hw.int _ _)
    refine w_iinc (lv' := [(1, vi (x1 + 1)), (0, vr g (530))]) dX11_keeps_33 1 rfl (by decide) rfl ?_
    refine w_goto (tgt := 10) dX11_keeps_36 (by decide) ?_
    refine w_lv [1, 0] rfl ?_
    exact h
set_option maxHeartbeats 4000000 in
set_option maxRecDepth 100000 in
theorem b_Mo_swap_0 {g : Ctx} {p0 : Int} {p1 : Int} {M : Mem} {Q : Int → Mem → Prop} (hp0 : InR p0) (hp1 : InR p1) (h : K_Mo_isRule g p0 p1 M (fun r1 M2 => (r1 = 0 ∨ r1 = 1) → WT M2 → (((¬ r1 = 0) → (0 ≤ p0 ∧ p0 < 12) ∧ (InR (p1 + 1)) ∧ (((¬ (p1 + 1) = (gI M2 (533) (p0.toNat))) → K_Mo_keeps g  M2 (fun M8 => WT M8 → (0 ≤ ((21 * p0) + p1) ∧ ((21 * p0) + p1) < 252) ∧ (0 ≤ (((21 * p0) + p1) + 1) ∧ (((21 * p0) + p1) + 1) < 252) ∧ Q (gI M8 (533) (p0.toNat)) (sI (sI M8 (543) (((21 * p0) + p1).toNat) (gI M8 (543) ((((21 * p0) + p1) + 1).toNat))) (543) ((((21 * p0) + p1) + 1).toNat) (gI M8 (543) (((21 * p0) + p1).toNat))))) ∧ (((p1 + 1) = (gI M2 (533) (p0.toNat))) → Q (-2) M2))) ∧ ((r1 = 0) → Q (-1) M2)))) : P_Mo_swap g 0 [(0, vr g (530)), (1, vi (p0)), (2, vi (p1))] [] M Q := by
  refine w_wt (fun hw => ?_)
  refine w_aload_n dX11_swap_0 0 rfl ?_
  refine w_iload_n dX11_swap_1 1 rfl ?_
  refine w_iload_n dX11_swap_2 2 rfl ?_
  refine c_Mo_isRule dX11_swap_3 q1152 (by decide) (Nat.le_of_ble_eq_true rfl) h (fun r1 M2 h hr1 hwM2 => ?_)
  replace h := h hr1 hwM2
  refine w_if_ne (tgt := 11) dX11_swap_6 (by decide) (inr_z hr1) (fun c3 => ?_) (fun c3 => ?_)
  · replace h := h.1 c3
    refine w_iload_n dX11_swap_11 2 rfl ?_
    refine w_iconst dX11_swap_12 ?_
    refine w_iadd dX11_swap_13 ?_
    refine w_aload_n dX11_swap_14 0 rfl ?_
    refine w_getS (ci := 11) (k := 4) dX11_swap_15 rfl fi11 (by decide) q908 s530 rfl l530 ?_
    refine w_iload_n dX11_swap_18 1 rfl ?_
    obtain ⟨i4, h⟩ := h
    refine w_iald dX11_swap_19 s533 l533 (by decide) i4.1 i4.2 ?_
    obtain ⟨i5, h⟩ := h
    refine w_icmp_ne (tgt := 26) dX11_swap_20 (by decide) i5 (hwM2.int _ _) (fun c6 => ?_) (fun c6 => ?_)
    · replace h := h.1 c6
      refine w_aload_n dX11_swap_26 0 rfl ?_
      refine c_Mo_keeps dX11_swap_27 q1156 (by decide) (Nat.le_of_ble_eq_true rfl) h (fun M8 h hwM8 => ?_)
      replace h := h hwM8
      refine w_aload_n dX11_swap_30 0 rfl ?_
      refine w_getS (ci := 11) (k := 14) dX11_swap_31 rfl fi11 (by decide) q918 s530 rfl l530 ?_
      refine w_bipush dX11_swap_34 rfl ?_
      refine w_iload_n dX11_swap_36 1 rfl ?_
      refine w_imul dX11_swap_37 ?_
      refine w_iload_n dX11_swap_38 2 rfl ?_
      refine w_iadd dX11_swap_39 ?_
      obtain ⟨i9, h⟩ := h
      refine w_iald dX11_swap_40 s543 l543 (by decide) i9.1 i9.2 ?_
      refine w_istore_n (lv' := [(3, vi (gI M8 (543) (((21 * p0) + p1).toNat))), (0, vr g (530)), (1, vi (p0)), (2, vi (p1))]) (i := 3) dX11_swap_41 rfl (by decide) rfl ?_
      refine w_aload_n dX11_swap_42 1 rfl ?_
      refine w_getS (ci := 11) (k := 14) dX11_swap_43 rfl fi11 (by decide) q918 s530 rfl l530 ?_
      refine w_bipush dX11_swap_46 rfl ?_
      refine w_iload_n dX11_swap_48 2 rfl ?_
      refine w_imul dX11_swap_49 ?_
      refine w_iload_n dX11_swap_50 3 rfl ?_
      refine w_iadd dX11_swap_51 ?_
      refine w_aload_n dX11_swap_52 1 rfl ?_
      refine w_getS (ci := 11) (k := 14) dX11_swap_53 rfl fi11 (by decide) q918 s530 rfl l530 ?_
      refine w_bipush dX11_swap_56 rfl ?_
      refine w_iload_n dX11_swap_58 2 rfl ?_
      refine w_imul dX11_swap_59 ?_
      refine w_iload_n dX11_swap_60 3 rfl ?_
      refine w_iadd dX11_swap_61 ?_
      refine w_iconst dX11_swap_62 ?_
      refine w_iadd dX11_swap_63 ?_
      obtain ⟨i10, h⟩ := h
      refine w_iald dX11_swap_64 s543 l543 (by decide) i10.1 i10.2 ?_
      refine w_iast dX11_swap_65 s543 l543 (by decide) i9.1 i9.2 (hwM8.int _ _) ?_
      have hw11 : WT (sI M8 (543) (((21 * p0) + p1).toNat) (gI M8 (543) ((((21 * p0) + p1) + 1).toNat))) := hwM8.sI (hwM8.int _ _)
      refine w_aload_n dX11_swap_66 1 rfl ?_
      refine w_getS (ci := 11) (k := 14) dX11_swap_67 rfl fi11 (by decide) q918 s530 rfl l530 ?_
      refine w_bipush dX11_swap_70 rfl ?_
      refine w_iload_n dX11_swap_72 2 rfl ?_
      refine w_imul dX11_swap_73 ?_
      refine w_iload_n dX11_swap_74 3 rfl ?_
      refine w_iadd dX11_swap_75 ?_
      refine w_iconst dX11_swap_76 ?_
      refine w_iadd dX11_swap_77 ?_
      refine w_iload_n dX11_swap_78 0 rfl ?_
      refine w_iast dX11_swap_79 s543 l543 (by decide) i10.1 i10.2 (hwM8.int _ _) ?_
      have hw12 : WT (sI (sI M8 (543) (((21 * p0) + p1).toNat) (gI M8 (543) ((((21 * p0) + p1) + 1).toNat))) (543) ((((21 * p0) + p1) + 1).toNat) (gI M8 (543) (((21 * p0) + p1).toNat))) := hw11.sI (hwM8.int _ _)
      refine w_aload_n dX11_swap_80 1 rfl ?_
      refine w_getS (ci := 11) (k := 4) dX11_swap_81 rfl fi11 (by decide) q908 s530 rfl l530 ?_
      refine w_iload_n dX11_swap_84 2 rfl ?_
      refine w_iald dX11_swap_85 s533 l533 (by decide) i4.1 i4.2 ?_
      refine w_top (congrArg vi ((gI_ne _ _ _ _ _ _ (by omega)).trans ((gI_ne _ _ _ _ _ _ (by omega)).trans rfl))) ?_
      have u13 : InR (gI M8 (533) (p0.toNat)) := hwM8.int _ _
      exact w_iret dX11_swap_86 ⟨_, rfl, u13, h⟩
    · replace h := h.2 c6
      refine w_bipush dX11_swap_23 rfl ?_
      exact w_iret dX11_swap_25 ⟨_, rfl, ⟨by decide, by decide⟩, h⟩
  · replace h := h.2 c3
    refine w_iconst dX11_swap_9 ?_
    exact w_iret dX11_swap_10 ⟨_, rfl, ⟨by decide, by decide⟩, h⟩
set_option maxHeartbeats 4000000 in
set_option maxRecDepth 100000 in
theorem b_Mo_host_0 {g : Ctx} {p0 : Int} {p1 : Int} {p2 : Int} {M : Mem} {Q : Int → Mem → Prop} (hp0 : InR p0) (hp1 : InR p1) (hp2 : InR p2) (h : K_Mo_isName g p0 M (fun r1 M2 => (r1 = 0 ∨ r1 = 1) → WT M2 → (((r1 = 0) → Q (-1) M2) ∧ ((¬ (r1 = 0)) → K_Mo_isIn g p1 0 255 M2 (fun r4 M5 => (r4 = 0 ∨ r4 = 1) → WT M5 → (((r4 = 0) → Q (-1) M5) ∧ ((¬ (r4 = 0)) → K_Mo_isIn g p2 0 1 M5 (fun r7 M8 => (r7 = 0 ∨ r7 = 1) → WT M8 → (((¬ r7 = 0) → K_Mo_hasHost g p0 p1 M8 (fun r10 M11 => (r10 = 0 ∨ r10 = 1) → WT M11 → (((¬ p2 = 1) → (((¬ r10 = 0) → (((¬ p2 = 1) → K_Mo_keeps g  M11 (fun M16 => WT M16 → (((¬ p2 = 1) → P_Mo_host g 136 [(0, vr g (530)), (2, vi (p1)), (4, vi ((21 * p0) + 16)), (5, vi ((21 * p0) + 17)), (6, vi (0))] [] M16 Q) ∧ ((p2 = 1) → (0 ≤ ((21 * p0) + 16) ∧ ((21 * p0) + 16) < 252) ∧ (0 ≤ (((21 * p0) + 17) + (gI M16 (543) (((21 * p0) + 16).toNat))) ∧ (((21 * p0) + 17) + (gI M16 (543) (((21 * p0) + 16).toNat))) < 252) ∧ (InR ((gI (sI M16 (543) ((((21 * p0) + 17) + (gI M16 (543) (((21 * p0) + 16).toNat))).toNat) (p1)) (543) (((21 * p0) + 16).toNat)) + 1)) ∧ Q ((gI (sI M16 (543) ((((21 * p0) + 17) + (gI M16 (543) (((21 * p0) + 16).toNat))).toNat) (p1)) (543) (((21 * p0) + 16).toNat)) + 1) (sI (sI M16 (543) ((((21 * p0) + 17) + (gI M16 (543) (((21 * p0) + 16).toNat))).toNat) (p1)) (543) (((21 * p0) + 16).toNat) ((gI (sI M16 (543) ((((21 * p0) + 17) + (gI M16 (543) (((21 * p0) + 16).toNat))).toNat) (p1)) (543) (((21 * p0) + 16).toNat)) + 1)))))) ∧ ((p2 = 1) → (0 ≤ ((21 * p0) + 16) ∧ ((21 * p0) + 16) < 252) ∧ (((¬ (gI M11 (543) (((21 * p0) + 16).toNat)) = 4) → K_Mo_keeps g  M11 (fun M26 => WT M26 → (((¬ p2 = 1) → P_Mo_host g 136 [(0, vr g (530)), (2, vi (p1)), (4, vi ((21 * p0) + 16)), (5, vi ((21 * p0) + 17)), (6, vi (0))] [] M26 Q) ∧ ((p2 = 1) → (0 ≤ (((21 * p0) + 17) + (gI M26 (543) (((21 * p0) + 16).toNat))) ∧ (((21 * p0) + 17) + (gI M26 (543) (((21 * p0) + 16).toNat))) < 252) ∧ (InR ((gI (sI M26 (543) ((((21 * p0) + 17) + (gI M26 (543) (((21 * p0) + 16).toNat))).toNat) (p1)) (543) (((21 * p0) + 16).toNat)) + 1)) ∧ Q ((gI (sI M26 (543) ((((21 * p0) + 17) + (gI M26 (543) (((21 * p0) + 16).toNat))).toNat) (p1)) (543) (((21 * p0) + 16).toNat)) + 1) (sI (sI M26 (543) ((((21 * p0) + 17) + (gI M26 (543) (((21 * p0) + 16).toNat))).toNat) (p1)) (543) (((21 * p0) + 16).toNat) ((gI (sI M26 (543) ((((21 * p0) + 17) + (gI M26 (543) (((21 * p0) + 16).toNat))).toNat) (p1)) (543) (((21 * p0) + 16).toNat)) + 1)))))) ∧ (((gI M11 (543) (((21 * p0) + 16).toNat)) = 4) → Q (-3) M11))))) ∧ ((r10 = 0) → Q (-2) M11))) ∧ ((p2 = 1) → (((¬ r10 = 1) → (((¬ p2 = 1) → K_Mo_keeps g  M11 (fun M35 => WT M35 → (((¬ p2 = 1) → P_Mo_host g 136 [(0, vr g (530)), (2, vi (p1)), (4, vi ((21 * p0) + 16)), (5, vi ((21 * p0) + 17)), (6, vi (0))] [] M35 Q) ∧ ((p2 = 1) → (0 ≤ ((21 * p0) + 16) ∧ ((21 * p0) + 16) < 252) ∧ (0 ≤ (((21 * p0) + 17) + (gI M35 (543) (((21 * p0) + 16).toNat))) ∧ (((21 * p0) + 17) + (gI M35 (543) (((21 * p0) + 16).toNat))) < 252) ∧ (InR ((gI (sI M35 (543) ((((21 * p0) + 17) + (gI M35 (543) (((21 * p0) + 16).toNat))).toNat) (p1)) (543) (((21 * p0) + 16).toNat)) + 1)) ∧ Q ((gI (sI M35 (543) ((((21 * p0) + 17) + (gI M35 (543) (((21 * p0) + 16).toNat))).toNat) (p1)) (543) (((21 * p0) + 16).toNat)) + 1) (sI (sI M35 (543) ((((21 * p0) + 17) + (gI M35 (543) (((21 * p0) + 16).toNat))).toNat) (p1)) (543) (((21 * p0) + 16).toNat) ((gI (sI M35 (543) ((((21 * p0) + 17) + (gI M35 (543) (((21 * p0) + 16).toNat))).toNat) (p1)) (543) (((21 * p0) + 16).toNat)) + 1)))))) ∧ ((p2 = 1) → (0 ≤ ((21 * p0) + 16) ∧ ((21 * p0) + 16) < 252) ∧ (((¬ (gI M11 (543) (((21 * p0) + 16).toNat)) = 4) → K_Mo_keeps g  M11 (fun M45 => WT M45 → (((¬ p2 = 1) → P_Mo_host g 136 [(0, vr g (530)), (2, vi (p1)), (4, vi ((21 * p0) + 16)), (5, vi ((21 * p0) + 17)), (6, vi (0))] [] M45 Q) ∧ ((p2 = 1) → (0 ≤ (((21 * p0) + 17) + (gI M45 (543) (((21 * p0) + 16).toNat))) ∧ (((21 * p0) + 17) + (gI M45 (543) (((21 * p0) + 16).toNat))) < 252) ∧ (InR ((gI (sI M45 (543) ((((21 * p0) + 17) + (gI M45 (543) (((21 * p0) + 16).toNat))).toNat) (p1)) (543) (((21 * p0) + 16).toNat)) + 1)) ∧ Q ((gI (sI M45 (543) ((((21 * p0) + 17) + (gI M45 (543) (((21 * p0) + 16).toNat))).toNat) (p1)) (543) (((21 * p0) + 16).toNat)) + 1) (sI (sI M45 (543) ((((21 * p0) + 17) + (gI M45 (543) (((21 * p0) + 16).toNat))).toNat) (p1)) (543) (((21 * p0) + 16).toNat) ((gI (sI M45 (543) ((((21 * p0) + 17) + (gI M45 (543) (((21 * p0) + 16).toNat))).toNat) (p1)) (543) (((21 * p0) + 16).toNat)) + 1)))))) ∧ (((gI M11 (543) (((21 * p0) + 16).toNat)) = 4) → Q (-3) M11))))) ∧ ((r10 = 1) → Q (-2) M11)))))) ∧ ((r7 = 0) → Q (-1) M8)))))))))) : P_Mo_host g 0 [(0, vr g (530)), (1, vi (p0)), (2, vi (p1)), (3, vi (p2))] [] M Q := by
  refine w_wt (fun hw => ?_)
  refine w_aload_n dX11_host_0 0 rfl ?_
  refine w_iload_n dX11_host_1 1 rfl ?_
  refine c_Mo_isName dX11_host_2 q1067 (by decide) (Nat.le_of_ble_eq_true rfl) h (fun r1 M2 h hr1 hwM2 => ?_)
  replace h := h hr1 hwM2
  refine w_if_eq (tgt := 28) dX11_host_5 (by decide) (inr_z hr1) (fun c3 => ?_) (fun c3 => ?_)
  · replace h := h.1 c3
    refine w_iconst dX11_host_28 ?_
    exact w_iret dX11_host_29 ⟨_, rfl, ⟨by decide, by decide⟩, h⟩
  · replace h := h.2 c3
    refine w_iload_n dX11_host_8 2 rfl ?_
    refine w_iconst dX11_host_9 ?_
    refine w_sipush dX11_host_10 rfl ?_
    refine c_Mo_isIn dX11_host_13 q851 (by decide) (Nat.le_of_ble_eq_true rfl) h (fun r4 M5 h hr4 hwM5 => ?_)
    replace h := h hr4 hwM5
    refine w_if_eq (tgt := 28) dX11_host_16 (by decide) (inr_z hr4) (fun c6 => ?_) (fun c6 => ?_)
    · replace h := h.1 c6
      refine w_iconst dX11_host_28 ?_
      exact w_iret dX11_host_29 ⟨_, rfl, ⟨by decide, by decide⟩, h⟩
    · replace h := h.2 c6
      refine w_iload_n dX11_host_19 3 rfl ?_
      refine w_iconst dX11_host_20 ?_
      refine w_iconst dX11_host_21 ?_
      refine c_Mo_isIn dX11_host_22 q851 (by decide) (Nat.le_of_ble_eq_true rfl) h (fun r7 M8 h hr7 hwM8 => ?_)
      replace h := h hr7 hwM8
      refine w_if_ne (tgt := 30) dX11_host_25 (by decide) (inr_z hr7) (fun c9 => ?_) (fun c9 => ?_)
      · replace h := h.1 c9
        refine w_aload_n dX11_host_30 0 rfl ?_
        refine w_iload_n dX11_host_31 1 rfl ?_
        refine w_iload_n dX11_host_32 2 rfl ?_
        refine c_Mo_hasHost dX11_host_33 q1117 (by decide) (Nat.le_of_ble_eq_true rfl) h (fun r10 M11 h hr10 hwM11 => ?_)
        replace h := h hr10 hwM11
        refine w_iload_n dX11_host_36 3 rfl ?_
        refine w_iconst dX11_host_37 ?_
        refine w_icmp_ne (tgt := 45) dX11_host_38 (by decide) hp2 ⟨by decide, by decide⟩ (fun c12 => ?_) (fun c12 => ?_)
        · replace h := h.1 c12
          refine w_iconst dX11_host_45 ?_
          refine w_icmp_ne (tgt := 52) dX11_host_46 (by decide) (inr_z hr10) ⟨by decide, by decide⟩ (fun c13 => ?_) (fun c13 => ?_)
          · replace h := h.1 c13
            refine w_bipush dX11_host_52 rfl ?_
            refine w_iload_n dX11_host_54 1 rfl ?_
            refine w_imul dX11_host_55 ?_
            refine w_bipush dX11_host_56 rfl ?_
            refine w_iadd dX11_host_58 ?_
            refine w_istore (lv' := [(4, vi ((21 * p0) + 16)), (0, vr g (530)), (1, vi (p0)), (2, vi (p1)), (3, vi (p2))]) dX11_host_59 (by decide) rfl ?_
            refine w_iload_n dX11_host_61 4 rfl ?_
            refine w_iconst dX11_host_62 ?_
            refine w_icmp_ne (tgt := 80) dX11_host_63 (by decide) hp2 ⟨by decide, by decide⟩ (fun c14 => ?_) (fun c14 => ?_)
            · replace h := h.1 c14
              refine w_aload_n dX11_host_80 1 rfl ?_
              refine c_Mo_keeps dX11_host_81 q1156 (by decide) (Nat.le_of_ble_eq_true rfl) h (fun M16 h hwM16 => ?_)
              replace h := h hwM16
              refine w_bipush dX11_host_84 rfl ?_
              refine w_iload_n dX11_host_86 2 rfl ?_
              refine w_imul dX11_host_87 ?_
              refine w_bipush dX11_host_88 rfl ?_
              refine w_iadd dX11_host_90 ?_
              refine w_istore (lv' := [(5, vi ((21 * p0) + 17)), (4, vi ((21 * p0) + 16)), (0, vr g (530)), (1, vi (p0)), (2, vi (p1)), (3, vi (p2))]) dX11_host_91 (by decide) rfl ?_
              refine w_iload_n dX11_host_93 5 rfl ?_
              refine w_iconst dX11_host_94 ?_
              refine w_icmp_ne (tgt := 133) dX11_host_95 (by decide) hp2 ⟨by decide, by decide⟩ (fun c17 => ?_) (fun c17 => ?_)
              · replace h := h.1 c17
                refine w_iconst dX11_host_133 ?_
                refine w_istore (lv' := [(6, vi (0)), (5, vi ((21 * p0) + 17)), (4, vi ((21 * p0) + 16)), (0, vr g (530)), (1, vi (p0)), (2, vi (p1)), (3, vi (p2))]) dX11_host_134 (by decide) rfl ?_
                refine w_lv [3, 5, 2, 1, 0] rfl ?_
                exact h
              · replace h := h.2 c17
                refine w_aload_n dX11_host_98 2 rfl ?_
                refine w_getS (ci := 11) (k := 14) dX11_host_99 rfl fi11 (by decide) q918 s530 rfl l530 ?_
                refine w_iload dX11_host_102 0 rfl ?_
                refine w_aload_n dX11_host_104 2 rfl ?_
                refine w_getS (ci := 11) (k := 14) dX11_host_105 rfl fi11 (by decide) q918 s530 rfl l530 ?_
                refine w_iload dX11_host_108 1 rfl ?_
                obtain ⟨i18, h⟩ := h
                refine w_iald dX11_host_110 s543 l543 (by decide) i18.1 i18.2 ?_
                refine w_iadd dX11_host_111 ?_
                refine w_iload_n dX11_host_112 4 rfl ?_
                obtain ⟨i19, h⟩ := h
                refine w_iast dX11_host_113 s543 l543 (by decide) i19.1 i19.2 hp1 ?_
                have hw20 : WT (sI M16 (543) ((((21 * p0) + 17) + (gI M16 (543) (((21 * p0) + 16).toNat))).toNat) (p1)) := hwM16.sI hp1
                refine w_aload_n dX11_host_114 2 rfl ?_
                refine w_getS (ci := 11) (k := 14) dX11_host_115 rfl fi11 (by decide) q918 s530 rfl l530 ?_
                refine w_iload dX11_host_118 1 rfl ?_
                refine w_dup2 dX11_host_120 rfl rfl ?_
                refine w_iald dX11_host_121 s543 l543 (by decide) i18.1 i18.2 ?_
                refine w_iconst dX11_host_122 ?_
                refine w_iadd dX11_host_123 ?_
                obtain ⟨i21, h⟩ := h
                refine w_iast dX11_host_124 s543 l543 (by decide) i18.1 i18.2 i21 ?_
                have hw22 : WT (sI (sI M16 (543) ((((21 * p0) + 17) + (gI M16 (543) (((21 * p0) + 16).toNat))).toNat) (p1)) (543) (((21 * p0) + 16).toNat) ((gI (sI M16 (543) ((((21 * p0) + 17) + (gI M16 (543) (((21 * p0) + 16).toNat))).toNat) (p1)) (543) (((21 * p0) + 16).toNat)) + 1)) := hw20.sI i21
                refine w_aload_n dX11_host_125 2 rfl ?_
                refine w_getS (ci := 11) (k := 14) dX11_host_126 rfl fi11 (by decide) q918 s530 rfl l530 ?_
                refine w_iload dX11_host_129 1 rfl ?_
                refine w_iald dX11_host_131 s543 l543 (by decide) i18.1 i18.2 ?_
                refine w_top (congrArg vi (gI_same _ _ _ _)) ?_
                exact w_iret dX11_host_132 ⟨_, rfl, i21, h⟩
            · replace h := h.2 c14
              refine w_aload_n dX11_host_66 1 rfl ?_
              refine w_getS (ci := 11) (k := 14) dX11_host_67 rfl fi11 (by decide) q918 s530 rfl l530 ?_
              refine w_iload dX11_host_70 0 rfl ?_
              obtain ⟨i23, h⟩ := h
              refine w_iald dX11_host_72 s543 l543 (by decide) i23.1 i23.2 ?_
              refine w_iconst dX11_host_73 ?_
              refine w_icmp_ne (tgt := 80) dX11_host_74 (by decide) (hwM11.int _ _) ⟨by decide, by decide⟩ (fun c24 => ?_) (fun c24 => ?_)
              · replace h := h.1 c24
                refine w_aload_n dX11_host_80 1 rfl ?_
                refine c_Mo_keeps dX11_host_81 q1156 (by decide) (Nat.le_of_ble_eq_true rfl) h (fun M26 h hwM26 => ?_)
                replace h := h hwM26
                refine w_bipush dX11_host_84 rfl ?_
                refine w_iload_n dX11_host_86 2 rfl ?_
                refine w_imul dX11_host_87 ?_
                refine w_bipush dX11_host_88 rfl ?_
                refine w_iadd dX11_host_90 ?_
                refine w_istore (lv' := [(5, vi ((21 * p0) + 17)), (4, vi ((21 * p0) + 16)), (0, vr g (530)), (1, vi (p0)), (2, vi (p1)), (3, vi (p2))]) dX11_host_91 (by decide) rfl ?_
                refine w_iload_n dX11_host_93 5 rfl ?_
                refine w_iconst dX11_host_94 ?_
                refine w_icmp_ne (tgt := 133) dX11_host_95 (by decide) hp2 ⟨by decide, by decide⟩ (fun c27 => ?_) (fun c27 => ?_)
                · replace h := h.1 c27
                  refine w_iconst dX11_host_133 ?_
                  refine w_istore (lv' := [(6, vi (0)), (5, vi ((21 * p0) + 17)), (4, vi ((21 * p0) + 16)), (0, vr g (530)), (1, vi (p0)), (2, vi (p1)), (3, vi (p2))]) dX11_host_134 (by decide) rfl ?_
                  refine w_lv [3, 5, 2, 1, 0] rfl ?_
                  exact h
                · replace h := h.2 c27
                  refine w_aload_n dX11_host_98 2 rfl ?_
                  refine w_getS (ci := 11) (k := 14) dX11_host_99 rfl fi11 (by decide) q918 s530 rfl l530 ?_
                  refine w_iload dX11_host_102 0 rfl ?_
                  refine w_aload_n dX11_host_104 2 rfl ?_
                  refine w_getS (ci := 11) (k := 14) dX11_host_105 rfl fi11 (by decide) q918 s530 rfl l530 ?_
                  refine w_iload dX11_host_108 1 rfl ?_
                  refine w_iald dX11_host_110 s543 l543 (by decide) i23.1 i23.2 ?_
                  refine w_iadd dX11_host_111 ?_
                  refine w_iload_n dX11_host_112 4 rfl ?_
                  obtain ⟨i28, h⟩ := h
                  refine w_iast dX11_host_113 s543 l543 (by decide) i28.1 i28.2 hp1 ?_
                  have hw29 : WT (sI M26 (543) ((((21 * p0) + 17) + (gI M26 (543) (((21 * p0) + 16).toNat))).toNat) (p1)) := hwM26.sI hp1
                  refine w_aload_n dX11_host_114 2 rfl ?_
                  refine w_getS (ci := 11) (k := 14) dX11_host_115 rfl fi11 (by decide) q918 s530 rfl l530 ?_
                  refine w_iload dX11_host_118 1 rfl ?_
                  refine w_dup2 dX11_host_120 rfl rfl ?_
                  refine w_iald dX11_host_121 s543 l543 (by decide) i23.1 i23.2 ?_
                  refine w_iconst dX11_host_122 ?_
                  refine w_iadd dX11_host_123 ?_
                  obtain ⟨i30, h⟩ := h
                  refine w_iast dX11_host_124 s543 l543 (by decide) i23.1 i23.2 i30 ?_
                  have hw31 : WT (sI (sI M26 (543) ((((21 * p0) + 17) + (gI M26 (543) (((21 * p0) + 16).toNat))).toNat) (p1)) (543) (((21 * p0) + 16).toNat) ((gI (sI M26 (543) ((((21 * p0) + 17) + (gI M26 (543) (((21 * p0) + 16).toNat))).toNat) (p1)) (543) (((21 * p0) + 16).toNat)) + 1)) := hw29.sI i30
                  refine w_aload_n dX11_host_125 2 rfl ?_
                  refine w_getS (ci := 11) (k := 14) dX11_host_126 rfl fi11 (by decide) q918 s530 rfl l530 ?_
                  refine w_iload dX11_host_129 1 rfl ?_
                  refine w_iald dX11_host_131 s543 l543 (by decide) i23.1 i23.2 ?_
                  refine w_top (congrArg vi (gI_same _ _ _ _)) ?_
                  exact w_iret dX11_host_132 ⟨_, rfl, i30, h⟩
              · replace h := h.2 c24
                refine w_bipush dX11_host_77 rfl ?_
                exact w_iret dX11_host_79 ⟨_, rfl, ⟨by decide, by decide⟩, h⟩
          · replace h := h.2 c13
            refine w_bipush dX11_host_49 rfl ?_
            exact w_iret dX11_host_51 ⟨_, rfl, ⟨by decide, by decide⟩, h⟩
        · replace h := h.2 c12
          refine w_iconst dX11_host_41 ?_
          refine w_goto (tgt := 46) dX11_host_42 (by decide) ?_
          refine w_icmp_ne (tgt := 52) dX11_host_46 (by decide) (inr_z hr10) ⟨by decide, by decide⟩ (fun c32 => ?_) (fun c32 => ?_)
          · replace h := h.1 c32
            refine w_bipush dX11_host_52 rfl ?_
            refine w_iload_n dX11_host_54 1 rfl ?_
            refine w_imul dX11_host_55 ?_
            refine w_bipush dX11_host_56 rfl ?_
            refine w_iadd dX11_host_58 ?_
            refine w_istore (lv' := [(4, vi ((21 * p0) + 16)), (0, vr g (530)), (1, vi (p0)), (2, vi (p1)), (3, vi (p2))]) dX11_host_59 (by decide) rfl ?_
            refine w_iload_n dX11_host_61 4 rfl ?_
            refine w_iconst dX11_host_62 ?_
            refine w_icmp_ne (tgt := 80) dX11_host_63 (by decide) hp2 ⟨by decide, by decide⟩ (fun c33 => ?_) (fun c33 => ?_)
            · replace h := h.1 c33
              refine w_aload_n dX11_host_80 1 rfl ?_
              refine c_Mo_keeps dX11_host_81 q1156 (by decide) (Nat.le_of_ble_eq_true rfl) h (fun M35 h hwM35 => ?_)
              replace h := h hwM35
              refine w_bipush dX11_host_84 rfl ?_
              refine w_iload_n dX11_host_86 2 rfl ?_
              refine w_imul dX11_host_87 ?_
              refine w_bipush dX11_host_88 rfl ?_
              refine w_iadd dX11_host_90 ?_
              refine w_istore (lv' := [(5, vi ((21 * p0) + 17)), (4, vi ((21 * p0) + 16)), (0, vr g (530)), (1, vi (p0)), (2, vi (p1)), (3, vi (p2))]) dX11_host_91 (by decide) rfl ?_
              refine w_iload_n dX11_host_93 5 rfl ?_
              refine w_iconst dX11_host_94 ?_
              refine w_icmp_ne (tgt := 133) dX11_host_95 (by decide) hp2 ⟨by decide, by decide⟩ (fun c36 => ?_) (fun c36 => ?_)
              · replace h := h.1 c36
                refine w_iconst dX11_host_133 ?_
                refine w_istore (lv' := [(6, vi (0)), (5, vi ((21 * p0) + 17)), (4, vi ((21 * p0) + 16)), (0, vr g (530)), (1, vi (p0)), (2, vi (p1)), (3, vi (p2))]) dX11_host_134 (by decide) rfl ?_
                refine w_lv [3, 5, 2, 1, 0] rfl ?_
                exact h
              · replace h := h.2 c36
                refine w_aload_n dX11_host_98 2 rfl ?_
                refine w_getS (ci := 11) (k := 14) dX11_host_99 rfl fi11 (by decide) q918 s530 rfl l530 ?_
                refine w_iload dX11_host_102 0 rfl ?_
                refine w_aload_n dX11_host_104 2 rfl ?_
                refine w_getS (ci := 11) (k := 14) dX11_host_105 rfl fi11 (by decide) q918 s530 rfl l530 ?_
                refine w_iload dX11_host_108 1 rfl ?_
                obtain ⟨i37, h⟩ := h
                refine w_iald dX11_host_110 s543 l543 (by decide) i37.1 i37.2 ?_
                refine w_iadd dX11_host_111 ?_
                refine w_iload_n dX11_host_112 4 rfl ?_
                obtain ⟨i38, h⟩ := h
                refine w_iast dX11_host_113 s543 l543 (by decide) i38.1 i38.2 hp1 ?_
                have hw39 : WT (sI M35 (543) ((((21 * p0) + 17) + (gI M35 (543) (((21 * p0) + 16).toNat))).toNat) (p1)) := hwM35.sI hp1
                refine w_aload_n dX11_host_114 2 rfl ?_
                refine w_getS (ci := 11) (k := 14) dX11_host_115 rfl fi11 (by decide) q918 s530 rfl l530 ?_
                refine w_iload dX11_host_118 1 rfl ?_
                refine w_dup2 dX11_host_120 rfl rfl ?_
                refine w_iald dX11_host_121 s543 l543 (by decide) i37.1 i37.2 ?_
                refine w_iconst dX11_host_122 ?_
                refine w_iadd dX11_host_123 ?_
                obtain ⟨i40, h⟩ := h
                refine w_iast dX11_host_124 s543 l543 (by decide) i37.1 i37.2 i40 ?_
                have hw41 : WT (sI (sI M35 (543) ((((21 * p0) + 17) + (gI M35 (543) (((21 * p0) + 16).toNat))).toNat) (p1)) (543) (((21 * p0) + 16).toNat) ((gI (sI M35 (543) ((((21 * p0) + 17) + (gI M35 (543) (((21 * p0) + 16).toNat))).toNat) (p1)) (543) (((21 * p0) + 16).toNat)) + 1)) := hw39.sI i40
                refine w_aload_n dX11_host_125 2 rfl ?_
                refine w_getS (ci := 11) (k := 14) dX11_host_126 rfl fi11 (by decide) q918 s530 rfl l530 ?_
                refine w_iload dX11_host_129 1 rfl ?_
                refine w_iald dX11_host_131 s543 l543 (by decide) i37.1 i37.2 ?_
                refine w_top (congrArg vi (gI_same _ _ _ _)) ?_
                exact w_iret dX11_host_132 ⟨_, rfl, i40, h⟩
            · replace h := h.2 c33
              refine w_aload_n dX11_host_66 1 rfl ?_
              refine w_getS (ci := 11) (k := 14) dX11_host_67 rfl fi11 (by decide) q918 s530 rfl l530 ?_
              refine w_iload dX11_host_70 0 rfl ?_
              obtain ⟨i42, h⟩ := h
              refine w_iald dX11_host_72 s543 l543 (by decide) i42.1 i42.2 ?_
              refine w_iconst dX11_host_73 ?_
              refine w_icmp_ne (tgt := 80) dX11_host_74 (by decide) (hwM11.int _ _) ⟨by decide, by decide⟩ (fun c43 => ?_) (fun c43 => ?_)
              · replace h := h.1 c43
                refine w_aload_n dX11_host_80 1 rfl ?_
                refine c_Mo_keeps dX11_host_81 q1156 (by decide) (Nat.le_of_ble_eq_true rfl) h (fun M45 h hwM45 => ?_)
                replace h := h hwM45
                refine w_bipush dX11_host_84 rfl ?_
                refine w_iload_n dX11_host_86 2 rfl ?_
                refine w_imul dX11_host_87 ?_
                refine w_bipush dX11_host_88 rfl ?_
                refine w_iadd dX11_host_90 ?_
                refine w_istore (lv' := [(5, vi ((21 * p0) + 17)), (4, vi ((21 * p0) + 16)), (0, vr g (530)), (1, vi (p0)), (2, vi (p1)), (3, vi (p2))]) dX11_host_91 (by decide) rfl ?_
                refine w_iload_n dX11_host_93 5 rfl ?_
                refine w_iconst dX11_host_94 ?_
                refine w_icmp_ne (tgt := 133) dX11_host_95 (by decide) hp2 ⟨by decide, by decide⟩ (fun c46 => ?_) (fun c46 => ?_)
                · replace h := h.1 c46
                  refine w_iconst dX11_host_133 ?_
                  refine w_istore (lv' := [(6, vi (0)), (5, vi ((21 * p0) + 17)), (4, vi ((21 * p0) + 16)), (0, vr g (530)), (1, vi (p0)), (2, vi (p1)), (3, vi (p2))]) dX11_host_134 (by decide) rfl ?_
                  refine w_lv [3, 5, 2, 1, 0] rfl ?_
                  exact h
                · replace h := h.2 c46
                  refine w_aload_n dX11_host_98 2 rfl ?_
                  refine w_getS (ci := 11) (k := 14) dX11_host_99 rfl fi11 (by decide) q918 s530 rfl l530 ?_
                  refine w_iload dX11_host_102 0 rfl ?_
                  refine w_aload_n dX11_host_104 2 rfl ?_
                  refine w_getS (ci := 11) (k := 14) dX11_host_105 rfl fi11 (by decide) q918 s530 rfl l530 ?_
                  refine w_iload dX11_host_108 1 rfl ?_
                  refine w_iald dX11_host_110 s543 l543 (by decide) i42.1 i42.2 ?_
                  refine w_iadd dX11_host_111 ?_
                  refine w_iload_n dX11_host_112 4 rfl ?_
                  obtain ⟨i47, h⟩ := h
                  refine w_iast dX11_host_113 s543 l543 (by decide) i47.1 i47.2 hp1 ?_
                  have hw48 : WT (sI M45 (543) ((((21 * p0) + 17) + (gI M45 (543) (((21 * p0) + 16).toNat))).toNat) (p1)) := hwM45.sI hp1
                  refine w_aload_n dX11_host_114 2 rfl ?_
                  refine w_getS (ci := 11) (k := 14) dX11_host_115 rfl fi11 (by decide) q918 s530 rfl l530 ?_
                  refine w_iload dX11_host_118 1 rfl ?_
                  refine w_dup2 dX11_host_120 rfl rfl ?_
                  refine w_iald dX11_host_121 s543 l543 (by decide) i42.1 i42.2 ?_
                  refine w_iconst dX11_host_122 ?_
                  refine w_iadd dX11_host_123 ?_
                  obtain ⟨i49, h⟩ := h
                  refine w_iast dX11_host_124 s543 l543 (by decide) i42.1 i42.2 i49 ?_
                  have hw50 : WT (sI (sI M45 (543) ((((21 * p0) + 17) + (gI M45 (543) (((21 * p0) + 16).toNat))).toNat) (p1)) (543) (((21 * p0) + 16).toNat) ((gI (sI M45 (543) ((((21 * p0) + 17) + (gI M45 (543) (((21 * p0) + 16).toNat))).toNat) (p1)) (543) (((21 * p0) + 16).toNat)) + 1)) := hw48.sI i49
                  refine w_aload_n dX11_host_125 2 rfl ?_
                  refine w_getS (ci := 11) (k := 14) dX11_host_126 rfl fi11 (by decide) q918 s530 rfl l530 ?_
                  refine w_iload dX11_host_129 1 rfl ?_
                  refine w_iald dX11_host_131 s543 l543 (by decide) i42.1 i42.2 ?_
                  refine w_top (congrArg vi (gI_same _ _ _ _)) ?_
                  exact w_iret dX11_host_132 ⟨_, rfl, i49, h⟩
              · replace h := h.2 c43
                refine w_bipush dX11_host_77 rfl ?_
                exact w_iret dX11_host_79 ⟨_, rfl, ⟨by decide, by decide⟩, h⟩
          · replace h := h.2 c32
            refine w_bipush dX11_host_49 rfl ?_
            exact w_iret dX11_host_51 ⟨_, rfl, ⟨by decide, by decide⟩, h⟩
      · replace h := h.2 c9
        refine w_iconst dX11_host_28 ?_
        exact w_iret dX11_host_29 ⟨_, rfl, ⟨by decide, by decide⟩, h⟩
set_option maxHeartbeats 4000000 in
set_option maxRecDepth 100000 in
theorem b_Mo_host_136 {g : Ctx} {x2 : Int} {x4 : Int} {x5 : Int} {x6 : Int} {M : Mem} {Q : Int → Mem → Prop} (hx2 : InR x2) (hx4 : InR x4) (hx5 : InR x5) (hx6 : InR x6) (h : (0 ≤ (x5 + x6) ∧ (x5 + x6) < 252) ∧ ((((gI M (543) ((x5 + x6).toNat)) = x2) → (0 ≤ x4 ∧ x4 < 252) ∧ (InR ((gI M (543) (x4.toNat)) - 1)) ∧ P_Mo_host g 171 [(0, vr g (530)), (4, vi (x4)), (5, vi (x5)), (7, vi (x6))] [] (sI M (543) (x4.toNat) ((gI M (543) (x4.toNat)) - 1)) Q) ∧ ((¬ ((gI M (543) ((x5 + x6).toNat)) = x2)) → P_Mo_host g 136 [(0, vr g (530)), (2, vi (x2)), (4, vi (x4)), (5, vi (x5)), (6, vi (x6 + 1))] [] M Q))) : P_Mo_host g 136 [(0, vr g (530)), (2, vi (x2)), (4, vi (x4)), (5, vi (x5)), (6, vi (x6))] [] M Q := by
  refine w_wt (fun hw => ?_)
  refine w_aload_n dX11_host_136 0 rfl ?_
  refine w_getS (ci := 11) (k := 14) dX11_host_137 rfl fi11 (by decide) q918 s530 rfl l530 ?_
  refine w_iload dX11_host_140 3 rfl ?_
  refine w_iload dX11_host_142 4 rfl ?_
  refine w_iadd dX11_host_144 ?_
  obtain ⟨i1, h⟩ := h
  refine w_iald dX11_host_145 s543 l543 (by decide) i1.1 i1.2 ?_
  refine w_iload_n dX11_host_146 1 rfl ?_
  refine w_icmp_eq (tgt := 156) dX11_host_147 (by decide) (hw.int _ _) hx2 (fun c2 => ?_) (fun c2 => ?_)
  · replace h := h.1 c2
    refine w_aload_n dX11_host_156 0 rfl ?_
    refine w_getS (ci := 11) (k := 14) dX11_host_157 rfl fi11 (by decide) q918 s530 rfl l530 ?_
    refine w_iload dX11_host_160 2 rfl ?_
    refine w_dup2 dX11_host_162 rfl rfl ?_
    obtain ⟨i3, h⟩ := h
    refine w_iald dX11_host_163 s543 l543 (by decide) i3.1 i3.2 ?_
    refine w_iconst dX11_host_164 ?_
    refine w_isub dX11_host_165 ?_
    obtain ⟨i4, h⟩ := h
    refine w_iast dX11_host_166 s543 l543 (by decide) i3.1 i3.2 i4 ?_
    have hw5 : WT (sI M (543) (x4.toNat) ((gI M (543) (x4.toNat)) - 1)) := hw.sI i4
    refine w_iload dX11_host_167 4 rfl ?_
    refine w_istore (lv' := [(7, vi (x6)), (0, vr g (530)), (2, vi (x2)), (4, vi (x4)), (5, vi (x5)), (6, vi (x6))]) dX11_host_169 (by decide) rfl ?_
    refine w_lv [1, 3, 4, 0] rfl ?_
    exact h
  · replace h := h.2 c2
    refine w_iinc (lv' := [(6, vi (x6 + 1)), (0, vr g (530)), (2, vi (x2)), (4, vi (x4)), (5, vi (x5))]) dX11_host_150 4 rfl (by decide) rfl ?_
    refine w_goto (tgt := 136) dX11_host_153 (by decide) ?_
    refine w_lv [1, 2, 3, 4, 0] rfl ?_
    exact h
set_option maxHeartbeats 4000000 in
set_option maxRecDepth 100000 in
theorem b_Mo_host_171 {g : Ctx} {x4 : Int} {x5 : Int} {x7 : Int} {M : Mem} {Q : Int → Mem → Prop} (hx4 : InR x4) (hx5 : InR x5) (hx7 : InR x7) (h : (0 ≤ x4 ∧ x4 < 252) ∧ ((((gI M (543) (x4.toNat)) ≤ x7) → Q (gI M (543) (x4.toNat)) M) ∧ ((¬ ((gI M (543) (x4.toNat)) ≤ x7)) → (0 ≤ ((x5 + x7) + 1) ∧ ((x5 + x7) + 1) < 252) ∧ (0 ≤ (x5 + x7) ∧ (x5 + x7) < 252) ∧ P_Mo_host g 171 [(0, vr g (530)), (4, vi (x4)), (5, vi (x5)), (7, vi (x7 + 1))] [] (sI M (543) ((x5 + x7).toNat) (gI M (543) (((x5 + x7) + 1).toNat))) Q))) : P_Mo_host g 171 [(0, vr g (530)), (4, vi (x4)), (5, vi (x5)), (7, vi (x7))] [] M Q := by
  refine w_wt (fun hw => ?_)
  refine w_iload dX11_host_171 3 rfl ?_
  refine w_aload_n dX11_host_173 0 rfl ?_
  refine w_getS (ci := 11) (k := 14) dX11_host_174 rfl fi11 (by decide) q918 s530 rfl l530 ?_
  refine w_iload dX11_host_177 1 rfl ?_
  obtain ⟨i1, h⟩ := h
  refine w_iald dX11_host_179 s543 l543 (by decide) i1.1 i1.2 ?_
  refine w_icmp_ge (tgt := 211) dX11_host_180 (by decide) hx7 (hw.int _ _) (fun c2 => ?_) (fun c2 => ?_)
  · replace h := h.1 c2
    refine w_aload_n dX11_host_211 0 rfl ?_
    refine w_getS (ci := 11) (k := 14) dX11_host_212 rfl fi11 (by decide) q918 s530 rfl l530 ?_
    refine w_iload dX11_host_215 1 rfl ?_
    refine w_iald dX11_host_217 s543 l543 (by decide) i1.1 i1.2 ?_
    exact w_iret dX11_host_218 ⟨_, rfl, (hw.int _ _), h⟩
  · replace h := h.2 c2
    refine w_aload_n dX11_host_183 0 rfl ?_
    refine w_getS (ci := 11) (k := 14) dX11_host_184 rfl fi11 (by decide) q918 s530 rfl l530 ?_
    refine w_iload dX11_host_187 2 rfl ?_
    refine w_iload dX11_host_189 3 rfl ?_
    refine w_iadd dX11_host_191 ?_
    refine w_aload_n dX11_host_192 0 rfl ?_
    refine w_getS (ci := 11) (k := 14) dX11_host_193 rfl fi11 (by decide) q918 s530 rfl l530 ?_
    refine w_iload dX11_host_196 2 rfl ?_
    refine w_iload dX11_host_198 3 rfl ?_
    refine w_iadd dX11_host_200 ?_
    refine w_iconst dX11_host_201 ?_
    refine w_iadd dX11_host_202 ?_
    obtain ⟨i3, h⟩ := h
    refine w_iald dX11_host_203 s543 l543 (by decide) i3.1 i3.2 ?_
    obtain ⟨i4, h⟩ := h
    refine w_iast dX11_host_204 s543 l543 (by decide) i4.1 i4.2 (hw.int _ _) ?_
    have hw5 : WT (sI M (543) ((x5 + x7).toNat) (gI M (543) (((x5 + x7) + 1).toNat))) := hw.sI (hw.int _ _)
    refine w_iinc (lv' := [(7, vi (x7 + 1)), (0, vr g (530)), (4, vi (x4)), (5, vi (x5))]) dX11_host_205 3 rfl (by decide) rfl ?_
    refine w_goto (tgt := 171) dX11_host_208 (by decide) ?_
    refine w_lv [1, 2, 3, 0] rfl ?_
    exact h
set_option maxHeartbeats 4000000 in
set_option maxRecDepth 100000 in
theorem b_Mo_name_0 {g : Ctx} {p0 : Int} {p1 : Int} {M : Mem} {Q : Int → Mem → Prop} (hp0 : InR p0) (hp1 : InR p1) (h : K_Mo_isName g p0 M (fun r1 M2 => (r1 = 0 ∨ r1 = 1) → WT M2 → (((r1 = 0) → Q (-1) M2) ∧ ((¬ (r1 = 0)) → K_Mo_isIn g p1 0 5 M2 (fun r4 M5 => (r4 = 0 ∨ r4 = 1) → WT M5 → (((¬ r4 = 0) → (((p1 = 0) → (0 ≤ p0 ∧ p0 < 12) ∧ K_Mo_lettersOf g (gI M5 (532) (p0.toNat)) M5 (fun r9 M10 => InR r9 → WT M10 → Q r9 M10)) ∧ ((¬ (p1 = 0)) → (((p1 = 1) → (0 ≤ p0 ∧ p0 < 12) ∧ Q (gI M5 (533) (p0.toNat)) M5) ∧ ((¬ (p1 = 1)) → (((p1 = 2) → (0 ≤ ((21 * p0) + 16) ∧ ((21 * p0) + 16) < 252) ∧ Q (gI M5 (543) (((21 * p0) + 16).toNat)) M5) ∧ ((¬ (p1 = 2)) → (((p1 = 3) → (0 ≤ p0 ∧ p0 < 12) ∧ Q (gI M5 (535) (p0.toNat)) M5) ∧ ((¬ (p1 = 3)) → (((p1 = 4) → (0 ≤ p0 ∧ p0 < 12) ∧ (((¬ (gI M5 (534) (p0.toNat)) = 0) → K_Mo_numberOf g (gI M5 (534) (p0.toNat)) M5 (fun r20 M21 => InR r20 → WT M21 → Q r20 M21)) ∧ (((gI M5 (534) (p0.toNat)) = 0) → Q (-4) M5))) ∧ ((¬ (p1 = 4)) → (0 ≤ p0 ∧ p0 < 12) ∧ ((((gI M5 (533) (p0.toNat)) ≤ 0) → Q 0 M5) ∧ ((¬ ((gI M5 (533) (p0.toNat)) ≤ 0)) → Q 1 M5))))))))))))) ∧ ((r4 = 0) → Q (-1) M5))))))) : P_Mo_name g 0 [(0, vr g (530)), (1, vi (p0)), (2, vi (p1))] [] M Q := by
  refine w_wt (fun hw => ?_)
  refine w_aload_n dX11_name_0 0 rfl ?_
  refine w_iload_n dX11_name_1 1 rfl ?_
  refine c_Mo_isName dX11_name_2 q1067 (by decide) (Nat.le_of_ble_eq_true rfl) h (fun r1 M2 h hr1 hwM2 => ?_)
  replace h := h hr1 hwM2
  refine w_if_eq (tgt := 17) dX11_name_5 (by decide) (inr_z hr1) (fun c3 => ?_) (fun c3 => ?_)
  · replace h := h.1 c3
    refine w_iconst dX11_name_17 ?_
    exact w_iret dX11_name_18 ⟨_, rfl, ⟨by decide, by decide⟩, h⟩
  · replace h := h.2 c3
    refine w_iload_n dX11_name_8 2 rfl ?_
    refine w_iconst dX11_name_9 ?_
    refine w_iconst dX11_name_10 ?_
    refine c_Mo_isIn dX11_name_11 q851 (by decide) (Nat.le_of_ble_eq_true rfl) h (fun r4 M5 h hr4 hwM5 => ?_)
    replace h := h hr4 hwM5
    refine w_if_ne (tgt := 19) dX11_name_14 (by decide) (inr_z hr4) (fun c6 => ?_) (fun c6 => ?_)
    · replace h := h.1 c6
      refine w_iload_n dX11_name_19 2 rfl ?_
      by_cases c7 : p1 = 0
      · replace h := h.1 c7
        refine w_tabIn (tgt := 56) dX11_name_20 c7 ⟨by decide, by decide⟩ (by decide) (by decide) rfl (by decide) ?_
        refine w_aload_n dX11_name_56 0 rfl ?_
        refine w_getS (ci := 11) (k := 3) dX11_name_57 rfl fi11 (by decide) q907 s530 rfl l530 ?_
        refine w_iload_n dX11_name_60 1 rfl ?_
        obtain ⟨i8, h⟩ := h
        refine w_iald dX11_name_61 s532 l532 (by decide) i8.1 i8.2 ?_
        refine c_Mo_lettersOf dX11_name_62 q1111 (by decide) (Nat.le_of_ble_eq_true rfl) h (fun r9 M10 h hr9 hwM10 => ?_)
        replace h := h hr9 hwM10
        exact w_iret dX11_name_65 ⟨_, rfl, hr9, h⟩
      replace h := h.2 c7
      by_cases c11 : p1 = 1
      · replace h := h.1 c11
        refine w_tabIn (tgt := 66) dX11_name_20 c11 ⟨by decide, by decide⟩ (by decide) (by decide) rfl (by decide) ?_
        refine w_aload_n dX11_name_66 0 rfl ?_
        refine w_getS (ci := 11) (k := 4) dX11_name_67 rfl fi11 (by decide) q908 s530 rfl l530 ?_
        refine w_iload_n dX11_name_70 1 rfl ?_
        obtain ⟨i12, h⟩ := h
        refine w_iald dX11_name_71 s533 l533 (by decide) i12.1 i12.2 ?_
        exact w_iret dX11_name_72 ⟨_, rfl, (hwM5.int _ _), h⟩
      replace h := h.2 c11
      by_cases c13 : p1 = 2
      · replace h := h.1 c13
        refine w_tabIn (tgt := 73) dX11_name_20 c13 ⟨by decide, by decide⟩ (by decide) (by decide) rfl (by decide) ?_
        refine w_aload_n dX11_name_73 0 rfl ?_
        refine w_getS (ci := 11) (k := 14) dX11_name_74 rfl fi11 (by decide) q918 s530 rfl l530 ?_
        refine w_bipush dX11_name_77 rfl ?_
        refine w_iload_n dX11_name_79 1 rfl ?_
        refine w_imul dX11_name_80 ?_
        refine w_bipush dX11_name_81 rfl ?_
        refine w_iadd dX11_name_83 ?_
        obtain ⟨i14, h⟩ := h
        refine w_iald dX11_name_84 s543 l543 (by decide) i14.1 i14.2 ?_
        exact w_iret dX11_name_85 ⟨_, rfl, (hwM5.int _ _), h⟩
      replace h := h.2 c13
      by_cases c15 : p1 = 3
      · replace h := h.1 c15
        refine w_tabIn (tgt := 86) dX11_name_20 c15 ⟨by decide, by decide⟩ (by decide) (by decide) rfl (by decide) ?_
        refine w_aload_n dX11_name_86 0 rfl ?_
        refine w_getS (ci := 11) (k := 6) dX11_name_87 rfl fi11 (by decide) q910 s530 rfl l530 ?_
        refine w_iload_n dX11_name_90 1 rfl ?_
        obtain ⟨i16, h⟩ := h
        refine w_iald dX11_name_91 s535 l535 (by decide) i16.1 i16.2 ?_
        exact w_iret dX11_name_92 ⟨_, rfl, (hwM5.int _ _), h⟩
      replace h := h.2 c15
      by_cases c17 : p1 = 4
      · replace h := h.1 c17
        refine w_tabIn (tgt := 93) dX11_name_20 c17 ⟨by decide, by decide⟩ (by decide) (by decide) rfl (by decide) ?_
        refine w_aload_n dX11_name_93 0 rfl ?_
        refine w_getS (ci := 11) (k := 5) dX11_name_94 rfl fi11 (by decide) q909 s530 rfl l530 ?_
        refine w_iload_n dX11_name_97 1 rfl ?_
        obtain ⟨i18, h⟩ := h
        refine w_iald dX11_name_98 s534 l534 (by decide) i18.1 i18.2 ?_
        refine w_if_ne (tgt := 107) dX11_name_99 (by decide) (hwM5.int _ _) (fun c19 => ?_) (fun c19 => ?_)
        · replace h := h.1 c19
          refine w_aload_n dX11_name_107 0 rfl ?_
          refine w_aload_n dX11_name_108 0 rfl ?_
          refine w_getS (ci := 11) (k := 5) dX11_name_109 rfl fi11 (by decide) q909 s530 rfl l530 ?_
          refine w_iload_n dX11_name_112 1 rfl ?_
          refine w_iald dX11_name_113 s534 l534 (by decide) i18.1 i18.2 ?_
          refine c_Mo_numberOf dX11_name_114 q1083 (by decide) (Nat.le_of_ble_eq_true rfl) h (fun r20 M21 h hr20 hwM21 => ?_)
          replace h := h hr20 hwM21
          exact w_iret dX11_name_117 ⟨_, rfl, hr20, h⟩
        · replace h := h.2 c19
          refine w_bipush dX11_name_102 rfl ?_
          refine w_goto (tgt := 117) dX11_name_104 (by decide) ?_
          exact w_iret dX11_name_117 ⟨_, rfl, ⟨by decide, by decide⟩, h⟩
      replace h := h.2 c17
      refine w_tabOut (tgt := 118) dX11_name_20 hp1 (by omega) (by decide) ?_
      refine w_aload_n dX11_name_118 0 rfl ?_
      refine w_getS (ci := 11) (k := 4) dX11_name_119 rfl fi11 (by decide) q908 s530 rfl l530 ?_
      refine w_iload_n dX11_name_122 1 rfl ?_
      obtain ⟨i22, h⟩ := h
      refine w_iald dX11_name_123 s533 l533 (by decide) i22.1 i22.2 ?_
      refine w_if_le (tgt := 131) dX11_name_124 (by decide) (hwM5.int _ _) (fun c23 => ?_) (fun c23 => ?_)
      · replace h := h.1 c23
        refine w_iconst dX11_name_131 ?_
        exact w_iret dX11_name_132 ⟨_, rfl, ⟨by decide, by decide⟩, h⟩
      · replace h := h.2 c23
        refine w_iconst dX11_name_127 ?_
        refine w_goto (tgt := 132) dX11_name_128 (by decide) ?_
        exact w_iret dX11_name_132 ⟨_, rfl, ⟨by decide, by decide⟩, h⟩
    · replace h := h.2 c6
      refine w_iconst dX11_name_17 ?_
      exact w_iret dX11_name_18 ⟨_, rfl, ⟨by decide, by decide⟩, h⟩
set_option maxHeartbeats 4000000 in
set_option maxRecDepth 100000 in
theorem b_Mo_letter_0 {g : Ctx} {p0 : Int} {p1 : Int} {M : Mem} {Q : Int → Mem → Prop} (hp0 : InR p0) (hp1 : InR p1) (h : K_Mo_isName g p0 M (fun r1 M2 => (r1 = 0 ∨ r1 = 1) → WT M2 → (((r1 = 0) → Q (-1) M2) ∧ ((¬ (r1 = 0)) → (((0 ≤ p1) → (0 ≤ p0 ∧ p0 < 12) ∧ K_Mo_lettersOf g (gI M2 (532) (p0.toNat)) M2 (fun r6 M7 => InR r6 → WT M7 → (((r6 ≤ p1) → Q (-4) M7) ∧ ((¬ (r6 ≤ p1)) → K_Mo_fromLast g (gI M7 (532) (p0.toNat)) ((r6 - 1) - p1) M7 (fun r9 M10 => InR r9 → WT M10 → Q r9 M10))))) ∧ ((¬ (0 ≤ p1)) → Q (-1) M2)))))) : P_Mo_letter g 0 [(0, vr g (530)), (1, vi (p0)), (2, vi (p1))] [] M Q := by
  refine w_wt (fun hw => ?_)
  refine w_aload_n dX11_letter_0 0 rfl ?_
  refine w_iload_n dX11_letter_1 1 rfl ?_
  refine c_Mo_isName dX11_letter_2 q1067 (by decide) (Nat.le_of_ble_eq_true rfl) h (fun r1 M2 h hr1 hwM2 => ?_)
  replace h := h hr1 hwM2
  refine w_if_eq (tgt := 12) dX11_letter_5 (by decide) (inr_z hr1) (fun c3 => ?_) (fun c3 => ?_)
  · replace h := h.1 c3
    refine w_iconst dX11_letter_12 ?_
    exact w_iret dX11_letter_13 ⟨_, rfl, ⟨by decide, by decide⟩, h⟩
  · replace h := h.2 c3
    refine w_iload_n dX11_letter_8 2 rfl ?_
    refine w_if_ge (tgt := 14) dX11_letter_9 (by decide) hp1 (fun c4 => ?_) (fun c4 => ?_)
    · replace h := h.1 c4
      refine w_aload_n dX11_letter_14 0 rfl ?_
      refine w_getS (ci := 11) (k := 3) dX11_letter_15 rfl fi11 (by decide) q907 s530 rfl l530 ?_
      refine w_iload_n dX11_letter_18 1 rfl ?_
      obtain ⟨i5, h⟩ := h
      refine w_iald dX11_letter_19 s532 l532 (by decide) i5.1 i5.2 ?_
      refine c_Mo_lettersOf dX11_letter_20 q1111 (by decide) (Nat.le_of_ble_eq_true rfl) h (fun r6 M7 h hr6 hwM7 => ?_)
      replace h := h hr6 hwM7
      refine w_istore_n (lv' := [(3, vi (r6)), (0, vr g (530)), (1, vi (p0)), (2, vi (p1))]) (i := 3) dX11_letter_23 rfl (by decide) rfl ?_
      refine w_iload_n dX11_letter_24 3 rfl ?_
      refine w_iload_n dX11_letter_25 0 rfl ?_
      refine w_icmp_ge (tgt := 46) dX11_letter_26 (by decide) hp1 hr6 (fun c8 => ?_) (fun c8 => ?_)
      · replace h := h.1 c8
        refine w_bipush dX11_letter_46 rfl ?_
        exact w_iret dX11_letter_48 ⟨_, rfl, ⟨by decide, by decide⟩, h⟩
      · replace h := h.2 c8
        refine w_aload_n dX11_letter_29 1 rfl ?_
        refine w_getS (ci := 11) (k := 3) dX11_letter_30 rfl fi11 (by decide) q907 s530 rfl l530 ?_
        refine w_iload_n dX11_letter_33 2 rfl ?_
        refine w_iald dX11_letter_34 s532 l532 (by decide) i5.1 i5.2 ?_
        refine w_iload_n dX11_letter_35 0 rfl ?_
        refine w_iconst dX11_letter_36 ?_
        refine w_isub dX11_letter_37 ?_
        refine w_iload_n dX11_letter_38 3 rfl ?_
        refine w_isub dX11_letter_39 ?_
        refine c_Mo_fromLast dX11_letter_40 q1114 (by decide) (Nat.le_of_ble_eq_true rfl) h (fun r9 M10 h hr9 hwM10 => ?_)
        replace h := h hr9 hwM10
        refine w_goto (tgt := 48) dX11_letter_43 (by decide) ?_
        exact w_iret dX11_letter_48 ⟨_, rfl, hr9, h⟩
    · replace h := h.2 c4
      refine w_iconst dX11_letter_12 ?_
      exact w_iret dX11_letter_13 ⟨_, rfl, ⟨by decide, by decide⟩, h⟩
set_option maxHeartbeats 4000000 in
set_option maxRecDepth 100000 in
theorem b_Mo_rule_0 {g : Ctx} {p0 : Int} {p1 : Int} {p2 : Int} {M : Mem} {Q : Int → Mem → Prop} (hp0 : InR p0) (hp1 : InR p1) (hp2 : InR p2) (h : K_Mo_isRule g p0 p1 M (fun r1 M2 => (r1 = 0 ∨ r1 = 1) → WT M2 → (((r1 = 0) → Q (-1) M2) ∧ ((¬ (r1 = 0)) → K_Mo_isIn g p2 0 4 M2 (fun r4 M5 => (r4 = 0 ∨ r4 = 1) → WT M5 → (((¬ r4 = 0) → K_Mo_ruleAt g p0 p1 M5 (fun r7 M8 => InR r7 → WT M8 → (((p2 = 0) → K_Mo_signAt g p0 p1 M8 (fun r10 M11 => InR r10 → WT M11 → Q r10 M11)) ∧ ((¬ (p2 = 0)) → (((p2 = 1) → (0 ≤ r7 ∧ r7 < 96) ∧ Q (gI M8 (537) (r7.toNat)) M8) ∧ ((¬ (p2 = 1)) → (((p2 = 2) → (0 ≤ r7 ∧ r7 < 96) ∧ (((¬ (gI M8 (537) (r7.toNat)) = 1) → Q (-4) M8) ∧ (((gI M8 (537) (r7.toNat)) = 1) → Q (gI M8 (538) (r7.toNat)) M8))) ∧ ((¬ (p2 = 2)) → (((p2 = 3) → (0 ≤ r7 ∧ r7 < 96) ∧ (((¬ (gI M8 (537) (r7.toNat)) = 1) → Q (-4) M8) ∧ (((gI M8 (537) (r7.toNat)) = 1) → Q (gI M8 (539) (r7.toNat)) M8))) ∧ ((¬ (p2 = 3)) → (0 ≤ r7 ∧ r7 < 96) ∧ K_Mo_isIn g (gI M8 (537) (r7.toNat)) 2 4 M8 (fun r21 M22 => (r21 = 0 ∨ r21 = 1) → WT M22 → (((r21 = 0) → Q (-4) M22) ∧ ((¬ (r21 = 0)) → K_Mo_numberOf g (gI M22 (540) (r7.toNat)) M22 (fun r24 M25 => InR r24 → WT M25 → Q r24 M25)))))))))))))) ∧ ((r4 = 0) → Q (-1) M5))))))) : P_Mo_rule g 0 [(0, vr g (530)), (1, vi (p0)), (2, vi (p1)), (3, vi (p2))] [] M Q := by
  refine w_wt (fun hw => ?_)
  refine w_aload_n dX11_rule_0 0 rfl ?_
  refine w_iload_n dX11_rule_1 1 rfl ?_
  refine w_iload_n dX11_rule_2 2 rfl ?_
  refine c_Mo_isRule dX11_rule_3 q1152 (by decide) (Nat.le_of_ble_eq_true rfl) h (fun r1 M2 h hr1 hwM2 => ?_)
  replace h := h hr1 hwM2
  refine w_if_eq (tgt := 18) dX11_rule_6 (by decide) (inr_z hr1) (fun c3 => ?_) (fun c3 => ?_)
  · replace h := h.1 c3
    refine w_iconst dX11_rule_18 ?_
    exact w_iret dX11_rule_19 ⟨_, rfl, ⟨by decide, by decide⟩, h⟩
  · replace h := h.2 c3
    refine w_iload_n dX11_rule_9 3 rfl ?_
    refine w_iconst dX11_rule_10 ?_
    refine w_iconst dX11_rule_11 ?_
    refine c_Mo_isIn dX11_rule_12 q851 (by decide) (Nat.le_of_ble_eq_true rfl) h (fun r4 M5 h hr4 hwM5 => ?_)
    replace h := h hr4 hwM5
    refine w_if_ne (tgt := 20) dX11_rule_15 (by decide) (inr_z hr4) (fun c6 => ?_) (fun c6 => ?_)
    · replace h := h.1 c6
      refine w_aload_n dX11_rule_20 0 rfl ?_
      refine w_iload_n dX11_rule_21 1 rfl ?_
      refine w_iload_n dX11_rule_22 2 rfl ?_
      refine c_Mo_ruleAt dX11_rule_23 q1091 (by decide) (Nat.le_of_ble_eq_true rfl) h (fun r7 M8 h hr7 hwM8 => ?_)
      replace h := h hr7 hwM8
      refine w_istore (lv' := [(4, vi (r7)), (0, vr g (530)), (1, vi (p0)), (2, vi (p1)), (3, vi (p2))]) dX11_rule_26 (by decide) rfl ?_
      refine w_iload_n dX11_rule_28 4 rfl ?_
      by_cases c9 : p2 = 0
      · replace h := h.1 c9
        refine w_tabIn (tgt := 60) dX11_rule_29 c9 ⟨by decide, by decide⟩ (by decide) (by decide) rfl (by decide) ?_
        refine w_aload_n dX11_rule_60 1 rfl ?_
        refine w_iload_n dX11_rule_61 2 rfl ?_
        refine w_iload_n dX11_rule_62 3 rfl ?_
        refine c_Mo_signAt dX11_rule_63 q1133 (by decide) (Nat.le_of_ble_eq_true rfl) h (fun r10 M11 h hr10 hwM11 => ?_)
        replace h := h hr10 hwM11
        exact w_iret dX11_rule_66 ⟨_, rfl, hr10, h⟩
      replace h := h.2 c9
      by_cases c12 : p2 = 1
      · replace h := h.1 c12
        refine w_tabIn (tgt := 67) dX11_rule_29 c12 ⟨by decide, by decide⟩ (by decide) (by decide) rfl (by decide) ?_
        refine w_aload_n dX11_rule_67 1 rfl ?_
        refine w_getS (ci := 11) (k := 8) dX11_rule_68 rfl fi11 (by decide) q912 s530 rfl l530 ?_
        refine w_iload dX11_rule_71 0 rfl ?_
        obtain ⟨i13, h⟩ := h
        refine w_iald dX11_rule_73 s537 l537 (by decide) i13.1 i13.2 ?_
        exact w_iret dX11_rule_74 ⟨_, rfl, (hwM8.int _ _), h⟩
      replace h := h.2 c12
      by_cases c14 : p2 = 2
      · replace h := h.1 c14
        refine w_tabIn (tgt := 75) dX11_rule_29 c14 ⟨by decide, by decide⟩ (by decide) (by decide) rfl (by decide) ?_
        refine w_aload_n dX11_rule_75 1 rfl ?_
        refine w_getS (ci := 11) (k := 8) dX11_rule_76 rfl fi11 (by decide) q912 s530 rfl l530 ?_
        refine w_iload dX11_rule_79 0 rfl ?_
        obtain ⟨i15, h⟩ := h
        refine w_iald dX11_rule_81 s537 l537 (by decide) i15.1 i15.2 ?_
        refine w_iconst dX11_rule_82 ?_
        refine w_icmp_ne (tgt := 96) dX11_rule_83 (by decide) (hwM8.int _ _) ⟨by decide, by decide⟩ (fun c16 => ?_) (fun c16 => ?_)
        · replace h := h.1 c16
          refine w_bipush dX11_rule_96 rfl ?_
          exact w_iret dX11_rule_98 ⟨_, rfl, ⟨by decide, by decide⟩, h⟩
        · replace h := h.2 c16
          refine w_aload_n dX11_rule_86 1 rfl ?_
          refine w_getS (ci := 11) (k := 9) dX11_rule_87 rfl fi11 (by decide) q913 s530 rfl l530 ?_
          refine w_iload dX11_rule_90 0 rfl ?_
          refine w_iald dX11_rule_92 s538 l538 (by decide) i15.1 i15.2 ?_
          refine w_goto (tgt := 98) dX11_rule_93 (by decide) ?_
          exact w_iret dX11_rule_98 ⟨_, rfl, (hwM8.int _ _), h⟩
      replace h := h.2 c14
      by_cases c17 : p2 = 3
      · replace h := h.1 c17
        refine w_tabIn (tgt := 99) dX11_rule_29 c17 ⟨by decide, by decide⟩ (by decide) (by decide) rfl (by decide) ?_
        refine w_aload_n dX11_rule_99 1 rfl ?_
        refine w_getS (ci := 11) (k := 8) dX11_rule_100 rfl fi11 (by decide) q912 s530 rfl l530 ?_
        refine w_iload dX11_rule_103 0 rfl ?_
        obtain ⟨i18, h⟩ := h
        refine w_iald dX11_rule_105 s537 l537 (by decide) i18.1 i18.2 ?_
        refine w_iconst dX11_rule_106 ?_
        refine w_icmp_ne (tgt := 120) dX11_rule_107 (by decide) (hwM8.int _ _) ⟨by decide, by decide⟩ (fun c19 => ?_) (fun c19 => ?_)
        · replace h := h.1 c19
          refine w_bipush dX11_rule_120 rfl ?_
          exact w_iret dX11_rule_122 ⟨_, rfl, ⟨by decide, by decide⟩, h⟩
        · replace h := h.2 c19
          refine w_aload_n dX11_rule_110 1 rfl ?_
          refine w_getS (ci := 11) (k := 10) dX11_rule_111 rfl fi11 (by decide) q914 s530 rfl l530 ?_
          refine w_iload dX11_rule_114 0 rfl ?_
          refine w_iald dX11_rule_116 s539 l539 (by decide) i18.1 i18.2 ?_
          refine w_goto (tgt := 122) dX11_rule_117 (by decide) ?_
          exact w_iret dX11_rule_122 ⟨_, rfl, (hwM8.int _ _), h⟩
      replace h := h.2 c17
      refine w_tabOut (tgt := 123) dX11_rule_29 hp2 (by omega) (by decide) ?_
      refine w_aload_n dX11_rule_123 1 rfl ?_
      refine w_getS (ci := 11) (k := 8) dX11_rule_124 rfl fi11 (by decide) q912 s530 rfl l530 ?_
      refine w_iload dX11_rule_127 0 rfl ?_
      obtain ⟨i20, h⟩ := h
      refine w_iald dX11_rule_129 s537 l537 (by decide) i20.1 i20.2 ?_
      refine w_iconst dX11_rule_130 ?_
      refine w_iconst dX11_rule_131 ?_
      refine c_Mo_isIn dX11_rule_132 q851 (by decide) (Nat.le_of_ble_eq_true rfl) h (fun r21 M22 h hr21 hwM22 => ?_)
      replace h := h hr21 hwM22
      refine w_if_eq (tgt := 152) dX11_rule_135 (by decide) (inr_z hr21) (fun c23 => ?_) (fun c23 => ?_)
      · replace h := h.1 c23
        refine w_bipush dX11_rule_152 rfl ?_
        exact w_iret dX11_rule_154 ⟨_, rfl, ⟨by decide, by decide⟩, h⟩
      · replace h := h.2 c23
        refine w_aload_n dX11_rule_138 1 rfl ?_
        refine w_aload_n dX11_rule_139 1 rfl ?_
        refine w_getS (ci := 11) (k := 11) dX11_rule_140 rfl fi11 (by decide) q915 s530 rfl l530 ?_
        refine w_iload dX11_rule_143 0 rfl ?_
        refine w_iald dX11_rule_145 s540 l540 (by decide) i20.1 i20.2 ?_
        refine c_Mo_numberOf dX11_rule_146 q1083 (by decide) (Nat.le_of_ble_eq_true rfl) h (fun r24 M25 h hr24 hwM25 => ?_)
        replace h := h hr24 hwM25
        refine w_goto (tgt := 154) dX11_rule_149 (by decide) ?_
        exact w_iret dX11_rule_154 ⟨_, rfl, hr24, h⟩
    · replace h := h.2 c6
      refine w_iconst dX11_rule_18 ?_
      exact w_iret dX11_rule_19 ⟨_, rfl, ⟨by decide, by decide⟩, h⟩
set_option maxHeartbeats 4000000 in
set_option maxRecDepth 100000 in
theorem b_Mo_hostOf_0 {g : Ctx} {p0 : Int} {p1 : Int} {M : Mem} {Q : Int → Mem → Prop} (hp0 : InR p0) (hp1 : InR p1) (h : K_Mo_isName g p0 M (fun r1 M2 => (r1 = 0 ∨ r1 = 1) → WT M2 → (((r1 = 0) → Q (-1) M2) ∧ ((¬ (r1 = 0)) → (((0 ≤ p1) → (0 ≤ ((21 * p0) + 16) ∧ ((21 * p0) + 16) < 252) ∧ ((((gI M2 (543) (((21 * p0) + 16).toNat)) ≤ p1) → Q (-4) M2) ∧ ((¬ ((gI M2 (543) (((21 * p0) + 16).toNat)) ≤ p1)) → (0 ≤ (((21 * p0) + 17) + p1) ∧ (((21 * p0) + 17) + p1) < 252) ∧ Q (gI M2 (543) ((((21 * p0) + 17) + p1).toNat)) M2))) ∧ ((¬ (0 ≤ p1)) → Q (-1) M2)))))) : P_Mo_hostOf g 0 [(0, vr g (530)), (1, vi (p0)), (2, vi (p1))] [] M Q := by
  refine w_wt (fun hw => ?_)
  refine w_aload_n dX11_hostOf_0 0 rfl ?_
  refine w_iload_n dX11_hostOf_1 1 rfl ?_
  refine c_Mo_isName dX11_hostOf_2 q1067 (by decide) (Nat.le_of_ble_eq_true rfl) h (fun r1 M2 h hr1 hwM2 => ?_)
  replace h := h hr1 hwM2
  refine w_if_eq (tgt := 12) dX11_hostOf_5 (by decide) (inr_z hr1) (fun c3 => ?_) (fun c3 => ?_)
  · replace h := h.1 c3
    refine w_iconst dX11_hostOf_12 ?_
    exact w_iret dX11_hostOf_13 ⟨_, rfl, ⟨by decide, by decide⟩, h⟩
  · replace h := h.2 c3
    refine w_iload_n dX11_hostOf_8 2 rfl ?_
    refine w_if_ge (tgt := 14) dX11_hostOf_9 (by decide) hp1 (fun c4 => ?_) (fun c4 => ?_)
    · replace h := h.1 c4
      refine w_iload_n dX11_hostOf_14 2 rfl ?_
      refine w_aload_n dX11_hostOf_15 0 rfl ?_
      refine w_getS (ci := 11) (k := 14) dX11_hostOf_16 rfl fi11 (by decide) q918 s530 rfl l530 ?_
      refine w_bipush dX11_hostOf_19 rfl ?_
      refine w_iload_n dX11_hostOf_21 1 rfl ?_
      refine w_imul dX11_hostOf_22 ?_
      refine w_bipush dX11_hostOf_23 rfl ?_
      refine w_iadd dX11_hostOf_25 ?_
      obtain ⟨i5, h⟩ := h
      refine w_iald dX11_hostOf_26 s543 l543 (by decide) i5.1 i5.2 ?_
      refine w_icmp_ge (tgt := 47) dX11_hostOf_27 (by decide) hp1 (hwM2.int _ _) (fun c6 => ?_) (fun c6 => ?_)
      · replace h := h.1 c6
        refine w_bipush dX11_hostOf_47 rfl ?_
        exact w_iret dX11_hostOf_49 ⟨_, rfl, ⟨by decide, by decide⟩, h⟩
      · replace h := h.2 c6
        refine w_aload_n dX11_hostOf_30 0 rfl ?_
        refine w_getS (ci := 11) (k := 14) dX11_hostOf_31 rfl fi11 (by decide) q918 s530 rfl l530 ?_
        refine w_bipush dX11_hostOf_34 rfl ?_
        refine w_iload_n dX11_hostOf_36 1 rfl ?_
        refine w_imul dX11_hostOf_37 ?_
        refine w_bipush dX11_hostOf_38 rfl ?_
        refine w_iadd dX11_hostOf_40 ?_
        refine w_iload_n dX11_hostOf_41 2 rfl ?_
        refine w_iadd dX11_hostOf_42 ?_
        obtain ⟨i7, h⟩ := h
        refine w_iald dX11_hostOf_43 s543 l543 (by decide) i7.1 i7.2 ?_
        refine w_goto (tgt := 49) dX11_hostOf_44 (by decide) ?_
        exact w_iret dX11_hostOf_49 ⟨_, rfl, (hwM2.int _ _), h⟩
    · replace h := h.2 c4
      refine w_iconst dX11_hostOf_12 ?_
      exact w_iret dX11_hostOf_13 ⟨_, rfl, ⟨by decide, by decide⟩, h⟩
set_option maxHeartbeats 4000000 in
set_option maxRecDepth 100000 in
theorem b_Mo_many_0 {g : Ctx} {p0 : Int} {p1 : Int} {p2 : Int} {M : Mem} {Q : Int → Mem → Prop} (hp0 : InR p0) (hp1 : InR p1) (hp2 : InR p2) (h : K_Mo_isName g p0 M (fun r1 M2 => (r1 = 0 ∨ r1 = 1) → WT M2 → (((r1 = 0) → Q (-1) M2) ∧ ((¬ (r1 = 0)) → K_Mo_isIn g p1 0 15 M2 (fun r4 M5 => (r4 = 0 ∨ r4 = 1) → WT M5 → (((r4 = 0) → Q (-1) M5) ∧ ((¬ (r4 = 0)) → K_Mo_isIn g p2 0 5 M5 (fun r7 M8 => (r7 = 0 ∨ r7 = 1) → WT M8 → (((¬ r7 = 0) → P_Mo_many g 35 [(0, vr g (530)), (1, vi (p0)), (2, vi (p1)), (3, vi (p2)), (4, vi (0)), (5, vi (0))] [] M8 Q) ∧ ((r7 = 0) → Q (-1) M8)))))))))) : P_Mo_many g 0 [(0, vr g (530)), (1, vi (p0)), (2, vi (p1)), (3, vi (p2))] [] M Q := by
  refine w_wt (fun hw => ?_)
  refine w_aload_n dX11_many_0 0 rfl ?_
  refine w_iload_n dX11_many_1 1 rfl ?_
  refine c_Mo_isName dX11_many_2 q1067 (by decide) (Nat.le_of_ble_eq_true rfl) h (fun r1 M2 h hr1 hwM2 => ?_)
  replace h := h hr1 hwM2
  refine w_if_eq (tgt := 27) dX11_many_5 (by decide) (inr_z hr1) (fun c3 => ?_) (fun c3 => ?_)
  · replace h := h.1 c3
    refine w_iconst dX11_many_27 ?_
    exact w_iret dX11_many_28 ⟨_, rfl, ⟨by decide, by decide⟩, h⟩
  · replace h := h.2 c3
    refine w_iload_n dX11_many_8 2 rfl ?_
    refine w_iconst dX11_many_9 ?_
    refine w_bipush dX11_many_10 rfl ?_
    refine c_Mo_isIn dX11_many_12 q851 (by decide) (Nat.le_of_ble_eq_true rfl) h (fun r4 M5 h hr4 hwM5 => ?_)
    replace h := h hr4 hwM5
    refine w_if_eq (tgt := 27) dX11_many_15 (by decide) (inr_z hr4) (fun c6 => ?_) (fun c6 => ?_)
    · replace h := h.1 c6
      refine w_iconst dX11_many_27 ?_
      exact w_iret dX11_many_28 ⟨_, rfl, ⟨by decide, by decide⟩, h⟩
    · replace h := h.2 c6
      refine w_iload_n dX11_many_18 3 rfl ?_
      refine w_iconst dX11_many_19 ?_
      refine w_iconst dX11_many_20 ?_
      refine c_Mo_isIn dX11_many_21 q851 (by decide) (Nat.le_of_ble_eq_true rfl) h (fun r7 M8 h hr7 hwM8 => ?_)
      replace h := h hr7 hwM8
      refine w_if_ne (tgt := 29) dX11_many_24 (by decide) (inr_z hr7) (fun c9 => ?_) (fun c9 => ?_)
      · replace h := h.1 c9
        refine w_iconst dX11_many_29 ?_
        refine w_istore (lv' := [(4, vi (0)), (0, vr g (530)), (1, vi (p0)), (2, vi (p1)), (3, vi (p2))]) dX11_many_30 (by decide) rfl ?_
        refine w_iconst dX11_many_32 ?_
        refine w_istore (lv' := [(5, vi (0)), (4, vi (0)), (0, vr g (530)), (1, vi (p0)), (2, vi (p1)), (3, vi (p2))]) dX11_many_33 (by decide) rfl ?_
        refine w_lv [2, 3, 4, 5, 1, 0] rfl ?_
        exact h
      · replace h := h.2 c9
        refine w_iconst dX11_many_27 ?_
        exact w_iret dX11_many_28 ⟨_, rfl, ⟨by decide, by decide⟩, h⟩
set_option maxHeartbeats 4000000 in
set_option maxRecDepth 100000 in
theorem b_Mo_many_35 {g : Ctx} {x1 : Int} {x2 : Int} {x3 : Int} {x4 : Int} {x5 : Int} {M : Mem} {Q : Int → Mem → Prop} (hx1 : InR x1) (hx2 : InR x2) (hx3 : InR x3) (hx4 : InR x4) (hx5 : InR x5) (h : (((256 ≤ x5) → Q x4 M) ∧ ((¬ (256 ≤ x5)) → K_Mo_goes g x1 x5 x2 M (fun r2 M3 => InR r2 → WT M3 → (((¬ r2 = x3) → P_Mo_many g 35 [(0, vr g (530)), (1, vi (x1)), (2, vi (x2)), (3, vi (x3)), (4, vi (x4 + 0)), (5, vi (x5 + 1))] [] M3 Q) ∧ ((r2 = x3) → P_Mo_many g 35 [(0, vr g (530)), (1, vi (x1)), (2, vi (x2)), (3, vi (x3)), (4, vi (x4 + 1)), (5, vi (x5 + 1))] [] M3 Q)))))) : P_Mo_many g 35 [(0, vr g (530)), (1, vi (x1)), (2, vi (x2)), (3, vi (x3)), (4, vi (x4)), (5, vi (x5))] [] M Q := by
  refine w_wt (fun hw => ?_)
  refine w_iload dX11_many_35 5 rfl ?_
  refine w_sipush dX11_many_37 rfl ?_
  refine w_icmp_ge (tgt := 71) dX11_many_40 (by decide) hx5 ⟨by decide, by decide⟩ (fun c1 => ?_) (fun c1 => ?_)
  · replace h := h.1 c1
    refine w_iload dX11_many_71 4 rfl ?_
    exact w_iret dX11_many_73 ⟨_, rfl, hx4, h⟩
  · replace h := h.2 c1
    refine w_iload dX11_many_43 4 rfl ?_
    refine w_aload_n dX11_many_45 0 rfl ?_
    refine w_iload_n dX11_many_46 1 rfl ?_
    refine w_iload dX11_many_47 5 rfl ?_
    refine w_iload_n dX11_many_49 2 rfl ?_
    refine c_Mo_goes dX11_many_50 q1071 (by decide) (Nat.le_of_ble_eq_true rfl) h (fun r2 M3 h hr2 hwM3 => ?_)
    replace h := h hr2 hwM3
    refine w_iload_n dX11_many_53 3 rfl ?_
    refine w_icmp_ne (tgt := 61) dX11_many_54 (by decide) hr2 hx3 (fun c4 => ?_) (fun c4 => ?_)
    · replace h := h.1 c4
      refine w_iconst dX11_many_61 ?_
      refine w_iadd dX11_many_62 ?_
      refine w_istore (lv' := [(4, vi (x4 + 0)), (0, vr g (530)), (1, vi (x1)), (2, vi (x2)), (3, vi (x3)), (5, vi (x5))]) dX11_many_63 (by decide) rfl ?_
      refine w_iinc (lv' := [(5, vi (x5 + 1)), (4, vi (x4 + 0)), (0, vr g (530)), (1, vi (x1)), (2, vi (x2)), (3, vi (x3))]) dX11_many_65 5 rfl (by decide) rfl ?_
      refine w_goto (tgt := 35) dX11_many_68 (by decide) ?_
      refine w_lv [2, 3, 4, 5, 1, 0] rfl ?_
      exact h
    · replace h := h.2 c4
      refine w_iconst dX11_many_57 ?_
      refine w_goto (tgt := 62) dX11_many_58 (by decide) ?_
      refine w_iadd dX11_many_62 ?_
      refine w_istore (lv' := [(4, vi (x4 + 1)), (0, vr g (530)), (1, vi (x1)), (2, vi (x2)), (3, vi (x3)), (5, vi (x5))]) dX11_many_63 (by decide) rfl ?_
      refine w_iinc (lv' := [(5, vi (x5 + 1)), (4, vi (x4 + 1)), (0, vr g (530)), (1, vi (x1)), (2, vi (x2)), (3, vi (x3))]) dX11_many_65 5 rfl (by decide) rfl ?_
      refine w_goto (tgt := 35) dX11_many_68 (by decide) ?_
      refine w_lv [2, 3, 4, 5, 1, 0] rfl ?_
      exact h
set_option maxHeartbeats 4000000 in
set_option maxRecDepth 100000 in
theorem b_Mo_dead_0 {g : Ctx} {p0 : Int} {p1 : Int} {M : Mem} {Q : Int → Mem → Prop} (hp0 : InR p0) (hp1 : InR p1) (h : K_Mo_isName g p0 M (fun r1 M2 => (r1 = 0 ∨ r1 = 1) → WT M2 → (((r1 = 0) → Q (-1) M2) ∧ ((¬ (r1 = 0)) → K_Mo_isIn g p1 0 15 M2 (fun r4 M5 => (r4 = 0 ∨ r4 = 1) → WT M5 → (((¬ r4 = 0) → (0 ≤ p0 ∧ p0 < 12) ∧ P_Mo_dead g 34 [(0, vr g (530)), (1, vi (p0)), (2, vi (p1)), (3, vi ((jshl 1 (gI M5 (533) (p0.toNat))) - 1)), (4, vi (0))] [] M5 Q) ∧ ((r4 = 0) → Q (-1) M5))))))) : P_Mo_dead g 0 [(0, vr g (530)), (1, vi (p0)), (2, vi (p1))] [] M Q := by
  refine w_wt (fun hw => ?_)
  refine w_aload_n dX11_dead_0 0 rfl ?_
  refine w_iload_n dX11_dead_1 1 rfl ?_
  refine c_Mo_isName dX11_dead_2 q1067 (by decide) (Nat.le_of_ble_eq_true rfl) h (fun r1 M2 h hr1 hwM2 => ?_)
  replace h := h hr1 hwM2
  refine w_if_eq (tgt := 18) dX11_dead_5 (by decide) (inr_z hr1) (fun c3 => ?_) (fun c3 => ?_)
  · replace h := h.1 c3
    refine w_iconst dX11_dead_18 ?_
    exact w_iret dX11_dead_19 ⟨_, rfl, ⟨by decide, by decide⟩, h⟩
  · replace h := h.2 c3
    refine w_iload_n dX11_dead_8 2 rfl ?_
    refine w_iconst dX11_dead_9 ?_
    refine w_bipush dX11_dead_10 rfl ?_
    refine c_Mo_isIn dX11_dead_12 q851 (by decide) (Nat.le_of_ble_eq_true rfl) h (fun r4 M5 h hr4 hwM5 => ?_)
    replace h := h hr4 hwM5
    refine w_if_ne (tgt := 20) dX11_dead_15 (by decide) (inr_z hr4) (fun c6 => ?_) (fun c6 => ?_)
    · replace h := h.1 c6
      refine w_iconst dX11_dead_20 ?_
      refine w_aload_n dX11_dead_21 0 rfl ?_
      refine w_getS (ci := 11) (k := 4) dX11_dead_22 rfl fi11 (by decide) q908 s530 rfl l530 ?_
      refine w_iload_n dX11_dead_25 1 rfl ?_
      obtain ⟨i7, h⟩ := h
      refine w_iald dX11_dead_26 s533 l533 (by decide) i7.1 i7.2 ?_
      refine w_ishl dX11_dead_27 ?_
      refine w_iconst dX11_dead_28 ?_
      refine w_isub dX11_dead_29 ?_
      refine w_istore_n (lv' := [(3, vi ((jshl 1 (gI M5 (533) (p0.toNat))) - 1)), (0, vr g (530)), (1, vi (p0)), (2, vi (p1))]) (i := 3) dX11_dead_30 rfl (by decide) rfl ?_
      refine w_iconst dX11_dead_31 ?_
      refine w_istore (lv' := [(4, vi (0)), (3, vi ((jshl 1 (gI M5 (533) (p0.toNat))) - 1)), (0, vr g (530)), (1, vi (p0)), (2, vi (p1))]) dX11_dead_32 (by decide) rfl ?_
      refine w_lv [2, 3, 4, 1, 0] rfl ?_
      exact h
    · replace h := h.2 c6
      refine w_iconst dX11_dead_18 ?_
      exact w_iret dX11_dead_19 ⟨_, rfl, ⟨by decide, by decide⟩, h⟩
set_option maxHeartbeats 4000000 in
set_option maxRecDepth 100000 in
theorem b_Mo_dead_34 {g : Ctx} {x1 : Int} {x2 : Int} {x3 : Int} {x4 : Int} {M : Mem} {Q : Int → Mem → Prop} (hx1 : InR x1) (hx2 : InR x2) (hx3 : InR x3) (hx4 : InR x4) (h : (((256 ≤ x4) → Q x3 M) ∧ ((¬ (256 ≤ x4)) → K_Mo_goes g x1 x4 x2 M (fun r2 M3 => InR r2 → WT M3 → (((¬ (gI M3 (530) (41)) = x1) → P_Mo_dead g 34 [(0, vr g (530)), (1, vi (x1)), (2, vi (x2)), (3, vi (jand x3 (-1))), (4, vi (x4 + 1))] [] M3 Q) ∧ (((gI M3 (530) (41)) = x1) → P_Mo_dead g 34 [(0, vr g (530)), (1, vi (x1)), (2, vi (x2)), (3, vi (jand x3 (jxor (jshl 1 (gI M3 (530) (42))) (-1)))), (4, vi (x4 + 1))] [] M3 Q)))))) : P_Mo_dead g 34 [(0, vr g (530)), (1, vi (x1)), (2, vi (x2)), (3, vi (x3)), (4, vi (x4))] [] M Q := by
  refine w_wt (fun hw => ?_)
  refine w_iload dX11_dead_34 4 rfl ?_
  refine w_sipush dX11_dead_36 rfl ?_
  refine w_icmp_ge (tgt := 80) dX11_dead_39 (by decide) hx4 ⟨by decide, by decide⟩ (fun c1 => ?_) (fun c1 => ?_)
  · replace h := h.1 c1
    refine w_iload_n dX11_dead_80 3 rfl ?_
    exact w_iret dX11_dead_81 ⟨_, rfl, hx3, h⟩
  · replace h := h.2 c1
    refine w_aload_n dX11_dead_42 0 rfl ?_
    refine w_iload_n dX11_dead_43 1 rfl ?_
    refine w_iload dX11_dead_44 4 rfl ?_
    refine w_iload_n dX11_dead_46 2 rfl ?_
    refine c_Mo_goes dX11_dead_47 q1071 (by decide) (Nat.le_of_ble_eq_true rfl) h (fun r2 M3 h hr2 hwM3 => ?_)
    replace h := h hr2 hwM3
    refine w_pop dX11_dead_50 rfl ?_
    refine w_iload_n dX11_dead_51 3 rfl ?_
    refine w_aload_n dX11_dead_52 0 rfl ?_
    refine w_getI (ci := 11) (k := 41) dX11_dead_53 rfl fi11 (by decide) q945 s530 rfl l530 ?_
    refine w_iload_n dX11_dead_56 1 rfl ?_
    refine w_icmp_ne (tgt := 71) dX11_dead_57 (by decide) (hwM3.int _ _) hx1 (fun c4 => ?_) (fun c4 => ?_)
    · replace h := h.1 c4
      refine w_iconst dX11_dead_71 ?_
      refine w_iand dX11_dead_72 ?_
      refine w_istore_n (lv' := [(3, vi (jand x3 (-1))), (0, vr g (530)), (1, vi (x1)), (2, vi (x2)), (4, vi (x4))]) (i := 3) dX11_dead_73 rfl (by decide) rfl ?_
      refine w_iinc (lv' := [(4, vi (x4 + 1)), (3, vi (jand x3 (-1))), (0, vr g (530)), (1, vi (x1)), (2, vi (x2))]) dX11_dead_74 4 rfl (by decide) rfl ?_
      refine w_goto (tgt := 34) dX11_dead_77 (by decide) ?_
      refine w_lv [2, 3, 4, 1, 0] rfl ?_
      exact h
    · replace h := h.2 c4
      refine w_iconst dX11_dead_60 ?_
      refine w_aload_n dX11_dead_61 0 rfl ?_
      refine w_getI (ci := 11) (k := 42) dX11_dead_62 rfl fi11 (by decide) q946 s530 rfl l530 ?_
      refine w_ishl dX11_dead_65 ?_
      refine w_iconst dX11_dead_66 ?_
      refine w_ixor dX11_dead_67 ?_
      refine w_goto (tgt := 72) dX11_dead_68 (by decide) ?_
      refine w_iand dX11_dead_72 ?_
      refine w_istore_n (lv' := [(3, vi (jand x3 (jxor (jshl 1 (gI M3 (530) (42))) (-1)))), (0, vr g (530)), (1, vi (x1)), (2, vi (x2)), (4, vi (x4))]) (i := 3) dX11_dead_73 rfl (by decide) rfl ?_
      refine w_iinc (lv' := [(4, vi (x4 + 1)), (3, vi (jand x3 (jxor (jshl 1 (gI M3 (530) (42))) (-1)))), (0, vr g (530)), (1, vi (x1)), (2, vi (x2))]) dX11_dead_74 4 rfl (by decide) rfl ?_
      refine w_goto (tgt := 34) dX11_dead_77 (by decide) ?_
      refine w_lv [2, 3, 4, 1, 0] rfl ?_
      exact h
set_option maxHeartbeats 4000000 in
set_option maxRecDepth 100000 in
theorem b_Mo_floats_0 {g : Ctx} {p0 : Int} {M : Mem} {Q : Int → Mem → Prop} (hp0 : InR p0) (h : (((¬ p0 = 0) → P_Mo_floats g 8 [(0, vi (p0)), (1, vi (0))] [] M Q) ∧ ((p0 = 0) → Q 0 M))) : P_Mo_floats g 0 [(0, vi (p0))] [] M Q := by
  refine w_wt (fun hw => ?_)
  refine w_iload_n dX11_floats_0 0 rfl ?_
  refine w_if_ne (tgt := 6) dX11_floats_1 (by decide) hp0 (fun c1 => ?_) (fun c1 => ?_)
  · replace h := h.1 c1
    refine w_iconst dX11_floats_6 ?_
    refine w_istore_n (lv' := [(1, vi (0)), (0, vi (p0))]) (i := 1) dX11_floats_7 rfl (by decide) rfl ?_
    refine w_lv [1, 0] rfl ?_
    exact h
  · replace h := h.2 c1
    refine w_iconst dX11_floats_4 ?_
    exact w_iret dX11_floats_5 ⟨_, rfl, ⟨by decide, by decide⟩, h⟩
set_option maxHeartbeats 4000000 in
set_option maxRecDepth 100000 in
theorem b_Mo_floats_8 {g : Ctx} {x0 : Int} {x1 : Int} {M : Mem} {Q : Int → Mem → Prop} (hx0 : InR x0) (hx1 : InR x1) (h : ((((jshr x0 x1) ≤ 1) → Q (jor (jshl ((127 + x1) - 8) 23) (jshl (jxor x0 (jshl 1 x1)) (23 - x1))) M) ∧ ((¬ ((jshr x0 x1) ≤ 1)) → P_Mo_floats g 8 [(0, vi (x0)), (1, vi (x1 + 1))] [] M Q))) : P_Mo_floats g 8 [(0, vi (x0)), (1, vi (x1))] [] M Q := by
  refine w_wt (fun hw => ?_)
  refine w_iload_n dX11_floats_8 0 rfl ?_
  refine w_iload_n dX11_floats_9 1 rfl ?_
  refine w_ishr dX11_floats_10 ?_
  refine w_iconst dX11_floats_11 ?_
  refine w_icmp_le (tgt := 21) dX11_floats_12 (by decide) (inr_jshr _ _) ⟨by decide, by decide⟩ (fun c1 => ?_) (fun c1 => ?_)
  · replace h := h.1 c1
    refine w_bipush dX11_floats_21 rfl ?_
    refine w_iload_n dX11_floats_23 1 rfl ?_
    refine w_iadd dX11_floats_24 ?_
    refine w_bipush dX11_floats_25 rfl ?_
    refine w_isub dX11_floats_27 ?_
    refine w_bipush dX11_floats_28 rfl ?_
    refine w_ishl dX11_floats_30 ?_
    refine w_iload_n dX11_floats_31 0 rfl ?_
    refine w_iconst dX11_floats_32 ?_
    refine w_iload_n dX11_floats_33 1 rfl ?_
    refine w_ishl dX11_floats_34 ?_
    refine w_ixor dX11_floats_35 ?_
    refine w_bipush dX11_floats_36 rfl ?_
    refine w_iload_n dX11_floats_38 1 rfl ?_
    refine w_isub dX11_floats_39 ?_
    refine w_ishl dX11_floats_40 ?_
    refine w_ior dX11_floats_41 ?_
    exact w_iret dX11_floats_42 ⟨_, rfl, (inr_jor _ _), h⟩
  · replace h := h.2 c1
    refine w_iinc (lv' := [(1, vi (x1 + 1)), (0, vi (x0))]) dX11_floats_15 1 rfl (by decide) rfl ?_
    refine w_goto (tgt := 8) dX11_floats_18 (by decide) ?_
    refine w_lv [1, 0] rfl ?_
    exact h
set_option maxHeartbeats 4000000 in
set_option maxRecDepth 100000 in
theorem b_Mo_leads_0 {g : Ctx} {p0 : Int} {M : Mem} {Q : Int → Mem → Prop} (hp0 : InR p0) (h : K_Mo_isName g p0 M (fun r1 M2 => (r1 = 0 ∨ r1 = 1) → WT M2 → (((¬ r1 = 0) → K_Mo_leadsOf g p0 M2 (fun r4 M5 => InR r4 → WT M5 → P_Mo_leads g 18 [(0, vr g (530)), (2, vi (r4)), (3, vi (0))] [] M5 Q)) ∧ ((r1 = 0) → Q (-1) M2)))) : P_Mo_leads g 0 [(0, vr g (530)), (1, vi (p0))] [] M Q := by
  refine w_wt (fun hw => ?_)
  refine w_aload_n dX11_leads_0 0 rfl ?_
  refine w_iload_n dX11_leads_1 1 rfl ?_
  refine c_Mo_isName dX11_leads_2 q1067 (by decide) (Nat.le_of_ble_eq_true rfl) h (fun r1 M2 h hr1 hwM2 => ?_)
  replace h := h hr1 hwM2
  refine w_if_ne (tgt := 10) dX11_leads_5 (by decide) (inr_z hr1) (fun c3 => ?_) (fun c3 => ?_)
  · replace h := h.1 c3
    refine w_aload_n dX11_leads_10 0 rfl ?_
    refine w_iload_n dX11_leads_11 1 rfl ?_
    refine c_Mo_leadsOf dX11_leads_12 q1204 (by decide) (Nat.le_of_ble_eq_true rfl) h (fun r4 M5 h hr4 hwM5 => ?_)
    replace h := h hr4 hwM5
    refine w_istore_n (lv' := [(2, vi (r4)), (0, vr g (530)), (1, vi (p0))]) (i := 2) dX11_leads_15 rfl (by decide) rfl ?_
    refine w_iconst dX11_leads_16 ?_
    refine w_istore_n (lv' := [(3, vi (0)), (2, vi (r4)), (0, vr g (530)), (1, vi (p0))]) (i := 3) dX11_leads_17 rfl (by decide) rfl ?_
    refine w_lv [2, 1, 0] rfl ?_
    exact h
  · replace h := h.2 c3
    refine w_iconst dX11_leads_8 ?_
    exact w_iret dX11_leads_9 ⟨_, rfl, ⟨by decide, by decide⟩, h⟩
set_option maxHeartbeats 4000000 in
set_option maxRecDepth 100000 in
theorem b_Mo_leads_18 {g : Ctx} {x2 : Int} {x3 : Int} {M : Mem} {Q : Int → Mem → Prop} (hx2 : InR x2) (hx3 : InR x3) (h : (((x3 = x2) → Q x2 M) ∧ ((¬ (x3 = x2)) → P_Mo_leads g 28 [(0, vr g (530)), (2, vi (x2)), (3, vi (x2)), (4, vi (0))] [] M Q))) : P_Mo_leads g 18 [(0, vr g (530)), (2, vi (x2)), (3, vi (x3))] [] M Q := by
  refine w_wt (fun hw => ?_)
  refine w_iload_n dX11_leads_18 2 rfl ?_
  refine w_iload_n dX11_leads_19 1 rfl ?_
  refine w_icmp_eq (tgt := 69) dX11_leads_20 (by decide) hx3 hx2 (fun c1 => ?_) (fun c1 => ?_)
  · replace h := h.1 c1
    refine w_iload_n dX11_leads_69 1 rfl ?_
    exact w_iret dX11_leads_70 ⟨_, rfl, hx2, h⟩
  · replace h := h.2 c1
    refine w_iload_n dX11_leads_23 1 rfl ?_
    refine w_istore_n (lv' := [(3, vi (x2)), (0, vr g (530)), (2, vi (x2))]) (i := 3) dX11_leads_24 rfl (by decide) rfl ?_
    refine w_iconst dX11_leads_25 ?_
    refine w_istore (lv' := [(4, vi (0)), (3, vi (x2)), (0, vr g (530)), (2, vi (x2))]) dX11_leads_26 (by decide) rfl ?_
    refine w_lv [2, 3, 1, 0] rfl ?_
    exact h
set_option maxHeartbeats 4000000 in
set_option maxRecDepth 100000 in
theorem b_Mo_leads_28 {g : Ctx} {x2 : Int} {x3 : Int} {x4 : Int} {M : Mem} {Q : Int → Mem → Prop} (hx2 : InR x2) (hx3 : InR x3) (hx4 : InR x4) (h : ((((gI M (530) (2)) ≤ x4) → P_Mo_leads g 18 [(0, vr g (530)), (2, vi (x2)), (3, vi (x3))] [] M Q) ∧ ((¬ ((gI M (530) (2)) ≤ x4)) → (((¬ (jand (jshr x3 x4) 1) = 1) → P_Mo_leads g 28 [(0, vr g (530)), (2, vi (jor x2 0)), (3, vi (x3)), (4, vi (x4 + 1))] [] M Q) ∧ (((jand (jshr x3 x4) 1) = 1) → K_Mo_leadsOf g x4 M (fun r3 M4 => InR r3 → WT M4 → P_Mo_leads g 28 [(0, vr g (530)), (2, vi (jor x2 r3)), (3, vi (x3)), (4, vi (x4 + 1))] [] M4 Q)))))) : P_Mo_leads g 28 [(0, vr g (530)), (2, vi (x2)), (3, vi (x3)), (4, vi (x4))] [] M Q := by
  refine w_wt (fun hw => ?_)
  refine w_iload dX11_leads_28 3 rfl ?_
  refine w_aload_n dX11_leads_30 0 rfl ?_
  refine w_getI (ci := 11) (k := 2) dX11_leads_31 rfl fi11 (by decide) q906 s530 rfl l530 ?_
  refine w_icmp_ge (tgt := 66) dX11_leads_34 (by decide) hx4 (hw.int _ _) (fun c1 => ?_) (fun c1 => ?_)
  · replace h := h.1 c1
    refine w_goto (tgt := 18) dX11_leads_66 (by decide) ?_
    refine w_lv [0, 1, 2] rfl ?_
    exact h
  · replace h := h.2 c1
    refine w_iload_n dX11_leads_37 1 rfl ?_
    refine w_iload_n dX11_leads_38 2 rfl ?_
    refine w_iload dX11_leads_39 3 rfl ?_
    refine w_ishr dX11_leads_41 ?_
    refine w_iconst dX11_leads_42 ?_
    refine w_iand dX11_leads_43 ?_
    refine w_iconst dX11_leads_44 ?_
    refine w_icmp_ne (tgt := 57) dX11_leads_45 (by decide) (inr_jand _ _) ⟨by decide, by decide⟩ (fun c2 => ?_) (fun c2 => ?_)
    · replace h := h.1 c2
      refine w_iconst dX11_leads_57 ?_
      refine w_ior dX11_leads_58 ?_
      refine w_istore_n (lv' := [(2, vi (jor x2 0)), (0, vr g (530)), (3, vi (x3)), (4, vi (x4))]) (i := 2) dX11_leads_59 rfl (by decide) rfl ?_
      refine w_iinc (lv' := [(4, vi (x4 + 1)), (2, vi (jor x2 0)), (0, vr g (530)), (3, vi (x3))]) dX11_leads_60 3 rfl (by decide) rfl ?_
      refine w_goto (tgt := 28) dX11_leads_63 (by decide) ?_
      refine w_lv [2, 1, 3, 0] rfl ?_
      exact h
    · replace h := h.2 c2
      refine w_aload_n dX11_leads_48 0 rfl ?_
      refine w_iload dX11_leads_49 3 rfl ?_
      refine c_Mo_leadsOf dX11_leads_51 q1204 (by decide) (Nat.le_of_ble_eq_true rfl) h (fun r3 M4 h hr3 hwM4 => ?_)
      replace h := h hr3 hwM4
      refine w_goto (tgt := 58) dX11_leads_54 (by decide) ?_
      refine w_ior dX11_leads_58 ?_
      refine w_istore_n (lv' := [(2, vi (jor x2 r3)), (0, vr g (530)), (3, vi (x3)), (4, vi (x4))]) (i := 2) dX11_leads_59 rfl (by decide) rfl ?_
      refine w_iinc (lv' := [(4, vi (x4 + 1)), (2, vi (jor x2 r3)), (0, vr g (530)), (3, vi (x3))]) dX11_leads_60 3 rfl (by decide) rfl ?_
      refine w_goto (tgt := 28) dX11_leads_63 (by decide) ?_
      refine w_lv [2, 1, 3, 0] rfl ?_
      exact h
set_option maxHeartbeats 4000000 in
set_option maxRecDepth 100000 in
theorem b_Mo_leadsOf_0 {g : Ctx} {p0 : Int} {M : Mem} {Q : Int → Mem → Prop} (hp0 : InR p0) (h : (0 ≤ p0 ∧ p0 < 12) ∧ (((¬ (gI M (534) (p0.toNat)) = 0) → K_Mo_numberOf g (gI M (534) (p0.toNat)) M (fun r3 M4 => InR r3 → WT M4 → (((r3 = (-4)) → P_Mo_leadsOf g 55 [(0, vr g (530)), (1, vi (p0)), (2, vi (jor 0 0)), (4, vi (0))] [] M4 Q) ∧ ((¬ (r3 = (-4))) → (0 ≤ r3 ∧ r3 < 12) ∧ (((¬ (gI M4 (533) (r3.toNat)) = 0) → P_Mo_leadsOf g 55 [(0, vr g (530)), (1, vi (p0)), (2, vi (jor 0 (jshl 1 r3))), (4, vi (0))] [] M4 Q) ∧ (((gI M4 (533) (r3.toNat)) = 0) → P_Mo_leadsOf g 55 [(0, vr g (530)), (1, vi (p0)), (2, vi (jor 0 0)), (4, vi (0))] [] M4 Q)))))) ∧ (((gI M (534) (p0.toNat)) = 0) → P_Mo_leadsOf g 55 [(0, vr g (530)), (1, vi (p0)), (2, vi (jor 0 0)), (4, vi (0))] [] M Q))) : P_Mo_leadsOf g 0 [(0, vr g (530)), (1, vi (p0))] [] M Q := by
  refine w_wt (fun hw => ?_)
  refine w_iconst dX11_leadsOf_0 ?_
  refine w_istore_n (lv' := [(2, vi (0)), (0, vr g (530)), (1, vi (p0))]) (i := 2) dX11_leadsOf_1 rfl (by decide) rfl ?_
  refine w_aload_n dX11_leadsOf_2 1 rfl ?_
  refine w_getS (ci := 11) (k := 5) dX11_leadsOf_3 rfl fi11 (by decide) q909 s530 rfl l530 ?_
  refine w_iload_n dX11_leadsOf_6 2 rfl ?_
  obtain ⟨i1, h⟩ := h
  refine w_iald dX11_leadsOf_7 s534 l534 (by decide) i1.1 i1.2 ?_
  refine w_if_ne (tgt := 16) dX11_leadsOf_8 (by decide) (hw.int _ _) (fun c2 => ?_) (fun c2 => ?_)
  · replace h := h.1 c2
    refine w_aload_n dX11_leadsOf_16 1 rfl ?_
    refine w_aload_n dX11_leadsOf_17 1 rfl ?_
    refine w_getS (ci := 11) (k := 5) dX11_leadsOf_18 rfl fi11 (by decide) q909 s530 rfl l530 ?_
    refine w_iload_n dX11_leadsOf_21 2 rfl ?_
    refine w_iald dX11_leadsOf_22 s534 l534 (by decide) i1.1 i1.2 ?_
    refine c_Mo_numberOf dX11_leadsOf_23 q1083 (by decide) (Nat.le_of_ble_eq_true rfl) h (fun r3 M4 h hr3 hwM4 => ?_)
    replace h := h hr3 hwM4
    refine w_istore_n (lv' := [(3, vi (r3)), (2, vi (0)), (0, vr g (530)), (1, vi (p0))]) (i := 3) dX11_leadsOf_26 rfl (by decide) rfl ?_
    refine w_iload_n dX11_leadsOf_27 1 rfl ?_
    refine w_iload_n dX11_leadsOf_28 0 rfl ?_
    refine w_bipush dX11_leadsOf_29 rfl ?_
    refine w_icmp_eq (tgt := 43) dX11_leadsOf_31 (by decide) hr3 ⟨by decide, by decide⟩ (fun c5 => ?_) (fun c5 => ?_)
    · replace h := h.1 c5
      refine w_iconst dX11_leadsOf_43 ?_
      refine w_goto (tgt := 50) dX11_leadsOf_44 (by decide) ?_
      refine w_ior dX11_leadsOf_50 ?_
      refine w_istore_n (lv' := [(2, vi (jor 0 0)), (3, vi (r3)), (0, vr g (530)), (1, vi (p0))]) (i := 2) dX11_leadsOf_51 rfl (by decide) rfl ?_
      refine w_iconst dX11_leadsOf_52 ?_
      refine w_istore (lv' := [(4, vi (0)), (2, vi (jor 0 0)), (3, vi (r3)), (0, vr g (530)), (1, vi (p0))]) dX11_leadsOf_53 (by decide) rfl ?_
      refine w_lv [3, 4, 1, 0] rfl ?_
      exact h
    · replace h := h.2 c5
      refine w_aload_n dX11_leadsOf_34 2 rfl ?_
      refine w_getS (ci := 11) (k := 4) dX11_leadsOf_35 rfl fi11 (by decide) q908 s530 rfl l530 ?_
      refine w_iload_n dX11_leadsOf_38 0 rfl ?_
      obtain ⟨i6, h⟩ := h
      refine w_iald dX11_leadsOf_39 s533 l533 (by decide) i6.1 i6.2 ?_
      refine w_if_ne (tgt := 47) dX11_leadsOf_40 (by decide) (hwM4.int _ _) (fun c7 => ?_) (fun c7 => ?_)
      · replace h := h.1 c7
        refine w_iconst dX11_leadsOf_47 ?_
        refine w_iload_n dX11_leadsOf_48 0 rfl ?_
        refine w_ishl dX11_leadsOf_49 ?_
        refine w_ior dX11_leadsOf_50 ?_
        refine w_istore_n (lv' := [(2, vi (jor 0 (jshl 1 r3))), (3, vi (r3)), (0, vr g (530)), (1, vi (p0))]) (i := 2) dX11_leadsOf_51 rfl (by decide) rfl ?_
        refine w_iconst dX11_leadsOf_52 ?_
        refine w_istore (lv' := [(4, vi (0)), (2, vi (jor 0 (jshl 1 r3))), (3, vi (r3)), (0, vr g (530)), (1, vi (p0))]) dX11_leadsOf_53 (by decide) rfl ?_
        refine w_lv [3, 4, 1, 0] rfl ?_
        exact h
      · replace h := h.2 c7
        refine w_iconst dX11_leadsOf_43 ?_
        refine w_goto (tgt := 50) dX11_leadsOf_44 (by decide) ?_
        refine w_ior dX11_leadsOf_50 ?_
        refine w_istore_n (lv' := [(2, vi (jor 0 0)), (3, vi (r3)), (0, vr g (530)), (1, vi (p0))]) (i := 2) dX11_leadsOf_51 rfl (by decide) rfl ?_
        refine w_iconst dX11_leadsOf_52 ?_
        refine w_istore (lv' := [(4, vi (0)), (2, vi (jor 0 0)), (3, vi (r3)), (0, vr g (530)), (1, vi (p0))]) dX11_leadsOf_53 (by decide) rfl ?_
        refine w_lv [3, 4, 1, 0] rfl ?_
        exact h
  · replace h := h.2 c2
    refine w_bipush dX11_leadsOf_11 rfl ?_
    refine w_goto (tgt := 26) dX11_leadsOf_13 (by decide) ?_
    refine w_istore_n (lv' := [(3, vi ((-4))), (2, vi (0)), (0, vr g (530)), (1, vi (p0))]) (i := 3) dX11_leadsOf_26 rfl (by decide) rfl ?_
    refine w_iload_n dX11_leadsOf_27 1 rfl ?_
    refine w_iload_n dX11_leadsOf_28 0 rfl ?_
    refine w_bipush dX11_leadsOf_29 rfl ?_
    refine w_icmp_eq (tgt := 43) dX11_leadsOf_31 (by decide) ⟨by decide, by decide⟩ ⟨by decide, by decide⟩ (fun c => ?_) (fun c => ?_)
    · refine w_iconst dX11_leadsOf_43 ?_
      refine w_goto (tgt := 50) dX11_leadsOf_44 (by decide) ?_
      refine w_ior dX11_leadsOf_50 ?_
      refine w_istore_n (lv' := [(2, vi (jor 0 0)), (3, vi ((-4))), (0, vr g (530)), (1, vi (p0))]) (i := 2) dX11_leadsOf_51 rfl (by decide) rfl ?_
      refine w_iconst dX11_leadsOf_52 ?_
      refine w_istore (lv' := [(4, vi (0)), (2, vi (jor 0 0)), (3, vi ((-4))), (0, vr g (530)), (1, vi (p0))]) dX11_leadsOf_53 (by decide) rfl ?_
      refine w_lv [3, 4, 1, 0] rfl ?_
      exact h
    · exact absurd c (by decide)
set_option maxHeartbeats 4000000 in
set_option maxRecDepth 100000 in
theorem b_Mo_leadsOf_55 {g : Ctx} {x1 : Int} {x2 : Int} {x4 : Int} {M : Mem} {Q : Int → Mem → Prop} (hx1 : InR x1) (hx2 : InR x2) (hx4 : InR x4) (h : (0 ≤ x1 ∧ x1 < 12) ∧ ((((gI M (533) (x1.toNat)) ≤ x4) → Q x2 M) ∧ ((¬ ((gI M (533) (x1.toNat)) ≤ x4)) → (0 ≤ ((8 * x1) + x4) ∧ ((8 * x1) + x4) < 96) ∧ (((¬ (gI M (537) (((8 * x1) + x4).toNat)) = 2) → P_Mo_leadsOf g 55 [(0, vr g (530)), (1, vi (x1)), (2, vi (jor x2 0)), (4, vi (x4 + 1))] [] M Q) ∧ (((gI M (537) (((8 * x1) + x4).toNat)) = 2) → K_Mo_numberOf g (gI M (540) (((8 * x1) + x4).toNat)) M (fun r5 M6 => InR r5 → WT M6 → (((r5 = (-4)) → P_Mo_leadsOf g 55 [(0, vr g (530)), (1, vi (x1)), (2, vi (jor x2 0)), (4, vi (x4 + 1))] [] M6 Q) ∧ ((¬ (r5 = (-4))) → (0 ≤ r5 ∧ r5 < 12) ∧ (((¬ (gI M6 (533) (r5.toNat)) = 0) → P_Mo_leadsOf g 55 [(0, vr g (530)), (1, vi (x1)), (2, vi (jor x2 (jshl 1 r5))), (4, vi (x4 + 1))] [] M6 Q) ∧ (((gI M6 (533) (r5.toNat)) = 0) → P_Mo_leadsOf g 55 [(0, vr g (530)), (1, vi (x1)), (2, vi (jor x2 0)), (4, vi (x4 + 1))] [] M6 Q)))))))))) : P_Mo_leadsOf g 55 [(0, vr g (530)), (1, vi (x1)), (2, vi (x2)), (4, vi (x4))] [] M Q := by
  refine w_wt (fun hw => ?_)
  refine w_iload dX11_leadsOf_55 3 rfl ?_
  refine w_aload_n dX11_leadsOf_57 0 rfl ?_
  refine w_getS (ci := 11) (k := 4) dX11_leadsOf_58 rfl fi11 (by decide) q908 s530 rfl l530 ?_
  refine w_iload_n dX11_leadsOf_61 1 rfl ?_
  obtain ⟨i1, h⟩ := h
  refine w_iald dX11_leadsOf_62 s533 l533 (by decide) i1.1 i1.2 ?_
  refine w_icmp_ge (tgt := 134) dX11_leadsOf_63 (by decide) hx4 (hw.int _ _) (fun c2 => ?_) (fun c2 => ?_)
  · replace h := h.1 c2
    refine w_iload_n dX11_leadsOf_134 2 rfl ?_
    exact w_iret dX11_leadsOf_135 ⟨_, rfl, hx2, h⟩
  · replace h := h.2 c2
    refine w_bipush dX11_leadsOf_66 rfl ?_
    refine w_iload_n dX11_leadsOf_68 1 rfl ?_
    refine w_imul dX11_leadsOf_69 ?_
    refine w_iload dX11_leadsOf_70 3 rfl ?_
    refine w_iadd dX11_leadsOf_72 ?_
    refine w_istore (lv' := [(5, vi ((8 * x1) + x4)), (0, vr g (530)), (1, vi (x1)), (2, vi (x2)), (4, vi (x4))]) dX11_leadsOf_73 (by decide) rfl ?_
    refine w_aload_n dX11_leadsOf_75 1 rfl ?_
    refine w_getS (ci := 11) (k := 8) dX11_leadsOf_76 rfl fi11 (by decide) q912 s530 rfl l530 ?_
    refine w_iload dX11_leadsOf_79 0 rfl ?_
    obtain ⟨i3, h⟩ := h
    refine w_iald dX11_leadsOf_81 s537 l537 (by decide) i3.1 i3.2 ?_
    refine w_iconst dX11_leadsOf_82 ?_
    refine w_icmp_ne (tgt := 100) dX11_leadsOf_83 (by decide) (hw.int _ _) ⟨by decide, by decide⟩ (fun c4 => ?_) (fun c4 => ?_)
    · replace h := h.1 c4
      refine w_bipush dX11_leadsOf_100 rfl ?_
      refine w_istore_n (lv' := [(3, vi ((-4))), (5, vi ((8 * x1) + x4)), (0, vr g (530)), (1, vi (x1)), (2, vi (x2)), (4, vi (x4))]) (i := 3) dX11_leadsOf_102 rfl (by decide) rfl ?_
      refine w_iload_n dX11_leadsOf_103 4 rfl ?_
      refine w_iload_n dX11_leadsOf_104 0 rfl ?_
      refine w_bipush dX11_leadsOf_105 rfl ?_
      refine w_icmp_eq (tgt := 119) dX11_leadsOf_107 (by decide) ⟨by decide, by decide⟩ ⟨by decide, by decide⟩ (fun c => ?_) (fun c => ?_)
      · refine w_iconst dX11_leadsOf_119 ?_
        refine w_goto (tgt := 126) dX11_leadsOf_120 (by decide) ?_
        refine w_ior dX11_leadsOf_126 ?_
        refine w_istore_n (lv' := [(2, vi (jor x2 0)), (3, vi ((-4))), (5, vi ((8 * x1) + x4)), (0, vr g (530)), (1, vi (x1)), (4, vi (x4))]) (i := 2) dX11_leadsOf_127 rfl (by decide) rfl ?_
        refine w_iinc (lv' := [(4, vi (x4 + 1)), (2, vi (jor x2 0)), (3, vi ((-4))), (5, vi ((8 * x1) + x4)), (0, vr g (530)), (1, vi (x1))]) dX11_leadsOf_128 5 rfl (by decide) rfl ?_
        refine w_goto (tgt := 55) dX11_leadsOf_131 (by decide) ?_
        refine w_lv [4, 5, 1, 0] rfl ?_
        exact h
      · exact absurd c (by decide)
    · replace h := h.2 c4
      refine w_aload_n dX11_leadsOf_86 1 rfl ?_
      refine w_aload_n dX11_leadsOf_87 1 rfl ?_
      refine w_getS (ci := 11) (k := 11) dX11_leadsOf_88 rfl fi11 (by decide) q915 s530 rfl l530 ?_
      refine w_iload dX11_leadsOf_91 0 rfl ?_
      refine w_iald dX11_leadsOf_93 s540 l540 (by decide) i3.1 i3.2 ?_
      refine c_Mo_numberOf dX11_leadsOf_94 q1083 (by decide) (Nat.le_of_ble_eq_true rfl) h (fun r5 M6 h hr5 hwM6 => ?_)
      replace h := h hr5 hwM6
      refine w_goto (tgt := 102) dX11_leadsOf_97 (by decide) ?_
      refine w_istore_n (lv' := [(3, vi (r5)), (5, vi ((8 * x1) + x4)), (0, vr g (530)), (1, vi (x1)), (2, vi (x2)), (4, vi (x4))]) (i := 3) dX11_leadsOf_102 rfl (by decide) rfl ?_
      refine w_iload_n dX11_leadsOf_103 4 rfl ?_
      refine w_iload_n dX11_leadsOf_104 0 rfl ?_
      refine w_bipush dX11_leadsOf_105 rfl ?_
      refine w_icmp_eq (tgt := 119) dX11_leadsOf_107 (by decide) hr5 ⟨by decide, by decide⟩ (fun c7 => ?_) (fun c7 => ?_)
      · replace h := h.1 c7
        refine w_iconst dX11_leadsOf_119 ?_
        refine w_goto (tgt := 126) dX11_leadsOf_120 (by decide) ?_
        refine w_ior dX11_leadsOf_126 ?_
        refine w_istore_n (lv' := [(2, vi (jor x2 0)), (3, vi (r5)), (5, vi ((8 * x1) + x4)), (0, vr g (530)), (1, vi (x1)), (4, vi (x4))]) (i := 2) dX11_leadsOf_127 rfl (by decide) rfl ?_
        refine w_iinc (lv' := [(4, vi (x4 + 1)), (2, vi (jor x2 0)), (3, vi (r5)), (5, vi ((8 * x1) + x4)), (0, vr g (530)), (1, vi (x1))]) dX11_leadsOf_128 5 rfl (by decide) rfl ?_
        refine w_goto (tgt := 55) dX11_leadsOf_131 (by decide) ?_
        refine w_lv [4, 5, 1, 0] rfl ?_
        exact h
      · replace h := h.2 c7
        refine w_aload_n dX11_leadsOf_110 2 rfl ?_
        refine w_getS (ci := 11) (k := 4) dX11_leadsOf_111 rfl fi11 (by decide) q908 s530 rfl l530 ?_
        refine w_iload_n dX11_leadsOf_114 0 rfl ?_
        obtain ⟨i8, h⟩ := h
        refine w_iald dX11_leadsOf_115 s533 l533 (by decide) i8.1 i8.2 ?_
        refine w_if_ne (tgt := 123) dX11_leadsOf_116 (by decide) (hwM6.int _ _) (fun c9 => ?_) (fun c9 => ?_)
        · replace h := h.1 c9
          refine w_iconst dX11_leadsOf_123 ?_
          refine w_iload_n dX11_leadsOf_124 0 rfl ?_
          refine w_ishl dX11_leadsOf_125 ?_
          refine w_ior dX11_leadsOf_126 ?_
          refine w_istore_n (lv' := [(2, vi (jor x2 (jshl 1 r5))), (3, vi (r5)), (5, vi ((8 * x1) + x4)), (0, vr g (530)), (1, vi (x1)), (4, vi (x4))]) (i := 2) dX11_leadsOf_127 rfl (by decide) rfl ?_
          refine w_iinc (lv' := [(4, vi (x4 + 1)), (2, vi (jor x2 (jshl 1 r5))), (3, vi (r5)), (5, vi ((8 * x1) + x4)), (0, vr g (530)), (1, vi (x1))]) dX11_leadsOf_128 5 rfl (by decide) rfl ?_
          refine w_goto (tgt := 55) dX11_leadsOf_131 (by decide) ?_
          refine w_lv [4, 5, 1, 0] rfl ?_
          exact h
        · replace h := h.2 c9
          refine w_iconst dX11_leadsOf_119 ?_
          refine w_goto (tgt := 126) dX11_leadsOf_120 (by decide) ?_
          refine w_ior dX11_leadsOf_126 ?_
          refine w_istore_n (lv' := [(2, vi (jor x2 0)), (3, vi (r5)), (5, vi ((8 * x1) + x4)), (0, vr g (530)), (1, vi (x1)), (4, vi (x4))]) (i := 2) dX11_leadsOf_127 rfl (by decide) rfl ?_
          refine w_iinc (lv' := [(4, vi (x4 + 1)), (2, vi (jor x2 0)), (3, vi (r5)), (5, vi ((8 * x1) + x4)), (0, vr g (530)), (1, vi (x1))]) dX11_leadsOf_128 5 rfl (by decide) rfl ?_
          refine w_goto (tgt := 55) dX11_leadsOf_131 (by decide) ?_
          refine w_lv [4, 5, 1, 0] rfl ?_
          exact h
set_option maxHeartbeats 4000000 in
set_option maxRecDepth 100000 in
theorem b_Mo_count_0 {g : Ctx} {p0 : Int} {M : Mem} {Q : Int → Mem → Prop} (hp0 : InR p0) (h : P_Mo_count g 10 [(0, vr g (530)), (1, vi (p0)), (2, vi (0)), (3, vi (0)), (4, vi (0)), (5, vi (0))] [] M Q) : P_Mo_count g 0 [(0, vr g (530)), (1, vi (p0))] [] M Q := by
  refine w_wt (fun hw => ?_)
  refine w_iconst dX11_count_0 ?_
  refine w_istore_n (lv' := [(2, vi (0)), (0, vr g (530)), (1, vi (p0))]) (i := 2) dX11_count_1 rfl (by decide) rfl ?_
  refine w_iconst dX11_count_2 ?_
  refine w_istore_n (lv' := [(3, vi (0)), (2, vi (0)), (0, vr g (530)), (1, vi (p0))]) (i := 3) dX11_count_3 rfl (by decide) rfl ?_
  refine w_iconst dX11_count_4 ?_
  refine w_istore (lv' := [(4, vi (0)), (3, vi (0)), (2, vi (0)), (0, vr g (530)), (1, vi (p0))]) dX11_count_5 (by decide) rfl ?_
  refine w_iconst dX11_count_7 ?_
  refine w_istore (lv' := [(5, vi (0)), (4, vi (0)), (3, vi (0)), (2, vi (0)), (0, vr g (530)), (1, vi (p0))]) dX11_count_8 (by decide) rfl ?_
  refine w_lv [4, 5, 3, 2, 1, 0] rfl ?_
  exact h
set_option maxHeartbeats 4000000 in
set_option maxRecDepth 100000 in
theorem b_Mo_count_10 {g : Ctx} {x1 : Int} {x2 : Int} {x3 : Int} {x4 : Int} {x5 : Int} {M : Mem} {Q : Int → Mem → Prop} (hx1 : InR x1) (hx2 : InR x2) (hx3 : InR x3) (hx4 : InR x4) (hx5 : InR x5) (h : ((((gI M (530) (2)) ≤ x5) → (((x1 = 0) → Q (gI M (530) (2)) M) ∧ ((¬ (x1 = 0)) → (((x1 = 1) → Q x2 M) ∧ ((¬ (x1 = 1)) → (((x1 = 2) → Q x3 M) ∧ ((¬ (x1 = 2)) → (((x1 = 3) → Q x4 M) ∧ ((¬ (x1 = 3)) → (((x1 = 4) → Q (gI M (530) (34)) M) ∧ ((¬ (x1 = 4)) → (((x1 = 5) → Q (gI M (530) (16)) M) ∧ ((¬ (x1 = 5)) → (((x1 = 6) → Q (gI M (530) (0)) M) ∧ ((¬ (x1 = 6)) → Q (-1) M))))))))))))))) ∧ ((¬ ((gI M (530) (2)) ≤ x5)) → (0 ≤ x5 ∧ x5 < 12) ∧ ((((gI M (533) (x5.toNat)) ≤ 0) → (0 ≤ ((21 * x5) + 16) ∧ ((21 * x5) + 16) < 252) ∧ P_Mo_count g 10 [(0, vr g (530)), (1, vi (x1)), (2, vi (x2 + 0)), (3, vi (x3 + (gI M (533) (x5.toNat)))), (4, vi (x4 + (gI M (543) (((21 * x5) + 16).toNat)))), (5, vi (x5 + 1))] [] M Q) ∧ ((¬ ((gI M (533) (x5.toNat)) ≤ 0)) → (0 ≤ ((21 * x5) + 16) ∧ ((21 * x5) + 16) < 252) ∧ P_Mo_count g 10 [(0, vr g (530)), (1, vi (x1)), (2, vi (x2 + 1)), (3, vi (x3 + (gI M (533) (x5.toNat)))), (4, vi (x4 + (gI M (543) (((21 * x5) + 16).toNat)))), (5, vi (x5 + 1))] [] M Q))))) : P_Mo_count g 10 [(0, vr g (530)), (1, vi (x1)), (2, vi (x2)), (3, vi (x3)), (4, vi (x4)), (5, vi (x5))] [] M Q := by
  refine w_wt (fun hw => ?_)
  refine w_iload dX11_count_10 5 rfl ?_
  refine w_aload_n dX11_count_12 0 rfl ?_
  refine w_getI (ci := 11) (k := 2) dX11_count_13 rfl fi11 (by decide) q906 s530 rfl l530 ?_
  refine w_icmp_ge (tgt := 71) dX11_count_16 (by decide) hx5 (hw.int _ _) (fun c1 => ?_) (fun c1 => ?_)
  · replace h := h.1 c1
    refine w_iload_n dX11_count_71 1 rfl ?_
    by_cases c2 : x1 = 0
    · replace h := h.1 c2
      refine w_tabIn (tgt := 116) dX11_count_72 c2 ⟨by decide, by decide⟩ (by decide) (by decide) rfl (by decide) ?_
      refine w_aload_n dX11_count_116 0 rfl ?_
      refine w_getI (ci := 11) (k := 2) dX11_count_117 rfl fi11 (by decide) q906 s530 rfl l530 ?_
      exact w_iret dX11_count_120 ⟨_, rfl, (hw.int _ _), h⟩
    replace h := h.2 c2
    by_cases c3 : x1 = 1
    · replace h := h.1 c3
      refine w_tabIn (tgt := 121) dX11_count_72 c3 ⟨by decide, by decide⟩ (by decide) (by decide) rfl (by decide) ?_
      refine w_iload_n dX11_count_121 2 rfl ?_
      exact w_iret dX11_count_122 ⟨_, rfl, hx2, h⟩
    replace h := h.2 c3
    by_cases c4 : x1 = 2
    · replace h := h.1 c4
      refine w_tabIn (tgt := 123) dX11_count_72 c4 ⟨by decide, by decide⟩ (by decide) (by decide) rfl (by decide) ?_
      refine w_iload_n dX11_count_123 3 rfl ?_
      exact w_iret dX11_count_124 ⟨_, rfl, hx3, h⟩
    replace h := h.2 c4
    by_cases c5 : x1 = 3
    · replace h := h.1 c5
      refine w_tabIn (tgt := 125) dX11_count_72 c5 ⟨by decide, by decide⟩ (by decide) (by decide) rfl (by decide) ?_
      refine w_iload dX11_count_125 4 rfl ?_
      exact w_iret dX11_count_127 ⟨_, rfl, hx4, h⟩
    replace h := h.2 c5
    by_cases c6 : x1 = 4
    · replace h := h.1 c6
      refine w_tabIn (tgt := 128) dX11_count_72 c6 ⟨by decide, by decide⟩ (by decide) (by decide) rfl (by decide) ?_
      refine w_aload_n dX11_count_128 0 rfl ?_
      refine w_getI (ci := 11) (k := 34) dX11_count_129 rfl fi11 (by decide) q938 s530 rfl l530 ?_
      exact w_iret dX11_count_132 ⟨_, rfl, (hw.int _ _), h⟩
    replace h := h.2 c6
    by_cases c7 : x1 = 5
    · replace h := h.1 c7
      refine w_tabIn (tgt := 133) dX11_count_72 c7 ⟨by decide, by decide⟩ (by decide) (by decide) rfl (by decide) ?_
      refine w_aload_n dX11_count_133 0 rfl ?_
      refine w_getI (ci := 11) (k := 16) dX11_count_134 rfl fi11 (by decide) q920 s530 rfl l530 ?_
      exact w_iret dX11_count_137 ⟨_, rfl, (hw.int _ _), h⟩
    replace h := h.2 c7
    by_cases c8 : x1 = 6
    · replace h := h.1 c8
      refine w_tabIn (tgt := 138) dX11_count_72 c8 ⟨by decide, by decide⟩ (by decide) (by decide) rfl (by decide) ?_
      refine w_aload_n dX11_count_138 0 rfl ?_
      refine w_getI (ci := 11) (k := 0) dX11_count_139 rfl fi11 (by decide) q904 s530 rfl l530 ?_
      exact w_iret dX11_count_142 ⟨_, rfl, (hw.int _ _), h⟩
    replace h := h.2 c8
    refine w_tabOut (tgt := 143) dX11_count_72 hx1 (by omega) (by decide) ?_
    refine w_iconst dX11_count_143 ?_
    exact w_iret dX11_count_144 ⟨_, rfl, ⟨by decide, by decide⟩, h⟩
  · replace h := h.2 c1
    refine w_iload_n dX11_count_19 2 rfl ?_
    refine w_aload_n dX11_count_20 0 rfl ?_
    refine w_getS (ci := 11) (k := 4) dX11_count_21 rfl fi11 (by decide) q908 s530 rfl l530 ?_
    refine w_iload dX11_count_24 5 rfl ?_
    obtain ⟨i9, h⟩ := h
    refine w_iald dX11_count_26 s533 l533 (by decide) i9.1 i9.2 ?_
    refine w_if_le (tgt := 34) dX11_count_27 (by decide) (hw.int _ _) (fun c10 => ?_) (fun c10 => ?_)
    · replace h := h.1 c10
      refine w_iconst dX11_count_34 ?_
      refine w_iadd dX11_count_35 ?_
      refine w_istore_n (lv' := [(2, vi (x2 + 0)), (0, vr g (530)), (1, vi (x1)), (3, vi (x3)), (4, vi (x4)), (5, vi (x5))]) (i := 2) dX11_count_36 rfl (by decide) rfl ?_
      refine w_iload_n dX11_count_37 3 rfl ?_
      refine w_aload_n dX11_count_38 1 rfl ?_
      refine w_getS (ci := 11) (k := 4) dX11_count_39 rfl fi11 (by decide) q908 s530 rfl l530 ?_
      refine w_iload dX11_count_42 5 rfl ?_
      refine w_iald dX11_count_44 s533 l533 (by decide) i9.1 i9.2 ?_
      refine w_iadd dX11_count_45 ?_
      refine w_istore_n (lv' := [(3, vi (x3 + (gI M (533) (x5.toNat)))), (2, vi (x2 + 0)), (0, vr g (530)), (1, vi (x1)), (4, vi (x4)), (5, vi (x5))]) (i := 3) dX11_count_46 rfl (by decide) rfl ?_
      refine w_iload dX11_count_47 4 rfl ?_
      refine w_aload_n dX11_count_49 2 rfl ?_
      refine w_getS (ci := 11) (k := 14) dX11_count_50 rfl fi11 (by decide) q918 s530 rfl l530 ?_
      refine w_bipush dX11_count_53 rfl ?_
      refine w_iload dX11_count_55 5 rfl ?_
      refine w_imul dX11_count_57 ?_
      refine w_bipush dX11_count_58 rfl ?_
      refine w_iadd dX11_count_60 ?_
      obtain ⟨i11, h⟩ := h
      refine w_iald dX11_count_61 s543 l543 (by decide) i11.1 i11.2 ?_
      refine w_iadd dX11_count_62 ?_
      refine w_istore (lv' := [(4, vi (x4 + (gI M (543) (((21 * x5) + 16).toNat)))), (3, vi (x3 + (gI M (533) (x5.toNat)))), (2, vi (x2 + 0)), (0, vr g (530)), (1, vi (x1)), (5, vi (x5))]) dX11_count_63 (by decide) rfl ?_
      refine w_iinc (lv' := [(5, vi (x5 + 1)), (4, vi (x4 + (gI M (543) (((21 * x5) + 16).toNat)))), (3, vi (x3 + (gI M (533) (x5.toNat)))), (2, vi (x2 + 0)), (0, vr g (530)), (1, vi (x1))]) dX11_count_65 5 rfl (by decide) rfl ?_
      refine w_goto (tgt := 10) dX11_count_68 (by decide) ?_
      refine w_lv [4, 5, 3, 2, 1, 0] rfl ?_
      exact h
    · replace h := h.2 c10
      refine w_iconst dX11_count_30 ?_
      refine w_goto (tgt := 35) dX11_count_31 (by decide) ?_
      refine w_iadd dX11_count_35 ?_
      refine w_istore_n (lv' := [(2, vi (x2 + 1)), (0, vr g (530)), (1, vi (x1)), (3, vi (x3)), (4, vi (x4)), (5, vi (x5))]) (i := 2) dX11_count_36 rfl (by decide) rfl ?_
      refine w_iload_n dX11_count_37 3 rfl ?_
      refine w_aload_n dX11_count_38 1 rfl ?_
      refine w_getS (ci := 11) (k := 4) dX11_count_39 rfl fi11 (by decide) q908 s530 rfl l530 ?_
      refine w_iload dX11_count_42 5 rfl ?_
      refine w_iald dX11_count_44 s533 l533 (by decide) i9.1 i9.2 ?_
      refine w_iadd dX11_count_45 ?_
      refine w_istore_n (lv' := [(3, vi (x3 + (gI M (533) (x5.toNat)))), (2, vi (x2 + 1)), (0, vr g (530)), (1, vi (x1)), (4, vi (x4)), (5, vi (x5))]) (i := 3) dX11_count_46 rfl (by decide) rfl ?_
      refine w_iload dX11_count_47 4 rfl ?_
      refine w_aload_n dX11_count_49 2 rfl ?_
      refine w_getS (ci := 11) (k := 14) dX11_count_50 rfl fi11 (by decide) q918 s530 rfl l530 ?_
      refine w_bipush dX11_count_53 rfl ?_
      refine w_iload dX11_count_55 5 rfl ?_
      refine w_imul dX11_count_57 ?_
      refine w_bipush dX11_count_58 rfl ?_
      refine w_iadd dX11_count_60 ?_
      obtain ⟨i12, h⟩ := h
      refine w_iald dX11_count_61 s543 l543 (by decide) i12.1 i12.2 ?_
      refine w_iadd dX11_count_62 ?_
      refine w_istore (lv' := [(4, vi (x4 + (gI M (543) (((21 * x5) + 16).toNat)))), (3, vi (x3 + (gI M (533) (x5.toNat)))), (2, vi (x2 + 1)), (0, vr g (530)), (1, vi (x1)), (5, vi (x5))]) dX11_count_63 (by decide) rfl ?_
      refine w_iinc (lv' := [(5, vi (x5 + 1)), (4, vi (x4 + (gI M (543) (((21 * x5) + 16).toNat)))), (3, vi (x3 + (gI M (533) (x5.toNat)))), (2, vi (x2 + 1)), (0, vr g (530)), (1, vi (x1))]) dX11_count_65 5 rfl (by decide) rfl ?_
      refine w_goto (tgt := 10) dX11_count_68 (by decide) ?_
      refine w_lv [4, 5, 3, 2, 1, 0] rfl ?_
      exact h
