/-! ===== the start, and the claim (gen76.py) ===== -/
theorem q20 : (Jvm.Cond.classLink "SendRulesLaw" (7 : Nat) "SendRules") ∈ gtbl := gt_in (List.mem_append_right _ (List.mem_of_getElem? (i := 20) (by decide +kernel))) rfl
theorem q21 : (Jvm.Cond.instantiable "SendRules" (6 : Nat)) ∈ gtbl := gt_in (List.mem_append_right _ (List.mem_of_getElem? (i := 21) (by decide +kernel))) rfl
theorem q22 : (Jvm.Cond.methodLink "SendRulesLaw" (9 : Nat) ({ cls := "SendRules", name := "<init>", desc := "()V" } : Jvm.MethodName)) ∈ gtbl := gt_in (List.mem_append_right _ (List.mem_of_getElem? (i := 22) (by decide +kernel))) rfl
theorem q23 : (Jvm.Cond.instanceMethod ({ cls := "SendRules", name := "<init>", desc := "()V" } : Jvm.MethodName)) ∈ gtbl := gt_in (List.mem_append_right _ (List.mem_of_getElem? (i := 23) (by decide +kernel))) rfl
theorem q24 : (Jvm.Cond.code ({ cls := "SendRules", name := "<init>", desc := "()V" } : Jvm.MethodName) prog_1_method_1_code (3 : Nat) (Option.none : Option Jvm.ClassFile.FieldType)) ∈ gtbl := gt_in (List.mem_append_right _ (List.mem_of_getElem? (i := 24) (by decide +kernel))) rfl
theorem q817 : (Jvm.Cond.classLink "SendRulesLaw" (10 : Nat) "SendRulesModel") ∈ gtbl := gt_in (List.mem_append_right _ (List.mem_of_getElem? (i := 817) (by decide +kernel))) rfl
theorem q818 : (Jvm.Cond.instantiable "SendRulesModel" (48 : Nat)) ∈ gtbl := gt_in (List.mem_append_right _ (List.mem_of_getElem? (i := 818) (by decide +kernel))) rfl
theorem q819 : (Jvm.Cond.methodLink "SendRulesLaw" (12 : Nat) ({ cls := "SendRulesModel", name := "<init>", desc := "()V" } : Jvm.MethodName)) ∈ gtbl := gt_in (List.mem_append_right _ (List.mem_of_getElem? (i := 819) (by decide +kernel))) rfl
theorem q820 : (Jvm.Cond.instanceMethod ({ cls := "SendRulesModel", name := "<init>", desc := "()V" } : Jvm.MethodName)) ∈ gtbl := gt_in (List.mem_append_right _ (List.mem_of_getElem? (i := 820) (by decide +kernel))) rfl
theorem q821 : (Jvm.Cond.code ({ cls := "SendRulesModel", name := "<init>", desc := "()V" } : Jvm.MethodName) prog_13_method_1_code (1 : Nat) (Option.none : Option Jvm.ClassFile.FieldType)) ∈ gtbl := gt_in (List.mem_append_right _ (List.mem_of_getElem? (i := 821) (by decide +kernel))) rfl
theorem law_all {g : Ctx} {b L : Nat} {xs : Nat → Int32} (hL : L ≤ 2560) (f : Nat → va_E) : WG g x code 4 ret room_1 (XL g b L xs) 0 0 0 0 [(0, Value.ref b)] [] f (ZLb b) := by
  refine x_new (ci := 10) (fs := [Value.null, Value.null, Value.null, Value.null, Value.null, Value.null]) dL_law_0 rfl fi10 tyX10 tyX10_ok q20 q21 q1 hfsX10 (by decide) (by decide) ?_
  refine x_dup dL_law_3 rfl ?_
  refine x_ctorE (mc := 529) (ms := 4022) (rm' := rmK 20 529 4022) dL_law_4 q22 q23 q1 q24 rfl ⟨by decide, by decide, by decide +kernel⟩ ⟨rfl, rfl, by decide, by decide⟩ ⟨by decide, by decide⟩ (Nat.le_of_ble_eq_true rfl) (fun _ _ h => h.2) (n_X10 (upE_at _ _ _)) (fun f1 e1 => ?_)
  obtain ⟨M, rfl, hw, hS⟩ := e1
  refine x_astore_n (lv' := [(1, vr g 0), (0, Value.ref b)]) dL_law_7 rfl (by decide) rfl ?_
  refine x_new (ci := 11) (fs := [vi 0, Value.null, vi 0, Value.null, Value.null, Value.null, Value.null, Value.null, Value.null, Value.null, Value.null, Value.null, Value.null, Value.null, Value.null, Value.null, vi 0, vi 0, Value.null, Value.null, Value.null, Value.null, Value.null, Value.null, Value.null, Value.null, Value.null, Value.null, Value.null, Value.null, Value.null, Value.null, vi 0, vi 0, vi 0, Value.null, vi 0, vi 0, vi 0, vi 0, vi 0, vi 0, vi 0, Value.null, Value.null, vi 0, Value.null, vi 0]) dL_law_8 rfl fi11 tyX11 tyX11_ok q817 q818 q18 hfsX11 (by decide) (by decide) ?_
  refine x_dup dL_law_11 rfl ?_
  refine x_ctorE (mc := 32) (ms := 4383) (rm' := rmK 20 32 4383) dL_law_12 q819 q820 q18 q821 rfl ⟨by decide, by decide, by decide +kernel⟩ ⟨rfl, rfl, by decide, by decide⟩ ⟨by decide, by decide⟩ (Nat.le_of_ble_eq_true rfl) (fun _ _ h => h.2) (n_X11 hw hS (upE_at _ _ _) (fun q hq => upE_ne _ _ (by omega))) (fun f2 e2 => ?_)
  obtain ⟨M2, rfl, hw2, hR⟩ := e2
  refine x_astore_n (lv' := [(2, vr g 530), (1, vr g 0), (0, Value.ref b)]) dL_law_15 rfl (by decide) rfl ?_
  refine x_iconst dL_law_16 (x_istore_n (lv' := [(3, vi 0), (2, vr g 530), (1, vr g 0), (0, Value.ref b)]) dL_law_17 rfl (by decide) rfl ?_)
  exact law_loop hL (L + 5) 0 M2 (by omega) (by omega) hw2 hR
def tmS : Nat → Term
  | 0 => .string "SendRules" 44
  | 1 => .string "SendRules$Reader" 98
  | 2 => .string "SendRules$Reader" 105
  | _ => .string "SendRules$Reader" 141
theorem fl_ex : ∀ i, i < 4 → Cond.exactly (tmS i) "java/lang/String" ∈ flatC (Jvm.Cond.and given_1 narrow_1) := by decide +kernel
theorem fl_co : ∀ i, i < 4 → Cond.eq (.field (tmS i) "java/lang/String" "coder" "B") (.int 0) ∈ flatC (Jvm.Cond.and given_1 narrow_1) := by decide +kernel
theorem fl_ar : ∀ i, i < 4 → Cond.arrayOf (.field (tmS i) "java/lang/String" "value" "[B") .byte ∈ flatC (Jvm.Cond.and given_1 narrow_1) := by decide +kernel
theorem fl_le : ∀ i, i < 4 → Cond.eq (.length (.field (tmS i) "java/lang/String" "value" "[B")) (.int (Int32.ofNat (sLen.getD i 0))) ∈ flatC (Jvm.Cond.and given_1 narrow_1) := by decide +kernel
theorem fl_el : ∀ i, i < 4 → ∀ j, j < sLen.getD i 0 → Cond.eq (.elem (.field (tmS i) "java/lang/String" "value" "[B") (.int (Int32.ofNat j))) (.int ((sByt.getD i []).getD j 0)) ∈ flatC (Jvm.Cond.and given_1 narrow_1) := by decide +kernel
theorem fl_ne : ∀ i, i < 4 → ∀ j, j < 4 → i < j → Cond.not (.eq (tmS i) (tmS j)) ∈ flatC (Jvm.Cond.and given_1 narrow_1) := by decide +kernel
theorem fl_119 : Cond.exactly (.string "SendRules" 119) "java/lang/String" ∈ flatC (Jvm.Cond.and given_1 narrow_1) := by decide +kernel
theorem fl_eq : Cond.eq (.string "SendRules$Reader" 98) (.string "SendRules" 119) ∈ flatC (Jvm.Cond.and given_1 narrow_1) := by decide +kernel
theorem fl_cs : Cond.eq (.static "java/lang/String" "COMPACT_STRINGS" "Z") (.int 1) ∈ flatC (Jvm.Cond.and given_1 narrow_1) := by decide +kernel
theorem fl_sf : Cond.isRef (.static "jdk/internal/util/Preconditions" "SIOOBE_FORMATTER" "Ljava/util/function/BiFunction;") ∈ flatC (Jvm.Cond.and given_1 narrow_1) := by decide +kernel
theorem eq_refs {args : Array Value} {s : State} {t u : Term} {a b : Nat} (h : (Cond.eq t u).before args s = true) (ht : t.eval args s none [] s = some (.ref a)) (hu : u.eval args s none [] s = some (.ref b)) : a = b := by
  simp only [Cond.before, Cond.holds, Cond.value, ht, hu] at h
  simpa using h
theorem arr_of {s : State} {args : Array Value} {ty : FieldType} (hp : ty = .int ∨ ty = .char) (h : (Cond.arrayClass ty).before args s = true) : ∃ cA, ArrOfT s cA ty ∧ va_RA s cA ty := by
  obtain ⟨cA, kA, comp, h1, h2, h3⟩ := Cond.arrayClass_spec h
  refine ⟨cA, fun n z => ⟨fun k h => (by cases h), kA, h2, comp, h3⟩, ?_⟩
  rcases hp with rfl | rfl <;> exact h1
theorem ref_of {s : State} {args : Array Value} {C : String} (h : (Cond.arrayOver (.object C)).before args s = true) : ∃ cA, ArrOfT s cA (.object C) ∧ va_RA s cA (.object C) := by
  obtain ⟨comp, cA, kA, h1, h2, h3, h4, h5⟩ := Cond.arrayOver_spec h
  exact ⟨cA, fun n z => ⟨fun k h => (by cases h), kA, h3, comp, h4⟩, kA, comp, h3, h4, h1, h5⟩
theorem t1_in {w : Cond} (i : Nat) (h : tables_1[i]? = some w) : w ∈ lw_tbl := List.mem_append_right _ (List.mem_of_getElem? h)
theorem nw_of {s : State} {args : Array Value} (hts : ∀ w ∈ lw_tbl, w.before args s = true) : Nw s := by
  intro w hw
  have h1 := hts w (List.mem_append_right _ (List.mem_filter.mp hw).1)
  have h2 := (List.mem_filter.mp hw).2
  cases w <;> first | exact va_Nw.of rfl h1 | (simp [isNest] at h2)

theorem whole_start {p : Program} {e : Env} {s : State} {m : MethodId} {below : List Frame} {meth : Method} {c : Code} (l : Launch) (hflags : l.flags = flags0) {b L : Nat} {xs : Nat → Int32} (hL : L ≤ 2560) (C0 : lw_At p s m meth c b L xs) : W p l e room_1 s m #[Value.ref b] below meth c s.heap [] 0 0 (lw_Z below #[Value.ref b] s) (entryFrame m ([Value.ref b] : List Value).toArray 4) := by
  obtain ⟨h1, h2, h3, h4, h5, hts, hX, hbl, hlk, hgv⟩ := C0
  have hfl := flat_of_before _ hgv
  have hgt : ∀ w ∈ gtbl, w.before #[Value.ref b] s = true := fun w hw => hts w (List.mem_filter.mp hw).1
  obtain ⟨c0, i0, k0⟩ := u_known hgt fi0 (hgt _ q272)
  obtain ⟨c1, i1, k1⟩ := u_known hgt fi1 (hgt _ q70)
  obtain ⟨c2, i2, k2⟩ := u_known hgt fi2 (hgt _ q191)
  obtain ⟨c3, i3, k3⟩ := u_known hgt fi3 (hgt _ q265)
  obtain ⟨c4, i4, k4⟩ := u_known hgt fi4 (hgt _ q246)
  obtain ⟨c5, i5, k5⟩ := u_known hgt fi5 (hgt _ q239)
  obtain ⟨c6, i6, k6⟩ := u_known hgt fi6 (hgt _ q35)
  obtain ⟨c7, i7, k7⟩ := u_known hgt fi7 (hgt _ q29)
  obtain ⟨c8, i8, k8⟩ := u_known hgt fi8 (hgt _ q63)
  obtain ⟨c9, i9, k9⟩ := u_known hgt fi9 (hgt _ q77)
  obtain ⟨c10, i10, k10⟩ := u_known hgt fi10 (hgt _ q21)
  obtain ⟨c11, i11, k11⟩ := u_known hgt fi11 (hgt _ q818)
  obtain ⟨a0, A0, B0⟩ := arr_of (Or.inl rfl) (hgt _ q121)
  obtain ⟨a1, A1, B1⟩ := arr_of (Or.inr rfl) (hgt _ q47)
  have o2 := hts _ (t1_in (w := (Jvm.Cond.arrayOver (Jvm.ClassFile.FieldType.object "SendRules$Rule"))) 76 (by decide +kernel))
  obtain ⟨a2, A2, B2⟩ := ref_of o2
  have o3 := hts _ (t1_in (w := (Jvm.Cond.arrayOver (Jvm.ClassFile.FieldType.object "SendRules$Domain"))) 69 (by decide +kernel))
  obtain ⟨a3, A3, B3⟩ := ref_of o3
  have o4 := hts _ (t1_in (w := (Jvm.Cond.arrayOver (Jvm.ClassFile.FieldType.object "SendRules$KeptCheck"))) 245 (by decide +kernel))
  obtain ⟨a4, A4, B4⟩ := ref_of o4
  have o5 := hts _ (t1_in (w := (Jvm.Cond.arrayOver (Jvm.ClassFile.FieldType.object "SendRules$Change"))) 271 (by decide +kernel))
  obtain ⟨a5, A5, B5⟩ := ref_of o5
  have hA : ∀ a : Nat, a < s.heap.size → ¬ (s.heap.size ≤ a) := fun a h => by omega
  obtain ⟨adK, adV, hSt, hev⟩ := vk_Sof (args := #[Value.ref b]) (s := s) (N := 4) (tm := tmS) (len := sLen) (byt := sByt) (A := fun a => s.heap.size ≤ a) (by decide) (fun i hi => hfl _ (fl_ex i hi)) (fun i hi => hfl _ (fl_co i hi)) (fun i hi => hfl _ (fl_ar i hi)) (fun i hi => hfl _ (fl_le i hi)) (fun i hi j hj => hfl _ (fl_el i hi j hj)) (fun i j hi hj hij => by
    rcases Nat.lt_or_gt_of_ne hij with z | z
    · exact Or.inl (hfl _ (fl_ne i hi j hj z))
    · exact Or.inr (hfl _ (fl_ne j hj i hi z))) hA
  have e0 := hev 0 (by decide)
  have e1 := hev 1 (by decide)
  have e2 := hev 2 (by decide)
  have e3 := hev 3 (by decide)
  obtain ⟨q119, -, -, -, e119, -⟩ := Cond.exactly_spec (args := #[Value.ref b]) (first := s) (o := none) (s := s) (idx := []) (hfl _ fl_119)
  have e98 : adK 1 = q119 := eq_refs (hfl _ fl_eq) e1 e119
  rw [← e98] at e119
  generalize hg : ((l, s.heap.size, (fun c => [c0, c1, c2, c3, c4, c5, c6, c7, c8, c9, c10, c11].getD c c0, fun c => [i0, i1, i2, i3, i4, i5, i6, i7, i8, i9, i10, i11].getD c i0), (fun k => [a0, a1, a2, a3, a4, a5].getD k a0), adK, adV) : Ctx) = g
  have hB : gB g = s.heap.size := by rw [← hg]
  have hE : Env0 g s := by
    refine ⟨⟨fun c q hq => ?_, fun k q hq => ?_⟩, nw_of hts, ?_, ⟨?_, ?_, ?_, ?_, ?_⟩, ?_, ?_⟩
    · have hc : c < 12 := (List.getElem?_eq_some_iff.mp hq).1
      rw [← hg]
      rcases (show c = 0 ∨ c = 1 ∨ c = 2 ∨ c = 3 ∨ c = 4 ∨ c = 5 ∨ c = 6 ∨ c = 7 ∨ c = 8 ∨ c = 9 ∨ c = 10 ∨ c = 11 by omega) with rfl | rfl | rfl | rfl | rfl | rfl | rfl | rfl | rfl | rfl | rfl | rfl
      · cases hq; exact k0
      · cases hq; exact k1
      · cases hq; exact k2
      · cases hq; exact k3
      · cases hq; exact k4
      · cases hq; exact k5
      · cases hq; exact k6
      · cases hq; exact k7
      · cases hq; exact k8
      · cases hq; exact k9
      · cases hq; exact k10
      · cases hq; exact k11
    · rw [← hg] at hq
      have hk : k < 6 := (List.getElem?_eq_some_iff.mp hq).1
      rcases (show k = 0 ∨ k = 1 ∨ k = 2 ∨ k = 3 ∨ k = 4 ∨ k = 5 by omega) with rfl | rfl | rfl | rfl | rfl | rfl
      · cases hq; exact ⟨A0, B0⟩
      · cases hq; exact ⟨A1, B1⟩
      · cases hq; exact ⟨A2, B2⟩
      · cases hq; exact ⟨A3, B3⟩
      · cases hq; exact ⟨A4, B4⟩
      · cases hq; exact ⟨A5, B5⟩
    · rw [← hg]; exact hSt
    · rw [← hg]; exact vk_R.of (hts _ (t1_in (w := .stringRef "SendRules" 44 sTx) 298 (by decide +kernel))) e0
    · rw [← hg]; exact vk_R.of (hts _ (t1_in (w := .stringRef "SendRules" 119 "+-~?") 714 (by decide +kernel))) e119
    · rw [← hg]; exact vk_R.of (hts _ (t1_in (w := .stringRef "SendRules$Reader" 98 "+-~?") 431 (by decide +kernel))) e1
    · rw [← hg]; exact vk_R.of (hts _ (t1_in (w := .stringRef "SendRules$Reader" 105 "apihme") 491 (by decide +kernel))) e2
    · rw [← hg]; exact vk_R.of (hts _ (t1_in (w := .stringRef "SendRules$Reader" 141 "dosl") 512 (by decide +kernel))) e3
    · rw [← hg]; exact va_Zof (hts _ (t1_in (w := .laysStatic "java/lang/String" "COMPACT_STRINGS" "Z") 308 (by decide +kernel))) (hgt _ q12) (va_eqt (hfl _ fl_cs)) hA
    · rw [← hg]; exact va_Zqof (hts _ (t1_in (w := .laysStatic "jdk/internal/util/Preconditions" "SIOOBE_FORMATTER" "Ljava/util/function/BiFunction;") 324 (by decide +kernel))) (hgt _ q14) (hfl _ fl_sf) hA
  have hgl : gl g = l := by rw [← hg]
  have hl := lv_entry [Value.ref b] (n := 4) (Nat.le_of_ble_eq_true rfl)
  have hP0 : va_P (gD g) classes (wsF g 0 (fun _ => .inr (0, []))) s.heap := fun k q hk => by rw [wsF_out g 0 _ (by omega)] at hk; cases hk
  have hW := law_all (g := g) (b := b) (L := L) (xs := xs) hL (fun _ => .inr (0, [])) p e s m #[Value.ref b] below meth c s.heap [] _ ⟨h1, h2, h3, h4, h5, hgt, hlk, hE⟩ ⟨⟨hX, hbl, by rw [hB]; exact hbl, hB.symm⟩, va_AO.of o2, va_AO.of o3, va_AO.of o4, va_AO.of o5⟩ ⟨by rw [hB]; rfl, by rw [hB]⟩ hP0 va_S.rf hl
  rw [hgl] at hW
  rw [lg_entry_eq]
  intro T hT X0
  obtain ⟨t, u1, u2⟩ := hW T hT X0
  exact ⟨t, u1, u2 rfl⟩
set_option maxHeartbeats 4000000 in
theorem lw_walk (l : Launch) (hflags : l.flags = flags0) (b : Addr) (xs : List Int32) : MetFree l x (headSpec (Jvm.Cond.code x code maxLocals ret :: tables_1) room_1) (lw_P b xs) (fun _ _ _ _ _ => True) lw_Q := by
  refine MetFree.of_bodyS (code := code) (maxLocals := maxLocals) (ret := ret) (by decide) ?_ ?_
  · intro args s m h hn
    obtain ⟨meth, c, h1, h2, h3, h4, h5, h6, -, -⟩ := Cond.code_spec hn (atoms_spec (ws := Jvm.Cond.code x code maxLocals ret :: tables_1) h _ List.mem_cons_self)
    exact ⟨meth, c, h1, h2, h3, h4, h5, h6⟩
  · intro p e s m args below meth c s₁ B hml0 hP _
    obtain ⟨rfl, hx, hbd, hgv⟩ := hP
    obtain ⟨scr, harrAt, hlist, hof, hsmall⟩ := hx
    obtain ⟨hcb, hkn, -, -⟩ := State.arrayAt?_spec harrAt
    have hown : s.vm.findClass R_law = some m.cls := findClass_of_methodNamed B.named
    have hts0 : ∀ c ∈ (Jvm.Cond.code x code maxLocals ret :: tables_1), c.before #[Value.ref b] s = true := atoms_spec (ws := Jvm.Cond.code x code maxLocals ret :: tables_1) B.pre
    have hts : ∀ w ∈ lw_tbl, w.before #[Value.ref b] s = true := k2_hts_sels lw_privs (fun w hw => hts0 w (List.mem_cons_of_mem _ hw)) lw_privs_ok
    have hml : c.maxLocals = 4 := B.maxLocals_eq (hts0 _ List.mem_cons_self)
    have X₀ : Stand p l e room_1 s m #[Value.ref b] below meth c s₁ [] 0 0 := Stand.of_body B
    have hh0 : s₁.heap = s.heap := by rw [B.state]; rfl
    have hsz : scr.slots.size = xs.length := by rw [← Array.length_toList, hlist, List.length_map]
    have hval : ∀ j : Nat, j < xs.length → scr.slots[j]? = some (.int (xs.getD j 0)) := fun j hj => by
      rw [← Array.getElem?_toList, hlist]
      simp [hj]
    have hbl : b < s.heap.size := (Array.getElem?_eq_some_iff.mp hcb).1
    have hX : va_X b xs.length (fun j => xs.getD j 0) s s.heap := ⟨scr, hcb, hof, hkn, hsz, hval⟩
    have K : W p l e room_1 s m #[Value.ref b] below meth c s₁.heap [] 0 0 (lw_Z below #[Value.ref b] s) (entryFrame m ([Value.ref b] : List Value).toArray 4) := by
      rw [hh0]
      exact whole_start l hflags hbd ⟨B.exec, B.bytes, B.returns, hml, hown, hts, hX, hbl, B.notSynchronized, hgv⟩
    obtain ⟨t, a1, o, b1, b2, b3⟩ := K s₁ rfl X₀
    exact ⟨t, o, a1, b1, b2, b3⟩
theorem lw_pre_spec {args : Array Value} {s : State} (h : (Jvm.Cond.and given_1 narrow_1).before args s = true) (hr : rest_1_c.before args s = true) : ∃ (b : Addr) (xs : List Int32), lw_P b xs args s := by
  have hs := flat_of_before _ h
  have hq := flat_of_before _ hr
  have hc : (Cond.count 1).before args s = true := hs _ (by decide +kernel)
  have harr : (Cond.arrayOf (.arg 0) .int).before args s = true := hs _ (by decide +kernel)
  have hle : (Cond.le (.length (.arg 0)) (.int 2560)).before args s = true := hs _ (by decide +kernel)
  have hlen : (Cond.isInt (.length (.arg 0))).before args s = true := hq _ (by decide +kernel)
  have hall : (Cond.all (.arg 0) (.isInt (.elem (.arg 0) (.index 0)))).before args s = true := hq _ (by decide +kernel)
  obtain ⟨b, xs, hb, hx⟩ := State.ints_of_pre rfl harr hlen hall
  have hsm : xs.length < 2 ^ 31 := hx.choose_spec.2.2.2
  have hev : (Term.length (.arg 0)).eval args s none [] s = some (.int xs.length.toInt32) := hx.length_eval hb
  have hv := Cond.le_ints hev (show (Term.int 2560).eval args s none [] s = some (.int 2560) from rfl)
  have hd : xs.length.toInt32 ≤ 2560 := by
    simpa [Cond.before, Cond.holds, hv] using hle
  have hN : xs.length ≤ 2560 := (Int32.ofNat_le_ofNat hsm (by decide)).mp (show Int32.ofNat xs.length ≤ Int32.ofNat 2560 from hd)
  exact ⟨b, xs, Cond.one_arg hc (show args[0]? = some (.ref b) from hb), hx, hN, h⟩
theorem lw_comes (l : Launch) (hflags : l.flags = flags0) : Comes l x (Jvm.Cond.code x code maxLocals ret :: tables_1) room_1 (fun tb e args s => Calls_1 tb e args s ∧ rest_1 tb e args s ∧ Pre_1 tb e args s)
    (fun _ _ args s o t => lw_Q args s o t) := by
  intro p e ha hc hk s m args below hf hfit hheap happ hpre
  obtain ⟨b, xs, hP⟩ := lw_pre_spec hpre.2.2 hpre.2.1
  obtain ⟨k, o, h1, h2, h3, hQ⟩ := lw_walk l hflags b xs p e ha hc hk s m args below hf ((Spec.applies_iff_loose hf).mp happ).1 hP trivial
  exact ⟨k, o, h1, h2, h3, hQ⟩
theorem lw_frame {s t : State} {o : Outcome} {args : Array Value} (h : Framed s o t [] 600000 7302250) :
    Framed s o t (fieldLocs frame_1_writes args s ++ arrayLocs frame_1_arrays args s ++ staticLocs frame_1_statics s) 600000 7302250 := h
theorem lw_limb (L : Cond) (hL : ∀ (args : Array Value) (s t : State), L.after args s (.returned (some (.int 1))) t = true) :
    ArmFor flags0 classFile x code maxLocals ret World_1 tables_1 room_1 Calls_1 rest_1 Pre_1
      (fun tb e a s o t => postC L tb e a s o t ∧ Framed s o t (fieldLocs frame_1_writes a s ++ arrayLocs frame_1_arrays a s ++ staticLocs frame_1_statics s) 600000 7302250) := by
  intro l hflags _ _ p e ha hc hk s m args below hf hfit hheap happ hpre
  obtain ⟨k, o, h1, h2, h3, rfl, hF⟩ := lw_comes l hflags p e ha hc hk s m args below hf hfit hheap happ hpre
  exact ⟨k, _, h1, h2, h3, hL args s _, lw_frame hF⟩
theorem i_vc : Claimed_1_1 ∧ Claimed_1_2 := ⟨lw_limb limb_1_1 (fun args s t => by simp [limb_1_1, Cond.after, Cond.holds, Cond.value]), lw_limb limb_1_2 (fun args s t => Cond.after_iff.mpr (by
  first | (rw [show limb_1_2 = Cond.eq .result (.int 1) from rfl, Cond.eq_ints (x := 1) (y := 1) rfl rfl]; simp; done) | (simp [limb_1_2, Cond.value, Term.eval]; done)))⟩
