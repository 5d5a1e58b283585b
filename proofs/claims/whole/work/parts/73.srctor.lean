/-! ===== the first text, as both sides read it ===== -/
def t0 (p : Nat) : Int := if p < 92 then bV 0 p else 0
theorem t0_in : ∀ p, p < 92 → 32 ≤ bV 0 p ∧ bV 0 p ≤ 126 := by decide +kernel
theorem t0_TxT : TxT t0 92 := ⟨by decide, fun p hp => by unfold t0; rw [if_pos hp]; exact t0_in p hp, fun p hp => by unfold t0; rw [if_neg (by omega)]⟩
theorem t0_ok : (allP t0 92 240 0 [] P00).1 = -4 := by decide +kernel
theorem t0_any : ((allP t0 92 240 0 [] P00).2.1.any (fun c => decide (((allP t0 92 240 0 [] P00).2.2 c).1.length ≠ 0))) = true := by decide +kernel
theorem t0_pol : ¬ noPol (allP t0 92 240 0 [] P00).2.1 (allP t0 92 240 0 [] P00).2.2 := by
  intro h
  obtain ⟨c, hc, hd⟩ := List.any_eq_true.mp t0_any
  have h1 := h c hc
  have h2 := of_decide_eq_true hd
  rw [h1] at h2
  exact h2 rfl
/-- what stands after the class is made -/
def SrP (M : Mem) : Prop := (gP M 0 1 = 276 ∧ gP M 0 2 = 4) ∧ (PRec M 4 ∧ PRec M 276 ∧ PIn M) ∧ CRec M 276 (allP t0 92 240 0 [] P00).2.1 (allP t0 92 240 0 [] P00).2.2 ∧ gI M 1 1 = 0 ∧ gI M 260 1 = 0 ∧ gI M 270 1 = 0 ∧ (∀ a k, 530 ≤ a → gI M a k = 0) ∧ ∀ a k, 530 ≤ a → gP M a k = 0
def SrF (g : Ctx) : (Nat → va_E) → Prop := fun f => ∃ M, f = cellOf g M ∧ WT M ∧ SrP M
def MoF (g : Ctx) : (Nat → va_E) → Prop := fun f => ∃ M, f = cellOf g M ∧ WT M ∧ Rel M
/-- the class while its parts are made -/
def nF (g : Ctx) (fs : List Value) : Nat → va_E := fun q => if q = 0 then .inr (10, fs) else cellOf g M0 q
theorem nF_0 (g : Ctx) (fs : List Value) : nF g fs 0 = .inr (10, fs) := by unfold nF; rw [if_pos rfl]
theorem nF_blk (g : Ctx) (fs : List Value) {N k : Nat} {bl : va_E} (hN : 1 ≤ N) (hk : 0 < k) : blkF g (upE (nF g fs) N bl) N k = nF g fs := by
  funext q
  unfold blkF
  by_cases z : N ≤ q ∧ q < N + k
  · rw [if_pos z]; unfold nF; rw [if_neg (by omega)]
  · rw [if_neg z, upE_ne _ _ (by omega)]
theorem nF_up (g : Ctx) (fs fs' : List Value) : upE (nF g fs) 0 (.inr (10, fs')) = nF g fs' := by
  funext q
  by_cases z : q = 0
  · subst z; rw [upE_at, nF_0]
  · rw [upE_ne _ _ z]; unfold nF; rw [if_neg z, if_neg z]
theorem nF_end (g : Ctx) : nF g [vr g 1, Value.null, vr g 4, vr g 258, vr g 260, vr g 270] = cellOf g M0 := by
  funext q
  by_cases z : q = 0
  · subst z; rw [nF_0, c0_obj g s0]; rfl
  · unfold nF; rw [if_neg z]
theorem cell_upP (g : Ctx) (M : Mem) {a ci k v : Nat} {ks : List (Option (Option Nat))} (h : shp a = .inl (ci, ks)) (hk : ks[k]? = some (some none)) (hv : v ≠ 0) : upE (cellOf g M) a (.inr (ci, (ks.mapIdx (fvl g M a)).set k (vr g v))) = cellOf g (sP M a k v) := by
  have e : vr g v = vq g v := by unfold vq oq; rw [if_neg hv]; rfl
  funext q
  by_cases z : q = a
  · subst z
    rw [upE_at, e, flds_setP g M q k v ks hk]
    unfold cellOf; rw [h]
  · rw [upE_ne _ _ z, cell_oP g M a k v z]
theorem cell_upI (g : Ctx) (M : Mem) {a ci k : Nat} {v : Int} {ks : List (Option (Option Nat))} (h : shp a = .inl (ci, ks)) (hk : ks[k]? = some none) : upE (cellOf g M) a (.inr (ci, (ks.mapIdx (fvl g M a)).set k (vi v))) = cellOf g (sI M a k v) := by
  funext q
  by_cases z : q = a
  · subst z
    rw [upE_at, flds_setI g M q k v ks hk]
    unfold cellOf; rw [h]
  · rw [upE_ne _ _ z, cell_oI g M a k v z]
theorem cell_o (g : Ctx) (M : Mem) {a ci : Nat} {ks : List (Option (Option Nat))} (h : shp a = .inl (ci, ks)) : cellOf g M a = .inr (ci, ks.mapIdx (fvl g M a)) := by unfold cellOf; rw [h]
theorem M0_PDom {d : Nat} (h : isDom d) {M : Mem} (e : M.2 = R0) : PDom M d := by
  have e2 : ∀ i, i < 8 → gP M (d + 2) i = d + 5 + 2 * i := fun i hi => by unfold gP; rw [e, R0_dom h, if_pos hi]
  refine ⟨fun i hi => ⟨i, hi, e2 i hi⟩, fun i i2 hi hi2 z => ?_⟩
  rw [e2 i hi, e2 i2 hi2] at z
  omega
theorem M0_PRec {b : Nat} (h : isRec b) {M : Mem} (e : M.2 = R0) : PRec M b := by
  have e2 : ∀ i, i < 12 → gP M (b + 1) i = b + 2 + 21 * i := fun i hi => by unfold gP; rw [e, R0_rec h, if_pos hi]
  refine ⟨fun i hi => ⟨i, hi, e2 i hi⟩, fun i i2 hi hi2 z => ?_, fun q hq => M0_PDom ⟨b, q, h, hq, rfl⟩ e⟩
  rw [e2 i hi, e2 i2 hi2] at z
  omega
theorem M0_PIn {M : Mem} (e : M.2 = R0) : PIn M := by
  have e1 : ∀ i, i < 4 → gP M 261 i = 262 + 2 * i := fun i hi => by unfold gP; rw [e]; show (if i < 4 then 262 + 2 * i else 0) = _; rw [if_pos hi]
  have e2 : ∀ i, i < 4 → gP M 271 i = 272 + i := fun i hi => by unfold gP; rw [e]; show (if i < 4 then 272 + i else 0) = _; rw [if_pos hi]
  refine ⟨fun i i2 hi hi2 z => ?_, fun i i2 hi hi2 z => ?_⟩
  · rw [e1 i hi, e1 i2 hi2] at z; omega
  · rw [e2 i hi, e2 i2 hi2] at z; omega
/-- k signs of the first text appended -/
def TIn (k : Nat) (M : Mem) : Prop := M.2 = R0 ∧ (∀ a j, a ≠ 2 → ¬ (a = 1 ∧ j = 1) → gI M a j = 0) ∧ gI M 1 1 = (k : Nat) ∧ ∀ p, p < k → gI M 2 p = bV 0 p
theorem TIn.step {k : Nat} {M : Mem} (h : TIn k M) : TIn (k + 1) (sI (sI M 2 (gI M 1 1).toNat (bV 0 k)) 1 1 (gI M 1 1 + 1)) := by
  obtain ⟨h1, h2, h3, h4⟩ := h
  rw [h3, Int.toNat_natCast]
  refine ⟨h1, fun a j z1 z2 => ?_, ?_, fun p hp => ?_⟩
  · rw [gI_ne _ _ _ _ _ _ z2, gI_ne _ _ _ _ _ _ (by omega)]; exact h2 a j z1 z2
  · rw [gI_same]; omega
  · rw [gI_ne _ _ _ _ _ _ (by omega)]
    by_cases z : p = k
    · subst z; rw [gI_same]
    · rw [gI_ne _ _ _ _ _ _ (by omega)]; exact h4 p (by omega)
theorem q309 : (Jvm.Cond.methodLink "SendRules" (52 : Nat) ({ cls := "java/lang/String", name := "charAt", desc := "(I)C" } : Jvm.MethodName)) ∈ gtbl := gt_in (List.mem_append_right _ (List.mem_of_getElem? (i := 309) (by decide +kernel))) rfl
theorem q25 : (Jvm.Cond.methodLink "SendRules" (3 : Nat) ({ cls := "java/lang/Object", name := "<init>", desc := "()V" } : Jvm.MethodName)) ∈ gtbl := gt_in (List.mem_append_right _ (List.mem_of_getElem? (i := 25) (by decide +kernel))) rfl
theorem q28 : (Jvm.Cond.classLink "SendRules" (9 : Nat) "SendRules$Reader") ∈ gtbl := gt_in (List.mem_append_right _ (List.mem_of_getElem? (i := 28) (by decide +kernel))) rfl
theorem q29 : (Jvm.Cond.instantiable "SendRules$Reader" (4 : Nat)) ∈ gtbl := gt_in (List.mem_append_right _ (List.mem_of_getElem? (i := 29) (by decide +kernel))) rfl
theorem qn30 : (Jvm.Cond.methodLinkNest "SendRules" (11 : Nat) ({ cls := "SendRules$Reader", name := "<init>", desc := "()V" } : Jvm.MethodName) "SendRules") ∈ ntbl := List.mem_filter.mpr ⟨List.mem_of_getElem? (i := 30) (by decide +kernel), rfl⟩
theorem q31 : (Jvm.Cond.instanceMethod ({ cls := "SendRules$Reader", name := "<init>", desc := "()V" } : Jvm.MethodName)) ∈ gtbl := gt_in (List.mem_append_right _ (List.mem_of_getElem? (i := 31) (by decide +kernel))) rfl
theorem q32 : (Jvm.Cond.code ({ cls := "SendRules$Reader", name := "<init>", desc := "()V" } : Jvm.MethodName) prog_9_method_1_code (1 : Nat) (Option.none : Option Jvm.ClassFile.FieldType)) ∈ gtbl := gt_in (List.mem_append_right _ (List.mem_of_getElem? (i := 32) (by decide +kernel))) rfl
theorem q62 : (Jvm.Cond.classLink "SendRules" (16 : Nat) "SendRules$Records") ∈ gtbl := gt_in (List.mem_append_right _ (List.mem_of_getElem? (i := 62) (by decide +kernel))) rfl
theorem q63 : (Jvm.Cond.instantiable "SendRules$Records" (2 : Nat)) ∈ gtbl := gt_in (List.mem_append_right _ (List.mem_of_getElem? (i := 63) (by decide +kernel))) rfl
theorem q64 : (Jvm.Cond.methodLink "SendRules" (18 : Nat) ({ cls := "SendRules$Records", name := "<init>", desc := "()V" } : Jvm.MethodName)) ∈ gtbl := gt_in (List.mem_append_right _ (List.mem_of_getElem? (i := 64) (by decide +kernel))) rfl
theorem q65 : (Jvm.Cond.instanceMethod ({ cls := "SendRules$Records", name := "<init>", desc := "()V" } : Jvm.MethodName)) ∈ gtbl := gt_in (List.mem_append_right _ (List.mem_of_getElem? (i := 65) (by decide +kernel))) rfl
theorem q66 : (Jvm.Cond.code ({ cls := "SendRules$Records", name := "<init>", desc := "()V" } : Jvm.MethodName) prog_10_method_1_code (2 : Nat) (Option.none : Option Jvm.ClassFile.FieldType)) ∈ gtbl := gt_in (List.mem_append_right _ (List.mem_of_getElem? (i := 66) (by decide +kernel))) rfl
theorem q190 : (Jvm.Cond.classLink "SendRules" (23 : Nat) "SendRules$Evaluator") ∈ gtbl := gt_in (List.mem_append_right _ (List.mem_of_getElem? (i := 190) (by decide +kernel))) rfl
theorem q191 : (Jvm.Cond.instantiable "SendRules$Evaluator" (10 : Nat)) ∈ gtbl := gt_in (List.mem_append_right _ (List.mem_of_getElem? (i := 191) (by decide +kernel))) rfl
theorem qn192 : (Jvm.Cond.methodLinkNest "SendRules" (25 : Nat) ({ cls := "SendRules$Evaluator", name := "<init>", desc := "()V" } : Jvm.MethodName) "SendRules") ∈ ntbl := List.mem_filter.mpr ⟨List.mem_of_getElem? (i := 192) (by decide +kernel), rfl⟩
theorem q193 : (Jvm.Cond.instanceMethod ({ cls := "SendRules$Evaluator", name := "<init>", desc := "()V" } : Jvm.MethodName)) ∈ gtbl := gt_in (List.mem_append_right _ (List.mem_of_getElem? (i := 193) (by decide +kernel))) rfl
theorem q194 : (Jvm.Cond.code ({ cls := "SendRules$Evaluator", name := "<init>", desc := "()V" } : Jvm.MethodName) prog_4_method_1_code (1 : Nat) (Option.none : Option Jvm.ClassFile.FieldType)) ∈ gtbl := gt_in (List.mem_append_right _ (List.mem_of_getElem? (i := 194) (by decide +kernel))) rfl
theorem q238 : (Jvm.Cond.classLink "SendRules" (30 : Nat) "SendRules$KeptChecks") ∈ gtbl := gt_in (List.mem_append_right _ (List.mem_of_getElem? (i := 238) (by decide +kernel))) rfl
theorem q239 : (Jvm.Cond.instantiable "SendRules$KeptChecks" (2 : Nat)) ∈ gtbl := gt_in (List.mem_append_right _ (List.mem_of_getElem? (i := 239) (by decide +kernel))) rfl
theorem q240 : (Jvm.Cond.methodLink "SendRules" (32 : Nat) ({ cls := "SendRules$KeptChecks", name := "<init>", desc := "()V" } : Jvm.MethodName)) ∈ gtbl := gt_in (List.mem_append_right _ (List.mem_of_getElem? (i := 240) (by decide +kernel))) rfl
theorem q241 : (Jvm.Cond.instanceMethod ({ cls := "SendRules$KeptChecks", name := "<init>", desc := "()V" } : Jvm.MethodName)) ∈ gtbl := gt_in (List.mem_append_right _ (List.mem_of_getElem? (i := 241) (by decide +kernel))) rfl
theorem q242 : (Jvm.Cond.code ({ cls := "SendRules$KeptChecks", name := "<init>", desc := "()V" } : Jvm.MethodName) prog_7_method_1_code (2 : Nat) (Option.none : Option Jvm.ClassFile.FieldType)) ∈ gtbl := gt_in (List.mem_append_right _ (List.mem_of_getElem? (i := 242) (by decide +kernel))) rfl
theorem q264 : (Jvm.Cond.classLink "SendRules" (37 : Nat) "SendRules$History") ∈ gtbl := gt_in (List.mem_append_right _ (List.mem_of_getElem? (i := 264) (by decide +kernel))) rfl
theorem q265 : (Jvm.Cond.instantiable "SendRules$History" (2 : Nat)) ∈ gtbl := gt_in (List.mem_append_right _ (List.mem_of_getElem? (i := 265) (by decide +kernel))) rfl
theorem q266 : (Jvm.Cond.methodLink "SendRules" (39 : Nat) ({ cls := "SendRules$History", name := "<init>", desc := "()V" } : Jvm.MethodName)) ∈ gtbl := gt_in (List.mem_append_right _ (List.mem_of_getElem? (i := 266) (by decide +kernel))) rfl
theorem q267 : (Jvm.Cond.instanceMethod ({ cls := "SendRules$History", name := "<init>", desc := "()V" } : Jvm.MethodName)) ∈ gtbl := gt_in (List.mem_append_right _ (List.mem_of_getElem? (i := 267) (by decide +kernel))) rfl
theorem q268 : (Jvm.Cond.code ({ cls := "SendRules$History", name := "<init>", desc := "()V" } : Jvm.MethodName) prog_5_method_1_code (2 : Nat) (Option.none : Option Jvm.ClassFile.FieldType)) ∈ gtbl := gt_in (List.mem_append_right _ (List.mem_of_getElem? (i := 268) (by decide +kernel))) rfl
abbrev WS (g : Ctx) (pc : Nat) (lv : List (Nat × Value)) (st : List Value) (M : Mem) : Prop := WG g yX10_init cX10_init 3 none (rmK 20 529 4022) Xc 530 529 4022 pc lv st (cellOf g M) (ZE g (1 + 529) (SrF g) 529 4022)
theorem sr_end {g : Ctx} {M : Mem} (hw : WT M) (h : TIn 92 M) : WS g 98 [(2, vi (92 : Nat)), (1, vr g 276), (0, vr g 0)] [] M := by
  obtain ⟨h1, h2, h3, h4⟩ := h
  refine x_aload_n dX10_init_98 2 rfl ?_
  refine x_get (ci := 10) (k := 0) (a := 0) (v := vr g 1) dX10_init_99 rfl fi10 (by decide) q533 (by omega) (cell_o g _ s0) rfl ?_
  refine x_aload_n dX10_init_102 1 rfl ?_
  refine x_callV (n := 1) (rm' := rmD 11) (As := [vr g 276]) (rest := []) (a := 1) (ci := 7) dX10_init_103 q351 q352 q353 q2 q354 ⟨by decide, by decide, by decide +kernel⟩ ⟨rfl, rfl, by decide, by decide⟩ ⟨by decide, by decide⟩ rfl (Nat.le_of_ble_eq_true rfl) rfl s1 (by decide) rfl rfl hw (CallsM.mono (Q := rI (fun r M1 => WT M1 → WS g 106 [(2, vi (92 : Nat)), (1, vr g 276), (0, vr g 0)] [vi r] M1)) ?_ (fun v M1 hv hw1 => by obtain ⟨r, rfl, hr, hq⟩ := hv; exact hq hw1))
  refine k_Rd_all (n := 0) (t := t0) (L := 92) (Or.inr rfl) (M0_PRec (Or.inr rfl) h1) t0_TxT ⟨h3, fun p hp => by rw [h4 p hp]; unfold t0; rw [if_pos hp]⟩ (fun M1 hF1 hC1 hw1 => ?_)
  refine x_pop dX10_init_106 rfl ?_
  refine x_aload_n dX10_init_107 2 rfl ?_
  refine x_get (ci := 10) (k := 0) (a := 0) (v := vr g 1) dX10_init_108 rfl fi10 (by decide) q533 (by omega) (cell_o g _ s0) rfl ?_
  refine x_callV (rm' := rmD 0) (As := []) (rest := []) (a := 1) (ci := 7) dX10_init_111 q529 q530 q531 q2 q532 ⟨by decide, by decide, by decide +kernel⟩ ⟨rfl, rfl, by decide, by decide⟩ ⟨by decide, by decide⟩ rfl (Nat.le_of_ble_eq_true rfl) rfl s1 (by decide) rfl rfl hw1 (CallsM.mono (Q := rV (fun M2 => WT M2 → WS g 114 [(2, vi (92 : Nat)), (1, vr g 276), (0, vr g 0)] [] M2)) ?_ (fun v M2 hv hw2 => by obtain ⟨rfl, hq⟩ := hv; exact hq hw2))
  refine i_Rd_empty (n := 0) (b_Rd_empty_0 (fun hw2 => ?_))
  refine x_aload_n dX10_init_114 2 rfl ?_
  refine x_aload_n dX10_init_115 1 rfl ?_
  refine x_putM (ci := 10) (k := 1) (v := vr g 276) dX10_init_116 rfl fi10 (by decide) q534 tyX10 tyX10_ok nmX10 rfl rfl rfl (by omega) (cell_o g _ s0) (by simp) ?_
  rw [cell_upP g _ s0 rfl (by decide)]
  refine x_vretE dX10_init_119 rfl rfl rfl (fun q _ => rfl) ⟨_, rfl, hw2.sPfld (Or.inl rfl), ?_⟩
  generalize hN : sP (sI M1 1 1 0) 0 1 276 = N
  have nI : ∀ a k, ¬ (a = 1 ∧ k = 1) → gI N a k = gI M1 a k := fun a k z => by rw [← hN, gI_sP, gI_ne _ _ _ _ _ _ z]
  have nP : ∀ a k, a ≠ 0 → gP N a k = gP M1 a k := fun a k z => by rw [← hN, gP_sP, if_neg (by omega), gP_sI]
  have mP : ∀ a k, a ≠ 277 → gP M1 a k = R0 a k := fun a k z => by rw [hF1.2.1 a k (by omega)]; unfold gP; rw [h1]
  have mI : ∀ a k, ¬ cN a k → ¬ (276 ≤ a ∧ a < 276 + 254) → a ≠ 2 → ¬ (a = 1 ∧ k = 1) → gI M1 a k = 0 := fun a k z1 z2 z3 z4 => by rw [hF1.1 a k z1 z2]; exact h2 a k z3 z4
  refine ⟨⟨by rw [← hN]; rfl, by rw [← hN, gP_sP, if_neg (by omega), gP_sI, mP _ _ (by omega)]; rfl⟩, ⟨?_, ?_, ?_⟩, ?_, by rw [← hN, gI_sP, gI_same], ?_, ?_, ?_, ?_⟩
  · exact (M0_PRec (b := 4) (Or.inl rfl) h1).fr (fun a k z => by rw [nP a k (by omega), hF1.2.1 a k (by omega)])
  · exact (hF1.2.2 (M0_PRec (Or.inr rfl) h1)).fr (fun a k z => nP a k (by omega))
  · exact (M0_PIn h1).fr (fun a k z => by rw [nP a k (by omega), hF1.2.1 a k (by omega)])
  · exact (hC1 t0_ok).blk (fun a k x y => nI a k (by omega)) (fun a k x y => nP a k (by omega))
  · rw [nI _ _ (by omega)]; exact mI _ _ (by unfold cN; omega) (by omega) (by omega) (by omega)
  · rw [nI _ _ (by omega)]; exact mI _ _ (by unfold cN; omega) (by omega) (by omega) (by omega)
  · intro a k x; rw [nI _ _ (by omega)]; exact mI _ _ (by unfold cN; omega) (by omega) (by omega) (by omega)
  · intro a k x; rw [nP _ _ (by omega), mP _ _ (by omega)]; unfold R0; rw [if_neg (by omega), if_neg (by omega), if_neg (by omega), if_neg (by omega), if_neg (by omega)]
theorem sr_loop {g : Ctx} : ∀ (w k : Nat) (M : Mem), k + w = 92 → WT M → TIn k M → WS g 69 [(2, vi (k : Int)), (1, vr g 276), (0, vr g 0)] [] M := by
  intro w
  induction w with
  | zero =>
    intro k M hk hw h
    obtain rfl : k = 92 := by omega
    refine x_iload_n dX10_init_69 0 rfl (x_ldc0 dX10_init_70 ?_)
    refine x_callJ (As := []) (rest := [vi ((92 : Nat) : Int)]) (i := 0) dX10_init_72 q299 q300 q301 q12 q302 ⟨by decide, by decide, by decide +kernel⟩ ⟨rfl, rfl, by decide, by decide⟩ ⟨by decide, by decide⟩ rfl (Nat.le_of_ble_eq_true rfl) rfl (by decide) hw (CallsM.mono (Q := rI (fun r M1 => WT M1 → WS g 75 [(2, vi ((92 : Nat) : Int)), (1, vr g 276), (0, vr g 0)] [vi r, vi ((92 : Nat) : Int)] M1)) (k_J_length (n := 0) (by decide) ?_) (fun v M1 hv hw1 => by obtain ⟨r, rfl, hr, hq⟩ := hv; exact hq hw1))
    intro hw1
    exact x_icmp_ge dX10_init_75 rfl (by decide) (by decide) (fun _ => sr_end hw1 h) (fun z => absurd (by decide) z)
  | succ w ih =>
    intro k M hk hw h
    refine x_iload_n dX10_init_69 0 rfl (x_ldc0 dX10_init_70 ?_)
    refine x_callJ (As := []) (rest := [vi (k : Int)]) (i := 0) dX10_init_72 q299 q300 q301 q12 q302 ⟨by decide, by decide, by decide +kernel⟩ ⟨rfl, rfl, by decide, by decide⟩ ⟨by decide, by decide⟩ rfl (Nat.le_of_ble_eq_true rfl) rfl (by decide) hw (CallsM.mono (Q := rI (fun r M1 => WT M1 → WS g 75 [(2, vi (k : Int)), (1, vr g 276), (0, vr g 0)] [vi r, vi (k : Int)] M1)) (k_J_length (n := 0) (by decide) ?_) (fun v M1 hv hw1 => by obtain ⟨r, rfl, hr, hq⟩ := hv; exact hq hw1))
    intro hw1
    refine x_icmp_ge dX10_init_75 rfl (by omega) (by decide) (fun z => absurd z (by show ¬ ((92 : Nat) : Int) ≤ (k : Int); omega)) (fun _ => ?_)
    refine x_aload_n dX10_init_78 2 rfl ?_
    refine x_get (ci := 10) (k := 0) (a := 0) (v := vr g 1) dX10_init_79 rfl fi10 (by decide) q533 (by omega) (cell_o g _ s0) rfl ?_
    refine x_ldc0 dX10_init_82 (x_iload_n dX10_init_84 0 rfl ?_)
    refine x_callJ (n := 1) (As := [vi (k : Int)]) (rest := [vr g 1]) (i := 0) dX10_init_85 q309 q310 q311 q12 q312 ⟨by decide, by decide, by decide +kernel⟩ ⟨rfl, rfl, by decide, by decide⟩ ⟨by decide, by decide⟩ rfl (Nat.le_of_ble_eq_true rfl) rfl (by decide) hw1 (CallsM.mono (Q := rC (fun r M1 => WT M1 → WS g 88 [(2, vi (k : Int)), (1, vr g 276), (0, vr g 0)] [vi r, vr g 1] M1)) (k_J_charAt (n := 0) (by decide) (by show k < 92; omega) ?_) (fun v M1 hv hw1 => by obtain ⟨r, rfl, hr, hq⟩ := hv; exact hq hw1))
    intro hw2
    have hb := t0_in k (by omega)
    have h11 := h.2.2.1
    refine x_callV (n := 1) (As := [vi (bV 0 k)]) (rest := []) (a := 1) (ci := 7) dX10_init_88 q347 q348 q349 q2 q350 ⟨by decide, by decide, by decide +kernel⟩ ⟨rfl, rfl, by decide, by decide⟩ ⟨by decide, by decide⟩ rfl (Nat.le_of_ble_eq_true rfl) rfl s1 (by decide) rfl rfl hw2 (CallsM.mono (Q := rZ (fun r M1 => WT M1 → WS g 91 [(2, vi (k : Int)), (1, vr g 276), (0, vr g 0)] [vi r] M1)) (i_Rd_append (n := 0) (b_Rd_append_0 (by omega) ⟨fun z => ⟨by omega, by omega, fun hw3 => ?_⟩, fun z => absurd (by omega) z⟩)) (fun v M1 hv hw1 => by obtain ⟨r, rfl, hr, hq⟩ := hv; exact hq hw1))
    refine x_pop dX10_init_91 rfl (x_iinc (lv' := [(2, vi ((k : Int) + 1)), (1, vr g 276), (0, vr g 0)]) dX10_init_92 0 rfl (by decide) rfl (x_goto dX10_init_95 rfl ?_))
    have nx := ih (k + 1) _ (by omega) hw3 h.step
    rw [show ((k + 1 : Nat) : Int) = (k : Int) + 1 by omega] at nx
    exact nx
theorem n_X10 {g : Ctx} {f : Nat → va_E} (hf : f 0 = .inr (10, [Value.null, Value.null, Value.null, Value.null, Value.null, Value.null])) : CallsE g yX10_init cX10_init 3 (rmK 20 529 4022) 0 1 f 529 4022 (SrF g) := by
  refine CallsE.intro rfl (by decide) rfl ?_
  refine x_f (f' := nF g [Value.null, Value.null, Value.null, Value.null, Value.null, Value.null]) (fun q hq => by rw [show q = 0 by omega, hf, nF_0]) ?_
  refine x_aload_n dX10_init_0 0 rfl ?_
  refine x_obj dX10_init_1 q25 q26 q27 (by decide) (by decide) ?_
  refine x_aload_n dX10_init_4 0 rfl ?_
  refine x_new (ci := 7) (fs := [Value.null, vi 0, vi 0, Value.null]) dX10_init_5 rfl fi7 tyX7 tyX7_ok q28 q29 q2 hfsX7 (by decide) (by decide) ?_
  refine x_dup dX10_init_8 rfl ?_
  refine x_ctorEN (mc := 2) (ms := 242) (rm' := rmK 2 2 242) dX10_init_9 qn30 q31 q2 q32 rfl ⟨by decide, by decide, by decide +kernel⟩ ⟨rfl, rfl, by decide, by decide⟩ ⟨by decide, by decide⟩ (Nat.le_of_ble_eq_true rfl) (fun _ _ h => h.1) (n_X7 (upE_at _ _ _)) (fun f1 e1 => ?_)
  rw [show f1 = _ from e1, nF_blk g _ (by decide) (by decide)]
  refine x_putF (ci := 10) (k := 0) (v := vr g 1) dX10_init_12 rfl fi10 (by decide) q533 tyX10 tyX10_ok nmX10 rfl (fun _ _ h => h.2) rfl rfl rfl (by omega) (nF_0 g _) (by simp) ?_
  rw [nF_up]
  refine x_aload_n dX10_init_15 0 rfl ?_
  refine x_new (ci := 8) (fs := [Value.null, vi 0]) dX10_init_16 rfl fi8 tyX8 tyX8_ok q62 q63 q4 hfsX8 (by decide) (by decide) ?_
  refine x_dup dX10_init_19 rfl ?_
  refine x_ctorE (mc := 253) (ms := 1848) (rm' := rmK 3 253 1848) dX10_init_20 q64 q65 q4 q66 rfl ⟨by decide, by decide, by decide +kernel⟩ ⟨rfl, rfl, by decide, by decide⟩ ⟨by decide, by decide⟩ (Nat.le_of_ble_eq_true rfl) (fun _ _ h => h.1) (n_X8 (b := 4) (Or.inl rfl) (upE_at _ _ _)) (fun f1 e1 => ?_)
  rw [show f1 = _ from e1, nF_blk g _ (by decide) (by decide)]
  refine x_putM (ci := 10) (k := 2) (v := vr g 4) dX10_init_23 rfl fi10 (by decide) q535 tyX10 tyX10_ok nmX10 rfl rfl rfl (by omega) (nF_0 g _) (by simp) ?_
  rw [nF_up]
  refine x_aload_n dX10_init_26 0 rfl ?_
  refine x_new (ci := 2) (fs := [Value.null, Value.null, vi 0, vi 0, vi 0, vi 0, vi 0, vi 0, vi 0, Value.null]) dX10_init_27 rfl fi2 tyX2 tyX2_ok q190 q191 q7 hfsX2 (by decide) (by decide) ?_
  refine x_dup dX10_init_30 rfl ?_
  refine x_ctorEN (mc := 1) (ms := 2) (rm' := rmK 2 1 2) dX10_init_31 qn192 q193 q7 q194 rfl ⟨by decide, by decide, by decide +kernel⟩ ⟨rfl, rfl, by decide, by decide⟩ ⟨by decide, by decide⟩ (Nat.le_of_ble_eq_true rfl) (fun _ _ h => h.1) (n_X2 (upE_at _ _ _)) (fun f1 e1 => ?_)
  rw [show f1 = _ from e1, nF_blk g _ (by decide) (by decide)]
  refine x_putF (ci := 10) (k := 3) (v := vr g 258) dX10_init_34 rfl fi10 (by decide) q536 tyX10 tyX10_ok nmX10 rfl (fun _ _ h => h.2) rfl rfl rfl (by omega) (nF_0 g _) (by simp) ?_
  rw [nF_up]
  refine x_aload_n dX10_init_37 0 rfl ?_
  refine x_new (ci := 5) (fs := [Value.null, vi 0]) dX10_init_38 rfl fi5 tyX5 tyX5_ok q238 q239 q8 hfsX5 (by decide) (by decide) ?_
  refine x_dup dX10_init_41 rfl ?_
  refine x_ctorE (mc := 9) (ms := 40) (rm' := rmK 2 9 40) dX10_init_42 q240 q241 q8 q242 rfl ⟨by decide, by decide, by decide +kernel⟩ ⟨rfl, rfl, by decide, by decide⟩ ⟨by decide, by decide⟩ (Nat.le_of_ble_eq_true rfl) (fun _ _ h => h.1) (n_X5 (upE_at _ _ _)) (fun f1 e1 => ?_)
  rw [show f1 = _ from e1, nF_blk g _ (by decide) (by decide)]
  refine x_putF (ci := 10) (k := 4) (v := vr g 260) dX10_init_45 rfl fi10 (by decide) q537 tyX10 tyX10_ok nmX10 rfl (fun _ _ h => h.2) rfl rfl rfl (by omega) (nF_0 g _) (by simp) ?_
  rw [nF_up]
  refine x_aload_n dX10_init_48 0 rfl ?_
  refine x_new (ci := 3) (fs := [Value.null, vi 0]) dX10_init_49 rfl fi3 tyX3 tyX3_ok q264 q265 q10 hfsX3 (by decide) (by decide) ?_
  refine x_dup dX10_init_52 rfl ?_
  refine x_ctorE (mc := 5) (ms := 20) (rm' := rmK 2 5 20) dX10_init_53 q266 q267 q10 q268 rfl ⟨by decide, by decide, by decide +kernel⟩ ⟨rfl, rfl, by decide, by decide⟩ ⟨by decide, by decide⟩ (Nat.le_of_ble_eq_true rfl) (fun _ _ h => h.1) (n_X3 (upE_at _ _ _)) (fun f1 e1 => ?_)
  rw [show f1 = _ from e1, nF_blk g _ (by decide) (by decide)]
  refine x_putF (ci := 10) (k := 5) (v := vr g 270) dX10_init_56 rfl fi10 (by decide) q538 tyX10 tyX10_ok nmX10 rfl (fun _ _ h => h.2) rfl rfl rfl (by omega) (nF_0 g _) (by simp) ?_
  rw [nF_up]
  refine x_new (ci := 8) (fs := [Value.null, vi 0]) dX10_init_59 rfl fi8 tyX8 tyX8_ok q62 q63 q4 hfsX8 (by decide) (by decide) ?_
  refine x_dup dX10_init_62 rfl ?_
  refine x_ctorE (mc := 253) (ms := 1848) (rm' := rmK 3 253 1848) dX10_init_63 q64 q65 q4 q66 rfl ⟨by decide, by decide, by decide +kernel⟩ ⟨rfl, rfl, by decide, by decide⟩ ⟨by decide, by decide⟩ (Nat.le_of_ble_eq_true rfl) (fun _ _ h => h.1) (n_X8 (b := 276) (Or.inr rfl) (upE_at _ _ _)) (fun f1 e1 => ?_)
  rw [show f1 = _ from e1, nF_blk g _ (by decide) (by decide)]
  refine x_astore_n (lv' := [(1, vr g 276), (0, vr g 0)]) dX10_init_66 rfl (by decide) rfl ?_
  refine x_iconst dX10_init_67 (x_istore_n (lv' := [(2, vi 0), (1, vr g 276), (0, vr g 0)]) dX10_init_68 rfl (by decide) rfl ?_)
  refine x_f (f' := cellOf g M0) (fun q _ => congrFun (nF_end g) q) ?_
  exact sr_loop 92 0 M0 rfl M0_WT ⟨rfl, fun _ _ _ _ => rfl, rfl, fun p hp => by omega⟩
