/-! ===== the model, made (gen74.py) ===== -/
def mFs (g : Ctx) (i : Nat) : List Value := mFld.map (fun kd => match kd with | some (some p) => if p < 531 + i then vr g p else Value.null | _ => vi 0)
def mF (g : Ctx) (M : Mem) (fs : List Value) : Nat → va_E := fun q => if q = 530 then .inr (11, fs) else cellOf g M q
theorem mF_0 (g : Ctx) (M : Mem) (fs : List Value) : mF g M fs 530 = .inr (11, fs) := by unfold mF; rw [if_pos rfl]
theorem mF_up (g : Ctx) (M : Mem) (fs fs' : List Value) : upE (mF g M fs) 530 (.inr (11, fs')) = mF g M fs' := by
  funext q
  by_cases z : q = 530
  · subst z; rw [upE_at, mF_0]
  · rw [upE_ne _ _ z]; unfold mF; rw [if_neg z, if_neg z]
theorem mF_arr (g : Ctx) {M : Mem} (fs : List Value) {a n : Nat} (ha : a ≠ 530) (h : shp a = .inr (0, n)) (hz : ∀ j, gI M a j = 0) : upE (mF g M fs) a (.inl (gcy g 0, n, .inl (fun _ => 0))) = mF g M fs := by
  funext q
  by_cases z : q = a
  · subst z
    rw [upE_at]; unfold mF; rw [if_neg ha]
    unfold cellOf; rw [h]
    show _ = Sum.inl (gcy g 0, arrOf g M q 0 n)
    unfold arrOf
    rw [if_pos (by decide)]
    have : (fun j => Int32.ofInt (M.1 q j)) = (fun _ => (0 : Int32)) := by
      funext j
      have := hz j
      unfold gI at this
      rw [this, i32_0]
    rw [this]
  · rw [upE_ne _ _ z]
theorem mFld_ok : mFld.all (fun kd => match kd with | some (some p) => decide (p < 563) | some none => false | none => true) = true := by decide
theorem mFs_len (g : Ctx) (i : Nat) : (mFs g i).length = 48 := by unfold mFs; rw [List.length_map]; rfl
theorem mFs_set (g : Ctx) {i k : Nat} (hk : mFld[k]? = some (some (some (531 + i)))) (hu : ∀ j, j < 48 → j ≠ k → mFld[j]? ≠ some (some (some (531 + i)))) : (mFs g i).set k (vr g (531 + i)) = mFs g (i + 1) := by
  apply List.ext_getElem?
  intro j
  rw [List.getElem?_set]
  have hl : k < 48 := (List.getElem?_eq_some_iff.mp hk).1
  by_cases z : k = j
  · subst z
    rw [if_pos rfl, if_pos (by rw [mFs_len]; exact hl)]
    unfold mFs
    rw [List.getElem?_map, hk]
    show _ = some (if 531 + i < 531 + (i + 1) then vr g (531 + i) else Value.null)
    rw [if_pos (by omega)]
  · rw [if_neg z]
    unfold mFs
    rw [List.getElem?_map, List.getElem?_map]
    cases hj : mFld[j]? with
    | none => rfl
    | some kd =>
      have h48 : j < 48 := (List.getElem?_eq_some_iff.mp hj).1
      have h1 := hu j h48 (Ne.symm z)
      rw [hj] at h1
      cases kd with
      | none => rfl
      | some o => cases o with
        | none => rfl
        | some p =>
          have h2 : p ≠ 531 + i := fun e => h1 (by rw [e])
          show some (if p < 531 + i then vr g p else Value.null) = some (if p < 531 + (i + 1) then vr g p else Value.null)
          by_cases y : p < 531 + i
          · rw [if_pos y, if_pos (by omega)]
          · rw [if_neg y, if_neg (by omega)]
theorem mF_end (g : Ctx) {M : Mem} (hz : ∀ k, gI M 530 k = 0) : mF g M (mFs g 32) = cellOf g M := by
  funext q
  by_cases z : q = 530
  · subst z
    rw [mF_0, cell_o g M (show shp 530 = .inl (11, mFld) from rfl)]
    rw [show mFs g 32 = mFld.mapIdx (fvl g M 530) from ?_]
    apply List.ext_getElem?
    intro j
    unfold mFs
    rw [List.getElem?_map, List.getElem?_mapIdx]
    cases hj : mFld[j]? with
    | none => rfl
    | some kd =>
      have h1 := List.all_eq_true.mp mFld_ok kd (List.mem_of_getElem? hj)
      show some _ = some _
      cases kd with
      | none => have h2 := hz j; unfold gI at h2; simp only [fvl, h2]; rfl
      | some o => cases o with
        | none => cases h1
        | some p =>
          have h2 : p < 563 := of_decide_eq_true h1
          simp only [fvl]
          rw [if_pos (by omega)]
          rfl
  · unfold mF; rw [if_neg z]
def mTx (a k : Nat) : Prop := a = 531 ∨ (a = 530 ∧ k = 0)
def TMo (k : Nat) (M : Mem) : Prop := gI M 530 0 = (k : Nat) ∧ ∀ p, p < k → gI M 531 p = bV 0 p
theorem k_wrT {g : Ctx} {M : Mem} {Q : Int → Mem → Prop} {k : Nat} {c : Int} (hk : k < 92) (ec : c = bV 0 k) (h : TMo k M) (q : ∀ r M', FrI mTx M M' → TMo (k + 1) M' → Q r M') : K_Mo_write g c M Q := by
  have hb := t0_in k hk
  have h0 := h.1
  subst ec
  refine i_Mo_write (b_Mo_write_0 ⟨by omega, by omega⟩ ⟨fun z => by omega, fun _ => ⟨fun _ => ⟨fun _ => ⟨by omega, by omega, q _ _ ((FrI.st (Or.inl rfl)).tr (FrI.st (Or.inr ⟨rfl, rfl⟩))) ⟨by rw [gI_same]; omega, fun p hp => ?_⟩⟩, fun z => by omega⟩, fun z => by omega⟩⟩)
  rw [gI_ne _ _ _ _ _ _ (by omega), h0, Int.toNat_natCast]
  by_cases z : p = k
  · subst z; rw [gI_same]
  · rw [gI_ne _ _ _ _ _ _ (by omega)]; exact h.2 p (by omega)
theorem k_wr0 {g : Ctx} {M : Mem} {Q : Int → Mem → Prop} (q : Q (-1) M) : K_Mo_write g 0 M Q := i_Mo_write (b_Mo_write_0 ⟨by decide, by decide⟩ ⟨fun _ => q, fun z => absurd (by decide) z⟩)
theorem k_tells {g : Ctx} {M : Mem} {Q : Mem → Prop} {k : Nat} {c0 c1 c2 c3 c4 : Int} (hk : k + 5 ≤ 92) (h : TMo k M) (e0 : c0 = bV 0 k) (e1 : c1 = bV 0 (k + 1)) (e2 : c2 = bV 0 (k + 1 + 1)) (e3 : c3 = bV 0 (k + 1 + 1 + 1)) (e4 : c4 = bV 0 (k + 1 + 1 + 1 + 1)) (q : ∀ M', FrI mTx M M' → TMo (k + 5) M' → Q M') : K_Mo_tells g c0 c1 c2 c3 c4 M Q := by
  have b0 := t0_in k (by omega)
  have b1 := t0_in (k + 1) (by omega)
  have b2 := t0_in (k + 1 + 1) (by omega)
  have b3 := t0_in (k + 1 + 1 + 1) (by omega)
  have b4 := t0_in (k + 1 + 1 + 1 + 1) (by omega)
  refine i_Mo_tells (b_Mo_tells_0 (by omega) (by omega) (by omega) (by omega) (by omega) ?_)
  exact k_wrT (by omega) e0 h (fun _ _ f1 t1 _ _ => k_wrT (by omega) e1 t1 (fun _ _ f2 t2 _ _ => k_wrT (by omega) e2 t2 (fun _ _ f3 t3 _ _ => k_wrT (by omega) e3 t3 (fun _ _ f4 t4 _ _ => k_wrT (by omega) e4 t4 (fun _ _ f5 t5 _ _ => q _ ((((f1.tr f2).tr f3).tr f4).tr f5) t5)))))
theorem k_tellsE {g : Ctx} {M : Mem} {Q : Mem → Prop} {k : Nat} {c0 c1 : Int} (hk : k + 2 ≤ 92) (h : TMo k M) (e0 : c0 = bV 0 k) (e1 : c1 = bV 0 (k + 1)) (q : ∀ M', FrI mTx M M' → TMo (k + 2) M' → Q M') : K_Mo_tells g c0 c1 0 0 0 M Q := by
  have b0 := t0_in k (by omega)
  have b1 := t0_in (k + 1) (by omega)
  refine i_Mo_tells (b_Mo_tells_0 (by omega) (by omega) (by decide) (by decide) (by decide) ?_)
  exact k_wrT (by omega) e0 h (fun _ _ f1 t1 _ _ => k_wrT (by omega) e1 t1 (fun _ _ f2 t2 _ _ => k_wr0 (fun _ _ => k_wr0 (fun _ _ => k_wr0 (fun _ _ => q _ (f1.tr f2) t2)))))
abbrev WMd (g : Ctx) (pc : Nat) (st : List Value) (M : Mem) : Prop := WG g yX11_init cX11_init 1 none (rmK 20 32 4383) Xc 563 32 4383 pc [(0, vr g 530)] st (cellOf g M) (ZE g (531 + 32) (MoF g) 32 4383)
theorem made_rel {Mb M M2 : Mem} (hS : SrP Mb) (hF : FrI mTx Mb M) (hL : FrI mLy M M2) (g16 : gI M2 530 16 = 0) (g34 : gI M2 530 34 = 0) (hA : MAll M2 276 (nowv M2)) : Rel (sI M2 530 0 0) := by
  obtain ⟨⟨a1, a2⟩, ⟨p1, p2, p3⟩, -, c1, c2, c3, -, -⟩ := hS
  have eP : ∀ a k, gP M2 a k = gP Mb a k := fun a k => (hL.p a k).trans (hF.p a k)
  have eI : ∀ a k, a < 530 → gI M2 a k = gI Mb a k := fun a k z => (hL.i (by unfold mLy; omega)).trans (hF.i (by unfold mTx; omega))
  have nI : ∀ a k, ¬ (a = 530 ∧ k = 0) → gI (sI M2 530 0 0) a k = gI M2 a k := fun a k z => gI_ne _ _ _ _ _ _ z
  have n0 : gI (sI M2 530 0 0) 530 0 = 0 := gI_same _ _ _ _
  have q2 : PRec M2 276 := p2.fr (fun a k _ => eP a k)
  refine ⟨⟨by rw [nI _ _ (by omega), n0, eI _ _ (by omega)]; exact c1, by rw [n0]; omega, fun k hk => by rw [n0] at hk; omega⟩, ⟨p1.fr (fun a k _ => eP a k), p2.fr (fun a k _ => eP a k), p3.fr (fun a k _ => eP a k)⟩, Or.inr ⟨?_, ?_⟩, ?_, ⟨?_, ?_, fun i hi => ?_⟩, ⟨?_, ?_, fun i hi => ?_⟩⟩
  · exact (eP 0 1).trans a1
  · exact (eP 0 2).trans a2
  · have e1 : gP (sI M2 530 0 0) 0 1 = 276 := (eP 0 1).trans a1
    have e2 : nowv (sI M2 530 0 0) = nowv M2 := by funext k; exact nI _ _ (by omega)
    rw [e1, e2]
    exact hA.fr q2 (fun a k y => nI _ _ (by unfold dRc at y; omega)) (fun a k _ => rfl)
  · rw [nI _ _ (by omega), nI _ _ (by omega), g34, eI _ _ (by omega)]; exact c2
  · rw [nI _ _ (by omega), g34]; omega
  · rw [nI _ _ (by omega), g34] at hi; omega
  · rw [nI _ _ (by omega), nI _ _ (by omega), g16, eI _ _ (by omega)]; exact c3
  · rw [nI _ _ (by omega), g16]; omega
  · rw [nI _ _ (by omega), g16] at hi; omega
theorem q831 : (Jvm.Cond.methodLink "SendRulesModel" (110 : Nat) ({ cls := "SendRulesModel", name := "lay", desc := "()I" } : Jvm.MethodName)) ∈ gtbl := gt_in (List.mem_append_right _ (List.mem_of_getElem? (i := 831) (by decide +kernel))) rfl
theorem q823 : (Jvm.Cond.methodLink "SendRulesModel" (106 : Nat) ({ cls := "SendRulesModel", name := "tells", desc := "(IIIII)V" } : Jvm.MethodName)) ∈ gtbl := gt_in (List.mem_append_right _ (List.mem_of_getElem? (i := 823) (by decide +kernel))) rfl
theorem q822 : (Jvm.Cond.methodLink "SendRulesModel" (1 : Nat) ({ cls := "java/lang/Object", name := "<init>", desc := "()V" } : Jvm.MethodName)) ∈ gtbl := gt_in (List.mem_append_right _ (List.mem_of_getElem? (i := 822) (by decide +kernel))) rfl
theorem mo_lay {g : Ctx} {Mb M : Mem} (hS : SrP Mb) (hw : WT M) (hF : FrI mTx Mb M) (h : TMo 92 M) : WMd g 528 [] M := by
  refine x_aload_n dX11_init_528 0 rfl ?_
  refine x_callV (n := 0) (rm' := rmD 8) (As := []) (rest := []) (a := 530) (ci := 11) dX11_init_529 q831 q832 q833 q18 q834 ⟨by decide, by decide, by decide +kernel⟩ ⟨rfl, rfl, by decide, by decide⟩ ⟨by decide, by decide⟩ rfl (Nat.le_of_ble_eq_true rfl) rfl s530 (by decide) rfl rfl hw (CallsM.mono (Q := rI (fun r M1 => WT M1 → WMd g 532 [vi r] M1)) ?_ (fun v M1 hv hw1 => by obtain ⟨r, rfl, hr, hq⟩ := hv; exact hq hw1))
  refine k_Mo_lay (b := 276) (t := t0) (L := 92) (Or.inr rfl) t0_TxT ⟨h.1, fun p hp => by rw [h.2 p hp]; unfold t0; rw [if_pos hp]⟩ (fun _ => hS.2.2.1.blk (fun a k x y => hF.i (by unfold mTx; omega)) (fun a k x y => hF.p a k)) (fun z => absurd t0_pol (fun np => ?_)) (fun _ _ M2 hL g16 g34 hA hw2 => ?_)
  · rcases z with z | z
    · exact z t0_ok
    · exact np z
  refine x_pop dX11_init_532 rfl (x_aload_n dX11_init_533 0 rfl (x_iconst dX11_init_534 ?_))
  refine x_putM (ci := 11) (k := 0) (v := vi 0) dX11_init_535 rfl fi11 (by decide) q904 tyX11 tyX11_ok nmX11 rfl rfl rfl (by omega) (cell_o g _ s530) (by rw [List.length_mapIdx]; decide) ?_
  rw [cell_upI g _ s530 rfl]
  exact x_vretE dX11_init_538 rfl rfl rfl (fun q _ => rfl) ⟨_, rfl, hw2.sI ⟨by decide, by decide⟩, made_rel hS hF hL g16 g34 hA⟩
theorem mo_t18 {g : Ctx} {Mb M : Mem} (hS : SrP Mb) (hw : WT M) (hF : FrI mTx Mb M) (h : TMo 90 M) : WMd g 517 [] M := by
  refine x_aload_n dX11_init_517 0 rfl ?_
  refine x_bipush dX11_init_518 rfl ?_
  refine x_bipush dX11_init_520 rfl ?_
  refine x_iconst dX11_init_522 ?_
  refine x_iconst dX11_init_523 ?_
  refine x_iconst dX11_init_524 ?_
  refine x_callV (n := 5) (rm' := rmD 1) (As := [vi 49, vi 59, vi 0, vi 0, vi 0]) (rest := []) (a := 530) (ci := 11) dX11_init_525 q823 q825 qs33 q18 q826 ⟨by decide, by decide, by decide +kernel⟩ ⟨rfl, rfl, by decide, by decide⟩ ⟨by decide, by decide⟩ rfl (Nat.le_of_ble_eq_true rfl) rfl s530 (by decide) rfl rfl hw (CallsM.mono (Q := rV (fun M1 => WT M1 → WMd g 528 [] M1)) (k_tellsE (k := 90) (by decide) h (by decide +kernel) (by decide +kernel) (fun M1 hF1 h1 hw1 => mo_lay hS hw1 (hF.tr hF1) h1)) (fun v M1 hv hw1 => by obtain ⟨rfl, hq⟩ := hv; exact hq hw1))
theorem mo_t17 {g : Ctx} {Mb M : Mem} (hS : SrP Mb) (hw : WT M) (hF : FrI mTx Mb M) (h : TMo 85 M) : WMd g 503 [] M := by
  refine x_aload_n dX11_init_503 0 rfl ?_
  refine x_bipush dX11_init_504 rfl ?_
  refine x_bipush dX11_init_506 rfl ?_
  refine x_bipush dX11_init_508 rfl ?_
  refine x_bipush dX11_init_510 rfl ?_
  refine x_bipush dX11_init_512 rfl ?_
  refine x_callV (n := 5) (rm' := rmD 1) (As := [vi 97, vi 101, vi 98, vi 98, vi 58]) (rest := []) (a := 530) (ci := 11) dX11_init_514 q823 q825 qs33 q18 q826 ⟨by decide, by decide, by decide +kernel⟩ ⟨rfl, rfl, by decide, by decide⟩ ⟨by decide, by decide⟩ rfl (Nat.le_of_ble_eq_true rfl) rfl s530 (by decide) rfl rfl hw (CallsM.mono (Q := rV (fun M1 => WT M1 → WMd g 517 [] M1)) (k_tells (k := 85) (by decide) h (by decide +kernel) (by decide +kernel) (by decide +kernel) (by decide +kernel) (by decide +kernel) (fun M1 hF1 h1 hw1 => mo_t18 hS hw1 (hF.tr hF1) h1)) (fun v M1 hv hw1 => by obtain ⟨rfl, hq⟩ := hv; exact hq hw1))
theorem mo_t16 {g : Ctx} {Mb M : Mem} (hS : SrP Mb) (hw : WT M) (hF : FrI mTx Mb M) (h : TMo 80 M) : WMd g 489 [] M := by
  refine x_aload_n dX11_init_489 0 rfl ?_
  refine x_bipush dX11_init_490 rfl ?_
  refine x_bipush dX11_init_492 rfl ?_
  refine x_bipush dX11_init_494 rfl ?_
  refine x_bipush dX11_init_496 rfl ?_
  refine x_bipush dX11_init_498 rfl ?_
  refine x_callV (n := 5) (rm' := rmD 1) (As := [vi 97, vi 98, vi 58, vi 57, vi 59]) (rest := []) (a := 530) (ci := 11) dX11_init_500 q823 q825 qs33 q18 q826 ⟨by decide, by decide, by decide +kernel⟩ ⟨rfl, rfl, by decide, by decide⟩ ⟨by decide, by decide⟩ rfl (Nat.le_of_ble_eq_true rfl) rfl s530 (by decide) rfl rfl hw (CallsM.mono (Q := rV (fun M1 => WT M1 → WMd g 503 [] M1)) (k_tells (k := 80) (by decide) h (by decide +kernel) (by decide +kernel) (by decide +kernel) (by decide +kernel) (by decide +kernel) (fun M1 hF1 h1 hw1 => mo_t17 hS hw1 (hF.tr hF1) h1)) (fun v M1 hv hw1 => by obtain ⟨rfl, hq⟩ := hv; exact hq hw1))
theorem mo_t15 {g : Ctx} {Mb M : Mem} (hS : SrP Mb) (hw : WT M) (hF : FrI mTx Mb M) (h : TMo 75 M) : WMd g 475 [] M := by
  refine x_aload_n dX11_init_475 0 rfl ?_
  refine x_bipush dX11_init_476 rfl ?_
  refine x_bipush dX11_init_478 rfl ?_
  refine x_bipush dX11_init_480 rfl ?_
  refine x_bipush dX11_init_482 rfl ?_
  refine x_bipush dX11_init_484 rfl ?_
  refine x_callV (n := 5) (rm' := rmD 1) (As := [vi 44, vi 101, vi 98, vi 59, vi 97]) (rest := []) (a := 530) (ci := 11) dX11_init_486 q823 q825 qs33 q18 q826 ⟨by decide, by decide, by decide +kernel⟩ ⟨rfl, rfl, by decide, by decide⟩ ⟨by decide, by decide⟩ rfl (Nat.le_of_ble_eq_true rfl) rfl s530 (by decide) rfl rfl hw (CallsM.mono (Q := rV (fun M1 => WT M1 → WMd g 489 [] M1)) (k_tells (k := 75) (by decide) h (by decide +kernel) (by decide +kernel) (by decide +kernel) (by decide +kernel) (by decide +kernel) (fun M1 hF1 h1 hw1 => mo_t16 hS hw1 (hF.tr hF1) h1)) (fun v M1 hv hw1 => by obtain ⟨rfl, hq⟩ := hv; exact hq hw1))
theorem mo_t14 {g : Ctx} {Mb M : Mem} (hS : SrP Mb) (hw : WT M) (hF : FrI mTx Mb M) (h : TMo 70 M) : WMd g 461 [] M := by
  refine x_aload_n dX11_init_461 0 rfl ?_
  refine x_bipush dX11_init_462 rfl ?_
  refine x_bipush dX11_init_464 rfl ?_
  refine x_bipush dX11_init_466 rfl ?_
  refine x_bipush dX11_init_468 rfl ?_
  refine x_bipush dX11_init_470 rfl ?_
  refine x_callV (n := 5) (rm' := rmD 1) (As := [vi 97, vi 98, vi 58, vi 97, vi 100]) (rest := []) (a := 530) (ci := 11) dX11_init_472 q823 q825 qs33 q18 q826 ⟨by decide, by decide, by decide +kernel⟩ ⟨rfl, rfl, by decide, by decide⟩ ⟨by decide, by decide⟩ rfl (Nat.le_of_ble_eq_true rfl) rfl s530 (by decide) rfl rfl hw (CallsM.mono (Q := rV (fun M1 => WT M1 → WMd g 475 [] M1)) (k_tells (k := 70) (by decide) h (by decide +kernel) (by decide +kernel) (by decide +kernel) (by decide +kernel) (by decide +kernel) (fun M1 hF1 h1 hw1 => mo_t15 hS hw1 (hF.tr hF1) h1)) (fun v M1 hv hw1 => by obtain ⟨rfl, hq⟩ := hv; exact hq hw1))
theorem mo_t13 {g : Ctx} {Mb M : Mem} (hS : SrP Mb) (hw : WT M) (hF : FrI mTx Mb M) (h : TMo 65 M) : WMd g 447 [] M := by
  refine x_aload_n dX11_init_447 0 rfl ?_
  refine x_bipush dX11_init_448 rfl ?_
  refine x_bipush dX11_init_450 rfl ?_
  refine x_bipush dX11_init_452 rfl ?_
  refine x_bipush dX11_init_454 rfl ?_
  refine x_bipush dX11_init_456 rfl ?_
  refine x_callV (n := 5) (rm' := rmD 1) (As := [vi 50, vi 48, vi 48, vi 59, vi 120]) (rest := []) (a := 530) (ci := 11) dX11_init_458 q823 q825 qs33 q18 q826 ⟨by decide, by decide, by decide +kernel⟩ ⟨rfl, rfl, by decide, by decide⟩ ⟨by decide, by decide⟩ rfl (Nat.le_of_ble_eq_true rfl) rfl s530 (by decide) rfl rfl hw (CallsM.mono (Q := rV (fun M1 => WT M1 → WMd g 461 [] M1)) (k_tells (k := 65) (by decide) h (by decide +kernel) (by decide +kernel) (by decide +kernel) (by decide +kernel) (by decide +kernel) (fun M1 hF1 h1 hw1 => mo_t14 hS hw1 (hF.tr hF1) h1)) (fun v M1 hv hw1 => by obtain ⟨rfl, hq⟩ := hv; exact hq hw1))
theorem mo_t12 {g : Ctx} {Mb M : Mem} (hS : SrP Mb) (hw : WT M) (hF : FrI mTx Mb M) (h : TMo 60 M) : WMd g 433 [] M := by
  refine x_aload_n dX11_init_433 0 rfl ?_
  refine x_bipush dX11_init_434 rfl ?_
  refine x_bipush dX11_init_436 rfl ?_
  refine x_bipush dX11_init_438 rfl ?_
  refine x_bipush dX11_init_440 rfl ?_
  refine x_bipush dX11_init_442 rfl ?_
  refine x_callV (n := 5) (rm' := rmD 1) (As := [vi 97, vi 100, vi 58, vi 55, vi 44]) (rest := []) (a := 530) (ci := 11) dX11_init_444 q823 q825 qs33 q18 q826 ⟨by decide, by decide, by decide +kernel⟩ ⟨rfl, rfl, by decide, by decide⟩ ⟨by decide, by decide⟩ rfl (Nat.le_of_ble_eq_true rfl) rfl s530 (by decide) rfl rfl hw (CallsM.mono (Q := rV (fun M1 => WT M1 → WMd g 447 [] M1)) (k_tells (k := 60) (by decide) h (by decide +kernel) (by decide +kernel) (by decide +kernel) (by decide +kernel) (by decide +kernel) (fun M1 hF1 h1 hw1 => mo_t13 hS hw1 (hF.tr hF1) h1)) (fun v M1 hv hw1 => by obtain ⟨rfl, hq⟩ := hv; exact hq hw1))
theorem mo_t11 {g : Ctx} {Mb M : Mem} (hS : SrP Mb) (hw : WT M) (hF : FrI mTx Mb M) (h : TMo 55 M) : WMd g 419 [] M := by
  refine x_aload_n dX11_init_419 0 rfl ?_
  refine x_bipush dX11_init_420 rfl ?_
  refine x_bipush dX11_init_422 rfl ?_
  refine x_bipush dX11_init_424 rfl ?_
  refine x_bipush dX11_init_426 rfl ?_
  refine x_bipush dX11_init_428 rfl ?_
  refine x_callV (n := 5) (rm' := rmD 1) (As := [vi 44, vi 45, vi 97, vi 59, vi 97]) (rest := []) (a := 530) (ci := 11) dX11_init_430 q823 q825 qs33 q18 q826 ⟨by decide, by decide, by decide +kernel⟩ ⟨rfl, rfl, by decide, by decide⟩ ⟨by decide, by decide⟩ rfl (Nat.le_of_ble_eq_true rfl) rfl s530 (by decide) rfl rfl hw (CallsM.mono (Q := rV (fun M1 => WT M1 → WMd g 433 [] M1)) (k_tells (k := 55) (by decide) h (by decide +kernel) (by decide +kernel) (by decide +kernel) (by decide +kernel) (by decide +kernel) (fun M1 hF1 h1 hw1 => mo_t12 hS hw1 (hF.tr hF1) h1)) (fun v M1 hv hw1 => by obtain ⟨rfl, hq⟩ := hv; exact hq hw1))
theorem mo_t10 {g : Ctx} {Mb M : Mem} (hS : SrP Mb) (hw : WT M) (hF : FrI mTx Mb M) (h : TMo 50 M) : WMd g 405 [] M := by
  refine x_aload_n dX11_init_405 0 rfl ?_
  refine x_bipush dX11_init_406 rfl ?_
  refine x_bipush dX11_init_408 rfl ?_
  refine x_bipush dX11_init_410 rfl ?_
  refine x_bipush dX11_init_412 rfl ?_
  refine x_bipush dX11_init_414 rfl ?_
  refine x_callV (n := 5) (rm' := rmD 1) (As := [vi 37, vi 50, vi 100, vi 37, vi 108]) (rest := []) (a := 530) (ci := 11) dX11_init_416 q823 q825 qs33 q18 q826 ⟨by decide, by decide, by decide +kernel⟩ ⟨rfl, rfl, by decide, by decide⟩ ⟨by decide, by decide⟩ rfl (Nat.le_of_ble_eq_true rfl) rfl s530 (by decide) rfl rfl hw (CallsM.mono (Q := rV (fun M1 => WT M1 → WMd g 419 [] M1)) (k_tells (k := 50) (by decide) h (by decide +kernel) (by decide +kernel) (by decide +kernel) (by decide +kernel) (by decide +kernel) (fun M1 hF1 h1 hw1 => mo_t11 hS hw1 (hF.tr hF1) h1)) (fun v M1 hv hw1 => by obtain ⟨rfl, hq⟩ := hv; exact hq hw1))
theorem mo_t9 {g : Ctx} {Mb M : Mem} (hS : SrP Mb) (hw : WT M) (hF : FrI mTx Mb M) (h : TMo 45 M) : WMd g 391 [] M := by
  refine x_aload_n dX11_init_391 0 rfl ?_
  refine x_bipush dX11_init_392 rfl ?_
  refine x_bipush dX11_init_394 rfl ?_
  refine x_bipush dX11_init_396 rfl ?_
  refine x_bipush dX11_init_398 rfl ?_
  refine x_bipush dX11_init_400 rfl ?_
  refine x_callV (n := 5) (rm' := rmD 1) (As := [vi 101, vi 98, vi 58, vi 43, vi 101]) (rest := []) (a := 530) (ci := 11) dX11_init_402 q823 q825 qs33 q18 q826 ⟨by decide, by decide, by decide +kernel⟩ ⟨rfl, rfl, by decide, by decide⟩ ⟨by decide, by decide⟩ rfl (Nat.le_of_ble_eq_true rfl) rfl s530 (by decide) rfl rfl hw (CallsM.mono (Q := rV (fun M1 => WT M1 → WMd g 405 [] M1)) (k_tells (k := 45) (by decide) h (by decide +kernel) (by decide +kernel) (by decide +kernel) (by decide +kernel) (by decide +kernel) (fun M1 hF1 h1 hw1 => mo_t10 hS hw1 (hF.tr hF1) h1)) (fun v M1 hv hw1 => by obtain ⟨rfl, hq⟩ := hv; exact hq hw1))
theorem mo_t8 {g : Ctx} {Mb M : Mem} (hS : SrP Mb) (hw : WT M) (hF : FrI mTx Mb M) (h : TMo 40 M) : WMd g 377 [] M := by
  refine x_aload_n dX11_init_377 0 rfl ?_
  refine x_bipush dX11_init_378 rfl ?_
  refine x_bipush dX11_init_380 rfl ?_
  refine x_bipush dX11_init_382 rfl ?_
  refine x_bipush dX11_init_384 rfl ?_
  refine x_bipush dX11_init_386 rfl ?_
  refine x_callV (n := 5) (rm' := rmD 1) (As := [vi 114, vi 101, vi 98, vi 59, vi 110]) (rest := []) (a := 530) (ci := 11) dX11_init_388 q823 q825 qs33 q18 q826 ⟨by decide, by decide, by decide +kernel⟩ ⟨rfl, rfl, by decide, by decide⟩ ⟨by decide, by decide⟩ rfl (Nat.le_of_ble_eq_true rfl) rfl s530 (by decide) rfl rfl hw (CallsM.mono (Q := rV (fun M1 => WT M1 → WMd g 391 [] M1)) (k_tells (k := 40) (by decide) h (by decide +kernel) (by decide +kernel) (by decide +kernel) (by decide +kernel) (by decide +kernel) (fun M1 hF1 h1 hw1 => mo_t9 hS hw1 (hF.tr hF1) h1)) (fun v M1 hv hw1 => by obtain ⟨rfl, hq⟩ := hv; exact hq hw1))
theorem mo_t7 {g : Ctx} {Mb M : Mem} (hS : SrP Mb) (hw : WT M) (hF : FrI mTx Mb M) (h : TMo 35 M) : WMd g 363 [] M := by
  refine x_aload_n dX11_init_363 0 rfl ?_
  refine x_bipush dX11_init_364 rfl ?_
  refine x_bipush dX11_init_366 rfl ?_
  refine x_bipush dX11_init_368 rfl ?_
  refine x_bipush dX11_init_370 rfl ?_
  refine x_bipush dX11_init_372 rfl ?_
  refine x_callV (n := 5) (rm' := rmD 1) (As := [vi 43, vi 109, vi 97, vi 98, vi 44]) (rest := []) (a := 530) (ci := 11) dX11_init_374 q823 q825 qs33 q18 q826 ⟨by decide, by decide, by decide +kernel⟩ ⟨rfl, rfl, by decide, by decide⟩ ⟨by decide, by decide⟩ rfl (Nat.le_of_ble_eq_true rfl) rfl s530 (by decide) rfl rfl hw (CallsM.mono (Q := rV (fun M1 => WT M1 → WMd g 377 [] M1)) (k_tells (k := 35) (by decide) h (by decide +kernel) (by decide +kernel) (by decide +kernel) (by decide +kernel) (by decide +kernel) (fun M1 hF1 h1 hw1 => mo_t8 hS hw1 (hF.tr hF1) h1)) (fun v M1 hv hw1 => by obtain ⟨rfl, hq⟩ := hv; exact hq hw1))
theorem mo_t6 {g : Ctx} {Mb M : Mem} (hS : SrP Mb) (hw : WT M) (hF : FrI mTx Mb M) (h : TMo 30 M) : WMd g 349 [] M := by
  refine x_aload_n dX11_init_349 0 rfl ?_
  refine x_bipush dX11_init_350 rfl ?_
  refine x_bipush dX11_init_352 rfl ?_
  refine x_bipush dX11_init_354 rfl ?_
  refine x_bipush dX11_init_356 rfl ?_
  refine x_bipush dX11_init_358 rfl ?_
  refine x_callV (n := 5) (rm' := rmD 1) (As := [vi 112, vi 48, vi 47, vi 55, vi 44]) (rest := []) (a := 530) (ci := 11) dX11_init_360 q823 q825 qs33 q18 q826 ⟨by decide, by decide, by decide +kernel⟩ ⟨rfl, rfl, by decide, by decide⟩ ⟨by decide, by decide⟩ rfl (Nat.le_of_ble_eq_true rfl) rfl s530 (by decide) rfl rfl hw (CallsM.mono (Q := rV (fun M1 => WT M1 → WMd g 363 [] M1)) (k_tells (k := 30) (by decide) h (by decide +kernel) (by decide +kernel) (by decide +kernel) (by decide +kernel) (by decide +kernel) (fun M1 hF1 h1 hw1 => mo_t7 hS hw1 (hF.tr hF1) h1)) (fun v M1 hv hw1 => by obtain ⟨rfl, hq⟩ := hv; exact hq hw1))
theorem mo_t5 {g : Ctx} {Mb M : Mem} (hS : SrP Mb) (hw : WT M) (hF : FrI mTx Mb M) (h : TMo 25 M) : WMd g 335 [] M := by
  refine x_aload_n dX11_init_335 0 rfl ?_
  refine x_bipush dX11_init_336 rfl ?_
  refine x_bipush dX11_init_338 rfl ?_
  refine x_bipush dX11_init_340 rfl ?_
  refine x_bipush dX11_init_342 rfl ?_
  refine x_bipush dX11_init_344 rfl ?_
  refine x_callV (n := 5) (rm' := rmD 1) (As := [vi 110, vi 97, vi 99, vi 58, vi 63]) (rest := []) (a := 530) (ci := 11) dX11_init_346 q823 q825 qs33 q18 q826 ⟨by decide, by decide, by decide +kernel⟩ ⟨rfl, rfl, by decide, by decide⟩ ⟨by decide, by decide⟩ rfl (Nat.le_of_ble_eq_true rfl) rfl s530 (by decide) rfl rfl hw (CallsM.mono (Q := rV (fun M1 => WT M1 → WMd g 349 [] M1)) (k_tells (k := 25) (by decide) h (by decide +kernel) (by decide +kernel) (by decide +kernel) (by decide +kernel) (by decide +kernel) (fun M1 hF1 h1 hw1 => mo_t6 hS hw1 (hF.tr hF1) h1)) (fun v M1 hv hw1 => by obtain ⟨rfl, hq⟩ := hv; exact hq hw1))
theorem mo_t4 {g : Ctx} {Mb M : Mem} (hS : SrP Mb) (hw : WT M) (hF : FrI mTx Mb M) (h : TMo 20 M) : WMd g 321 [] M := by
  refine x_aload_n dX11_init_321 0 rfl ?_
  refine x_bipush dX11_init_322 rfl ?_
  refine x_bipush dX11_init_324 rfl ?_
  refine x_bipush dX11_init_326 rfl ?_
  refine x_bipush dX11_init_328 rfl ?_
  refine x_bipush dX11_init_330 rfl ?_
  refine x_callV (n := 5) (rm' := rmD 1) (As := [vi 100, vi 44, vi 45, vi 97, vi 59]) (rest := []) (a := 530) (ci := 11) dX11_init_332 q823 q825 qs33 q18 q826 ⟨by decide, by decide, by decide +kernel⟩ ⟨rfl, rfl, by decide, by decide⟩ ⟨by decide, by decide⟩ rfl (Nat.le_of_ble_eq_true rfl) rfl s530 (by decide) rfl rfl hw (CallsM.mono (Q := rV (fun M1 => WT M1 → WMd g 335 [] M1)) (k_tells (k := 20) (by decide) h (by decide +kernel) (by decide +kernel) (by decide +kernel) (by decide +kernel) (by decide +kernel) (fun M1 hF1 h1 hw1 => mo_t5 hS hw1 (hF.tr hF1) h1)) (fun v M1 hv hw1 => by obtain ⟨rfl, hq⟩ := hv; exact hq hw1))
theorem mo_t3 {g : Ctx} {Mb M : Mem} (hS : SrP Mb) (hw : WT M) (hF : FrI mTx Mb M) (h : TMo 15 M) : WMd g 307 [] M := by
  refine x_aload_n dX11_init_307 0 rfl ?_
  refine x_bipush dX11_init_308 rfl ?_
  refine x_bipush dX11_init_310 rfl ?_
  refine x_bipush dX11_init_312 rfl ?_
  refine x_bipush dX11_init_314 rfl ?_
  refine x_bipush dX11_init_316 rfl ?_
  refine x_callV (n := 5) (rm' := rmD 1) (As := [vi 99, vi 44, vi 126, vi 104, vi 97]) (rest := []) (a := 530) (ci := 11) dX11_init_318 q823 q825 qs33 q18 q826 ⟨by decide, by decide, by decide +kernel⟩ ⟨rfl, rfl, by decide, by decide⟩ ⟨by decide, by decide⟩ rfl (Nat.le_of_ble_eq_true rfl) rfl s530 (by decide) rfl rfl hw (CallsM.mono (Q := rV (fun M1 => WT M1 → WMd g 321 [] M1)) (k_tells (k := 15) (by decide) h (by decide +kernel) (by decide +kernel) (by decide +kernel) (by decide +kernel) (by decide +kernel) (fun M1 hF1 h1 hw1 => mo_t4 hS hw1 (hF.tr hF1) h1)) (fun v M1 hv hw1 => by obtain ⟨rfl, hq⟩ := hv; exact hq hw1))
theorem mo_t2 {g : Ctx} {Mb M : Mem} (hS : SrP Mb) (hw : WT M) (hF : FrI mTx Mb M) (h : TMo 10 M) : WMd g 293 [] M := by
  refine x_aload_n dX11_init_293 0 rfl ?_
  refine x_bipush dX11_init_294 rfl ?_
  refine x_bipush dX11_init_296 rfl ?_
  refine x_bipush dX11_init_298 rfl ?_
  refine x_bipush dX11_init_300 rfl ?_
  refine x_bipush dX11_init_302 rfl ?_
  refine x_callV (n := 5) (rm' := rmD 1) (As := [vi 50, vi 44, vi 43, vi 105, vi 97]) (rest := []) (a := 530) (ci := 11) dX11_init_304 q823 q825 qs33 q18 q826 ⟨by decide, by decide, by decide +kernel⟩ ⟨rfl, rfl, by decide, by decide⟩ ⟨by decide, by decide⟩ rfl (Nat.le_of_ble_eq_true rfl) rfl s530 (by decide) rfl rfl hw (CallsM.mono (Q := rV (fun M1 => WT M1 → WMd g 307 [] M1)) (k_tells (k := 10) (by decide) h (by decide +kernel) (by decide +kernel) (by decide +kernel) (by decide +kernel) (by decide +kernel) (fun M1 hF1 h1 hw1 => mo_t3 hS hw1 (hF.tr hF1) h1)) (fun v M1 hv hw1 => by obtain ⟨rfl, hq⟩ := hv; exact hq hw1))
theorem mo_t1 {g : Ctx} {Mb M : Mem} (hS : SrP Mb) (hw : WT M) (hF : FrI mTx Mb M) (h : TMo 5 M) : WMd g 279 [] M := by
  refine x_aload_n dX11_init_279 0 rfl ?_
  refine x_bipush dX11_init_280 rfl ?_
  refine x_bipush dX11_init_282 rfl ?_
  refine x_bipush dX11_init_284 rfl ?_
  refine x_bipush dX11_init_286 rfl ?_
  refine x_bipush dX11_init_288 rfl ?_
  refine x_callV (n := 5) (rm' := rmD 1) (As := [vi 112, vi 49, vi 50, vi 56, vi 47]) (rest := []) (a := 530) (ci := 11) dX11_init_290 q823 q825 qs33 q18 q826 ⟨by decide, by decide, by decide +kernel⟩ ⟨rfl, rfl, by decide, by decide⟩ ⟨by decide, by decide⟩ rfl (Nat.le_of_ble_eq_true rfl) rfl s530 (by decide) rfl rfl hw (CallsM.mono (Q := rV (fun M1 => WT M1 → WMd g 293 [] M1)) (k_tells (k := 5) (by decide) h (by decide +kernel) (by decide +kernel) (by decide +kernel) (by decide +kernel) (by decide +kernel) (fun M1 hF1 h1 hw1 => mo_t2 hS hw1 (hF.tr hF1) h1)) (fun v M1 hv hw1 => by obtain ⟨rfl, hq⟩ := hv; exact hq hw1))
theorem mo_t0 {g : Ctx} {Mb M : Mem} (hS : SrP Mb) (hw : WT M) (hF : FrI mTx Mb M) (h : TMo 0 M) : WMd g 265 [] M := by
  refine x_aload_n dX11_init_265 0 rfl ?_
  refine x_bipush dX11_init_266 rfl ?_
  refine x_bipush dX11_init_268 rfl ?_
  refine x_bipush dX11_init_270 rfl ?_
  refine x_bipush dX11_init_272 rfl ?_
  refine x_bipush dX11_init_274 rfl ?_
  refine x_callV (n := 5) (rm' := rmD 1) (As := [vi 110, vi 97, vi 98, vi 58, vi 43]) (rest := []) (a := 530) (ci := 11) dX11_init_276 q823 q825 qs33 q18 q826 ⟨by decide, by decide, by decide +kernel⟩ ⟨rfl, rfl, by decide, by decide⟩ ⟨by decide, by decide⟩ rfl (Nat.le_of_ble_eq_true rfl) rfl s530 (by decide) rfl rfl hw (CallsM.mono (Q := rV (fun M1 => WT M1 → WMd g 279 [] M1)) (k_tells (k := 0) (by decide) h (by decide +kernel) (by decide +kernel) (by decide +kernel) (by decide +kernel) (by decide +kernel) (fun M1 hF1 h1 hw1 => mo_t1 hS hw1 (hF.tr hF1) h1)) (fun v M1 hv hw1 => by obtain ⟨rfl, hq⟩ := hv; exact hq hw1))
theorem n_X11 {g : Ctx} {f : Nat → va_E} {M : Mem} (hw : WT M) (hS : SrP M) (hf : f 530 = .inr (11, [vi 0, Value.null, vi 0, Value.null, Value.null, Value.null, Value.null, Value.null, Value.null, Value.null, Value.null, Value.null, Value.null, Value.null, Value.null, Value.null, vi 0, vi 0, Value.null, Value.null, Value.null, Value.null, Value.null, Value.null, Value.null, Value.null, Value.null, Value.null, Value.null, Value.null, Value.null, Value.null, vi 0, vi 0, vi 0, Value.null, vi 0, vi 0, vi 0, vi 0, vi 0, vi 0, vi 0, Value.null, Value.null, vi 0, Value.null, vi 0])) (hlo : ∀ q, q < 530 → f q = cellOf g M q) : CallsE g yX11_init cX11_init 1 (rmK 20 32 4383) 530 531 f 32 4383 (MoF g) := by
  have hz : ∀ a k, 530 ≤ a → gI M a k = 0 := hS.2.2.2.2.2.2.1
  refine CallsE.intro rfl (by decide) rfl ?_
  refine x_f (f' := mF g M (mFs g 0)) (fun q hq => ?_) ?_
  · by_cases z : q = 530
    · rw [z, hf, mF_0]; rfl
    · unfold mF; rw [if_neg z]; exact hlo q (by omega)
  refine x_aload_n dX11_init_0 0 rfl ?_
  refine x_obj dX11_init_1 q822 q26 q27 (by decide) (by decide) ?_
  refine x_aload_n dX11_init_4 0 rfl ?_
  refine x_sipush dX11_init_5 rfl ?_
  refine x_newa (t := 0) (n := 240) dX11_init_8 rfl q121 rfl (Or.inl rfl) (by decide) (by decide) (by decide) ?_
  refine x_f (f' := mF g M (mFs g 0)) (fun q _ => congrFun (mF_arr g _ (a := 531) (by decide) rfl (fun j => hz _ j (by decide))) q) ?_
  refine x_putF (ci := 11) (k := 1) (v := vr g 531) dX11_init_10 rfl fi11 (by decide) q905 tyX11 tyX11_ok nmX11 rfl (fun _ _ h => h.2) rfl rfl rfl (by omega) (mF_0 g M _) (by rw [mFs_len]; decide) ?_
  refine x_f (f' := mF g M (mFs g 1)) (fun q _ => congrFun ((mF_up g M _ _).trans (congrArg (mF g M) (mFs_set g (i := 0) rfl (by decide)))) q) ?_
  refine x_aload_n dX11_init_13 0 rfl ?_
  refine x_bipush dX11_init_14 rfl ?_
  refine x_newa (t := 0) (n := 12) dX11_init_16 rfl q121 rfl (Or.inl rfl) (by decide) (by decide) (by decide) ?_
  refine x_f (f' := mF g M (mFs g 1)) (fun q _ => congrFun (mF_arr g _ (a := 532) (by decide) rfl (fun j => hz _ j (by decide))) q) ?_
  refine x_putF (ci := 11) (k := 3) (v := vr g 532) dX11_init_18 rfl fi11 (by decide) q907 tyX11 tyX11_ok nmX11 rfl (fun _ _ h => h.2) rfl rfl rfl (by omega) (mF_0 g M _) (by rw [mFs_len]; decide) ?_
  refine x_f (f' := mF g M (mFs g 2)) (fun q _ => congrFun ((mF_up g M _ _).trans (congrArg (mF g M) (mFs_set g (i := 1) rfl (by decide)))) q) ?_
  refine x_aload_n dX11_init_21 0 rfl ?_
  refine x_bipush dX11_init_22 rfl ?_
  refine x_newa (t := 0) (n := 12) dX11_init_24 rfl q121 rfl (Or.inl rfl) (by decide) (by decide) (by decide) ?_
  refine x_f (f' := mF g M (mFs g 2)) (fun q _ => congrFun (mF_arr g _ (a := 533) (by decide) rfl (fun j => hz _ j (by decide))) q) ?_
  refine x_putF (ci := 11) (k := 4) (v := vr g 533) dX11_init_26 rfl fi11 (by decide) q908 tyX11 tyX11_ok nmX11 rfl (fun _ _ h => h.2) rfl rfl rfl (by omega) (mF_0 g M _) (by rw [mFs_len]; decide) ?_
  refine x_f (f' := mF g M (mFs g 3)) (fun q _ => congrFun ((mF_up g M _ _).trans (congrArg (mF g M) (mFs_set g (i := 2) rfl (by decide)))) q) ?_
  refine x_aload_n dX11_init_29 0 rfl ?_
  refine x_bipush dX11_init_30 rfl ?_
  refine x_newa (t := 0) (n := 12) dX11_init_32 rfl q121 rfl (Or.inl rfl) (by decide) (by decide) (by decide) ?_
  refine x_f (f' := mF g M (mFs g 3)) (fun q _ => congrFun (mF_arr g _ (a := 534) (by decide) rfl (fun j => hz _ j (by decide))) q) ?_
  refine x_putF (ci := 11) (k := 5) (v := vr g 534) dX11_init_34 rfl fi11 (by decide) q909 tyX11 tyX11_ok nmX11 rfl (fun _ _ h => h.2) rfl rfl rfl (by omega) (mF_0 g M _) (by rw [mFs_len]; decide) ?_
  refine x_f (f' := mF g M (mFs g 4)) (fun q _ => congrFun ((mF_up g M _ _).trans (congrArg (mF g M) (mFs_set g (i := 3) rfl (by decide)))) q) ?_
  refine x_aload_n dX11_init_37 0 rfl ?_
  refine x_bipush dX11_init_38 rfl ?_
  refine x_newa (t := 0) (n := 12) dX11_init_40 rfl q121 rfl (Or.inl rfl) (by decide) (by decide) (by decide) ?_
  refine x_f (f' := mF g M (mFs g 4)) (fun q _ => congrFun (mF_arr g _ (a := 535) (by decide) rfl (fun j => hz _ j (by decide))) q) ?_
  refine x_putF (ci := 11) (k := 6) (v := vr g 535) dX11_init_42 rfl fi11 (by decide) q910 tyX11 tyX11_ok nmX11 rfl (fun _ _ h => h.2) rfl rfl rfl (by omega) (mF_0 g M _) (by rw [mFs_len]; decide) ?_
  refine x_f (f' := mF g M (mFs g 5)) (fun q _ => congrFun ((mF_up g M _ _).trans (congrArg (mF g M) (mFs_set g (i := 4) rfl (by decide)))) q) ?_
  refine x_aload_n dX11_init_45 0 rfl ?_
  refine x_bipush dX11_init_46 rfl ?_
  refine x_newa (t := 0) (n := 36) dX11_init_48 rfl q121 rfl (Or.inl rfl) (by decide) (by decide) (by decide) ?_
  refine x_f (f' := mF g M (mFs g 5)) (fun q _ => congrFun (mF_arr g _ (a := 536) (by decide) rfl (fun j => hz _ j (by decide))) q) ?_
  refine x_putF (ci := 11) (k := 7) (v := vr g 536) dX11_init_50 rfl fi11 (by decide) q911 tyX11 tyX11_ok nmX11 rfl (fun _ _ h => h.2) rfl rfl rfl (by omega) (mF_0 g M _) (by rw [mFs_len]; decide) ?_
  refine x_f (f' := mF g M (mFs g 6)) (fun q _ => congrFun ((mF_up g M _ _).trans (congrArg (mF g M) (mFs_set g (i := 5) rfl (by decide)))) q) ?_
  refine x_aload_n dX11_init_53 0 rfl ?_
  refine x_bipush dX11_init_54 rfl ?_
  refine x_newa (t := 0) (n := 96) dX11_init_56 rfl q121 rfl (Or.inl rfl) (by decide) (by decide) (by decide) ?_
  refine x_f (f' := mF g M (mFs g 6)) (fun q _ => congrFun (mF_arr g _ (a := 537) (by decide) rfl (fun j => hz _ j (by decide))) q) ?_
  refine x_putF (ci := 11) (k := 8) (v := vr g 537) dX11_init_58 rfl fi11 (by decide) q912 tyX11 tyX11_ok nmX11 rfl (fun _ _ h => h.2) rfl rfl rfl (by omega) (mF_0 g M _) (by rw [mFs_len]; decide) ?_
  refine x_f (f' := mF g M (mFs g 7)) (fun q _ => congrFun ((mF_up g M _ _).trans (congrArg (mF g M) (mFs_set g (i := 6) rfl (by decide)))) q) ?_
  refine x_aload_n dX11_init_61 0 rfl ?_
  refine x_bipush dX11_init_62 rfl ?_
  refine x_newa (t := 0) (n := 96) dX11_init_64 rfl q121 rfl (Or.inl rfl) (by decide) (by decide) (by decide) ?_
  refine x_f (f' := mF g M (mFs g 7)) (fun q _ => congrFun (mF_arr g _ (a := 538) (by decide) rfl (fun j => hz _ j (by decide))) q) ?_
  refine x_putF (ci := 11) (k := 9) (v := vr g 538) dX11_init_66 rfl fi11 (by decide) q913 tyX11 tyX11_ok nmX11 rfl (fun _ _ h => h.2) rfl rfl rfl (by omega) (mF_0 g M _) (by rw [mFs_len]; decide) ?_
  refine x_f (f' := mF g M (mFs g 8)) (fun q _ => congrFun ((mF_up g M _ _).trans (congrArg (mF g M) (mFs_set g (i := 7) rfl (by decide)))) q) ?_
  refine x_aload_n dX11_init_69 0 rfl ?_
  refine x_bipush dX11_init_70 rfl ?_
  refine x_newa (t := 0) (n := 96) dX11_init_72 rfl q121 rfl (Or.inl rfl) (by decide) (by decide) (by decide) ?_
  refine x_f (f' := mF g M (mFs g 8)) (fun q _ => congrFun (mF_arr g _ (a := 539) (by decide) rfl (fun j => hz _ j (by decide))) q) ?_
  refine x_putF (ci := 11) (k := 10) (v := vr g 539) dX11_init_74 rfl fi11 (by decide) q914 tyX11 tyX11_ok nmX11 rfl (fun _ _ h => h.2) rfl rfl rfl (by omega) (mF_0 g M _) (by rw [mFs_len]; decide) ?_
  refine x_f (f' := mF g M (mFs g 9)) (fun q _ => congrFun ((mF_up g M _ _).trans (congrArg (mF g M) (mFs_set g (i := 8) rfl (by decide)))) q) ?_
  refine x_aload_n dX11_init_77 0 rfl ?_
  refine x_bipush dX11_init_78 rfl ?_
  refine x_newa (t := 0) (n := 96) dX11_init_80 rfl q121 rfl (Or.inl rfl) (by decide) (by decide) (by decide) ?_
  refine x_f (f' := mF g M (mFs g 9)) (fun q _ => congrFun (mF_arr g _ (a := 540) (by decide) rfl (fun j => hz _ j (by decide))) q) ?_
  refine x_putF (ci := 11) (k := 11) (v := vr g 540) dX11_init_82 rfl fi11 (by decide) q915 tyX11 tyX11_ok nmX11 rfl (fun _ _ h => h.2) rfl rfl rfl (by omega) (mF_0 g M _) (by rw [mFs_len]; decide) ?_
  refine x_f (f' := mF g M (mFs g 10)) (fun q _ => congrFun ((mF_up g M _ _).trans (congrArg (mF g M) (mFs_set g (i := 9) rfl (by decide)))) q) ?_
  refine x_aload_n dX11_init_85 0 rfl ?_
  refine x_bipush dX11_init_86 rfl ?_
  refine x_newa (t := 0) (n := 96) dX11_init_88 rfl q121 rfl (Or.inl rfl) (by decide) (by decide) (by decide) ?_
  refine x_f (f' := mF g M (mFs g 10)) (fun q _ => congrFun (mF_arr g _ (a := 541) (by decide) rfl (fun j => hz _ j (by decide))) q) ?_
  refine x_putF (ci := 11) (k := 12) (v := vr g 541) dX11_init_90 rfl fi11 (by decide) q916 tyX11 tyX11_ok nmX11 rfl (fun _ _ h => h.2) rfl rfl rfl (by omega) (mF_0 g M _) (by rw [mFs_len]; decide) ?_
  refine x_f (f' := mF g M (mFs g 11)) (fun q _ => congrFun ((mF_up g M _ _).trans (congrArg (mF g M) (mFs_set g (i := 10) rfl (by decide)))) q) ?_
  refine x_aload_n dX11_init_93 0 rfl ?_
  refine x_sipush dX11_init_94 rfl ?_
  refine x_newa (t := 0) (n := 768) dX11_init_97 rfl q121 rfl (Or.inl rfl) (by decide) (by decide) (by decide) ?_
  refine x_f (f' := mF g M (mFs g 11)) (fun q _ => congrFun (mF_arr g _ (a := 542) (by decide) rfl (fun j => hz _ j (by decide))) q) ?_
  refine x_putF (ci := 11) (k := 13) (v := vr g 542) dX11_init_99 rfl fi11 (by decide) q917 tyX11 tyX11_ok nmX11 rfl (fun _ _ h => h.2) rfl rfl rfl (by omega) (mF_0 g M _) (by rw [mFs_len]; decide) ?_
  refine x_f (f' := mF g M (mFs g 12)) (fun q _ => congrFun ((mF_up g M _ _).trans (congrArg (mF g M) (mFs_set g (i := 11) rfl (by decide)))) q) ?_
  refine x_aload_n dX11_init_102 0 rfl ?_
  refine x_sipush dX11_init_103 rfl ?_
  refine x_newa (t := 0) (n := 252) dX11_init_106 rfl q121 rfl (Or.inl rfl) (by decide) (by decide) (by decide) ?_
  refine x_f (f' := mF g M (mFs g 12)) (fun q _ => congrFun (mF_arr g _ (a := 543) (by decide) rfl (fun j => hz _ j (by decide))) q) ?_
  refine x_putF (ci := 11) (k := 14) (v := vr g 543) dX11_init_108 rfl fi11 (by decide) q918 tyX11 tyX11_ok nmX11 rfl (fun _ _ h => h.2) rfl rfl rfl (by omega) (mF_0 g M _) (by rw [mFs_len]; decide) ?_
  refine x_f (f' := mF g M (mFs g 13)) (fun q _ => congrFun ((mF_up g M _ _).trans (congrArg (mF g M) (mFs_set g (i := 12) rfl (by decide)))) q) ?_
  refine x_aload_n dX11_init_111 0 rfl ?_
  refine x_sipush dX11_init_112 rfl ?_
  refine x_newa (t := 0) (n := 1008) dX11_init_115 rfl q121 rfl (Or.inl rfl) (by decide) (by decide) (by decide) ?_
  refine x_f (f' := mF g M (mFs g 13)) (fun q _ => congrFun (mF_arr g _ (a := 544) (by decide) rfl (fun j => hz _ j (by decide))) q) ?_
  refine x_putF (ci := 11) (k := 15) (v := vr g 544) dX11_init_117 rfl fi11 (by decide) q919 tyX11 tyX11_ok nmX11 rfl (fun _ _ h => h.2) rfl rfl rfl (by omega) (mF_0 g M _) (by rw [mFs_len]; decide) ?_
  refine x_f (f' := mF g M (mFs g 14)) (fun q _ => congrFun ((mF_up g M _ _).trans (congrArg (mF g M) (mFs_set g (i := 13) rfl (by decide)))) q) ?_
  refine x_aload_n dX11_init_120 0 rfl ?_
  refine x_bipush dX11_init_121 rfl ?_
  refine x_newa (t := 0) (n := 12) dX11_init_123 rfl q121 rfl (Or.inl rfl) (by decide) (by decide) (by decide) ?_
  refine x_f (f' := mF g M (mFs g 14)) (fun q _ => congrFun (mF_arr g _ (a := 545) (by decide) rfl (fun j => hz _ j (by decide))) q) ?_
  refine x_putF (ci := 11) (k := 18) (v := vr g 545) dX11_init_125 rfl fi11 (by decide) q922 tyX11 tyX11_ok nmX11 rfl (fun _ _ h => h.2) rfl rfl rfl (by omega) (mF_0 g M _) (by rw [mFs_len]; decide) ?_
  refine x_f (f' := mF g M (mFs g 15)) (fun q _ => congrFun ((mF_up g M _ _).trans (congrArg (mF g M) (mFs_set g (i := 14) rfl (by decide)))) q) ?_
  refine x_aload_n dX11_init_128 0 rfl ?_
  refine x_bipush dX11_init_129 rfl ?_
  refine x_newa (t := 0) (n := 12) dX11_init_131 rfl q121 rfl (Or.inl rfl) (by decide) (by decide) (by decide) ?_
  refine x_f (f' := mF g M (mFs g 15)) (fun q _ => congrFun (mF_arr g _ (a := 546) (by decide) rfl (fun j => hz _ j (by decide))) q) ?_
  refine x_putF (ci := 11) (k := 19) (v := vr g 546) dX11_init_133 rfl fi11 (by decide) q923 tyX11 tyX11_ok nmX11 rfl (fun _ _ h => h.2) rfl rfl rfl (by omega) (mF_0 g M _) (by rw [mFs_len]; decide) ?_
  refine x_f (f' := mF g M (mFs g 16)) (fun q _ => congrFun ((mF_up g M _ _).trans (congrArg (mF g M) (mFs_set g (i := 15) rfl (by decide)))) q) ?_
  refine x_aload_n dX11_init_136 0 rfl ?_
  refine x_bipush dX11_init_137 rfl ?_
  refine x_newa (t := 0) (n := 12) dX11_init_139 rfl q121 rfl (Or.inl rfl) (by decide) (by decide) (by decide) ?_
  refine x_f (f' := mF g M (mFs g 16)) (fun q _ => congrFun (mF_arr g _ (a := 547) (by decide) rfl (fun j => hz _ j (by decide))) q) ?_
  refine x_putF (ci := 11) (k := 20) (v := vr g 547) dX11_init_141 rfl fi11 (by decide) q924 tyX11 tyX11_ok nmX11 rfl (fun _ _ h => h.2) rfl rfl rfl (by omega) (mF_0 g M _) (by rw [mFs_len]; decide) ?_
  refine x_f (f' := mF g M (mFs g 17)) (fun q _ => congrFun ((mF_up g M _ _).trans (congrArg (mF g M) (mFs_set g (i := 16) rfl (by decide)))) q) ?_
  refine x_aload_n dX11_init_144 0 rfl ?_
  refine x_bipush dX11_init_145 rfl ?_
  refine x_newa (t := 0) (n := 12) dX11_init_147 rfl q121 rfl (Or.inl rfl) (by decide) (by decide) (by decide) ?_
  refine x_f (f' := mF g M (mFs g 17)) (fun q _ => congrFun (mF_arr g _ (a := 548) (by decide) rfl (fun j => hz _ j (by decide))) q) ?_
  refine x_putF (ci := 11) (k := 21) (v := vr g 548) dX11_init_149 rfl fi11 (by decide) q925 tyX11 tyX11_ok nmX11 rfl (fun _ _ h => h.2) rfl rfl rfl (by omega) (mF_0 g M _) (by rw [mFs_len]; decide) ?_
  refine x_f (f' := mF g M (mFs g 18)) (fun q _ => congrFun ((mF_up g M _ _).trans (congrArg (mF g M) (mFs_set g (i := 17) rfl (by decide)))) q) ?_
  refine x_aload_n dX11_init_152 0 rfl ?_
  refine x_bipush dX11_init_153 rfl ?_
  refine x_newa (t := 0) (n := 36) dX11_init_155 rfl q121 rfl (Or.inl rfl) (by decide) (by decide) (by decide) ?_
  refine x_f (f' := mF g M (mFs g 18)) (fun q _ => congrFun (mF_arr g _ (a := 549) (by decide) rfl (fun j => hz _ j (by decide))) q) ?_
  refine x_putF (ci := 11) (k := 22) (v := vr g 549) dX11_init_157 rfl fi11 (by decide) q926 tyX11 tyX11_ok nmX11 rfl (fun _ _ h => h.2) rfl rfl rfl (by omega) (mF_0 g M _) (by rw [mFs_len]; decide) ?_
  refine x_f (f' := mF g M (mFs g 19)) (fun q _ => congrFun ((mF_up g M _ _).trans (congrArg (mF g M) (mFs_set g (i := 18) rfl (by decide)))) q) ?_
  refine x_aload_n dX11_init_160 0 rfl ?_
  refine x_bipush dX11_init_161 rfl ?_
  refine x_newa (t := 0) (n := 96) dX11_init_163 rfl q121 rfl (Or.inl rfl) (by decide) (by decide) (by decide) ?_
  refine x_f (f' := mF g M (mFs g 19)) (fun q _ => congrFun (mF_arr g _ (a := 550) (by decide) rfl (fun j => hz _ j (by decide))) q) ?_
  refine x_putF (ci := 11) (k := 23) (v := vr g 550) dX11_init_165 rfl fi11 (by decide) q927 tyX11 tyX11_ok nmX11 rfl (fun _ _ h => h.2) rfl rfl rfl (by omega) (mF_0 g M _) (by rw [mFs_len]; decide) ?_
  refine x_f (f' := mF g M (mFs g 20)) (fun q _ => congrFun ((mF_up g M _ _).trans (congrArg (mF g M) (mFs_set g (i := 19) rfl (by decide)))) q) ?_
  refine x_aload_n dX11_init_168 0 rfl ?_
  refine x_bipush dX11_init_169 rfl ?_
  refine x_newa (t := 0) (n := 96) dX11_init_171 rfl q121 rfl (Or.inl rfl) (by decide) (by decide) (by decide) ?_
  refine x_f (f' := mF g M (mFs g 20)) (fun q _ => congrFun (mF_arr g _ (a := 551) (by decide) rfl (fun j => hz _ j (by decide))) q) ?_
  refine x_putF (ci := 11) (k := 24) (v := vr g 551) dX11_init_173 rfl fi11 (by decide) q928 tyX11 tyX11_ok nmX11 rfl (fun _ _ h => h.2) rfl rfl rfl (by omega) (mF_0 g M _) (by rw [mFs_len]; decide) ?_
  refine x_f (f' := mF g M (mFs g 21)) (fun q _ => congrFun ((mF_up g M _ _).trans (congrArg (mF g M) (mFs_set g (i := 20) rfl (by decide)))) q) ?_
  refine x_aload_n dX11_init_176 0 rfl ?_
  refine x_bipush dX11_init_177 rfl ?_
  refine x_newa (t := 0) (n := 96) dX11_init_179 rfl q121 rfl (Or.inl rfl) (by decide) (by decide) (by decide) ?_
  refine x_f (f' := mF g M (mFs g 21)) (fun q _ => congrFun (mF_arr g _ (a := 552) (by decide) rfl (fun j => hz _ j (by decide))) q) ?_
  refine x_putF (ci := 11) (k := 25) (v := vr g 552) dX11_init_181 rfl fi11 (by decide) q929 tyX11 tyX11_ok nmX11 rfl (fun _ _ h => h.2) rfl rfl rfl (by omega) (mF_0 g M _) (by rw [mFs_len]; decide) ?_
  refine x_f (f' := mF g M (mFs g 22)) (fun q _ => congrFun ((mF_up g M _ _).trans (congrArg (mF g M) (mFs_set g (i := 21) rfl (by decide)))) q) ?_
  refine x_aload_n dX11_init_184 0 rfl ?_
  refine x_bipush dX11_init_185 rfl ?_
  refine x_newa (t := 0) (n := 96) dX11_init_187 rfl q121 rfl (Or.inl rfl) (by decide) (by decide) (by decide) ?_
  refine x_f (f' := mF g M (mFs g 22)) (fun q _ => congrFun (mF_arr g _ (a := 553) (by decide) rfl (fun j => hz _ j (by decide))) q) ?_
  refine x_putF (ci := 11) (k := 26) (v := vr g 553) dX11_init_189 rfl fi11 (by decide) q930 tyX11 tyX11_ok nmX11 rfl (fun _ _ h => h.2) rfl rfl rfl (by omega) (mF_0 g M _) (by rw [mFs_len]; decide) ?_
  refine x_f (f' := mF g M (mFs g 23)) (fun q _ => congrFun ((mF_up g M _ _).trans (congrArg (mF g M) (mFs_set g (i := 22) rfl (by decide)))) q) ?_
  refine x_aload_n dX11_init_192 0 rfl ?_
  refine x_bipush dX11_init_193 rfl ?_
  refine x_newa (t := 0) (n := 96) dX11_init_195 rfl q121 rfl (Or.inl rfl) (by decide) (by decide) (by decide) ?_
  refine x_f (f' := mF g M (mFs g 23)) (fun q _ => congrFun (mF_arr g _ (a := 554) (by decide) rfl (fun j => hz _ j (by decide))) q) ?_
  refine x_putF (ci := 11) (k := 27) (v := vr g 554) dX11_init_197 rfl fi11 (by decide) q931 tyX11 tyX11_ok nmX11 rfl (fun _ _ h => h.2) rfl rfl rfl (by omega) (mF_0 g M _) (by rw [mFs_len]; decide) ?_
  refine x_f (f' := mF g M (mFs g 24)) (fun q _ => congrFun ((mF_up g M _ _).trans (congrArg (mF g M) (mFs_set g (i := 23) rfl (by decide)))) q) ?_
  refine x_aload_n dX11_init_200 0 rfl ?_
  refine x_sipush dX11_init_201 rfl ?_
  refine x_newa (t := 0) (n := 768) dX11_init_204 rfl q121 rfl (Or.inl rfl) (by decide) (by decide) (by decide) ?_
  refine x_f (f' := mF g M (mFs g 24)) (fun q _ => congrFun (mF_arr g _ (a := 555) (by decide) rfl (fun j => hz _ j (by decide))) q) ?_
  refine x_putF (ci := 11) (k := 28) (v := vr g 555) dX11_init_206 rfl fi11 (by decide) q932 tyX11 tyX11_ok nmX11 rfl (fun _ _ h => h.2) rfl rfl rfl (by omega) (mF_0 g M _) (by rw [mFs_len]; decide) ?_
  refine x_f (f' := mF g M (mFs g 25)) (fun q _ => congrFun ((mF_up g M _ _).trans (congrArg (mF g M) (mFs_set g (i := 24) rfl (by decide)))) q) ?_
  refine x_aload_n dX11_init_209 0 rfl ?_
  refine x_bipush dX11_init_210 rfl ?_
  refine x_newa (t := 0) (n := 96) dX11_init_212 rfl q121 rfl (Or.inl rfl) (by decide) (by decide) (by decide) ?_
  refine x_f (f' := mF g M (mFs g 25)) (fun q _ => congrFun (mF_arr g _ (a := 556) (by decide) rfl (fun j => hz _ j (by decide))) q) ?_
  refine x_putF (ci := 11) (k := 29) (v := vr g 556) dX11_init_214 rfl fi11 (by decide) q933 tyX11 tyX11_ok nmX11 rfl (fun _ _ h => h.2) rfl rfl rfl (by omega) (mF_0 g M _) (by rw [mFs_len]; decide) ?_
  refine x_f (f' := mF g M (mFs g 26)) (fun q _ => congrFun ((mF_up g M _ _).trans (congrArg (mF g M) (mFs_set g (i := 25) rfl (by decide)))) q) ?_
  refine x_aload_n dX11_init_217 0 rfl ?_
  refine x_bipush dX11_init_218 rfl ?_
  refine x_newa (t := 0) (n := 12) dX11_init_220 rfl q121 rfl (Or.inl rfl) (by decide) (by decide) (by decide) ?_
  refine x_f (f' := mF g M (mFs g 26)) (fun q _ => congrFun (mF_arr g _ (a := 557) (by decide) rfl (fun j => hz _ j (by decide))) q) ?_
  refine x_putF (ci := 11) (k := 30) (v := vr g 557) dX11_init_222 rfl fi11 (by decide) q934 tyX11 tyX11_ok nmX11 rfl (fun _ _ h => h.2) rfl rfl rfl (by omega) (mF_0 g M _) (by rw [mFs_len]; decide) ?_
  refine x_f (f' := mF g M (mFs g 27)) (fun q _ => congrFun ((mF_up g M _ _).trans (congrArg (mF g M) (mFs_set g (i := 26) rfl (by decide)))) q) ?_
  refine x_aload_n dX11_init_225 0 rfl ?_
  refine x_bipush dX11_init_226 rfl ?_
  refine x_newa (t := 0) (n := 48) dX11_init_228 rfl q121 rfl (Or.inl rfl) (by decide) (by decide) (by decide) ?_
  refine x_f (f' := mF g M (mFs g 27)) (fun q _ => congrFun (mF_arr g _ (a := 558) (by decide) rfl (fun j => hz _ j (by decide))) q) ?_
  refine x_putF (ci := 11) (k := 31) (v := vr g 558) dX11_init_230 rfl fi11 (by decide) q935 tyX11 tyX11_ok nmX11 rfl (fun _ _ h => h.2) rfl rfl rfl (by omega) (mF_0 g M _) (by rw [mFs_len]; decide) ?_
  refine x_f (f' := mF g M (mFs g 28)) (fun q _ => congrFun ((mF_up g M _ _).trans (congrArg (mF g M) (mFs_set g (i := 27) rfl (by decide)))) q) ?_
  refine x_aload_n dX11_init_233 0 rfl ?_
  refine x_bipush dX11_init_234 rfl ?_
  refine x_newa (t := 0) (n := 32) dX11_init_236 rfl q121 rfl (Or.inl rfl) (by decide) (by decide) (by decide) ?_
  refine x_f (f' := mF g M (mFs g 28)) (fun q _ => congrFun (mF_arr g _ (a := 559) (by decide) rfl (fun j => hz _ j (by decide))) q) ?_
  refine x_putF (ci := 11) (k := 35) (v := vr g 559) dX11_init_238 rfl fi11 (by decide) q939 tyX11 tyX11_ok nmX11 rfl (fun _ _ h => h.2) rfl rfl rfl (by omega) (mF_0 g M _) (by rw [mFs_len]; decide) ?_
  refine x_f (f' := mF g M (mFs g 29)) (fun q _ => congrFun ((mF_up g M _ _).trans (congrArg (mF g M) (mFs_set g (i := 28) rfl (by decide)))) q) ?_
  refine x_aload_n dX11_init_241 0 rfl ?_
  refine x_bipush dX11_init_242 rfl ?_
  refine x_newa (t := 0) (n := 12) dX11_init_244 rfl q121 rfl (Or.inl rfl) (by decide) (by decide) (by decide) ?_
  refine x_f (f' := mF g M (mFs g 29)) (fun q _ => congrFun (mF_arr g _ (a := 560) (by decide) rfl (fun j => hz _ j (by decide))) q) ?_
  refine x_putF (ci := 11) (k := 43) (v := vr g 560) dX11_init_246 rfl fi11 (by decide) q947 tyX11 tyX11_ok nmX11 rfl (fun _ _ h => h.2) rfl rfl rfl (by omega) (mF_0 g M _) (by rw [mFs_len]; decide) ?_
  refine x_f (f' := mF g M (mFs g 30)) (fun q _ => congrFun ((mF_up g M _ _).trans (congrArg (mF g M) (mFs_set g (i := 29) rfl (by decide)))) q) ?_
  refine x_aload_n dX11_init_249 0 rfl ?_
  refine x_bipush dX11_init_250 rfl ?_
  refine x_newa (t := 0) (n := 12) dX11_init_252 rfl q121 rfl (Or.inl rfl) (by decide) (by decide) (by decide) ?_
  refine x_f (f' := mF g M (mFs g 30)) (fun q _ => congrFun (mF_arr g _ (a := 561) (by decide) rfl (fun j => hz _ j (by decide))) q) ?_
  refine x_putF (ci := 11) (k := 44) (v := vr g 561) dX11_init_254 rfl fi11 (by decide) q948 tyX11 tyX11_ok nmX11 rfl (fun _ _ h => h.2) rfl rfl rfl (by omega) (mF_0 g M _) (by rw [mFs_len]; decide) ?_
  refine x_f (f' := mF g M (mFs g 31)) (fun q _ => congrFun ((mF_up g M _ _).trans (congrArg (mF g M) (mFs_set g (i := 30) rfl (by decide)))) q) ?_
  refine x_aload_n dX11_init_257 0 rfl ?_
  refine x_bipush dX11_init_258 rfl ?_
  refine x_newa (t := 0) (n := 7) dX11_init_260 rfl q121 rfl (Or.inl rfl) (by decide) (by decide) (by decide) ?_
  refine x_f (f' := mF g M (mFs g 31)) (fun q _ => congrFun (mF_arr g _ (a := 562) (by decide) rfl (fun j => hz _ j (by decide))) q) ?_
  refine x_putF (ci := 11) (k := 46) (v := vr g 562) dX11_init_262 rfl fi11 (by decide) q950 tyX11 tyX11_ok nmX11 rfl (fun _ _ h => h.2) rfl rfl rfl (by omega) (mF_0 g M _) (by rw [mFs_len]; decide) ?_
  refine x_f (f' := mF g M (mFs g 32)) (fun q _ => congrFun ((mF_up g M _ _).trans (congrArg (mF g M) (mFs_set g (i := 31) rfl (by decide)))) q) ?_
  refine x_f (f' := cellOf g M) (fun q _ => congrFun (mF_end g (fun k => hz _ k (by decide))) q) ?_
  exact mo_t0 hS hw ⟨rfl, fun _ _ _ => rfl⟩ ⟨hz _ _ (by decide), fun p hp => by omega⟩
