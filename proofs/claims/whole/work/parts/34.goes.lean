/-! ===== the model's check ===== -/
def scM (a k : Nat) : Prop := (a = 530 ∧ 36 ≤ k) ∨ (560 ≤ a ∧ a ≤ 562)
theorem scM_rw {M M' : Mem} (h : FrI scM M M') : RwE M M' := ⟨h.i (by unfold scM; omega), fun a k x y => h.i (by unfold scM; omega)⟩
theorem mFt_sc {M M' : Mem} (h : FrI mFt M M') : FrI scM M M' := h.mono (fun a k q => by unfold mFt at q; unfold scM; omega)
/-- what the model holds between two rules: the check's name, address, letter, its counts, its depth -/
def MSt (M0 M : Mem) (o : Nat) (a l : Int) (dp : Nat) (lk em : Int) : Prop := FrI scM M0 M ∧ gI M 530 36 = o ∧ gI M 530 37 = a ∧ gI M 530 38 = l ∧ gI M 530 39 = lk ∧ gI M 530 40 = em ∧ gI M 530 45 = dp
/-- the stack below d names is the same -/
def SkE (M M' : Mem) (d : Nat) : Prop := ∀ i, i < d → gI M' 560 i = gI M 560 i ∧ gI M' 561 i = gI M 561 i
section GO
variable {g : Ctx} {M : Mem}
theorem k_Mo_ends {Q : Int → Mem → Prop} {m k dp : Nat} (h : MWf M) (hm : (m : Int) < gI M 530 2) (hk : (k : Int) < gI M 533 m) (hd : gI M 530 45 = dp) (q1 : dp ≠ 1 → Q (sgA M m k) M) (q2 : dp = 1 → Q (sgA M m k) (sI (sI M 530 41 m) 530 42 k)) : K_Mo_ends g m k M Q := by
  have h12 := h.1
  have hj := h.2 m hm
  have hi := hj.2.2.2.2.2.2 k hk
  have ii : ∀ x : Int, InR x → InR x := fun _ q => q
  refine i_Mo_ends (b_Mo_ends_0 (by omega) (by omega) ⟨fun c => ?_, fun c => ?_⟩)
  · exact k_Mo_signAt (by omega) (by omega) (by omega) (fun _ _ => k_Mo_answerOf hi.2.1 (fun _ _ => q1 (by omega)))
  · have e : RwE M (sI (sI M 530 41 m) 530 42 k) := scM_rw (FrI.tr (FrI.st (Or.inl ⟨rfl, by omega⟩)) (FrI.st (Or.inl ⟨rfl, by omega⟩)))
    refine k_Mo_signAt (by omega) (by omega) (by rw [e.now]; omega) (fun _ _ => ?_)
    rw [e.now, e.now]
    exact k_Mo_answerOf hi.2.1 (fun _ _ => q2 (by omega))
theorem k_Mo_enters {Q : Int → Mem → Prop} {v : Int} {dp : Nat} (h : MWf M) (hv : v = -4 ∨ (0 ≤ v ∧ v < gI M 530 2)) (hd : gI M 530 45 = dp) (hdp : dp < 12) (q0 : bdN M v = true → Q 0 M) (q1 : bdN M v ≠ true → Q 1 (sI (sI (sI M 560 dp v) 561 dp 0) 530 45 ((dp : Int) + 1))) : K_Mo_enters g v M Q := by
  have h12 := h.1
  rw [Ne, bdN_iff] at q1
  rw [bdN_iff] at q0
  refine i_Mo_enters (b_Mo_enters_0 (by omega) ⟨fun c => q0 (Or.inl c), fun c => ⟨by omega, fun c2 => ⟨by omega, by omega, ?_⟩, fun c2 => q0 (Or.inr c2)⟩⟩)
  rw [hd, Int.toNat_natCast]
  exact q1 (by omega)
theorem go_enter {Q : Int → Mem → Prop} {v : Int} {dp : Nat} (h : MWf M) (hv : InR v) (hd : gI M 530 45 = dp) (hdp : dp < 12) (q5 : bdN M (noM M v) = true → Q 5 (sI (sI M 530 41 (-4)) 530 42 (-4))) (q1 : bdN M (noM M v) ≠ true → P_Mo_goes g 52 [(0, vr g 530)] [] (sI (sI (sI M 560 dp (noM M v)) 561 dp 0) 530 45 ((dp : Int) + 1)) Q) :
    K_Mo_numberOf g v M (fun r28 M29 => InR r28 → WT M29 → K_Mo_enters g r28 M29 (fun r30 M31 => (r30 = 0 ∨ r30 = 1) → WT M31 → (((¬ r30 = 0) → P_Mo_goes g 263 [(0, vr g 530), (7, vi ((-4)))] [] M31 Q) ∧ ((r30 = 0) → K_Mo_error g M31 (fun r33 M34 => InR r33 → WT M34 → Q r33 M34))))) := by
  refine kM_no h hv (fun _ _ => k_Mo_enters h (noM_rng h v) hd hdp (fun c _ _ => bnf rfl (k_Mo_error (fun _ _ => q5 c))) (fun c _ _ => bnt (by omega) ?_))
  exact b_Mo_goes_263 (by omega) (bt rfl (q1 c))
theorem mo_go {M0 : Mem} {Q : Int → Mem → Prop} {o : Nat} {a l : Int} (h : MWf M0) (ho : (o : Int) < gI M0 530 2) (ha : 0 ≤ a ∧ a < 256) (hl : 0 ≤ l ∧ l ≤ 15) :
    ∀ (f dp m k : Nat) (lk em : Int) (M : Mem), MSt M0 M o a l dp lk em → gI M 560 (dp - 1) = m → gI M 561 (dp - 1) = k → (m : Int) < gI M0 530 2 → (k : Int) ≤ gI M0 533 m → 9 * (11 - lk) + (9 - (k : Int)) ≤ f → 1 ≤ dp → (dp : Int) ≤ lk + 1 → 0 ≤ lk → lk ≤ 10 → 0 ≤ em → em ≤ 2 → (dp = 1 → gI M 530 41 = -4 ∧ gI M 530 42 = -4) →
      ((evR M0 o a l f m k lk em).1 = 5 → ∀ M' : Mem, FrI scM M0 M' → gI M' 530 39 = (evR M0 o a l f m k lk em).2.1 → gI M' 530 40 = (evR M0 o a l f m k lk em).2.2.1 → gI M' 530 41 = -4 → gI M' 530 42 = -4 → Q 5 M') →
      ((evR M0 o a l f m k lk em).1 ≠ 5 → ∀ M' : Mem, MSt M0 M' o a l dp (evR M0 o a l f m k lk em).2.1 (evR M0 o a l f m k lk em).2.2.1 → SkE M M' (dp - 1) → (dp = 1 → gI M' 530 41 = (evR M0 o a l f m k lk em).2.2.2.1 ∧ gI M' 530 42 = (evR M0 o a l f m k lk em).2.2.2.2) → (dp ≠ 1 → gI M' 530 41 = gI M 530 41 ∧ gI M' 530 42 = gI M 530 42) → P_Mo_goes g 263 [(0, vr g 530), (7, vi (evR M0 o a l f m k lk em).1)] [] M' Q) →
      P_Mo_goes g 52 [(0, vr g 530)] [] M Q := by
  intro f
  induction f with
  | zero => intro dp m k lk em M _ _ _ hm hk hf hd1 hd hl0 hl1; have := (h.2 m hm).2.1; omega
  | succ f ih =>
    intro dp m k lk em M hS em1 ek1 hm hk hf hd1 hd hl0 hl1 he0 he1 hdec
    have hj := h.2 m hm
    have h12 := h.1
    obtain ⟨hF, s36, s37, s38, s39, s40, s45⟩ := id hS
    have hR := scM_rw hF
    have hW := h.fr hR
    have et : (gI M 530 45 - 1).toNat = dp - 1 := by omega
    have x33 : ∀ i, gI M 533 i = gI M0 533 i := fun i => hR.2 _ _ (by omega) (by omega)
    have x34 : ∀ i, gI M 534 i = gI M0 534 i := fun i => hR.2 _ _ (by omega) (by omega)
    have x37 : ∀ i, gI M 537 i = gI M0 537 i := fun i => hR.2 _ _ (by omega) (by omega)
    have x40 : ∀ i, gI M 540 i = gI M0 540 i := fun i => hR.2 _ _ (by omega) (by omega)
    have err : ∀ M1 : Mem, FrI scM M0 M1 → (∀ M' : Mem, FrI scM M0 M' → gI M' 530 39 = gI M1 530 39 → gI M' 530 40 = gI M1 530 40 → gI M' 530 41 = -4 → gI M' 530 42 = -4 → Q 5 M') → Q 5 (sI (sI M1 530 41 (-4)) 530 42 (-4)) := by
      intro M1 hF1 q
      exact q _ (hF1.tr (FrI.tr (FrI.st (Or.inl ⟨rfl, by omega⟩)) (FrI.st (Or.inl ⟨rfl, by omega⟩)))) (by rw [gI_ne _ _ _ _ _ _ (by omega), gI_ne _ _ _ _ _ _ (by omega)]) (by rw [gI_ne _ _ _ _ _ _ (by omega), gI_ne _ _ _ _ _ _ (by omega)]) (by rw [gI_ne _ _ _ _ _ _ (by omega), gI_same]) (by rw [gI_same])
    intro q5 qv
    unfold evR at q5 qv
    refine b_Mo_goes_52 ?_
    rw [et, em1, ek1, Int.toNat_natCast, x33, x34]
    refine ⟨by omega, by omega, fun c => ?_, fun c => ?_⟩
    · rw [if_neg c] at q5 qv
      have hk' : (k : Int) < gI M0 533 m := by omega
      have hi := hj.2.2.2.2.2.2 k hk'
      have er : (8 * (m : Int) + mnow M m k) = ((rlA M0 m k : Nat) : Int) := by rw [hR.now]; unfold rlA; omega
      have hr96 : rlA M0 m k < 96 := by unfold rlA; omega
      have hsg := sgA_rng h hm hk'
      -- the rule fits
      have hit : ∀ (M1 : Mem) (lk' em' : Int), MSt M0 M1 o a l dp lk' em' → SkE M M1 (dp - 1) → (gI M1 530 41 = gI M 530 41 ∧ gI M1 530 42 = gI M 530 42) → (∀ M' : Mem, MSt M0 M' o a l dp lk' em' → SkE M M' (dp - 1) → (dp = 1 → gI M' 530 41 = m ∧ gI M' 530 42 = k) → (dp ≠ 1 → gI M' 530 41 = gI M 530 41 ∧ gI M' 530 42 = gI M 530 42) → P_Mo_goes g 263 [(0, vr g 530), (7, vi (sgA M0 m k))] [] M' Q) → K_Mo_ends g m k M1 (fun r16 M17 => InR r16 → WT M17 → P_Mo_goes g 263 [(0, vr g 530), (7, vi r16)] [] M17 Q) := by
        intro M1 lk' em' hS1 hK1 hD1 q
        obtain ⟨hF1, t36, t37, t38, t39, t40, t45⟩ := id hS1
        have hR1 := scM_rw hF1
        have es : sgA M1 m k = sgA M0 m k := by unfold sgA; rw [hR1.now, hR1.now]
        refine k_Mo_ends (dp := dp) (h.fr hR1) (by rw [hR1.1]; exact hm) (by rw [hR1.2 533 _ (by omega) (by omega)]; exact hk') t45 (fun c1 _ _ => ?_) (fun c1 _ _ => ?_)
        · rw [es]
          exact q M1 hS1 hK1 (fun z => absurd z c1) (fun _ => hD1)
        · rw [es]
          refine q _ ⟨hF1.tr (FrI.tr (FrI.st (Or.inl ⟨rfl, by omega⟩)) (FrI.st (Or.inl ⟨rfl, by omega⟩))), ?_, ?_, ?_, ?_, ?_, ?_⟩ (fun i hi1 => by omega) (fun _ => ⟨by rw [gI_ne _ _ _ _ _ _ (by omega), gI_same], by rw [gI_same]⟩) (fun z => absurd c1 z) <;> rw [gI_ne _ _ _ _ _ _ (by omega), gI_ne _ _ _ _ _ _ (by omega)] <;> assumption
      -- the next rule
      have adv : ∀ (M1 : Mem) (lk' em' : Int), MSt M0 M1 o a l dp lk' em' → SkE M M1 (dp - 1) → gI M1 560 (dp - 1) = m → (gI M1 530 41 = gI M 530 41 ∧ gI M1 530 42 = gI M 530 42) → lk ≤ lk' → lk' ≤ 10 → 0 ≤ em' → em' ≤ 2 →
          ((evR M0 o a l f m (k + 1) lk' em').1 = 5 → ∀ M' : Mem, FrI scM M0 M' → gI M' 530 39 = (evR M0 o a l f m (k + 1) lk' em').2.1 → gI M' 530 40 = (evR M0 o a l f m (k + 1) lk' em').2.2.1 → gI M' 530 41 = -4 → gI M' 530 42 = -4 → Q 5 M') →
          ((evR M0 o a l f m (k + 1) lk' em').1 ≠ 5 → ∀ M' : Mem, MSt M0 M' o a l dp (evR M0 o a l f m (k + 1) lk' em').2.1 (evR M0 o a l f m (k + 1) lk' em').2.2.1 → SkE M M' (dp - 1) → (dp = 1 → gI M' 530 41 = (evR M0 o a l f m (k + 1) lk' em').2.2.2.1 ∧ gI M' 530 42 = (evR M0 o a l f m (k + 1) lk' em').2.2.2.2) → (dp ≠ 1 → gI M' 530 41 = gI M 530 41 ∧ gI M' 530 42 = gI M 530 42) → P_Mo_goes g 263 [(0, vr g 530), (7, vi (evR M0 o a l f m (k + 1) lk' em').1)] [] M' Q) →
          P_Mo_goes g 263 [(0, vr g 530), (7, vi (-4))] [] (sI M1 561 (dp - 1) ((k : Int) + 1)) Q := by
        intro M1 lk' em' hS1 hK1 ht1 hD1 b1 b2 b3 b4 r5 rv
        obtain ⟨hF1, t36, t37, t38, t39, t40, t45⟩ := id hS1
        refine b_Mo_goes_263 (by omega) (bt rfl (ih dp m (k + 1) lk' em' _ ⟨hF1.tr (FrI.st (Or.inr ⟨by omega, by omega⟩)), ?_, ?_, ?_, ?_, ?_, ?_⟩ (by rw [gI_ne _ _ _ _ _ _ (by omega)]; exact ht1) (by rw [gI_same]; rfl) hm (by omega) (by omega) hd1 (by omega) (by omega) b2 b3 b4 (fun z => ?_) r5 (fun h5 M' hS' hK' hA' hB' => rv h5 M' hS' (fun i hi1 => ?_) hA' (fun z => ?_))))
        · rw [gI_ne _ _ _ _ _ _ (by omega)]; exact t36
        · rw [gI_ne _ _ _ _ _ _ (by omega)]; exact t37
        · rw [gI_ne _ _ _ _ _ _ (by omega)]; exact t38
        · rw [gI_ne _ _ _ _ _ _ (by omega)]; exact t39
        · rw [gI_ne _ _ _ _ _ _ (by omega)]; exact t40
        · rw [gI_ne _ _ _ _ _ _ (by omega)]; exact t45
        · rw [gI_ne _ _ _ _ _ _ (by omega), gI_ne _ _ _ _ _ _ (by omega), hD1.1, hD1.2]; exact hdec z
        · have u := hK' i hi1
          rw [gI_ne _ _ _ _ _ _ (by omega), gI_ne _ _ _ _ _ _ (by omega)] at u
          have w := hK1 i hi1
          exact ⟨u.1.trans w.1, u.2.trans w.2⟩
        · have u := hB' z
          rw [gI_ne _ _ _ _ _ _ (by omega), gI_ne _ _ _ _ _ _ (by omega), hD1.1, hD1.2] at u
          exact u
      refine k_Mo_ruleAt (by omega) (by omega) (by rw [hR.now]; omega) (fun _ _ => ?_)
      rw [er, Int.toNat_natCast, x37]
      refine ⟨by omega, fun c2 => ?_, fun c2 => ?_⟩
      · rw [if_neg c2] at q5 qv
        refine k_Mo_ruleAt (by omega) (by omega) (by rw [hR.now]; omega) (fun _ _ => ?_)
        rw [er]
        have ef := hR.fit o a l m (rlA M0 m k)
        have hrg := fitK_rng M0 o a l m (rlA M0 m k) hi.2.2.1.1
        -- behind fits
        have fin : ∀ (M1 : Mem) (lk' em' x : Int), FrI mFt M M1 → gI M1 530 39 = lk' → gI M1 530 40 = em' → lk ≤ lk' → lk' ≤ 10 → 0 ≤ em' → em' ≤ 2 → (x = 0 ∨ x = 1) →
            (x = 1 → ∀ M' : Mem, MSt M0 M' o a l dp lk' em' → SkE M M' (dp - 1) → (dp = 1 → gI M' 530 41 = m ∧ gI M' 530 42 = k) → (dp ≠ 1 → gI M' 530 41 = gI M 530 41 ∧ gI M' 530 42 = gI M 530 42) → P_Mo_goes g 263 [(0, vr g 530), (7, vi (sgA M0 m k))] [] M' Q) →
            (x = 0 → ((evR M0 o a l f m (k + 1) lk' em').1 = 5 → ∀ M' : Mem, FrI scM M0 M' → gI M' 530 39 = (evR M0 o a l f m (k + 1) lk' em').2.1 → gI M' 530 40 = (evR M0 o a l f m (k + 1) lk' em').2.2.1 → gI M' 530 41 = -4 → gI M' 530 42 = -4 → Q 5 M')) →
            (x = 0 → ((evR M0 o a l f m (k + 1) lk' em').1 ≠ 5 → ∀ M' : Mem, MSt M0 M' o a l dp (evR M0 o a l f m (k + 1) lk' em').2.1 (evR M0 o a l f m (k + 1) lk' em').2.2.1 → SkE M M' (dp - 1) → (dp = 1 → gI M' 530 41 = (evR M0 o a l f m (k + 1) lk' em').2.2.2.1 ∧ gI M' 530 42 = (evR M0 o a l f m (k + 1) lk' em').2.2.2.2) → (dp ≠ 1 → gI M' 530 41 = gI M 530 41 ∧ gI M' 530 42 = gI M 530 42) → P_Mo_goes g 263 [(0, vr g 530), (7, vi (evR M0 o a l f m (k + 1) lk' em').1)] [] M' Q)) →
            (InR x → WT M1 → (((¬ x = 5) → (InR ((gI M1 561 (dp - 1)) + (1 - x))) ∧ (((¬ x = 1) → P_Mo_goes g 263 [(0, vr g 530), (7, vi ((-4)))] [] (sI M1 561 (dp - 1) ((gI M1 561 (dp - 1)) + (1 - x))) Q) ∧ ((x = 1) → K_Mo_ends g m k (sI M1 561 (dp - 1) ((gI M1 561 (dp - 1)) + (1 - x))) (fun r16 M17 => InR r16 → WT M17 → P_Mo_goes g 263 [(0, vr g 530), (7, vi r16)] [] M17 Q)))) ∧ ((x = 5) → K_Mo_error g M1 (fun r18 M19 => InR r18 → WT M19 → Q r18 M19)))) := by
          intro M1 lk' em' x hF1 t39 t40 b1 b2 b3 b4 hx r1 r5 rv _ _
          have hS1 : MSt M0 M1 o a l dp lk' em' := ⟨hF.tr (mFt_sc hF1), by rw [hF1.i (by unfold mFt; omega)]; exact s36, by rw [hF1.i (by unfold mFt; omega)]; exact s37, by rw [hF1.i (by unfold mFt; omega)]; exact s38, t39, t40, by rw [hF1.i (by unfold mFt; omega)]; exact s45⟩
          have hK1 : SkE M M1 (dp - 1) := fun i _ => ⟨hF1.i (by unfold mFt; omega), hF1.i (by unfold mFt; omega)⟩
          have hD1 : gI M1 530 41 = gI M 530 41 ∧ gI M1 530 42 = gI M 530 42 := ⟨hF1.i (by unfold mFt; omega), hF1.i (by unfold mFt; omega)⟩
          have y60 : gI M1 560 (dp - 1) = m := by rw [hF1.i (by unfold mFt; omega)]; exact em1
          have y61 : gI M1 561 (dp - 1) = k := by rw [hF1.i (by unfold mFt; omega)]; exact ek1
          rw [y61]
          refine bnt (by omega) ⟨by omega, fun c3 => ?_, fun c3 => ?_⟩
          · have x0 : x = 0 := by omega
            subst x0
            exact adv M1 lk' em' hS1 hK1 y60 hD1 b1 b2 b3 b4 (r5 rfl) (rv rfl)
          · subst c3
            obtain ⟨hF1', t36, t37, t38, t39, t40, t45⟩ := id hS1
            refine hit _ lk' em' ⟨hF1'.tr (FrI.st (Or.inr ⟨by omega, by omega⟩)), ?_, ?_, ?_, ?_, ?_, ?_⟩ (fun i hi1 => ?_) ?_ (r1 rfl)
            · rw [gI_ne _ _ _ _ _ _ (by omega)]; exact t36
            · rw [gI_ne _ _ _ _ _ _ (by omega)]; exact t37
            · rw [gI_ne _ _ _ _ _ _ (by omega)]; exact t38
            · rw [gI_ne _ _ _ _ _ _ (by omega)]; exact t39
            · rw [gI_ne _ _ _ _ _ _ (by omega)]; exact t40
            · rw [gI_ne _ _ _ _ _ _ (by omega)]; exact t45
            · rw [gI_ne _ _ _ _ _ _ (by omega), gI_ne _ _ _ _ _ _ (by omega)]; exact hK1 i hi1
            · rw [gI_ne _ _ _ _ _ _ (by omega), gI_ne _ _ _ _ _ _ (by omega)]; exact hD1
        refine k_Mo_fits (o := o) (m := m) (a := a) (l := l) (lk := lk) (em := em) hW hr96 (by rw [x37]; exact hi.2.2.1) (by rw [x37]; exact c2) (by rw [x37, x40]; exact hi.2.2.2.1) (by rw [x37, hR.r (a := 541) (by omega) (by omega), hR.r (a := 542) (by omega) (by omega)]; exact hi.2.2.2.2) ha hl s36 s37 s38 (by omega) (by rw [et]; exact em1) (by rw [hR.1]; exact ho) (by rw [hR.1]; exact hm) s39 s40 (by omega) (by omega) (fun k1 => ?_) (fun k1 k2 => ?_) (fun k1 k2 M1 hF1 t39 => ⟨fun k3 t40 => ?_, fun k3 t40 => ⟨fun k4 => ?_, fun k4 => ?_⟩⟩)
        · rw [x37] at k1
          rw [if_pos k1] at q5 qv
          rw [ef]
          refine fin M lk em _ (FrI.rf M) s39 s40 (by omega) hl1 he0 he1 (by omega) (fun z => ?_) (fun z => ?_) (fun z => ?_)
          · rw [if_pos z] at qv
            exact qv (by dsimp only; omega)
          · rw [if_neg (by omega)] at q5
            exact q5
          · rw [if_neg (by omega)] at qv
            exact qv
        · rw [x37] at k1
          rw [if_neg (by omega), if_pos (by omega)] at q5
          refine fun _ _ => bnf rfl (k_Mo_error (fun _ _ => err _ (hF.tr (FrI.st (Or.inl ⟨rfl, by omega⟩))) ?_))
          rw [gI_same, gI_ne _ _ _ _ _ _ (by omega), s40]
          exact q5 rfl
        · rw [x37] at k1
          rw [ef] at k3 ⊢
          rw [if_neg (by omega), if_neg (by omega), if_neg k3] at q5 qv
          refine fin M1 (lk + 1) em _ hF1 t39 t40 (by omega) (by omega) he0 he1 (by omega) (fun z => ?_) (fun z => ?_) (fun z => ?_)
          · rw [if_pos z] at qv
            exact qv (by dsimp only; omega)
          · rw [if_neg (by omega)] at q5
            exact q5
          · rw [if_neg (by omega)] at qv
            exact qv
        · rw [x37] at k1
          rw [ef] at k3
          rw [if_neg (by omega), if_neg (by omega), if_pos k3, if_pos (by omega)] at q5
          refine fun _ _ => bnf rfl (k_Mo_error (fun _ _ => err _ (hF.tr (mFt_sc hF1)) ?_))
          rw [t39, t40]
          exact q5 rfl
        · rw [x37] at k1
          rw [ef] at k3
          rw [if_neg (by omega), if_neg (by omega), if_pos k3, if_neg (by omega)] at q5 qv
          exact fin M1 (lk + 1) (em + 1) 0 hF1 t39 t40 (by omega) (by omega) (by omega) (by omega) (Or.inl rfl) (fun z => by omega) (fun _ => q5) (fun _ => qv)
      · rw [if_pos c2] at q5 qv
        have c2' : gI M0 537 (8 * m + (mnow M0 m k).toNat) = 2 := c2
        have hnm : 0 ≤ gI M0 540 (rlA M0 m k) ∧ gI M0 540 (rlA M0 m k) < 410338673 := hi.2.2.2.1 (by omega) (by omega)
        refine k_Mo_looks (by omega) (by omega) (fun k1 _ _ => bt rfl (k_Mo_error (fun _ _ => err _ (hF.tr (FrI.st (Or.inl ⟨rfl, by omega⟩))) ?_))) (fun k1 _ _ => bf (by omega) ?_)
        · rw [if_pos (by omega)] at q5
          rw [gI_same, gI_ne _ _ _ _ _ _ (by omega), s40, s39]
          exact q5 rfl
        · rw [if_neg (by omega)] at q5 qv
          rw [s39]
          generalize hM1 : sI M 530 39 (lk + 1) = M1
          have hF1 : FrI scM M0 M1 := hM1 ▸ hF.tr (FrI.st (Or.inl ⟨rfl, by omega⟩))
          have hR1 := scM_rw hF1
          have hW1 := h.fr hR1
          have n39 : gI M1 530 39 = lk + 1 := by rw [← hM1, gI_same]
          have nx : ∀ b j, ¬ (b = 530 ∧ j = 39) → gI M1 b j = gI M b j := fun b j q => by rw [← hM1, gI_ne _ _ _ _ _ _ q]
          refine k_Mo_ruleAt (by omega) (by omega) (by rw [hR1.now]; omega) (fun _ _ => ⟨by rw [hR1.now]; omega, ?_⟩)
          rw [show (8 * (m : Int) + mnow M1 m k).toNat = rlA M0 m k by rw [hR1.now]; unfold rlA; omega, hR1.2 540 _ (by omega) (by omega)]
          refine go_enter (dp := dp) hW1 (by omega) (by rw [nx _ _ (by omega)]; exact s45) (by omega) (fun k2 => ?_) (fun k2 => ?_)
          · rw [bdN_fr hR1, hR1.no] at k2
            rw [if_pos k2] at q5
            refine err _ hF1 ?_
            rw [n39, nx _ _ (by omega), s40]
            exact q5 rfl
          · rw [bdN_fr hR1, hR1.no] at k2
            rw [if_neg k2] at q5 qv
            rw [hR1.no]
            obtain ⟨n, en, hn, _⟩ := noM_at h k2
            rw [en, Int.toNat_natCast] at q5 qv
            rw [en]
            generalize hM3 : sI (sI (sI M1 560 dp (n : Int)) 561 dp 0) 530 45 ((dp : Int) + 1) = M3
            have nz : ∀ b j, ¬ (b = 530 ∧ j = 45) → ¬ (b = 560 ∧ j = dp) → ¬ (b = 561 ∧ j = dp) → gI M3 b j = gI M1 b j := fun b j q1 q2 q3 => by rw [← hM3, gI_ne _ _ _ _ _ _ q1, gI_ne _ _ _ _ _ _ q3, gI_ne _ _ _ _ _ _ q2]
            have hF3 : FrI scM M0 M3 := hM3 ▸ hF1.tr (FrI.tr (FrI.tr (FrI.st (Or.inr ⟨by omega, by omega⟩)) (FrI.st (Or.inr ⟨by omega, by omega⟩))) (FrI.st (Or.inl ⟨rfl, by omega⟩)))
            have ok := evR_ok h o a l f n 0 (lk + 1) em hn (h.2 n hn).2.1.1 (by omega) (by omega) he0 he1
            refine ih (dp + 1) n 0 (lk + 1) em M3 ⟨hF3, ?_, ?_, ?_, ?_, ?_, ?_⟩ ?_ ?_ hn (h.2 n hn).2.1.1 (by omega) (by omega) (by omega) (by omega) (by omega) he0 he1 (fun z => by omega) (fun h5 => ?_) (fun h5 M' hS' hK' _ hD' => ?_)
            · rw [nz _ _ (by omega) (by omega) (by omega), nx _ _ (by omega)]; exact s36
            · rw [nz _ _ (by omega) (by omega) (by omega), nx _ _ (by omega)]; exact s37
            · rw [nz _ _ (by omega) (by omega) (by omega), nx _ _ (by omega)]; exact s38
            · rw [nz _ _ (by omega) (by omega) (by omega)]; exact n39
            · rw [nz _ _ (by omega) (by omega) (by omega), nx _ _ (by omega)]; exact s40
            · rw [← hM3, gI_same]; rfl
            · rw [← hM3, Nat.add_sub_cancel, gI_ne _ _ _ _ _ _ (by omega), gI_ne _ _ _ _ _ _ (by omega), gI_same]
            · rw [← hM3, Nat.add_sub_cancel, gI_ne _ _ _ _ _ _ (by omega), gI_same]; rfl
            · rw [if_pos h5] at q5
              exact q5 rfl
            · rw [if_neg h5] at q5 qv
              have ok' := ok h5
              have hD' := hD' (by omega)
              obtain ⟨hF', t36, t37, t38, t39, t40, t45⟩ := id hS'
              rw [Nat.add_sub_cancel] at hK'
              have hst : ∀ i, i < dp → gI M' 560 i = gI M 560 i ∧ gI M' 561 i = gI M 561 i := fun i hi1 => by
                have u := hK' i hi1
                rw [nz _ _ (by omega) (by omega) (by omega), nx _ _ (by omega), nz _ _ (by omega) (by omega) (by omega), nx _ _ (by omega)] at u
                exact u
              have htop := hst (dp - 1) (by omega)
              have hDD : gI M' 530 41 = gI M 530 41 ∧ gI M' 530 42 = gI M 530 42 := by
                have u := hD'
                rw [nz _ _ (by omega) (by omega) (by omega), nx _ _ (by omega), nz _ _ (by omega) (by omega) (by omega), nx _ _ (by omega)] at u
                exact u
              generalize evR M0 o a l f n 0 (lk + 1) em = R at *
              have e45 : (gI M' 530 45 - 1 - 1).toNat = dp - 1 := by omega
              have e45' : gI M' 530 45 - 1 = dp := by omega
              refine b_Mo_goes_263 (by omega) (bf (by omega) ⟨by omega, bnt (by omega) ⟨by omega, ?_⟩⟩)
              rw [e45, htop.1, htop.2, em1, ek1, e45']
              have hS4 : MSt M0 (sI M' 530 45 (dp : Int)) o a l dp R.2.1 R.2.2.1 := by
                refine ⟨hF'.tr (FrI.st (Or.inl ⟨rfl, by omega⟩)), ?_, ?_, ?_, ?_, ?_, ?_⟩
                · rw [gI_ne _ _ _ _ _ _ (by omega)]; exact t36
                · rw [gI_ne _ _ _ _ _ _ (by omega)]; exact t37
                · rw [gI_ne _ _ _ _ _ _ (by omega)]; exact t38
                · rw [gI_ne _ _ _ _ _ _ (by omega)]; exact t39
                · rw [gI_ne _ _ _ _ _ _ (by omega)]; exact t40
                · rw [gI_same]
              have hK4 : SkE M (sI M' 530 45 (dp : Int)) (dp - 1) := fun i hi1 => by
                rw [gI_ne _ _ _ _ _ _ (by omega), gI_ne _ _ _ _ _ _ (by omega)]; exact hst i (by omega)
              have hD4 : gI (sI M' 530 45 (dp : Int)) 530 41 = gI M 530 41 ∧ gI (sI M' 530 45 (dp : Int)) 530 42 = gI M 530 42 := by
                rw [gI_ne _ _ _ _ _ _ (by omega), gI_ne _ _ _ _ _ _ (by omega)]; exact hDD
              refine ⟨fun k3 => ⟨by omega, ?_⟩, fun k3 => ?_⟩
              · rw [if_neg k3] at q5 qv
                exact adv _ R.2.1 R.2.2.1 hS4 hK4 (by rw [gI_ne _ _ _ _ _ _ (by omega), htop.1]; exact em1) hD4 (by omega) (by omega) (by omega) (by omega) q5 qv
              · rw [if_pos k3] at q5 qv
                exact hit _ R.2.1 R.2.2.1 hS4 hK4 hD4 (qv (by dsimp only; omega))
    · rw [if_pos c] at q5 qv
      refine ⟨fun c2 => ⟨by omega, ?_⟩, fun c2 => ?_⟩
      · rw [if_neg c2] at q5 qv
        refine k_Mo_looks (by rw [gI_ne _ _ _ _ _ _ (by omega)]; omega) (by rw [gI_ne _ _ _ _ _ _ (by omega)]; omega) (fun k1 _ _ => ?_) (fun k1 _ _ => ?_) <;> rw [gI_ne _ _ _ _ _ _ (by omega), s39] at k1 ⊢
        · refine bt rfl (k_Mo_error (fun _ _ => err _ (hF.tr (FrI.tr (FrI.st (Or.inl ⟨rfl, by omega⟩)) (FrI.st (Or.inl ⟨rfl, by omega⟩)))) ?_))
          rw [if_pos (by omega)] at q5
          rw [gI_same, gI_ne _ _ _ _ _ _ (by omega), gI_ne _ _ _ _ _ _ (by omega), s40]
          exact q5 rfl
        · refine bf (by omega) ?_
          rw [if_neg (by omega)] at q5 qv
          generalize hM1 : sI (sI M 530 45 (gI M 530 45 - 1)) 530 39 (lk + 1) = M1
          have hF1 : FrI scM M0 M1 := hM1 ▸ hF.tr (FrI.tr (FrI.st (Or.inl ⟨rfl, by omega⟩)) (FrI.st (Or.inl ⟨rfl, by omega⟩)))
          have hR1 := scM_rw hF1
          have hW1 := h.fr hR1
          have n39 : gI M1 530 39 = lk + 1 := by rw [← hM1, gI_same]
          have n45 : gI M1 530 45 = ((dp - 1 : Nat) : Int) := by rw [← hM1, gI_ne _ _ _ _ _ _ (by omega), gI_same]; omega
          have nx : ∀ b j, ¬ (b = 530 ∧ j = 39) → ¬ (b = 530 ∧ j = 45) → gI M1 b j = gI M b j := fun b j q q' => by rw [← hM1, gI_ne _ _ _ _ _ _ q, gI_ne _ _ _ _ _ _ q']
          rw [hR1.2 534 _ (by omega) (by omega)]
          refine go_enter (dp := dp - 1) hW1 (by omega) n45 (by omega) (fun k2 => ?_) (fun k2 => ?_)
          · rw [bdN_fr hR1, hR1.no] at k2
            rw [if_pos k2] at q5
            refine err _ hF1 ?_
            rw [n39, nx _ _ (by omega) (by omega), s40]
            exact q5 rfl
          · rw [bdN_fr hR1, hR1.no] at k2
            rw [if_neg k2] at q5 qv
            rw [hR1.no]
            obtain ⟨n, en, hn, _⟩ := noM_at h k2
            rw [en, Int.toNat_natCast] at q5 qv
            rw [en, show ((dp - 1 : Nat) : Int) + 1 = dp by omega]
            generalize hM3 : sI (sI (sI M1 560 (dp - 1) (n : Int)) 561 (dp - 1) 0) 530 45 (dp : Int) = M3
            have nz : ∀ b j, ¬ (b = 530 ∧ j = 45) → ¬ (b = 560 ∧ j = dp - 1) → ¬ (b = 561 ∧ j = dp - 1) → gI M3 b j = gI M1 b j := fun b j q1 q2 q3 => by rw [← hM3, gI_ne _ _ _ _ _ _ q1, gI_ne _ _ _ _ _ _ q3, gI_ne _ _ _ _ _ _ q2]
            have hF3 : FrI scM M0 M3 := hM3 ▸ hF1.tr (FrI.tr (FrI.tr (FrI.st (Or.inr ⟨by omega, by omega⟩)) (FrI.st (Or.inr ⟨by omega, by omega⟩))) (FrI.st (Or.inl ⟨rfl, by omega⟩)))
            refine ih dp n 0 (lk + 1) em M3 ⟨hF3, ?_, ?_, ?_, ?_, ?_, ?_⟩ ?_ ?_ hn (h.2 n hn).2.1.1 (by omega) hd1 (by omega) (by omega) (by omega) he0 he1 (fun z => ?_) q5 (fun h5 M' hS' hK' hA' hB' => qv h5 M' hS' (fun i hi1 => ?_) hA' (fun z => ?_))
            · rw [nz _ _ (by omega) (by omega) (by omega), nx _ _ (by omega) (by omega)]; exact s36
            · rw [nz _ _ (by omega) (by omega) (by omega), nx _ _ (by omega) (by omega)]; exact s37
            · rw [nz _ _ (by omega) (by omega) (by omega), nx _ _ (by omega) (by omega)]; exact s38
            · rw [nz _ _ (by omega) (by omega) (by omega)]; exact n39
            · rw [nz _ _ (by omega) (by omega) (by omega), nx _ _ (by omega) (by omega)]; exact s40
            · rw [← hM3, gI_same]
            · rw [← hM3, gI_ne _ _ _ _ _ _ (by omega), gI_ne _ _ _ _ _ _ (by omega), gI_same]
            · rw [← hM3, gI_ne _ _ _ _ _ _ (by omega), gI_same]; rfl
            · rw [nz _ _ (by omega) (by omega) (by omega), nx _ _ (by omega) (by omega), nz _ _ (by omega) (by omega) (by omega), nx _ _ (by omega) (by omega)]; exact hdec z
            · have u := hK' i hi1
              rw [nz _ _ (by omega) (by omega) (by omega), nx _ _ (by omega) (by omega), nz _ _ (by omega) (by omega) (by omega), nx _ _ (by omega) (by omega)] at u
              exact u
            · have u := hB' z
              rw [nz _ _ (by omega) (by omega) (by omega), nx _ _ (by omega) (by omega), nz _ _ (by omega) (by omega) (by omega), nx _ _ (by omega) (by omega)] at u
              exact u
      · rw [if_pos c2] at q5 qv
        refine qv (by simp) M hS (fun i _ => ⟨rfl, rfl⟩) (fun e => hdec e) (fun _ => ⟨rfl, rfl⟩)
end GO
