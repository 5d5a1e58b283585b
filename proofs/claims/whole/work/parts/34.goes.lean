/-! ===== the model's check ===== -/
def scM (a k : Nat) : Prop := (a = 530 ∧ 36 ≤ k) ∨ (560 ≤ a ∧ a ≤ 562)
theorem scM_rw {M M' : Mem} (h : FrI scM M M') : RwE M M' := ⟨h.i (by unfold scM; omega), fun a k x y => h.i (by unfold scM; omega)⟩
theorem mFt_sc {M M' : Mem} (h : FrI mFt M M') : FrI scM M M' := h.mono (fun a k q => by unfold mFt at q; unfold scM; omega)
/-- what the model holds between two rules: the check's name, address, letter, its counts, its depth -/
def MSt (M0 M : Mem) (o : Nat) (a l : Int) (dp : Nat) (lk em : Int) : Prop := FrI scM M0 M ∧ gI M 530 36 = o ∧ gI M 530 37 = a ∧ gI M 530 38 = l ∧ gI M 530 39 = lk ∧ gI M 530 40 = em ∧ gI M 530 45 = dp
/-- the stack below d names is the same -/
def SkE (M M' : Mem) (d : Nat) : Prop := ∀ i, i < d → gI M' 560 i = gI M 560 i ∧ gI M' 561 i = gI M 561 i
section GO
variable {g : Ctx} {M : Mem}
theorem k_Mo_ends {Q : Int → Mem → Prop} {m k dp : Nat} (h : MWf M) (hm : (m : Int) < gI M 530 2) (hk : (k : Int) < gI M 533 m) (hd : gI M 530 45 = dp) (q1 : dp ≠ 1 → Q (sgA M m k) M) (q2 : dp = 1 → Q (sgA M m k) (sI (sI M 530 41 m) 530 42 k)) : K_Mo_ends g m k M Q := by
  have h12 := h.1
  have hj := h.2 m hm
  have hi := hj.2.2.2.2.2.2 k hk
  have ii : ∀ x : Int, InR x → InR x := fun _ q => q
  refine i_Mo_ends (b_Mo_ends_0 (by omega) (by omega) ⟨fun c => ?_, fun c => ?_⟩)
  · exact k_Mo_signAt (by omega) (by omega) (by omega) (fun _ _ => k_Mo_answerOf hi.2.1 (fun _ _ => q1 (by omega)))
  · have e : RwE M (sI (sI M 530 41 m) 530 42 k) := scM_rw (FrI.tr (FrI.st (Or.inl ⟨rfl, by omega⟩)) (FrI.st (Or.inl ⟨rfl, by omega⟩)))
    refine k_Mo_signAt (by omega) (by omega) (by rw [e.now]; omega) (fun _ _ => ?_)
    rw [e.now, e.now]
    exact k_Mo_answerOf hi.2.1 (fun _ _ => q2 (by omega))
theorem k_Mo_enters {Q : Int → Mem → Prop} {v : Int} {dp : Nat} (h : MWf M) (hv : v = -4 ∨ (0 ≤ v ∧ v < gI M 530 2)) (hd : gI M 530 45 = dp) (hdp : dp < 12) (q0 : bdN M v = true → Q 0 M) (q1 : bdN M v ≠ true → Q 1 (sI (sI (sI M 560 dp v) 561 dp 0) 530 45 ((dp : Int) + 1))) : K_Mo_enters g v M Q := by
  have h12 := h.1
  rw [Ne, bdN_iff] at q1
  rw [bdN_iff] at q0
  refine i_Mo_enters (b_Mo_enters_0 (by omega) ⟨fun c => q0 (Or.inl c), fun c => ⟨by omega, fun c2 => ⟨by omega, by omega, ?_⟩, fun c2 => q0 (Or.inr c2)⟩⟩)
  rw [hd, Int.toNat_natCast]
  exact q1 (by omega)
theorem go_enter {Q : Int → Mem → Prop} {v : Int} {dp : Nat} (h : MWf M) (hv : InR v) (hd : gI M 530 45 = dp) (hdp : dp < 12) (q5 : bdN M (noM M v) = true → Q 5 (sI (sI M 530 41 (-4)) 530 42 (-4))) (q1 : bdN M (noM M v) ≠ true → P_Mo_goes g 52 [(0, vr g 530)] [] (sI (sI (sI M 560 dp (noM M v)) 561 dp 0) 530 45 ((dp : Int) + 1)) Q) :
    K_Mo_numberOf g v M (fun r28 M29 => InR r28 → WT M29 → K_Mo_enters g r28 M29 (fun r30 M31 => (r30 = 0 ∨ r30 = 1) → WT M31 → (((¬ r30 = 0) → P_Mo_goes g 263 [(0, vr g 530), (7, vi ((-4)))] [] M31 Q) ∧ ((r30 = 0) → K_Mo_error g M31 (fun r33 M34 => InR r33 → WT M34 → Q r33 M34))))) := by
  refine kM_no h hv (fun _ _ => k_Mo_enters h (noM_rng h v) hd hdp (fun c _ _ => bnf rfl (k_Mo_error (fun _ _ => q5 c))) (fun c _ _ => bnt (by omega) ?_))
  exact b_Mo_goes_263 (by omega) (bt rfl (q1 c))
theorem go_enter2 {Q : Int → Mem → Prop} {v : Int} {dp : Nat} (h : MWf M) (hv : InR v) (hd : gI M 530 45 = dp) (hdp : dp < 12) (q5 : bdN M (noM M v) = true → Q 5 (sI (sI M 530 41 (-4)) 530 42 (-4))) (q1 : bdN M (noM M v) ≠ true → P_Mo_goes g 52 [(0, vr g 530)] [] (sI (sI (sI M 560 dp (noM M v)) 561 dp 0) 530 45 ((dp : Int) + 1)) Q) : K_Mo_numberOf g v M (fun r28 M29 => InR r28 → WT M29 → K_Mo_enters g r28 M29 (fun r30 M31 => (r30 = 0 ∨ r30 = 1) → WT M31 → (((¬ r30 = 0) → P_Mo_goes g 263 [(0, vr g 530), (7, vi ((-4)))] [] M31 Q) ∧ ((r30 = 0) → K_Mo_error g M31 (fun r33 M34 => InR r33 → WT M34 → Q r33 M34))))) := go_enter h hv hd hdp q5 q1
theorem mo_go {M0 : Mem} {Q : Int → Mem → Prop} {o : Nat} {a l : Int} (h : MWf M0) (ho : (o : Int) < gI M0 530 2) (ha : 0 ≤ a ∧ a < 256) (hl : 0 ≤ l ∧ l ≤ 15) :
    ∀ (f dp m k : Nat) (lk em : Int) (M : Mem), MSt M0 M o a l dp lk em → gI M 560 (dp - 1) = m → gI M 561 (dp - 1) = k → (m : Int) < gI M0 530 2 → (k : Int) ≤ gI M0 533 m → 9 * (11 - lk) + (9 - (k : Int)) ≤ f → 1 ≤ dp → (dp : Int) ≤ lk + 1 → 0 ≤ lk → lk ≤ 10 → 0 ≤ em → em ≤ 2 → (dp = 1 → gI M 530 41 = -4 ∧ gI M 530 42 = -4) →
      ((evR M0 o a l f m k lk em).1 = 5 → ∀ M' : Mem, FrI scM M0 M' → gI M' 530 39 = (evR M0 o a l f m k lk em).2.1 → gI M' 530 40 = (evR M0 o a l f m k lk em).2.2.1 → gI M' 530 41 = -4 → gI M' 530 42 = -4 → Q 5 M') →
      ((evR M0 o a l f m k lk em).1 ≠ 5 → ∀ M' : Mem, MSt M0 M' o a l dp (evR M0 o a l f m k lk em).2.1 (evR M0 o a l f m k lk em).2.2.1 → SkE M M' (dp - 1) → (dp = 1 → gI M' 530 41 = (evR M0 o a l f m k lk em).2.2.2.1 ∧ gI M' 530 42 = (evR M0 o a l f m k lk em).2.2.2.2) → (dp ≠ 1 → gI M' 530 41 = gI M 530 41 ∧ gI M' 530 42 = gI M 530 42) → P_Mo_goes g 263 [(0, vr g 530), (7, vi (evR M0 o a l f m k lk em).1)] [] M' Q) →
      P_Mo_goes g 52 [(0, vr g 530)] [] M Q := by
  intro f
  induction f with
  | zero => intro dp m k lk em M _ _ _ hm hk hf hd1 hd hl0 hl1; have := (h.2 m hm).2.1; omega
  | succ f ih =>
    intro dp m k lk em M hS em1 ek1 hm hk hf hd1 hd hl0 hl1 he0 he1 hdec
    have hj := h.2 m hm
    have h12 := h.1
    obtain ⟨hF, s36, s37, s38, s39, s40, s45⟩ := id hS
    have hR := scM_rw hF
    have hW := h.fr hR
    have et : (gI M 530 45 - 1).toNat = dp - 1 := by omega
    have x33 : ∀ i, gI M 533 i = gI M0 533 i := fun i => hR.2 _ _ (by omega) (by omega)
    have x34 : ∀ i, gI M 534 i = gI M0 534 i := fun i => hR.2 _ _ (by omega) (by omega)
    have x37 : ∀ i, gI M 537 i = gI M0 537 i := fun i => hR.2 _ _ (by omega) (by omega)
    have x40 : ∀ i, gI M 540 i = gI M0 540 i := fun i => hR.2 _ _ (by omega) (by omega)
    intro q5 qv
    unfold evR at q5 qv
    refine b_Mo_goes_52 ?_
    rw [et, em1, ek1, Int.toNat_natCast, x33, x34]
    refine ⟨by omega, by omega, fun c => ?_, fun c => ?_⟩
    · rw [if_neg c] at q5 qv
      have hk' : (k : Int) < gI M0 533 m := by omega
      have hi := hj.2.2.2.2.2.2 k hk'
      sorry
    · rw [if_pos c] at q5 qv
      refine ⟨fun c2 => ⟨by omega, ?_⟩, fun c2 => ?_⟩
      · rw [if_neg c2] at q5 qv
        sorry
      · rw [if_pos c2] at q5 qv
        refine qv (by simp) M hS (fun i _ => ⟨rfl, rfl⟩) (fun e => hdec e) (fun _ => ⟨rfl, rfl⟩)
end GO
