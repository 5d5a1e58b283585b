/-! ===== the model reads: names, numbers, parts, macros ===== -/
def mAt (a k : Nat) : Prop := a = 530 ∧ k = 32
def mV (a k : Nat) : Prop := a = 530 ∧ (k = 32 ∨ k = 33)
theorem mAt_V {M M' : Mem} (h : FrI mAt M M') : FrI mV M M' := h.mono (fun a k q => ⟨q.1, Or.inl q.2⟩)
def TxM (M : Mem) (t : Nat → Int) (L : Nat) : Prop := gI M 530 0 = (L : Nat) ∧ ∀ p, p < L → gI M 531 p = t p
theorem TxM.fr {S : Nat → Nat → Prop} {M M' : Mem} {t : Nat → Int} {L : Nat} (h : TxM M t L) (hF : FrI S M M') (h0 : ¬ S 530 0) (h1 : ∀ k, ¬ S 531 k) : TxM M' t L := ⟨by rw [hF.i h0]; exact h.1, fun p hp => by rw [hF.i (h1 p)]; exact h.2 p hp⟩
theorem TxM.v {M M' : Mem} {t : Nat → Int} {L : Nat} (h : TxM M t L) (hF : FrI mV M M') : TxM M' t L := h.fr hF (by unfold mV; omega) (fun k => by unfold mV; omega)
section MR
variable {g : Ctx} {M : Mem} {t : Nat → Int} {L p : Nat}
theorem k_Mo_nx {Q : Int → Mem → Prop} (hT : TxT t L) (hM : TxM M t L) (hp : gI M 530 32 = (p : Nat)) (q : Q (t p) M) : K_Mo_next g M Q := by
  refine i_Mo_next (b_Mo_next_0 ?_)
  rw [hp, hM.1, Int.toNat_natCast]
  have := hT.1
  refine ⟨fun c => ?_, fun c => ⟨by omega, ?_⟩⟩
  · rw [hT.2.2 p (by omega)] at q; exact q
  · rw [hM.2 p (by omega)]; exact q
theorem k_Mo_cm {Q : Int → Mem → Prop} {x : Int} (hx : InR x) (hT : TxT t L) (hM : TxM M t L) (hp : gI M 530 32 = (p : Nat)) (hb : p ≤ 1000) (q1 : t p = x → ∀ M' : Mem, FrI mAt M M' → gI M' 530 32 = ((p + 1 : Nat) : Int) → Q 1 M') (q0 : t p ≠ x → ∀ M' : Mem, FrI mAt M M' → gI M' 530 32 = (p : Int) → Q 0 M') : K_Mo_comes g x M Q := by
  refine i_Mo_comes (b_Mo_comes_0 hx (k_Mo_nx hT hM hp (fun _ _ => ⟨fun c => ⟨by omega, q0 c _ (FrI.st ⟨rfl, rfl⟩) ?_⟩, fun c => ⟨by omega, q1 c _ (FrI.st ⟨rfl, rfl⟩) ?_⟩⟩)))
  · rw [gI_same]; omega
  · rw [gI_same]; omega
theorem k_Mo_rn {Q : Int → Mem → Prop} (hT : TxT t L) (hM : TxM M t L) (hp : gI M 530 32 = (p : Nat)) (hb : p ≤ 1000) (q1 : ∀ r, nameP t p = some r → ∀ M' : Mem, FrI mV M M' → gI M' 530 32 = (r.2 : Nat) → gI M' 530 33 = r.1 → Q 1 M') (q0 : nameP t p = none → ∀ M' : Mem, FrI mV M M' → Q 0 M') : K_Mo_readsName g M Q := by
  have sp := cntL_spec t 8 p
  have e8 : namL t p = cntL t 8 p := rfl
  rw [← e8] at sp
  have fin : ∀ M1 : Mem, FrI mV M M1 → gI M1 530 32 = ((p + namL t p : Nat) : Int) → gI M1 530 33 = enc7 7 (lsR t p (namL t p)) → K_Mo_isIn g (namL t p : Nat) 1 7 M1 (fun r6 M7 => (r6 = 0 ∨ r6 = 1) → WT M7 → Q r6 M7) := by
    intro M1 hF h2 h3
    refine k_Mo_isIn (by omega) (by omega) (by omega) (fun a b _ _ => q1 (enc7 7 (lsR t p (namL t p)), p + namL t p) (by unfold nameP; rw [if_pos (by omega)]) M1 hF h2 h3) (fun a _ _ => q0 (by unfold nameP; rw [if_neg (by omega)]) M1 hF)
  have loop : ∀ (w i : Nat) (M1 : Mem), i + w = namL t p → FrI mV M M1 → gI M1 530 32 = ((p + i : Nat) : Int) → gI M1 530 33 = enc7 7 (lsR t p i) → P_Mo_readsName g 7 [(0, vr g 530), (1, vi (i : Int))] [] M1 Q := by
    intro w
    induction w with
    | zero =>
      intro i M1 hi hF h2 h3
      have hi' : i = namL t p := by omega
      subst hi'
      have hM1 := hM.v hF
      have tr := hT.rng (p + namL t p)
      refine b_Mo_readsName_7 (by omega) (k_Mo_nx hT hM1 h2 (fun _ _ => k_Mo_isIn (by omega) (by omega) (by omega) (fun a b _ _ => bz1 ⟨fun c => fin M1 hF h2 h3, fun c => ?_⟩) (fun a _ _ => bz0 (fin M1 hF h2 h3))))
      exact absurd ⟨a, b⟩ (sp.2.2 (by omega))
    | succ w ih =>
      intro i M1 hi hF h2 h3
      have hM1 := hM.v hF
      have li := sp.2.1 i (by omega)
      have ok := lsR_ok (t := t) (p := p) (n := i) (fun j hj => sp.2.1 j (by omega))
      have eb := enc7_bd 7 (lsR t p i) ok
      have eb2 : enc7 7 (lsR t p i) < 410338673 := by simpa using eb.2
      refine b_Mo_readsName_7 (by omega) (k_Mo_nx hT hM1 h2 (fun _ _ => k_Mo_isIn (by omega) (by omega) (by omega) (fun a b _ _ => bz1 ⟨fun c => by omega, fun c => k_Mo_nx hT hM1 h2 (fun _ _ => ?_)⟩) (fun a _ _ => by omega)))
      rw [h3]
      refine k_Mo_longer eb.1 eb2 (by omega) (by omega) (fun _ _ => ⟨by omega, ?_⟩)
      refine ih (i + 1) _ (by omega) (hF.tr (FrI.tr (FrI.st ⟨rfl, Or.inr rfl⟩) (FrI.st ⟨rfl, Or.inl rfl⟩))) ?_ ?_
      · rw [gI_same, h2]; omega
      · rw [gI_ne _ _ _ _ _ _ (by omega), gI_same, enc7_shift _ _ ok]; rfl
  refine i_Mo_readsName (b_Mo_readsName_0 (loop (namL t p) 0 _ (by omega) (FrI.st ⟨rfl, Or.inr rfl⟩) ?_ ?_))
  · rw [gI_ne _ _ _ _ _ _ (by omega)]; exact hp
  · rw [gI_same]; rfl
theorem k_Mo_nm {Q : Int → Mem → Prop} {hi : Int} (hh : InR hi) (hT : TxT t L) (hM : TxM M t L) (hp : gI M 530 32 = (p : Nat)) (hb : p ≤ 1000) (q1 : ∀ r, numP t hi p = some r → ∀ M' : Mem, FrI mV M M' → gI M' 530 32 = (r.2 : Nat) → gI M' 530 33 = r.1 → Q 1 M') (q0 : numP t hi p = none → ∀ M' : Mem, FrI mV M M' → Q 0 M') : K_Mo_number g hi M Q := by
  have sp := cntD_spec t 3 p
  have fin : ∀ M1 : Mem, FrI mV M M1 → gI M1 530 32 = ((p + cntD t 3 p : Nat) : Int) → gI M1 530 33 = valD t p (cntD t 3 p) → ((((cntD t 3 p : Nat) : Int) ≤ 0) → Q 0 M1) ∧ ((¬ (((cntD t 3 p : Nat) : Int) ≤ 0)) → (((hi < (gI M1 530 33)) → Q 0 M1) ∧ ((¬ (hi < (gI M1 530 33))) → Q 1 M1))) := by
    intro M1 hF h2 h3
    refine ⟨fun c => q0 (by unfold numP; rw [if_neg (by omega)]) M1 hF, fun c => ⟨fun c2 => ?_, fun c2 => ?_⟩⟩
    · rw [h3] at c2
      exact q0 (by unfold numP; rw [if_neg (by omega)]) M1 hF
    · rw [h3] at c2
      exact q1 (valD t p (cntD t 3 p), p + cntD t 3 p) (by unfold numP; rw [if_pos (by omega)]) M1 hF h2 h3
  have loop : ∀ (w i : Nat) (M1 : Mem), i + w = cntD t 3 p → FrI mV M M1 → gI M1 530 32 = ((p + i : Nat) : Int) → gI M1 530 33 = valD t p i → P_Mo_number g 7 [(0, vr g 530), (1, vi hi), (2, vi (i : Int))] [] M1 Q := by
    intro w
    induction w with
    | zero =>
      intro i M1 hi hF h2 h3
      have hi' : i = cntD t 3 p := by omega
      subst hi'
      have hM1 := hM.v hF
      have tr := hT.rng (p + cntD t 3 p)
      refine b_Mo_number_7 hh (by omega) (k_Mo_nx hT hM1 h2 (fun _ _ => k_Mo_isIn (by omega) (by omega) (by omega) (fun a b _ _ => bz1 ⟨fun c => fin M1 hF h2 h3, fun c => ?_⟩) (fun a _ _ => bz0 (fin M1 hF h2 h3))))
      exact absurd ⟨a, b⟩ (sp.2.2 (by omega))
    | succ w ih =>
      intro i M1 hi hF h2 h3
      have hM1 := hM.v hF
      have li := sp.2.1 i (by omega)
      have vb := valD_bd (t := t) (p := p) (n := i) (by omega) (fun j hj => sp.2.1 j (by omega))
      refine b_Mo_number_7 hh (by omega) (k_Mo_nx hT hM1 h2 (fun _ _ => k_Mo_isIn (by omega) (by omega) (by omega) (fun a b _ _ => bz1 ⟨fun c => by omega, fun c => k_Mo_nx hT hM1 h2 (fun _ _ => ?_)⟩) (fun a _ _ => by omega)))
      rw [h3]
      refine ⟨by omega, by omega, ?_⟩
      refine ih (i + 1) _ (by omega) (hF.tr (FrI.tr (FrI.st ⟨rfl, Or.inr rfl⟩) (FrI.st ⟨rfl, Or.inl rfl⟩))) ?_ ?_
      · rw [gI_same, h2]; omega
      · rw [gI_ne _ _ _ _ _ _ (by omega), gI_same]; rfl
  refine i_Mo_number (b_Mo_number_0 hh (loop (cntD t 3 p) 0 _ (by omega) (FrI.st ⟨rfl, Or.inr rfl⟩) ?_ ?_))
  · rw [gI_ne _ _ _ _ _ _ (by omega)]; exact hp
  · rw [gI_same]; rfl
theorem k_Mo_sortOf {Q : Int → Mem → Prop} {x : Int} (hx : InR x) (q : Q (srtV x) M) : K_Mo_sortOf g x M Q := by
  unfold srtV at q
  refine i_Mo_sortOf (b_Mo_sortOf_0 hx ⟨fun c => ⟨fun c2 => ⟨fun c3 => ⟨fun c4 => ?_, fun c4 => ?_⟩, fun c3 => ?_⟩, fun c2 => ?_⟩, fun c => ?_⟩)
  · rw [if_neg c, if_neg c2, if_neg c3, if_neg c4] at q; exact q
  · rw [if_neg c, if_neg c2, if_neg c3, if_pos c4] at q; exact q
  · rw [if_neg c, if_neg c2, if_pos c3] at q; exact q
  · rw [if_neg c, if_pos c2] at q; exact q
  · rw [if_pos c] at q; exact q
theorem k_Mo_signOf {Q : Int → Mem → Prop} {x : Int} (hx : InR x) (q : Q (sgnV x) M) : K_Mo_signOf g x M Q := by
  unfold sgnV at q
  refine i_Mo_signOf (b_Mo_signOf_0 hx ⟨fun c => ⟨fun c2 => ⟨fun c3 => ⟨fun c4 => ?_, fun c4 => ?_⟩, fun c3 => ?_⟩, fun c2 => ?_⟩, fun c => ?_⟩)
  · rw [if_neg c, if_neg c2, if_neg c3, if_neg c4] at q; exact q
  · rw [if_neg c, if_neg c2, if_neg c3, if_pos c4] at q; exact q
  · rw [if_neg c, if_neg c2, if_pos c3] at q; exact q
  · rw [if_neg c, if_pos c2] at q; exact q
  · rw [if_pos c] at q; exact q
/-- behind the % and the minus sign: the figure, the sort -/
theorem mo_fig {Q : Int → Mem → Prop} {v : Int} {k : Nat} {m : Nat} (hT : TxT t L) (hb : k ≤ 1000) (hm : m ≤ 1) (hk : k = p + minV t p) (em : minV t p = m) (hv : v = 16 + 4 * (m : Int)) {M1 : Mem} (hF : FrI mV M M1) (hM1 : TxM M1 t L) (h2 : gI M1 530 32 = (k : Nat)) (h3 : gI M1 530 33 = v) (q1 : ∀ r, prtQ t p = some r → ∀ M' : Mem, FrI mV M M' → gI M' 530 32 = (r.2 : Nat) → gI M' 530 33 = r.1 → Q 1 M') (q0 : prtQ t p = none → ∀ M' : Mem, FrI mV M M' → Q 0 M') :
    K_Mo_next g M1 (fun r14 M15 => InR r14 → WT M15 → K_Mo_isIn g r14 49 55 M15 (fun r16 M17 => (r16 = 0 ∨ r16 = 1) → WT M17 → (((r16 = 0) → K_Mo_next g M17 (fun r19 M20 => InR r19 → WT M20 → K_Mo_sortOf g r19 M20 (fun r21 M22 => InR r21 → WT M22 → (InR ((gI M22 530 32) + 1)) ∧ (InR ((gI M22 530 33) + r21)) ∧ (((r21 = (-4)) → Q 0 (sI (sI M22 530 32 ((gI M22 530 32) + 1)) 530 33 ((gI M22 530 33) + r21))) ∧ ((¬ (r21 = (-4))) → Q 1 (sI (sI M22 530 32 ((gI M22 530 32) + 1)) 530 33 ((gI M22 530 33) + r21))))))) ∧ ((¬ (r16 = 0)) → K_Mo_next g M17 (fun r29 M30 => InR r29 → WT M30 → (InR ((gI M17 530 33) + (8 * (r29 - 48)))) ∧ (InR ((gI M30 530 32) + 1)) ∧ K_Mo_next g (sI (sI M30 530 33 ((gI M17 530 33) + (8 * (r29 - 48)))) 530 32 ((gI M30 530 32) + 1)) (fun r36 M37 => InR r36 → WT M37 → K_Mo_sortOf g r36 M37 (fun r38 M39 => InR r38 → WT M39 → (InR ((gI M39 530 32) + 1)) ∧ (InR ((gI M39 530 33) + r38)) ∧ (((r38 = (-4)) → Q 0 (sI (sI M39 530 32 ((gI M39 530 32) + 1)) 530 33 ((gI M39 530 33) + r38))) ∧ ((¬ (r38 = (-4))) → Q 1 (sI (sI M39 530 32 ((gI M39 530 32) + 1)) 530 33 ((gI M39 530 33) + r38))))))))))) := by
  have tr := hT.rng k
  subst hk
  have last : ∀ (M2 : Mem) (j : Nat) (u : Int), FrI mV M M2 → TxM M2 t L → gI M2 530 32 = (j : Nat) → gI M2 530 33 = u → 0 ≤ u → u ≤ 1000 → j = p + minV t p + fgN t (p + minV t p) → u = 16 + 4 * (minV t p : Int) + 8 * fgV t (p + minV t p) → K_Mo_next g M2 (fun r19 M20 => InR r19 → WT M20 → K_Mo_sortOf g r19 M20 (fun r21 M22 => InR r21 → WT M22 → (InR ((gI M22 530 32) + 1)) ∧ (InR ((gI M22 530 33) + r21)) ∧ (((r21 = (-4)) → Q 0 (sI (sI M22 530 32 ((gI M22 530 32) + 1)) 530 33 ((gI M22 530 33) + r21))) ∧ ((¬ (r21 = (-4))) → Q 1 (sI (sI M22 530 32 ((gI M22 530 32) + 1)) 530 33 ((gI M22 530 33) + r21)))))) := by
    intro M2 j u hF2 hM2 g2 g3 u0 u1 ej eu
    have tj := hT.rng j
    have sr := srtV_rng (t j)
    have fn : fgN t (p + minV t p) ≤ 1 := by unfold fgN; split <;> omega
    refine k_Mo_nx hT hM2 g2 (fun _ _ => k_Mo_sortOf (by omega) (fun _ _ => ⟨by omega, by omega, fun c => q0 ?_ _ ?_, fun c => q1 (u + srtV (t j), j + 1) ?_ _ ?_ ?_ ?_⟩))
    · unfold prtQ; rw [← ej, if_pos c]
    · exact hF2.tr (FrI.tr (FrI.st ⟨rfl, Or.inl rfl⟩) (FrI.st ⟨rfl, Or.inr rfl⟩))
    · unfold prtQ; rw [← ej, if_neg c, ← eu]
    · exact hF2.tr (FrI.tr (FrI.st ⟨rfl, Or.inl rfl⟩) (FrI.st ⟨rfl, Or.inr rfl⟩))
    · rw [gI_ne _ _ _ _ _ _ (by omega), gI_same, g2]; rfl
    · rw [gI_same, g3]
  refine k_Mo_nx hT hM1 h2 (fun _ _ => k_Mo_isIn (by omega) (by omega) (by omega) (fun a b _ _ => bz1 (k_Mo_nx hT hM1 h2 (fun _ _ => ?_))) (fun a _ _ => bz0 (last M1 _ v hF hM1 h2 h3 (by omega) (by omega) ?_ ?_)))
  · rw [h2, h3]
    refine ⟨by omega, by omega, last _ (p + minV t p + 1) (v + 8 * (t (p + minV t p) - 48)) (hF.tr (FrI.tr (FrI.st ⟨rfl, Or.inr rfl⟩) (FrI.st ⟨rfl, Or.inl rfl⟩))) (hM1.v (FrI.tr (FrI.st ⟨rfl, Or.inr rfl⟩) (FrI.st ⟨rfl, Or.inl rfl⟩))) ?_ ?_ (by omega) (by omega) ?_ ?_⟩
    · rw [gI_same]; rfl
    · rw [gI_ne _ _ _ _ _ _ (by omega), gI_same]
    · unfold fgN; rw [if_pos ⟨a, b⟩]
    · unfold fgV; rw [if_pos ⟨a, b⟩]; omega
  · unfold fgN; rw [if_neg (by omega)]; omega
  · unfold fgV; rw [if_neg (by omega)]; omega
theorem k_Mo_rp {Q : Int → Mem → Prop} (hT : TxT t L) (hM : TxM M t L) (hp : gI M 530 32 = (p : Nat)) (hb : p ≤ 300) (q1 : ∀ r, prtP t p = some r → ∀ M' : Mem, FrI mV M M' → gI M' 530 32 = (r.2 : Nat) → gI M' 530 33 = r.1 → Q 1 M') (q0 : prtP t p = none → ∀ M' : Mem, FrI mV M M' → Q 0 M') : K_Mo_readsPart g M Q := by
  have tr := hT.rng p
  refine i_Mo_readsPart (b_Mo_readsPart_0 (k_Mo_nx hT hM hp (fun _ _ => k_Mo_isIn (by omega) (by omega) (by omega) (fun a b _ _ => bz1 (k_Mo_nx hT hM hp (fun _ _ => ⟨by omega, by omega, ?_⟩))) (fun a _ _ => bz0 (k_Mo_cm (by omega) hT hM hp (by omega) (fun e M1 hF1 h1 _ _ => bnt (by decide) ?_) (fun e M1 hF1 h1 _ _ => bnf rfl ?_))))))
  · refine q1 (t p - 97, p + 1) (by unfold prtP; rw [if_pos ⟨a, b⟩]) _ (FrI.tr (FrI.st ⟨rfl, Or.inr rfl⟩) (FrI.st ⟨rfl, Or.inl rfl⟩)) ?_ ?_
    · rw [gI_same, hp]; rfl
    · rw [gI_ne _ _ _ _ _ _ (by omega), gI_same]
  · have ep : prtP t p = prtQ t (p + 1) := by unfold prtP; rw [if_neg (by omega), if_pos e]
    rw [ep] at q1 q0
    have hM1 := hM.v (mAt_V hF1)
    refine k_Mo_cm (by omega) hT hM1 h1 (by omega) (fun e2 M2 hF2 h2 _ _ => bf (by decide) ⟨by omega, ?_⟩) (fun e2 M2 hF2 h2 _ _ => bt rfl ⟨by omega, ?_⟩)
    · have em : minV t (p + 1) = 1 := by unfold minV; rw [if_pos e2]
      have hF3 : FrI mV M (sI M2 530 33 (16 + 4)) := (mAt_V (hF1.tr hF2)).tr (FrI.st ⟨rfl, Or.inr rfl⟩)
      exact mo_fig (M := M) (p := p + 1) (k := p + 1 + 1) (m := 1) hT (by omega) (by omega) (by omega) em (by decide) hF3 (hM.v hF3) (by rw [gI_ne _ _ _ _ _ _ (by omega)]; exact h2) (gI_same _ _ _ _) q1 q0
    · have em : minV t (p + 1) = 0 := by unfold minV; rw [if_neg e2]
      have hF3 : FrI mV M (sI M2 530 33 (16 + 0)) := (mAt_V (hF1.tr hF2)).tr (FrI.st ⟨rfl, Or.inr rfl⟩)
      exact mo_fig (M := M) (p := p + 1) (k := p + 1) (m := 0) hT (by omega) (by omega) (by omega) em (by decide) hF3 (hM.v hF3) (by rw [gI_ne _ _ _ _ _ _ (by omega)]; exact h2) (gI_same _ _ _ _) q1 q0
  · exact q0 (by unfold prtP; rw [if_neg (by omega), if_neg e]) M1 (mAt_V hF1)
end MR
