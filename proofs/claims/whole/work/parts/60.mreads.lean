/-! ===== the model reads an item, and all ===== -/
section MD
variable {g : Ctx} {M : Mem} {t : Nat → Int} {L : Nat}
theorem mo_end {Q : Int → Mem → Prop} {p : Nat} {M1 : Mem} (hT : TxT t L) (hM1 : TxM M1 t L) (hp : gI M1 530 32 = (p : Nat)) (hb : p ≤ 1000) (q1 : t p = 59 → ∀ M' : Mem, FrI mAt M1 M' → gI M' 530 32 = ((p + 1 : Nat) : Int) → Q 1 M') (q0 : t p ≠ 59 → ∀ M' : Mem, FrI mAt M1 M' → Q 0 M') : K_Mo_comes g 59 M1 (fun r20 M21 => (r20 = 0 ∨ r20 = 1) → WT M21 → (((r20 = 0) → Q 0 M21) ∧ ((¬ (r20 = 0)) → Q 1 M21))) :=
  k_Mo_cm (by omega) hT hM1 hp hb (fun e M' hF h _ _ => bz1 (q1 e M' hF h)) (fun e M' hF _ _ _ => bz0 (q0 e M' hF))
theorem mo_item {Q : Int → Mem → Prop} {ks : List Int} {P : Int → ReP} {p : Nat} (hT : TxT t L) (hM : TxM M t L) (hR : MRec M ks P) (hp : gI M 530 32 = (p : Nat)) (hpL : p < L) (hx : t p = 110 ∨ t p = 97 ∨ t p = 120)
    (q0 : (itmP t p = none ∨ ∃ r, itmP t p = some r ∧ r.1 ∉ ks ∧ ks.length = 12) → ∀ M' : Mem, FrI mRd M M' → Q 0 M')
    (q1 : ∀ r, itmP t p = some r → ¬ (r.1 ∉ ks ∧ ks.length = 12) → ∀ M' : Mem, FrI mRd M M' → gI M' 530 32 = (r.2.2 : Nat) → MRec M' (nxK ks r.1) (updR P r.1 (r.2.1 (curR ks P r.1))) → Q 1 M') :
    K_Mo_readsName g (sI M 530 32 ((p : Int) + 1)) (fun r6 M7 => (r6 = 0 ∨ r6 = 1) → WT M7 → (((r6 = 0) → Q 0 M7) ∧ ((¬ (r6 = 0)) → K_Mo_comes g 58 M7 (fun r9 M10 => (r9 = 0 ∨ r9 = 1) → WT M10 → (((¬ r9 = 0) → K_Mo_slotOf g (gI M10 530 33) M10 (fun r12 M13 => InR r12 → WT M13 → (((¬ r12 = (-4)) → (((¬ t p = 110) → (((¬ t p = 97) → K_Mo_exchangersOf g r12 M13 (fun r17 M18 => (r17 = 0 ∨ r17 = 1) → WT M18 → (((r17 = 0) → Q 0 M18) ∧ ((¬ (r17 = 0)) → K_Mo_comes g 59 M18 (fun r20 M21 => (r20 = 0 ∨ r20 = 1) → WT M21 → (((r20 = 0) → Q 0 M21) ∧ ((¬ (r20 = 0)) → Q 1 M21))))))) ∧ ((t p = 97) → K_Mo_hostsOf g r12 M13 (fun r23 M24 => (r23 = 0 ∨ r23 = 1) → WT M24 → (((r23 = 0) → Q 0 M24) ∧ ((¬ (r23 = 0)) → K_Mo_comes g 59 M24 (fun r26 M27 => (r26 = 0 ∨ r26 = 1) → WT M27 → (((r26 = 0) → Q 0 M27) ∧ ((¬ (r26 = 0)) → Q 1 M27))))))))) ∧ ((t p = 110) → K_Mo_rulesOf g r12 M13 (fun r29 M30 => (r29 = 0 ∨ r29 = 1) → WT M30 → (((r29 = 0) → Q 0 M30) ∧ ((¬ (r29 = 0)) → K_Mo_comes g 59 M30 (fun r32 M33 => (r32 = 0 ∨ r32 = 1) → WT M33 → (((r32 = 0) → Q 0 M33) ∧ ((¬ (r32 = 0)) → Q 1 M33))))))))) ∧ ((r12 = (-4)) → Q 0 M13)))) ∧ ((r9 = 0) → Q 0 M10)))))) := by
  have hL := hT.1
  have hFa : FrI mV M (sI M 530 32 ((p : Int) + 1)) := FrI.st ⟨rfl, Or.inl rfl⟩
  refine k_Mo_rn hT (hM.v hFa) (p := p + 1) (by rw [gI_same]; rfl) (by omega) (fun r hr M1 hF1 h2 h3 _ _ => bf (by decide) ?_) (fun hr M1 hF1 _ _ => bt rfl (q0 (Or.inl (itm_n hr)) M1 (mV_Rd (hFa.tr hF1))))
  have o := nameP_ok hT hr
  have hF1' := hFa.tr hF1
  refine k_Mo_cm (by omega) hT (hM.v hF1') h2 (by omega) (fun e M2 hF2 g2 _ _ => bnt (by decide) ?_) (fun e M2 hF2 g2 _ _ => bnf rfl (q0 (Or.inl (itm_k hr e)) M2 (mV_Rd (hF1'.tr (mAt_V hF2)))))
  have hF2' := hF1'.tr (mAt_V hF2)
  have hR2 := hR.v hF2'
  have e33 : gI M2 530 33 = r.1 := by rw [hF2.i (by unfold mAt; omega)]; exact h3
  rw [e33]
  have hlt := hT.in (p := r.2) (by omega)
  refine k_Mo_slotOf o.1 hR2 (fun hn h12 _ _ => bnf rfl (q0 ?_ M2 (mV_Rd hF2'))) (fun hok n M3 hF3 g3 hn hR3 _ _ => bnt (by omega) ?_)
  · cases hi : itmP t p with
    | none => exact Or.inl rfl
    | some s =>
      obtain ⟨e1, _⟩ := itm_c hr hi
      exact Or.inr ⟨s, rfl, by rw [e1]; exact hn, h12⟩
  have hF3' := (mV_Rd hF2').tr hF3
  have hM3 := hM.rd hF3'
  have hn12 : n < 12 := by have := at_lt hn; have := hR3.2.1; omega
  rw [g2] at g3
  have okcur : okRe (curR ks P r.1) := by
    have := (hR3.2.2.2 n r.1 hn).2.2.1
    rw [upd_at] at this
    exact this
  have row3 : RowM M3 n (curR ks P r.1) := by
    have := (hR3.2.2.2 n r.1 hn).2.2.2
    rw [upd_at] at this
    exact this
  -- what the body of an item leaves
  have fin : ∀ (u : (ReP → ReP) × Nat) (M4 : Mem), itmB t (t p) (r.2 + 1) = some u → FrI mRd M M4 → gI M4 530 32 = (u.2 : Nat) → MRec M4 (nxK ks r.1) (updR P r.1 (u.1 (curR ks P r.1))) → K_Mo_comes g 59 M4 (fun r20 M21 => (r20 = 0 ∨ r20 = 1) → WT M21 → (((r20 = 0) → Q 0 M21) ∧ ((¬ (r20 = 0)) → Q 1 M21))) := by
    intro u M4 hu hF4 g4 hR4
    have ou := itmB_ok hT hu
    refine mo_end hT (hM.rd hF4) g4 (by omega) (fun e5 M5 hF5 g5 => q1 _ (itm_s hr e hu e5) hok M5 (hF4.tr (mV_Rd (mAt_V hF5))) g5 (hR4.v (mAt_V hF5))) (fun e5 M5 hF5 => q0 (Or.inl (itm_e hr e hu e5)) M5 (hF4.tr (mV_Rd (mAt_V hF5))))
  refine ⟨fun c => ⟨fun c2 => ?_, fun c2 => ?_⟩, fun c => ?_⟩
  · have eb := itb_x (t := t) (p := r.2 + 1) (show t p = 120 by omega)
    refine k_Mo_exchangersOf hn12 hT hM3 (by omega) g3 (fun s hs M4 hF4 g4 hE _ _ => bf (by decide) ?_) (fun hs M4 hF4 _ _ => bt rfl (q0 (Or.inl (itm_b hr e (by rw [eb, hs]; rfl))) M4 (hF3'.tr (mEx_Rd hF4))))
    have oe := excP_ok hT 3 _ s hs
    rw [hs] at eb
    refine fin _ M4 eb (hF3'.tr (mEx_Rd hF4)) g4 ?_
    have := hR3.upd (M' := M4) (R := ((curR ks P r.1).1, (curR ks P r.1).2.1, (curR ks P r.1).2.2.1, s.1)) hn ⟨okcur.1, okcur.2.1, okcur.2.2.1, oe.1, oe.2.1⟩ ⟨?_, ?_, hE⟩ (hF4.i (by unfold mEx mV; omega)) (fun k => hF4.i (by unfold mEx mV; omega)) (fun j hj hj12 => ⟨fun a ha => hF4.i (by unfold mEx mV; omega), fun a k ha _ _ => hF4.i (by unfold mEx mV; omega), fun k _ _ => hF4.i (by unfold mEx mV; omega), fun k _ _ => hF4.i (by unfold mEx mV; omega), fun k _ _ => hF4.i (by unfold mEx mV; omega)⟩)
    · rw [upd_upd] at this; exact this
    · exact row3.1.fr okcur.1 (fun a ha => hF4.i (by unfold mEx mV; omega)) (fun a k ha _ _ => hF4.i (by unfold mEx mV; omega)) (fun k _ _ => hF4.i (by unfold mEx mV; omega))
    · exact row3.2.1.fr okcur.2.2.1 (hF4.i (by unfold mEx mV; omega)) (fun k _ _ => hF4.i (by unfold mEx mV; omega))
  · have eb := itb_a (t := t) (p := r.2 + 1) c2
    refine k_Mo_hostsOf hn12 hT hM3 (by omega) g3 (fun s hs M4 hF4 g4 hE _ _ => bf (by decide) ?_) (fun hs M4 hF4 _ _ => bt rfl (q0 (Or.inl (itm_b hr e (by rw [eb, hs]; rfl))) M4 (hF3'.tr (mHo_Rd hF4))))
    have oe := hstP_ok hT 4 _ s hs
    rw [hs] at eb
    refine fin _ M4 eb (hF3'.tr (mHo_Rd hF4)) g4 ?_
    have := hR3.upd (M' := M4) (R := ((curR ks P r.1).1, (curR ks P r.1).2.1, s.1, (curR ks P r.1).2.2.2)) hn ⟨okcur.1, okcur.2.1, oe.1, okcur.2.2.2⟩ ⟨?_, hE, ?_⟩ (hF4.i (by unfold mHo mV; omega)) (fun k => hF4.i (by unfold mHo mV; omega)) (fun j hj hj12 => ⟨fun a ha => hF4.i (by unfold mHo mV; omega), fun a k ha _ _ => hF4.i (by unfold mHo mV; omega), fun k _ _ => hF4.i (by unfold mHo mV; omega), fun k _ _ => hF4.i (by unfold mHo mV; omega), fun k _ _ => hF4.i (by unfold mHo mV; omega)⟩)
    · rw [upd_upd] at this; exact this
    · exact row3.1.fr okcur.1 (fun a ha => hF4.i (by unfold mHo mV; omega)) (fun a k ha _ _ => hF4.i (by unfold mHo mV; omega)) (fun k _ _ => hF4.i (by unfold mHo mV; omega))
    · exact row3.2.2.fr okcur.2.2.2.1 (hF4.i (by unfold mHo mV; omega)) (fun k _ _ => hF4.i (by unfold mHo mV; omega))
  · have eb := itb_n (t := t) (p := r.2 + 1) c
    refine k_Mo_rulesOf hn12 hT hM3 (by omega) g3 (fun s hs M4 hF4 g4 hE _ _ => bf (by decide) ?_) (fun hs M4 hF4 _ _ => bt rfl (q0 (Or.inl (itm_b hr e (by rw [eb, hs]; rfl))) M4 (hF3'.tr (mPo_Rd hF4))))
    obtain ⟨⟨a1, a2, _⟩, a3, _⟩ := polP_ok hT 9 0 _ s rfl hs
    rw [hs] at eb
    refine fin _ M4 eb (hF3'.tr (mPo_Rd hF4)) g4 ?_
    have := hR3.upd (M' := M4) (R := (s.1.1, s.1.2, (curR ks P r.1).2.2.1, (curR ks P r.1).2.2.2)) hn ⟨⟨by omega, a2⟩, a3, okcur.2.2⟩ ⟨hE, ?_, ?_⟩ (hF4.i (by unfold mPo mV; omega)) (fun k => hF4.i (by unfold mPo mV; omega)) (fun j hj hj12 => ⟨fun a ha => hF4.i (by unfold mPo mV; omega), fun a k ha _ _ => hF4.i (by unfold mPo mV; omega), fun k _ _ => hF4.i (by unfold mPo mV; omega), fun k _ _ => hF4.i (by unfold mPo mV; omega), fun k _ _ => hF4.i (by unfold mPo mV; omega)⟩)
    · rw [upd_upd] at this; exact this
    · exact row3.2.1.fr okcur.2.2.1 (hF4.i (by unfold mPo mV; omega)) (fun k _ _ => hF4.i (by unfold mPo mV; omega))
    · exact row3.2.2.fr okcur.2.2.2.1 (hF4.i (by unfold mPo mV; omega)) (fun k _ _ => hF4.i (by unfold mPo mV; omega))
theorem k_Mo_item {Q : Int → Mem → Prop} {ks : List Int} {P : Int → ReP} {p : Nat} (hT : TxT t L) (hM : TxM M t L) (hR : MRec M ks P) (hp : gI M 530 32 = (p : Nat)) (hpL : p < L)
    (q0 : (itmP t p = none ∨ ∃ r, itmP t p = some r ∧ r.1 ∉ ks ∧ ks.length = 12) → ∀ M' : Mem, FrI mRd M M' → Q 0 M')
    (q1 : ∀ r, itmP t p = some r → ¬ (r.1 ∉ ks ∧ ks.length = 12) → ∀ M' : Mem, FrI mRd M M' → gI M' 530 32 = (r.2.2 : Nat) → MRec M' (nxK ks r.1) (updR P r.1 (r.2.1 (curR ks P r.1))) → Q 1 M') : K_Mo_item g M Q := by
  have hL := hT.1
  refine i_Mo_item (b_Mo_item_0 (k_Mo_nx hT hM hp (fun _ _ => ⟨by omega, ?_⟩)))
  rw [hp]
  refine ⟨fun c => mo_item hT hM hR hp hpL (by omega) q0 q1, fun c => ⟨fun c2 => mo_item hT hM hR hp hpL (by omega) q0 q1, fun c2 => ⟨fun c3 => q0 (Or.inl (itm_o c c2 c3)) _ (mV_Rd (FrI.st ⟨rfl, Or.inl rfl⟩)), fun c3 => mo_item hT hM hR hp hpL (by omega) q0 q1⟩⟩⟩
def P00 : Int → ReP := fun _ => empR
theorem k_Mo_reads {Q : Int → Mem → Prop} (hT : TxT t L) (hM : TxM M t L) (q : ∀ M' : Mem, FrI mRd M M' → ((allP t L 240 0 [] P00).1 = -4 → MRec M' (allP t L 240 0 [] P00).2.1 (allP t L 240 0 [] P00).2.2) → Q (allP t L 240 0 [] P00).1 M') : K_Mo_reads g M Q := by
  have loop : ∀ (f p : Nat) (ks : List Int) (P : Int → ReP) (M1 : Mem), p ≤ L → L ≤ p + f → FrI mRd M M1 → gI M1 530 32 = (p : Nat) → MRec M1 ks P → (∀ M' : Mem, FrI mRd M M' → ((allP t L f p ks P).1 = -4 → MRec M' (allP t L f p ks P).2.1 (allP t L f p ks P).2.2) → Q (allP t L f p ks P).1 M') → P_Mo_reads g 10 [(0, vr g 530)] [] M1 Q := by
    intro f
    induction f with
    | zero =>
      intro p ks P M1 hp hf hF h2 hR q
      have hM1 := hM.rd hF
      refine b_Mo_reads_10 (bt (by rw [h2, hM1.1]; omega) ?_)
      have := q M1 hF (fun _ => hR)
      exact this
    | succ f ih =>
      intro p ks P M1 hp hf hF h2 hR q
      have hM1 := hM.rd hF
      refine b_Mo_reads_10 ?_
      rw [h2, hM1.1]
      refine ⟨fun c => ?_, fun c => ?_⟩
      · rw [all_z (by omega)] at q
        exact q M1 hF (fun _ => hR)
      · have hnl : ¬ L ≤ p := by omega
        refine k_Mo_item hT hM1 hR h2 (by omega) (fun hn M2 hF2 _ _ => bnf rfl ?_) (fun r hr hok M2 hF2 g2 hR2 _ _ => bnt (by decide) ?_)
        · have ea : allP t L (f + 1) p ks P = ((p : Int), ks, P) := by
            rcases hn with hn | ⟨r, hr, h1, h12⟩
            · exact all_n hnl hn
            · exact all_f hnl hr h1 h12
          rw [ea] at q
          exact q M2 (hF.tr hF2) (fun z => by dsimp only at z; omega)
        · have ea := all_s (f := f) (P := P) hnl hr hok
          rw [ea] at q
          have o := itmP_ok hT hr
          exact ih r.2.2 _ _ M2 o.2.2.1 (by omega) (hF.tr hF2) g2 hR2 q
  refine i_Mo_reads (b_Mo_reads_0 (loop 240 0 [] P00 _ (Nat.zero_le _) (by have := hT.1; omega) (FrI.tr (FrI.st (Or.inl ⟨rfl, Or.inl rfl⟩)) (FrI.st (Or.inl ⟨rfl, by omega⟩))) (gI_same _ _ _ _) ⟨?_, by simp, by simp, fun j c h => by simp at h⟩ q))
  rw [gI_ne _ _ _ _ _ _ (by omega), gI_same]; rfl
end MD
