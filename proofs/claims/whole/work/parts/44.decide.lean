/-! ===== decide ===== -/
section DC
variable {g : Ctx}
theorem k_Ev_resultOfSign {M : Mem} {Q : Int → Mem → Prop} {s : Int} (hs : 0 ≤ s ∧ s ≤ 3) (h : Q (ansF s) M) : K_Ev_resultOfSign g 33 s M Q := by
  unfold ansF at h
  refine i_Ev_resultOfSign (b_Ev_resultOfSign_0 (by omega) ⟨fun c => ?_, fun c => ⟨fun c2 => ?_, fun c2 => ⟨fun c3 => ?_, fun c3 => ?_⟩⟩⟩)
  · rw [if_pos c] at h; exact h
  · rw [if_neg c, if_neg (by omega), c2] at h; exact h
  · rw [if_neg c, if_neg (by omega), c3] at h; exact h
  · rw [if_neg c, if_pos (by omega)] at h; exact h
theorem dc_in {M0 M : Mem} {Q : Int → Mem → Prop} {o m k : Nat} {a l : Int} (hC : CSt M0 o a l) (hw : WT M0) (hm : (m : Int) < gI M0 530 2) (hk : (k : Int) < gI M0 533 m) (hF : FrI scC M0 M) (h : Q (sgA M0 m k) M) : K_Rc_domainAt g 33 (gP M 258 0) m M (fun r3 M4 => (r3 = 0 ∨ isDom r3) → WT M4 → (((¬ r3 = 0) → K_Dm_ruleAt g 33 r3 k M4 (fun r6 M7 => (r6 = 0 ∨ isRul r6) → WT M7 → (((¬ r6 = 0) → K_Ev_resultOfSign g 33 (gI M7 r6 0) M7 (fun r9 M10 => InR r9 → WT M10 → Q r9 M10)) ∧ ((r6 = 0) → Q 5 M7)))) ∧ ((r3 = 0) → Q 5 M4))) := by
  have hC1 := hC.fr hw hF
  have hR1 := scC_rw hF
  have h12 := hC.1.names
  have hm1 : (m : Int) < gI M 530 2 := by rw [hR1.1]; exact hm
  have hd := hC1.1.dom hm1
  have hz := hC1.1.size
  have hn1 := hC1.1.names
  obtain ⟨_, _, x5, _⟩ := (hC1.1.mdom hm1).1
  have x33 : gI M 533 m = gI M0 533 m := hR1.2 _ _ (by omega) (by omega)
  have h8 := (hC.1.rcnt hm).2
  obtain ⟨m1, m2, m3, _⟩ := (hC1.1.mdom hm1).2.2.1 k (by rw [x33]; exact hk)
  rw [hC1.2.1]
  refine k_Rc_domainAt hC1.1.pres (by omega) (by omega) (fun _ _ _ _ => bnt (nDom ?_) ?_) (fun z => by omega)
  · rw [Int.toNat_natCast]; exact hd
  · rw [Int.toNat_natCast]
    refine k_Dm_ruleAt hd (by omega) (by omega) (fun _ _ hr _ => ?_) (fun z => by omega)
    rw [Int.toNat_natCast] at hr ⊢
    rw [m3]
    refine ⟨fun c => k_Ev_resultOfSign m2 (fun _ _ => ?_), fun c => ?_⟩
    · have e : ansF (nowv M (21 * m + (8 + (nowv M (21 * m + k)).toNat))) = sgA M0 m k := by
        show ansF (mnow M m (8 + (mnow M m k).toNat)) = ansF (mnow M0 m (8 + (mnow M0 m k).toNat))
        rw [hR1.now, hR1.now]
      rw [e]; exact h
    · have hw' : isRul (gP M (gP M (gP M 0 1 + 1) m + 2) k) := by
        rw [hF.p, hF.p, hF.p]
        exact hw.rul (hC.1.dom hm) (by omega)
      exact absurd c (nRul hw')
theorem k_Ev_decide {M0 M : Mem} {Q : Int → Mem → Prop} {o m k dep : Nat} {a l : Int} (hC : CSt M0 o a l) (hw : WT M0) (hm : (m : Int) < gI M0 530 2) (hk : (k : Int) < gI M0 533 m) (hdp : dep ≤ 20) (hF : FrI scC M0 M) (q1 : dep ≠ 0 → Q (sgA M0 m k) M) (q0 : dep = 0 → Q (sgA M0 m k) (sI (sI M 258 7 m) 258 8 k)) : K_Ev_decide g 33 m k dep M (fun r24 M25 => InR r24 → WT M25 → Q r24 M25) := by
  have h12 := hC.1.names
  have h8 := (hC.1.rcnt hm).2
  have hpr : isRec (gP M 258 0) := by
    have := hC.fr hw hF
    rw [this.2.1]; exact this.1.pres
  refine i_Ev_decide (b_Ev_decide_0 (by omega) (by omega) (by omega) ⟨fun c => ⟨hpr, ?_⟩, fun c => ⟨hpr, ?_⟩⟩)
  · exact dc_in (Q := fun r M => InR r → WT M → Q r M) hC hw hm hk hF (fun _ _ => q1 (by omega))
  · exact dc_in (Q := fun r M => InR r → WT M → Q r M) (M := sI (sI M 258 7 m) 258 8 k) hC hw hm hk (hF.tr (FrI.tr (FrI.st (Or.inl ⟨rfl, by omega⟩)) (FrI.st (Or.inl ⟨rfl, by omega⟩)))) (fun _ _ => q0 (by omega))
end DC
