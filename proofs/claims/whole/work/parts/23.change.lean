section CC
variable {g : Ctx} {M : Mem}
theorem Rel.hist {M : Mem} (h : Rel M) : 0 ≤ gI M 270 1 ∧ gI M 270 1 ≤ 4 ∧ gI M 270 1 = gI M 530 16 := by
  obtain ⟨a, b, -⟩ := h.2.2.2.2.2
  omega
theorem Rel.hin {M : Mem} (h : Rel M) : ∀ i i', i < 4 → i' < 4 → gP M 271 i = gP M 271 i' → i = i' := h.2.1.2.2.2
theorem j_sign {p0 p1 p2 : Int} (hR : Rel M) (h0 : InR p0) (h1 : InR p1) (h2 : InR p2) : K_Sr_sign g 33 p0 p1 p2 M (fun r M1 => WT M1 → K_Mo_sign g p0 p1 p2 M1 (fun r' M2 => WT M2 → r = r' ∧ Rel M2)) := by
  have hn := hR.names
  have hrc : ∀ j : Nat, (j : Int) < gI M 530 2 → 0 ≤ gI M 533 j ∧ gI M 533 j ≤ 8 := fun j hj => hR.rcnt hj
  refine i_Sr_sign (w_wt (fun hw => b_Sr_sign_0 h0 h1 h2 (k_Sr_ruleAt hR h0 h1 (fun j i hj ej hi ei hq _ => ?_) (fun hz _ _ => bt rfl (fun _ => ?_)))))
  · subst ej
    subst ei
    have hcj := hR.rcnt hj
    obtain ⟨⟨hv0, hv1⟩, ⟨s0, s3⟩, hsg, -⟩ := (hR.mdom hj).2.2.1 i hi
    have hrul : isRul (gP M (gP M (gP M 0 1 + 1) j + 2) i) := hw.rul (hR.dom hj) (by omega)
    have hmn : mnow M j i = nowv M (21 * j + i) := rfl
    have hb4 : gP M 0 1 = 4 ∨ gP M 0 1 = 276 := hR.pres
    have eD : ∃ q k, q < 12 ∧ k < 8 ∧ gP M (gP M (gP M 0 1 + 1) j + 2) i = gP M 0 1 + 2 + 21 * q + 5 + 2 * k := by
      obtain ⟨q, hq, eq⟩ := (hR.prec hR.pres).1 j (by omega)
      obtain ⟨k, hk, ek⟩ := ((hR.prec hR.pres).pd (j := j) (by omega)).1 i (by omega)
      exact ⟨q, k, hq, hk, by rw [ek, eq]⟩
    -- the model, where the sign is wrong or the same
    have em0 : (p2 < 0 ∨ 3 < p2) → K_Mo_sign g (j : Int) (i : Int) p2 M (fun r' M2 => WT M2 → -1 = r' ∧ Rel M2) := fun z =>
      i_Mo_sign (b_Mo_sign_0 h0 h1 h2 (k_Mo_isRule h0 h1 (by omega) (by omega) hrc (fun _ _ _ _ _ _ => bz1 (k_Mo_isIn h2 (by omega) (by omega) (fun a b => by omega) (fun _ _ _ => bnf rfl (fun _ => ⟨rfl, hR⟩)))) (fun z => by rw [Int.toNat_natCast] at z; omega)))
    refine bf (nRul hrul) ⟨fun c _ => em0 (Or.inl c), fun c => k_J_length (by decide) (fun _ _ => ?_)⟩
    refine ⟨fun d => ⟨fun e => ?_, fun e _ => ?_⟩, fun d _ => em0 (Or.inr (by simp [sLen] at d; omega))⟩
    · have d3 : p2 ≤ 3 := by simp [sLen] at d; omega
      rw [hsg] at e ⊢
      have hch := hR.hist
      refine k_Sr_noteChange (M := sI M (gP M (gP M (gP M 0 1 + 1) j + 2) i) 0 p2) ?_ ?_ hR.hin (by decide) h0 h1 (by omega) (fun M2 hh0 s hs hN hw2 _ => ?_)
      · rw [gI_ne _ _ _ _ _ _ (by omega)]; omega
      · rw [gI_ne _ _ _ _ _ _ (by omega)]; omega
      · rw [gI_ne _ _ _ _ _ _ (by omega)] at hs
        have g2 : ∀ a k, (530 ≤ a) → gI M2 a k = gI M a k := fun a k ha => by rw [hN.2.2.1 a k (by omega) (by omega) (by omega), gI_ne _ _ _ _ _ _ (by omega)]
        have en : ∀ x y, mnow M2 x y = mnow M x y := fun x y => g2 _ _ (by decide)
        refine i_Mo_sign (b_Mo_sign_0 h0 h1 h2 (k_Mo_isRule h0 h1 (by rw [g2 _ _ (by decide)]; omega) (by rw [g2 _ _ (by decide)]; omega) (fun x hx => by rw [g2 _ _ (by decide)] at hx ⊢; exact hrc x hx) (fun _ _ _ _ _ _ => bz1 (k_Mo_isIn h2 (by omega) (by omega) (fun _ _ _ _ => bnt (by decide) ?_) (fun z => by omega))) (fun z => by rw [Int.toNat_natCast, g2 _ _ (by decide), g2 _ _ (by decide)] at z; omega)))
        refine k_Mo_signAt (by omega) (by omega) (by rw [en, hmn]; omega) (fun _ _ => bnt (by rw [en, en]; exact e) ?_)
        refine k_Mo_keeps (by rw [g2 _ _ (by decide)]; omega) (by rw [g2 _ _ (by decide)]; omega) (fun M3 ha sa hsa hK _ => ?_)
        rw [g2 _ _ (by decide), ← hch.2.2] at hsa
        obtain ⟨e1, e2⟩ := Sh4.eq hs hsa
        subst e1
        subst e2
        have g3 : ∀ k, gI M3 543 k = gI M 543 k := fun k => by rw [hK.1.i (by omega), g2 _ _ (by decide)]
        have e21 : ((21 * (j : Int)) + (i : Int)).toNat = 21 * j + i := by omega
        rw [e21, g3]
        have hnw : gI M 543 (21 * j + i) = nowv M (21 * j + i) := rfl
        rw [hnw]
        have e22 : ((21 * (j : Int) + 8) + nowv M (21 * j + i)).toNat = 21 * j + (8 + (nowv M (21 * j + i)).toNat) := by omega
        refine ⟨by omega, by omega, fun _ => ⟨by rw [en, en]; rfl, ?_⟩⟩
        rw [e22]
        refine push_rel (j := j) (p := i) (V := undoV 0 j i p2 (nowv M)) hR (fun x hx => hw.ch hx) (cls0 hR.pres (hR.prec hR.pres) hR.2.2.2.1 hj hi (by omega)) ?_ (fun a k hz => gI_ne _ _ _ _ _ _ (by omega)) (fun _ _ _ => rfl) hs hN hw2 hK (FrI.st rfl) ?_ hj rfl rfl (Or.inl ⟨rfl, hi⟩) (fun _ => ⟨s0, s3⟩) ?_
        · exact (hR.prec hR.pres).fr (fun _ _ _ => rfl)
        · have ev : nowv (sI M3 543 (21 * j + (8 + (nowv M (21 * j + i)).toNat)) p2) = undoV 0 j i p2 (nowv M) := by
            funext k
            unfold undoV
            rw [if_pos rfl]
            show gI (sI M3 543 _ p2) 543 k = _
            rw [gI_sI, g3]
            by_cases z : k = 21 * j + (8 + (nowv M (21 * j + i)).toNat)
            · rw [if_pos ⟨rfl, z⟩, if_pos z]
            · rw [if_neg (fun w => z w.2), if_neg z]; rfl
          rw [ev]
          exact VEq.rf _ _
        · intro x hx
          by_cases z : x = j
          · subst z; exact inv0 (hR.r8 x hx) (hR.row x hx) hi
          · have hr8 := row8 (hR.mdom hj) hi
            have h4 := (hR.row x hx).1.2
            have o1 := V1.off (kind := 0) (x := p2) z (hR.r8 x hx) h4 (Or.inr (by decide)) (fun _ => hr8)
            have e5 : undoV 0 j i p2 (nowv M) (21 * j + i) = nowv M (21 * j + i) := by rw [undo0, if_neg (by omega)]
            exact (o1.tr (V1.off (kind := 0) z (hR.r8 x hx) (by rw [← o1.2.1]; exact h4) (Or.inr (by decide)) (fun _ => by rw [e5]; exact hr8))).sy
    · have d3 : p2 ≤ 3 := by simp [sLen] at d; omega
      rw [hsg] at e
      exact i_Mo_sign (b_Mo_sign_0 h0 h1 h2 (k_Mo_isRule h0 h1 (by omega) (by omega) hrc (fun _ _ _ _ _ _ => bz1 (k_Mo_isIn h2 (by omega) (by omega) (fun _ _ _ _ => bnt (by decide) (k_Mo_signAt (by omega) (by omega) (by rw [hmn]; omega) (fun _ _ => bnf e (fun _ => ⟨rfl, hR⟩)))) (fun z => by omega))) (fun z => by rw [Int.toNat_natCast] at z; omega)))
  · refine i_Mo_sign (b_Mo_sign_0 h0 h1 h2 (k_Mo_isRule h0 h1 (by omega) (by omega) hrc (fun a b c d => ?_) (fun _ _ _ => bz0 (fun _ => ⟨rfl, hR⟩))))
    rcases hz with z | ⟨j, hj, rfl, z⟩
    · omega
    · rw [Int.toNat_natCast] at d; omega
end CC
