/-! ===== the model's fits ===== -/
section FT2
variable {g : Ctx} {M : Mem}
theorem k_Mo_fits {Q : Int → Mem → Prop} {o m r : Nat} {a l lk em : Int} (h : MWf M) (hr : r < 96) (hk : 0 ≤ gI M 537 r ∧ gI M 537 r ≤ 5) (hk2 : gI M 537 r ≠ 2) (h40 : 2 ≤ gI M 537 r → gI M 537 r ≤ 4 → 0 ≤ gI M 540 r ∧ gI M 540 r < 410338673) (h5 : gI M 537 r = 5 → (1 ≤ gI M 541 r ∧ gI M 541 r ≤ 8) ∧ ∀ p : Nat, (p : Int) < gI M 541 r → okP (gI M 542 (8 * r + p)))
    (ha : 0 ≤ a ∧ a < 256) (hl : 0 ≤ l ∧ l ≤ 15) (eo : gI M 530 36 = o) (ea : gI M 530 37 = a) (el : gI M 530 38 = l) (hd : 1 ≤ gI M 530 45 ∧ gI M 530 45 ≤ 12) (et : gI M 560 (gI M 530 45 - 1).toNat = m) (ho : (o : Int) < gI M 530 2) (hm : (m : Int) < gI M 530 2) (e39 : gI M 530 39 = lk) (e40 : gI M 530 40 = em) (hlk : 0 ≤ lk ∧ lk ≤ 10) (hem : 0 ≤ em ∧ em ≤ 2)
    (q1 : gI M 537 r < 2 → Q (fitK M o a l m r) M)
    (q2 : 2 < gI M 537 r → 11 ≤ lk + 1 → Q 5 (sI M 530 39 (lk + 1)))
    (q3 : 2 < gI M 537 r → lk + 1 < 11 → ∀ M' : Mem, FrI mFt M M' → gI M' 530 39 = lk + 1 → (fitK M o a l m r ≠ 2 → gI M' 530 40 = em → Q (fitK M o a l m r) M') ∧ (fitK M o a l m r = 2 → gI M' 530 40 = em + 1 → (3 ≤ em + 1 → Q 5 M') ∧ (em + 1 < 3 → Q 0 M'))) : K_Mo_fits g r M Q := by
  have h12 := h.1
  refine i_Mo_fits (b_Mo_fits_0 (by omega) ?_)
  rw [Int.toNat_natCast, ea]
  refine ⟨by omega, fun c0 => ⟨fun c1 => ?_, fun c1 => ?_⟩, fun c0 => ?_⟩
  · refine k_Mo_looks (by omega) (by omega) (fun c _ _ => ⟨fun z => absurd rfl z, fun _ => ?_⟩) (fun c _ _ => ⟨fun _ => ?_, fun z => by omega⟩)
    · rw [e39] at c ⊢
      exact q2 (by omega) c
    · rw [e39] at c ⊢
      have q4 := q3 (by omega) c
      generalize hM1 : sI M 530 39 (lk + 1) = M1
      have hF1 : FrI mFt M M1 := hM1 ▸ FrI.st (Or.inl ⟨rfl, Or.inl rfl⟩)
      have e1 : gI M1 530 39 = lk + 1 := by rw [← hM1, gI_same]
      have hR1 := mFt_rw hF1
      have h1 := h.fr hR1
      have x37 : gI M1 537 r = gI M 537 r := hR1.2 _ _ (by omega) (by omega)
      have x40 : gI M1 540 r = gI M 540 r := hR1.2 _ _ (by omega) (by omega)
      have y40 : gI M1 530 40 = em := by rw [← hM1, gI_ne _ _ _ _ _ _ (by omega)]; exact e40
      have y37 : gI M1 530 37 = a := by rw [← hM1, gI_ne _ _ _ _ _ _ (by omega)]; exact ea
      have y36 : gI M1 530 36 = o := by rw [← hM1, gI_ne _ _ _ _ _ _ (by omega)]; exact eo
      have y38 : gI M1 530 38 = l := by rw [← hM1, gI_ne _ _ _ _ _ _ (by omega)]; exact el
      have y45 : gI M1 530 45 = gI M 530 45 := by rw [← hM1, gI_ne _ _ _ _ _ _ (by omega)]
      have y60 : ∀ k, gI M1 560 k = gI M 560 k := fun k => by rw [← hM1, gI_ne _ _ _ _ _ _ (by omega)]
      -- an end that is empty
      have emp : ∀ M2 : Mem, FrI mFt M M2 → gI M2 530 39 = lk + 1 → gI M2 530 40 = em → fitK M o a l m r = 2 → K_Mo_isEmpty g M2 (fun r4 M5 => (r4 = 0 ∨ r4 = 1) → WT M5 → (((r4 = 0) → Q 5 M5) ∧ ((¬ (r4 = 0)) → Q 0 M5))) := by
        intro M2 hF2 z39 z40 hf
        have q5 := (q4 (sI M2 530 40 (em + 1)) (hF2.tr (FrI.st (Or.inl ⟨rfl, Or.inr (Or.inl rfl)⟩))) (by rw [gI_ne _ _ _ _ _ _ (by omega)]; exact z39)).2 hf (gI_same _ _ _ _)
        exact ft_empty z40 (by omega) q5.1 q5.2
      rw [x37]
      refine ⟨fun c5 => ?_, fun c5 => ?_⟩
      · rw [x40]
        have hnm := h40 (by omega) (by omega)
        refine kM_no h1 (by omega) (fun _ _ => ?_)
        rw [hR1.no]
        have hrg := noM_rng h (gI M 540 r)
        generalize hn : noM M (gI M 540 r) = nn at hrg
        rw [x37]
        refine ⟨fun c4 => ?_, fun c4 => ⟨fun c6 => ⟨by omega, ?_⟩, fun c6 => ?_⟩⟩
        · have hf : fitK M o a l m r = if hstN M nn = 0 then 2 else if hasN M nn a = true then 1 else 0 := by
            unfold fitK; rw [if_neg c0, if_neg c1, if_neg c4, if_neg c5, hn]
          refine k_Mo_hostMany (by omega) (fun _ _ => ?_)
          rw [show (if nn = -4 then 0 else mnow M1 nn.toNat 16) = hstN M nn from hR1.hst nn]
          refine ⟨fun c7 => ?_, fun c7 => ?_⟩
          · rw [if_neg c7] at hf
            rw [x37, y37]
            refine bf c5 (kM_has h1 (by omega) (by rw [hR1.1]; exact hrg) (fun x hx hx2 _ _ => ?_))
            rw [hR1.has] at hx
            have q5 := (q4 M1 hF1 e1).1
            refine ⟨fun z => ?_, fun z => ?_⟩
            · rw [if_neg (fun t => by have := hx.mpr t; omega)] at hf
              rw [hf] at q5
              exact q5 (by omega) y40
            · rw [if_pos (hx.mp (by omega))] at hf
              rw [hf] at q5
              exact q5 (by omega) y40
          · rw [if_pos c7] at hf
            exact emp M1 hF1 e1 y40 hf
        · -- mail, the name is known
          have x35 : gI M1 535 nn.toNat = gI M 535 nn.toNat := hR1.2 _ _ (by omega) (by omega)
          have hj := h.2 nn.toNat (by omega)
          have hf : fitK M o a l m r = if nn = -4 ∨ gI M 535 nn.toNat = 0 then 2 else if anyE M nn.toNat a (gI M 535 nn.toNat).toNat = true then 1 else 0 := by
            unfold fitK; rw [if_neg c0, if_neg c1, if_pos c4, hn]
          by_cases c7 : gI M 535 nn.toNat = 0
          · rw [if_pos (Or.inr c7)] at hf
            rw [x35, c7]
            exact b_Mo_fits_122 (by omega) (by omega) (by omega) (by omega) (bt (by omega) (bnf rfl (emp M1 hF1 e1 y40 hf)))
          · rw [if_neg (by omega)] at hf
            have q5 := (q4 M1 hF1 e1).1
            have ee : nn = ((nn.toNat : Nat) : Int) := by omega
            have := ft_mail (g := g) (Q := Q) (n := nn.toNat) (e := em) h1 (by rw [hR1.1]; omega) (by omega : InR a) y37 (by rw [x35]; exact c7) (fun t => by
              rw [x35, hR1.any] at t
              rw [if_pos t] at hf
              rw [hf] at q5
              exact q5 (by omega) y40) (fun t => by
              rw [x35, hR1.any] at t
              rw [if_neg (by rw [t]; decide)] at hf
              rw [hf] at q5
              exact q5 (by omega) y40) (gI M 535 nn.toNat).toNat 0 (by rw [x35]; omega) 0 (Or.inl rfl) ⟨fun z => by omega, fun z => by cases z⟩
            rw [← ee] at this
            exact this
        · have hf : fitK M o a l m r = 2 := by
            unfold fitK; rw [if_neg c0, if_neg c1, if_pos c4, hn, if_pos (Or.inl c6)]
          exact b_Mo_fits_122 (by omega) (by omega) (by omega) (by omega) (bt (by omega) (bnf rfl (emp M1 hF1 e1 y40 hf)))
      · have h5' := h5 c5
        refine k_Mo_macroName (o := o) (m := m) (a := a) (l := l) hr (by rw [hR1.r (a := 541) (by omega) (by omega)]; omega) (fun j hj => by rw [hR1.r (a := 541) (by omega) (by omega)] at hj; rw [hR1.r (a := 542) (by omega) (by omega)]; exact h5'.2 j hj) ha hl y36 y37 y38 (by rw [y45]; exact hd) (by rw [y45, y60]; exact et) (by omega) (by omega) (h1.2 o (by rw [hR1.1]; exact ho)).1 (h1.2 m (by rw [hR1.1]; exact hm)).1 (fun M2 hF2 hIR _ => ?_)
        have hF2' := hF1.tr (mLt_ft hF2)
        have hR2 := mFt_rw hF2'
        have h2 := h.fr hR2
        rw [show enc7 7 (macT M1 o a l m r (gI M1 541 r).toNat).reverse = mnmN M o a l m r from hR1.mnm o a l m r] at hIR ⊢
        have z37 : gI M2 537 r = gI M 537 r := hR2.2 _ _ (by omega) (by omega)
        have z39 : gI M2 530 39 = lk + 1 := by rw [hF2.i (by unfold mLt; omega)]; exact e1
        have z40 : gI M2 530 40 = em := by rw [hF2.i (by unfold mLt; omega)]; exact y40
        refine kM_no h2 hIR (fun _ _ => ?_)
        rw [hR2.no]
        have hrg := noM_rng h (mnmN M o a l m r)
        generalize hn : noM M (mnmN M o a l m r) = nn at hrg
        have hf : fitK M o a l m r = if hstN M nn = 0 then 2 else 1 := by
          unfold fitK; rw [if_neg c0, if_neg c1, if_neg (by omega), if_pos c5, hn]
        rw [z37]
        refine bnt (by omega) (k_Mo_hostMany (by omega) (fun _ _ => ?_))
        rw [show (if nn = -4 then 0 else mnow M2 nn.toNat 16) = hstN M nn from hR2.hst nn]
        refine ⟨fun c7 => ?_, fun c7 => ?_⟩
        · rw [if_neg c7] at hf
          have q5 := (q4 M2 hF2' z39).1
          rw [hf] at q5
          rw [z37]
          exact bt c5 (q5 (by omega) z40)
        · rw [if_pos c7] at hf
          exact emp M2 hF2' z39 z40 hf
  · have hf : fitK M o a l m r = if jshr (jxor a (gI M 538 r)) (8 - gI M 539 r) = 0 then 1 else 0 := by
      unfold fitK; rw [if_neg c0, if_pos c1]
    have q5 := q1 (by omega)
    refine ⟨fun c => ?_, fun c => ?_⟩
    · rw [hf, if_neg c] at q5; exact q5
    · rw [hf, if_pos c] at q5; exact q5
  · have q5 := q1 (by omega)
    rw [show fitK M o a l m r = 1 by unfold fitK; rw [if_pos c0]] at q5
    exact q5
end FT2
