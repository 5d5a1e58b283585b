section CC
variable {g : Ctx} {n : Nat} {M : Mem}
theorem k_Sr_takeBack {Q : Mem → Prop} {b c : Nat} {v : Nat → Int} (hw : WT M) (hb : isRec b) (hp0 : gP M 0 1 = b) (hA : MAll M b v) (hP : PRec M b) (hc : ChOk M c v) (hi : isCh c) (h : ∀ M5 : Mem, MAll M5 b (undoC M c v) → PRec M5 b → (∀ a k, ¬ (b ≤ a ∧ a < b + 254) → gI M5 a k = gI M a k) → (∀ a k, ¬ (b ≤ a ∧ a < b + 254) → gP M5 a k = gP M a k) → Q M5) : K_Sr_takeBack g n c M Q := by
  obtain ⟨c1, c2, c3, k0, k1, k2, k3⟩ := hc
  have hn := hA.2.1
  obtain ⟨j, hj⟩ := Int.eq_ofNat_of_zero_le c1.1
  obtain ⟨p, hp⟩ := Int.eq_ofNat_of_zero_le c2
  have hjn : (j : Int) < gI M 530 2 := by omega
  have hm := hA.2.2.2 j hjn
  have hd : isDom (gP M (b + 1) j) := hP.dom hb (by omega)
  obtain ⟨q, hq, eq⟩ := hP.1 j (by omega)
  have hb4 : b = 4 ∨ b = 276 := hb
  have m5 := hm.1.2.2.1
  have m5b := hm.1.2.2.2.1
  have hpd := hP.pd (j := j) (by omega)
  have eU : undoC M c v = undoV (gI M c 0) j p (gI M c 3) v := by unfold undoC; rw [hj, hp, Int.toNat_natCast, Int.toNat_natCast]
  rw [hj, Int.toNat_natCast] at k0 k1 k2 k3
  rw [hp] at k0 k1 k2 k3
  refine i_Sr_takeBack (b_Sr_takeBack_0 hi ⟨by rw [hp0]; exact hb, ?_⟩)
  rw [hp0, hj]
  refine k_Rc_domainAt hb (by omega) (by rw [hA.1]; omega) (fun _ _ _ _ => ?_) (fun z => by rw [hA.1] at z; omega)
  rw [Int.toNat_natCast, hp]
  refine bnt (nDom hd) ⟨fun z => ?_, fun z0 => ⟨fun z => ?_, fun z1 => ⟨fun z => ?_, fun z2 => ?_⟩⟩⟩
  · have z9 := k0 z
    refine k_Dm_ruleAt hd (by omega) (by omega) (fun _ _ _ _ => ?_) (fun w => by omega)
    rw [Int.toNat_natCast]
    have hr := hw.rul hd (k := p) (by omega)
    obtain ⟨k, hk, ek⟩ := hpd.1 p (by omega)
    refine bf (nRul hr) (h _ ?_ (hP.fr (fun _ _ _ => rfl)) (fun a k hz => gI_ne _ _ _ _ _ _ (by omega)) (fun _ _ _ => rfl))
    rw [eU, z]
    exact cls0 hb hP hA hjn (by omega) (by omega)
  · have z9 := k1 z
    obtain ⟨d1, d2, d3⟩ := cls1 (x := gI M c 3) hb hP hA hjn (p := p) (by omega)
    refine k_Dm_swapRules hd (by omega) (by omega) (by omega) (fun w => by omega) (fun _ _ _ => h _ ?_ d2 (fun _ _ _ => rfl) (fun a k hz => d3 a k (by omega)))
    rw [eU, z]
    exact d1
  · have z9 := k2 z
    have h8 := hm.2.1.1
    have h84 := hm.2.1.2.1
    refine k_Dm_removeHost hd (by omega) (by omega) (fun M1 hF e8 e3 _ => h M1 ?_ (hP.fr (fun a k _ => hF.p a k)) (fun a k hz => hF.i (by omega)) (fun a k _ => hF.p a k))
    rw [eU, z]
    exact clsH hb hP hA hjn (Or.inl rfl) hF (hm.2.1.del z9 e8 e3)
  · have z : gI M c 0 = 3 := by omega
    have z9 := k3 z
    have h8 := hm.2.1.1
    have h84 := hm.2.1.2.1
    refine k_Dm_insertHost hd (hw.int _ _) (by omega) (by omega) (by omega) (fun w => by omega) (fun M1 _ hF e8 e3 _ _ => h M1 ?_ (hP.fr (fun a k _ => hF.p a k)) (fun a k hz => hF.i (by omega)) (fun a k _ => hF.p a k))
    rw [eU, z]
    exact clsH hb hP hA hjn (Or.inr rfl) hF (hm.2.1.ins z9.1 z9.2 e8 e3)
theorem k_Mo_undo {Q : Int → Mem → Prop} (h0 : 0 ≤ gI M 530 16) (h4 : gI M 530 16 ≤ 4) (hz : gI M 530 16 = 0 → Q (-2) M) (h : ∀ (M' : Mem) (a : Nat), gI M 530 16 = (a : Int) + 1 → FrI (fun x k => (x = 530 ∧ (k = 16 ∨ k = 34)) ∨ x = 543) M M' → gI M' 530 16 = a → gI M' 530 34 = 0 → (∀ k, k < 252 → gI M' 543 k = gI M 544 (252 * a + k)) → Q a M') : K_Mo_undo g M Q := by
  refine i_Mo_undo (b_Mo_undo_0 ⟨fun c => ⟨by omega, ?_⟩, hz⟩)
  obtain ⟨a, ha⟩ := Int.eq_ofNat_of_zero_le (show 0 ≤ gI M 530 16 - 1 by omega)
  rw [ha]
  have loop : ∀ (m : Nat) (M1 : Mem) (i : Nat), i + m = 252 → FrI (fun x k => (x = 530 ∧ (k = 16 ∨ k = 34)) ∨ x = 543) M M1 → gI M1 530 16 = a → (∀ k, k < i → gI M1 543 k = gI M 544 (252 * a + k)) → P_Mo_undo g 22 [(0, vr g 530), (1, vi (i : Int))] [] M1 Q := by
    intro m
    induction m with
    | zero =>
      intro M1 i hi hF e1 e2
      refine b_Mo_undo_22 (by omega) (bt (by omega) ?_)
      rw [e1]
      refine h _ a (by omega) (hF.tr (FrI.st (Or.inl ⟨rfl, Or.inr rfl⟩))) ?_ (gI_same _ _ _ _) (fun k hk => ?_)
      · rw [gI_ne _ _ _ _ _ _ (by decide)]; exact e1
      · rw [gI_ne _ _ _ _ _ _ (by omega)]; exact e2 k (by omega)
    | succ m ih =>
      intro M1 i hi hF e1 e2
      refine b_Mo_undo_22 (by omega) (bf (by omega) ⟨by rw [e1]; omega, by omega, ?_⟩)
      rw [e1, Int.toNat_natCast, show ((252 * (a : Int)) + (i : Int)).toNat = 252 * a + i by omega]
      refine ih _ (i + 1) (by omega) (hF.tr (FrI.st (Or.inr rfl))) (by rw [gI_ne _ _ _ _ _ _ (by omega)]; exact e1) (fun k hk => ?_)
      by_cases q : k = i
      · subst q; rw [gI_same]; exact hF.i (by omega)
      · rw [gI_ne _ _ _ _ _ _ (by omega)]; exact e2 k (by omega)
  exact loop 252 _ 0 rfl (FrI.st (Or.inl ⟨rfl, Or.inl rfl⟩)) (gI_same _ _ _ _) (fun k hk => by omega)
theorem j_undo (hR : Rel M) : K_Sr_undo g 33 M (fun r M1 => WT M1 → K_Mo_undo g M1 (fun r' M2 => WT M2 → r = r' ∧ Rel M2)) := by
  have hch := hR.hist
  have hn := hR.names
  have hH := hR.2.2.2.2.2
  have hb4 : gP M 0 1 = 4 ∨ gP M 0 1 = 276 := hR.pres
  refine i_Sr_undo (w_wt (fun hw => b_Sr_undo_0 (i_Hi_takeLatest (b_Hi_takeLatest_0 ⟨fun c => ⟨by omega, by omega, fun hr hw2 => ?_⟩, fun c _ _ => bnf rfl (fun _ => ?_)⟩))))
  · obtain ⟨a, ha⟩ := Int.eq_ofNat_of_zero_le (show 0 ≤ gI M 270 1 - 1 by omega)
    rw [ha, Int.toNat_natCast] at hr ⊢
    rw [ha] at hw2
    have hic : isCh (gP M 271 a) := hw.ch (by omega)
    refine bnt (nCh hic) ?_
    obtain ⟨x0, hx0, ex0⟩ := id hic
    have g2 : ∀ x k, ¬ (x = 270 ∧ k = 1) → gI (sI M 270 1 (a : Int)) x k = gI M x k := fun x k z => gI_ne _ _ _ _ _ _ z
    obtain ⟨o1, o2⟩ := hH.2.2 a (by omega)
    have hatv : ∀ k, k < 252 → atv M (a + 1) k = nowv M k := fun k hk => by unfold atv; rw [if_pos hk, if_neg (by omega)]; rfl
    have hVA : VEq M (nowv M) (atv M (a + 1)) := VEq.of252 hn.2 (fun j hj => ⟨hR.r8 j hj, (hR.row j hj).1.2⟩) (fun k hk => (hatv k hk).symm)
    have oN : ChOk M (gP M 271 a) (nowv M) := by
      have z16 : ∀ j : Nat, (j : Int) < gI M 530 2 → atv M (a + 1) (21 * j + 16) = nowv M (21 * j + 16) := fun j hj => hatv _ (by omega)
      obtain ⟨q1, q2, q3, q4, q5, q6, q7⟩ := o1
      rw [z16 _ (by omega)] at q6 q7
      exact ⟨q1, q2, q3, q4, q5, q6, q7⟩
    have hcM : ChOk (sI M 270 1 (a : Int)) (gP M 271 a) (nowv M) := by
      have gc : ∀ k, gI (sI M 270 1 (a : Int)) (gP M 271 a) k = gI M (gP M 271 a) k := fun k => g2 _ _ (by omega)
      have g5 : ∀ k, gI (sI M 270 1 (a : Int)) 533 k = gI M 533 k := fun k => g2 _ _ (by omega)
      have oN' := oN
      unfold ChOk at oN' ⊢
      simp only [gc, g5, g2 530 2 (by omega)]
      exact oN'
    have hMA : MAll (sI M 270 1 (a : Int)) (gP M 0 1) (nowv M) := hR.2.2.2.1.fr (hR.prec hR.pres) (fun x k z => by unfold dRc at z; exact g2 _ _ (by omega)) (fun _ _ _ => rfl)
    refine k_Sr_takeBack hw2 hR.pres rfl hMA ((hR.prec hR.pres).fr (fun _ _ _ => rfl)) hcM hic (fun M5 f1 f2 f3 f4 _ => ?_)
    refine i_Ks_clear (b_Ks_clear_0 (fun _ _ => ?_))
    have e270 : gI (sI M5 260 1 0) 270 1 = a := by rw [gI_ne _ _ _ _ _ _ (by omega), f3 _ _ (by omega), gI_same]
    rw [e270]
    have g7 : ∀ x k, 530 ≤ x → gI (sI M5 260 1 0) x k = gI M x k := fun x k hx => by rw [gI_ne _ _ _ _ _ _ (by omega), f3 _ _ (by omega), g2 _ _ (by omega)]
    refine k_Mo_undo (by rw [g7 _ _ (by decide)]; omega) (by rw [g7 _ _ (by decide)]; omega) (fun z => by rw [g7 _ _ (by decide)] at z; omega) (fun M4 a' ea hF e1 e2 e3 _ => ?_)
    rw [g7 _ _ (by decide)] at ea
    have haa : a' = a := by omega
    subst haa
    refine ⟨rfl, ?_⟩
    have eU : undoC (sI M 270 1 (a' : Int)) (gP M 271 a') (nowv M) = undoC M (gP M 271 a') (nowv M) := by
      unfold undoC
      rw [g2 _ _ (by omega), g2 _ _ (by omega), g2 _ _ (by omega), g2 _ _ (by omega)]
    rw [eU] at f1
    have chx : ∀ x k, ¬ (gP M 0 1 ≤ x ∧ x < gP M 0 1 + 254) → ¬ (x = 270 ∧ k = 1) → ¬ (x = 260 ∧ k = 1) → ¬ (x = 530 ∧ (k = 16 ∨ k = 34)) → x ≠ 543 → gI M4 x k = gI M x k := fun x k y0 y1 y2 y3 y4 => by
      rw [hF.i (by omega), gI_ne _ _ _ _ _ _ y2, f3 _ _ y0, g2 _ _ y1]
    have cpx : ∀ x k, ¬ (gP M 0 1 ≤ x ∧ x < gP M 0 1 + 254) → gP M4 x k = gP M x k := fun x k y0 => by rw [hF.p]; exact f4 x k y0
    have cp5 : ∀ x k, gP M4 x k = gP M5 x k := fun x k => hF.p x k
    have z2 : gI M4 530 2 = gI M 530 2 := chx _ _ (by omega) (by omega) (by omega) (by omega) (by omega)
    have z3 : ∀ k, gI M4 533 k = gI M 533 k := fun k => chx _ _ (by omega) (by omega) (by omega) (by omega) (by omega)
    have z5 : ∀ k, gI M4 544 k = gI M 544 k := fun k => chx _ _ (by omega) (by omega) (by omega) (by omega) (by omega)
    have hn4 : ∀ k, k < 252 → gI M4 543 k = gI M 544 (252 * a' + k) := fun k hk => by rw [e3 k hk, g7 _ _ (by decide)]
    have hUok : VEq M (undoC M (gP M 271 a') (nowv M)) (wasv M a') := (VEq.undo hR.r8 hR.row (by have := oN.1; omega) hVA oN.cok).tr o2
    have hW4 : VEq M (undoC M (gP M 271 a') (nowv M)) (nowv M4) := hUok.tr (VEq.of252 hn.2 (fun j hj => ⟨hR.r8 j hj, by
      rw [← (hUok j hj).2.1]
      have hh := f1.2.2.2 j (by rw [f3 _ _ (by omega), g2 _ _ (by omega)]; exact hj)
      exact hh.2.1.2.1.2⟩) (fun k hk => by unfold wasv; rw [if_pos hk]; exact (hn4 k hk).symm))
    refine ⟨hR.1.fr (fun x k z => ?_), ⟨?_, ?_, ?_⟩, hR.2.2.1.fr (fun x k z => cpx x k (by omega)), ?_, ⟨?_, ?_, fun i hi => ?_⟩, ?_, ?_, fun i hi => ?_⟩
    · unfold dTx at z
      exact chx x k (by omega) (by omega) (by omega) (by omega) (by omega)
    · rcases hb4 with e | e
      · rw [← e]; exact f2.fr (fun x k _ => cp5 x k)
      · exact hR.2.1.1.fr (fun x k z => cpx x k (by omega))
    · rcases hb4 with e | e
      · exact hR.2.1.2.1.fr (fun x k z => cpx x k (by omega))
      · rw [← e]; exact f2.fr (fun x k _ => cp5 x k)
    · exact hR.2.1.2.2.fr (fun x k z => cpx x k (by omega))
    · rw [cpx 0 1 (by omega)]
      refine MAll.veq ?_ (hW4.fr z2 z3)
      exact f1.fr f2 (fun x k z => by unfold dRc at z; rw [hF.i (by omega), gI_ne _ _ _ _ _ _ (by omega)]) (fun x k _ => cp5 x k)
    · rw [hF.i (by omega), gI_same, e2]
    · rw [e2]; decide
    · rw [e2] at hi; omega
    · rw [hF.i (by omega), e270, e1]
    · rw [e1]; omega
    · rw [e1] at hi
      obtain ⟨g1, g2'⟩ := hH.2.2 i (by omega)
      have eC : ∀ k, gI M4 (gP M4 271 i) k = gI M (gP M 271 i) k := fun k => by
        obtain ⟨z, hz, ez⟩ := hw.ch (k := i) (by omega)
        rw [cpx 271 i (by omega)]
        exact chx _ _ (by omega) (by omega) (by omega) (by omega) (by omega)
      have eat : atv M4 (i + 1) = atv M (i + 1) := by
        funext k
        unfold atv
        by_cases hk : k < 252
        · rw [if_pos hk, if_pos hk, e1, if_pos (show ((i + 1 : Nat) : Int) < gI M 530 16 by omega)]
          by_cases w : i + 1 < a'
          · rw [if_pos (by omega), z5]
          · rw [if_neg (by omega), hn4 k hk, show a' = i + 1 by omega]
        · rw [if_neg hk, if_neg hk]
      have ewa : wasv M4 i = wasv M i := by unfold wasv; simp only [z5]
      rw [eat, ewa]
      refine ⟨?_, ?_⟩
      · unfold ChOk at g1 ⊢
        simp only [eC, z2, z3]
        exact g1
      · have e9 : undoC M4 (gP M4 271 i) (atv M (i + 1)) = undoC M (gP M 271 i) (atv M (i + 1)) := by unfold undoC; simp only [eC]
        rw [e9]
        exact g2'.fr z2 z3
  · exact k_Mo_undo (by omega) (by omega) (fun _ _ => ⟨rfl, hR⟩) (fun M' a z => by omega)
end CC
