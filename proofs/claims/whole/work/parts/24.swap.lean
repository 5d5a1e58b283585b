section CC
variable {g : Ctx} {n : Nat} {M : Mem}
theorem k_Dm_swapRules {Q : Int → Mem → Prop} {d p : Nat} (ho : isDom d) (h0 : 0 ≤ gI M d 5) (h8 : gI M d 5 ≤ 8) (hp : p < 8) (hz : gI M d 5 ≤ (p : Int) + 1 → Q 0 M) (h : (p : Int) + 1 < gI M d 5 → Q 1 (sP (sP M (d + 2) p (gP M (d + 2) (p + 1))) (d + 2) (p + 1) (gP M (d + 2) p))) : K_Dm_swapRules g n d p M Q := by
  refine i_Dm_swapRules (b_Dm_swapRules_0 ho (by omega) (bf (by omega) ⟨by omega, fun c => ⟨by omega, by omega, ?_⟩, fun c => hz (by omega)⟩))
  rw [Int.toNat_natCast, show ((p : Int) + 1).toNat = p + 1 by omega]
  exact h (by omega)
theorem inv_all {M : Mem} (hR : Rel M) {k1 k2 x y : Int} {j p q : Nat} (hj : (j : Int) < gI M 530 2) (n1 : k1 ≠ 0) (n2 : k2 ≠ 0) (b1 : q + 1 < 8 ∨ k1 ≠ 1) (b2 : p + 1 < 8 ∨ k2 ≠ 1) (h : V1 (gI M 533 j) j (undoV k2 j p y (undoV k1 j q x (nowv M))) (nowv M)) : VEq M (undoV k2 j p y (undoV k1 j q x (nowv M))) (nowv M) := by
  intro i hi
  by_cases z : i = j
  · subst z; exact h
  · have h4 := (hR.row i hi).1.2
    have o1 := V1.off (kind := k1) (x := x) (p := q) z (hR.r8 i hi) h4 b1 (fun w => absurd w n1)
    exact (o1.tr (V1.off (kind := k2) (x := y) (p := p) z (hR.r8 i hi) (by rw [← o1.2.1]; exact h4) b2 (fun w => absurd w n2))).sy
theorem Rel.blk {M : Mem} (hR : Rel M) {j : Nat} (hj : (j : Int) < gI M 530 2) : ∃ q, q < 12 ∧ gP M (gP M 0 1 + 1) j = gP M 0 1 + 2 + 21 * q := by
  have hn := hR.names
  exact (hR.prec hR.pres).1 j (by omega)
theorem j_swap {p0 p1 : Int} (hR : Rel M) (h0 : InR p0) (h1 : InR p1) : K_Sr_swap g 33 p0 p1 M (fun r M1 => WT M1 → K_Mo_swap g p0 p1 M1 (fun r' M2 => WT M2 → r = r' ∧ Rel M2)) := by
  have hn := hR.names
  have hsz := hR.size
  have hrc : ∀ j : Nat, (j : Int) < gI M 530 2 → 0 ≤ gI M 533 j ∧ gI M 533 j ≤ 8 := fun j hj => hR.rcnt hj
  have hb4 : gP M 0 1 = 4 ∨ gP M 0 1 = 276 := hR.pres
  have bad : ((p0 < 0 ∨ gI M 530 2 ≤ p0) ∨ ∃ j : Nat, (j : Int) < gI M 530 2 ∧ p0 = j ∧ (p1 < 0 ∨ gI M 533 j ≤ p1)) → K_Mo_swap g p0 p1 M (fun r' M2 => WT M2 → -1 = r' ∧ Rel M2) := fun hz => by
    refine i_Mo_swap (b_Mo_swap_0 h0 h1 (k_Mo_isRule h0 h1 (by omega) (by omega) hrc (fun a b c d => ?_) (fun _ _ _ => bnf rfl (fun _ => ⟨rfl, hR⟩))))
    rcases hz with z | ⟨j, hj, rfl, z⟩
    · omega
    · rw [Int.toNat_natCast] at d; omega
  refine i_Sr_swap (w_wt (fun hw => b_Sr_swap_0 h0 h1 ⟨hR.pres, ?_⟩))
  rcases hR.kd p0 with hk | ⟨j, hj, rfl⟩
  · exact k_Rc_domainAt hR.pres h0 (by omega) (fun a b => by omega) (fun _ _ _ => bt rfl (fun _ => bad (Or.inl hk)))
  · have hd := hR.dom hj
    have m5 := (hR.mdom hj).1.2.2.1
    have m5b := hR.rcnt hj
    obtain ⟨q, hq, eq⟩ := hR.blk hj
    refine k_Rc_domainAt hR.pres h0 (by omega) (fun _ _ _ _ => ?_) (fun a => by omega)
    rw [Int.toNat_natCast]
    refine bf (nDom hd) (k_Dm_ruleAt hd h1 (by omega) (fun a b hr _ => ?_) (fun a _ _ => bnf rfl (fun _ => bad (Or.inr ⟨j, hj, rfl, by omega⟩))))
    obtain ⟨i, rfl⟩ := Int.eq_ofNat_of_zero_le a
    have hi : (i : Int) < gI M 533 j := by omega
    rw [Int.toNat_natCast] at hr ⊢
    refine bnt (nRul (hw.rul hd (by omega))) (k_Dm_swapRules hd (by omega) (by omega) (by omega) (fun c _ _ => bnf rfl (fun _ => ?_)) (fun c _ _ => bnt (by decide) ?_))
    · refine i_Mo_swap (b_Mo_swap_0 h0 h1 (k_Mo_isRule h0 h1 (by omega) (by omega) hrc (fun _ _ _ _ _ _ => bnt (by decide) ⟨by omega, by omega, ?_⟩) (fun z => by rw [Int.toNat_natCast] at z; omega)))
      rw [Int.toNat_natCast]
      exact bnf (by omega) (fun _ => ⟨rfl, hR⟩)
    · have hch := hR.hist
      have hp : (i : Int) + 1 < gI M 533 j := by omega
      obtain ⟨c1, c2, c3⟩ := cls1 (x := 0) hR.pres (hR.prec hR.pres) hR.2.2.2.1 hj hp
      generalize hM1 : sP (sP M (gP M (gP M 0 1 + 1) j + 2) i (gP M (gP M (gP M 0 1 + 1) j + 2) (i + 1))) (gP M (gP M 0 1 + 1) j + 2) (i + 1) (gP M (gP M (gP M 0 1 + 1) j + 2) i) = M1 at *
      have hint : ∀ a k, gI M1 a k = gI M a k := fun a k => by rw [← hM1]; rfl
      refine k_Sr_noteChange (by rw [hint]; omega) (by rw [hint]; omega) (fun x x' hx hx' z => ?_) (by decide) h0 h1 (by decide) (fun M2 hh0 s hs hN hw2 _ => ?_)
      · rw [c3 _ _ (by omega), c3 _ _ (by omega)] at z; exact hR.hin x x' hx hx' z
      · rw [hint] at hs
        have g2 : ∀ a k, (530 ≤ a) → gI M2 a k = gI M a k := fun a k ha => by rw [hN.2.2.1 a k (by omega) (by omega) (by omega), hint]
        have g2d : gI M2 (gP M (gP M 0 1 + 1) j) 5 = gI M 533 j := by rw [hN.2.2.1 _ _ (by omega) (by omega) (by omega), hint]; exact m5
        rw [g2d]
        refine i_Mo_swap (b_Mo_swap_0 h0 h1 (k_Mo_isRule h0 h1 (by rw [g2 _ _ (by decide)]; omega) (by rw [g2 _ _ (by decide)]; omega) (fun x hx => by rw [g2 _ _ (by decide)] at hx ⊢; exact hrc x hx) (fun _ _ _ _ _ _ => bnt (by decide) ⟨by omega, by omega, ?_⟩) (fun z => by rw [Int.toNat_natCast, g2 _ _ (by decide), g2 _ _ (by decide)] at z; omega)))
        rw [Int.toNat_natCast]
        refine bnt (by rw [g2 _ _ (by decide)]; omega) (k_Mo_keeps (by rw [g2 _ _ (by decide)]; omega) (by rw [g2 _ _ (by decide)]; omega) (fun M3 ha sa hsa hK _ => ?_))
        rw [g2 _ _ (by decide), ← hch.2.2] at hsa
        obtain ⟨e1, e2⟩ := Sh4.eq hs hsa
        subst e1
        subst e2
        have g3 : ∀ k, gI M3 543 k = gI M 543 k := fun k => by rw [hK.1.i (by omega), g2 _ _ (by decide)]
        have g33 : gI M3 533 j = gI M 533 j := by rw [hK.1.i (by omega), g2 _ _ (by decide)]
        rw [show ((21 * (j : Int)) + (i : Int)).toNat = 21 * j + i by omega, show ((21 * (j : Int)) + (i : Int) + 1).toNat = 21 * j + (i + 1) by omega, g33, g3, g3]
        refine ⟨by omega, by omega, fun _ => ⟨rfl, ?_⟩⟩
        refine push_rel (j := j) (p := i) (V := undoV 1 j i 0 (nowv M)) hR (fun x hx => hw.ch hx) c1 c2 (fun a k _ => hint a k) (fun a k hz => c3 a k (by omega)) hs hN hw2 hK (FrI.tr (S := fun a _ => a = 543) (FrI.st rfl) (FrI.st rfl)) ?_ hj rfl rfl (Or.inr (Or.inl ⟨rfl, hp⟩)) (fun z => absurd z (by decide)) (inv_all hR hj (by decide) (by decide) (Or.inl (by omega)) (Or.inl (by omega)) (inv1 (hR.r8 j hj) hp))
        have ev : nowv (sI (sI M3 543 (21 * j + i) (gI M 543 (21 * j + (i + 1)))) 543 (21 * j + (i + 1)) (gI M 543 (21 * j + i))) = undoV 1 j i 0 (nowv M) := by
          funext k
          unfold undoV
          rw [if_neg (by decide), if_pos rfl]
          show gI (sI (sI M3 543 _ _) 543 _ _) 543 k = (if _ then _ else if _ then _ else _)
          rw [gI_sI, gI_sI, g3]
          by_cases z : k = 21 * j + (i + 1)
          · rw [if_pos ⟨rfl, z⟩, if_neg (by omega), if_pos z]; rfl
          · rw [if_neg (fun w => z w.2)]
            by_cases z2 : k = 21 * j + i
            · rw [if_pos ⟨rfl, z2⟩, if_pos z2]; rfl
            · rw [if_neg (fun w => z2 w.2), if_neg z2, if_neg z]; rfl
        rw [ev]
        exact VEq.rf _ _
end CC
