/-! ===== the model takes a row that was read ===== -/
def mTk (n a k : Nat) : Prop := ((532 ≤ a ∧ a ≤ 535) ∧ k = n) ∨ (a = 536 ∧ 3 * n ≤ k ∧ k < 3 * n + 3) ∨ ((537 ≤ a ∧ a ≤ 541) ∧ 8 * n ≤ k ∧ k < 8 * n + 8) ∨ (a = 542 ∧ 64 * n ≤ k ∧ k < 64 * n + 64) ∨ (a = 543 ∧ 21 * n ≤ k ∧ k < 21 * n + 21)
def TkA (M M1 : Mem) (s n : Nat) : Prop := gI M1 532 n = gI M 545 s ∧ gI M1 533 n = gI M 546 s ∧ gI M1 534 n = gI M 547 s ∧ gI M1 535 n = gI M 548 s
def TkB (M M1 : Mem) (s n j : Nat) : Prop := ∀ k, k < j → gI M1 536 (3 * n + k) = gI M 549 (3 * s + k)
def TkC (M M1 : Mem) (s n j : Nat) : Prop := gI M1 543 (21 * n + 16) = gI M 557 s ∧ ∀ k, k < j → gI M1 543 (21 * n + (17 + k)) = gI M 558 (4 * s + k)
def TkE (M M1 : Mem) (s n k : Nat) : Prop := gI M1 537 (8 * n + k) = gI M 550 (8 * s + k) ∧ gI M1 538 (8 * n + k) = gI M 551 (8 * s + k) ∧ gI M1 539 (8 * n + k) = gI M 552 (8 * s + k) ∧ gI M1 540 (8 * n + k) = gI M 553 (8 * s + k) ∧ gI M1 541 (8 * n + k) = gI M 554 (8 * s + k) ∧ gI M1 543 (21 * n + k) = (k : Nat) ∧ gI M1 543 (21 * n + (8 + k)) = gI M 556 (8 * s + k)
def TkD (M M1 : Mem) (s n j : Nat) : Prop := ∀ k, k < j → TkE M M1 s n k ∧ ∀ p, p < 8 → gI M1 542 (8 * (8 * n + k) + p) = gI M 555 (8 * (8 * s + k) + p)
def TakM (M M1 : Mem) (s n : Nat) : Prop := TkA M M1 s n ∧ TkB M M1 s n 3 ∧ TkC M M1 s n 4 ∧ TkD M M1 s n 8
theorem TkE.fr {M M1 M2 : Mem} {s n k : Nat} (h : TkE M M1 s n k) (e : ∀ a, 537 ≤ a ∧ a ≤ 541 → gI M2 a (8 * n + k) = gI M1 a (8 * n + k)) (e1 : gI M2 543 (21 * n + k) = gI M1 543 (21 * n + k)) (e2 : gI M2 543 (21 * n + (8 + k)) = gI M1 543 (21 * n + (8 + k))) : TkE M M2 s n k := by
  obtain ⟨h1, h2, h3, h4, h5, h6, h7⟩ := h
  exact ⟨by rw [e _ (by omega)]; exact h1, by rw [e _ (by omega)]; exact h2, by rw [e _ (by omega)]; exact h3, by rw [e _ (by omega)]; exact h4, by rw [e _ (by omega)]; exact h5, by rw [e1]; exact h6, by rw [e2]; exact h7⟩
section TK
variable {g : Ctx} {M : Mem}
theorem k_Mo_takes {Q : Mem → Prop} {s n : Nat} (hs : s < 12) (hn : n < 12) (q : ∀ M' : Mem, FrI (mTk n) M M' → TakM M M' s n → Q M') : K_Mo_takes g s n M Q := by
  have rd : ∀ {M1 : Mem}, FrI (mTk n) M M1 → ∀ a k, 545 ≤ a → gI M1 a k = gI M a k := fun hF a k x => hF.i (by unfold mTk; omega)
  -- the rules
  have l138 : ∀ (w j : Nat) (M1 : Mem), j + w = 8 → FrI (mTk n) M M1 → TkA M M1 s n → TkB M M1 s n 3 → TkC M M1 s n 4 → TkD M M1 s n j → P_Mo_takes g 138 [(0, vr g 530), (1, vi (s : Int)), (2, vi (n : Int)), (3, vi (j : Int))] [] M1 Q := by
    intro w
    induction w with
    | zero =>
      intro j M1 hj hF hA hB hC hD
      have : j = 8 := by omega
      subst this
      exact b_Mo_takes_138 (by omega) (by omega) (by omega) (bt (by omega) (q M1 hF ⟨hA, hB, hC, hD⟩))
    | succ w ih =>
      intro j M1 hj hF hA hB hC hD
      refine b_Mo_takes_138 (by omega) (by omega) (by omega) (bf (by omega) ⟨by omega, by omega, by omega, by omega, ?_⟩)
      rw [show (8 * (n : Int) + (j : Int)).toNat = 8 * n + j by omega, show (8 * (s : Int) + (j : Int)).toNat = 8 * s + j by omega, show (21 * (n : Int) + (j : Int)).toNat = 21 * n + j by omega, show (21 * (n : Int) + 8 + (j : Int)).toNat = 21 * n + (8 + j) by omega, rd hF 550 _ (by omega), rd hF 551 _ (by omega), rd hF 552 _ (by omega), rd hF 553 _ (by omega), rd hF 554 _ (by omega), rd hF 556 _ (by omega)]
      generalize hN : sI (sI (sI (sI (sI (sI (sI M1 537 (8 * n + j) (gI M 550 (8 * s + j))) 538 (8 * n + j) (gI M 551 (8 * s + j))) 539 (8 * n + j) (gI M 552 (8 * s + j))) 540 (8 * n + j) (gI M 553 (8 * s + j))) 541 (8 * n + j) (gI M 554 (8 * s + j))) 543 (21 * n + j) (j : Int)) 543 (21 * n + (8 + j)) (gI M 556 (8 * s + j)) = N
      have no : ∀ a k, ¬ ((537 ≤ a ∧ a ≤ 541) ∧ k = 8 * n + j) → ¬ (a = 543 ∧ (k = 21 * n + j ∨ k = 21 * n + (8 + j))) → gI N a k = gI M1 a k := fun a k z1 z2 => by
        rw [← hN, gI_ne _ _ _ _ _ _ (by omega), gI_ne _ _ _ _ _ _ (by omega), gI_ne _ _ _ _ _ _ (by omega), gI_ne _ _ _ _ _ _ (by omega), gI_ne _ _ _ _ _ _ (by omega), gI_ne _ _ _ _ _ _ (by omega), gI_ne _ _ _ _ _ _ (by omega)]
      have hFN : FrI (mTk n) M N := by
        rw [← hN]
        exact hF.tr (FrI.tr (FrI.tr (FrI.tr (FrI.tr (FrI.tr (FrI.tr (FrI.st (by unfold mTk; omega)) (FrI.st (by unfold mTk; omega))) (FrI.st (by unfold mTk; omega))) (FrI.st (by unfold mTk; omega))) (FrI.st (by unfold mTk; omega))) (FrI.st (by unfold mTk; omega))) (FrI.st (by unfold mTk; omega)))
      have eN : TkE M N s n j := by
        rw [← hN]
        refine ⟨?_, ?_, ?_, ?_, ?_, ?_, gI_same _ _ _ _⟩
        · rw [gI_ne _ _ _ _ _ _ (by omega), gI_ne _ _ _ _ _ _ (by omega), gI_ne _ _ _ _ _ _ (by omega), gI_ne _ _ _ _ _ _ (by omega), gI_ne _ _ _ _ _ _ (by omega), gI_ne _ _ _ _ _ _ (by omega), gI_same]
        · rw [gI_ne _ _ _ _ _ _ (by omega), gI_ne _ _ _ _ _ _ (by omega), gI_ne _ _ _ _ _ _ (by omega), gI_ne _ _ _ _ _ _ (by omega), gI_ne _ _ _ _ _ _ (by omega), gI_same]
        · rw [gI_ne _ _ _ _ _ _ (by omega), gI_ne _ _ _ _ _ _ (by omega), gI_ne _ _ _ _ _ _ (by omega), gI_ne _ _ _ _ _ _ (by omega), gI_same]
        · rw [gI_ne _ _ _ _ _ _ (by omega), gI_ne _ _ _ _ _ _ (by omega), gI_ne _ _ _ _ _ _ (by omega), gI_same]
        · rw [gI_ne _ _ _ _ _ _ (by omega), gI_ne _ _ _ _ _ _ (by omega), gI_same]
        · rw [gI_ne _ _ _ _ _ _ (by omega), gI_same]
      have inner : ∀ (v p : Nat) (M2 : Mem), p + v = 8 → FrI (fun a k => a = 542 ∧ 8 * (8 * n + j) ≤ k ∧ k < 8 * (8 * n + j) + 8) N M2 → (∀ u, u < p → gI M2 542 (8 * (8 * n + j) + u) = gI M 555 (8 * (8 * s + j) + u)) → P_Mo_takes g 266 [(0, vr g 530), (1, vi (s : Int)), (2, vi (n : Int)), (3, vi (j : Int)), (4, vi (8 * (s : Int) + (j : Int))), (5, vi (8 * (n : Int) + (j : Int))), (6, vi (p : Int))] [] M2 Q := by
        intro v
        induction v with
        | zero =>
          intro p M2 hp hF2 hu
          have : p = 8 := by omega
          subst this
          refine b_Mo_takes_266 (by omega) (by omega) (by omega) (by omega) (by omega) (by omega) (bt (by omega) ?_)
          have hF2' : FrI (mTk n) M M2 := hFN.tr (hF2.mono (fun a k z => by unfold mTk; omega))
          have keep : ∀ a k, a ≠ 542 → ¬ ((537 ≤ a ∧ a ≤ 541) ∧ k = 8 * n + j) → ¬ (a = 543 ∧ (k = 21 * n + j ∨ k = 21 * n + (8 + j))) → gI M2 a k = gI M1 a k := fun a k z0 z1 z2 => by rw [hF2.i (by omega), no a k z1 z2]
          refine ih (j + 1) M2 (by omega) hF2' ?_ (fun k hk => ?_) ⟨?_, fun k hk => ?_⟩ (fun k hk => ⟨?_, fun u hu8 => ?_⟩)
          · obtain ⟨a1, a2, a3, a4⟩ := hA
            exact ⟨by rw [keep _ _ (by omega) (by omega) (by omega)]; exact a1, by rw [keep _ _ (by omega) (by omega) (by omega)]; exact a2, by rw [keep _ _ (by omega) (by omega) (by omega)]; exact a3, by rw [keep _ _ (by omega) (by omega) (by omega)]; exact a4⟩
          · rw [keep _ _ (by omega) (by omega) (by omega)]; exact hB k hk
          · rw [keep _ _ (by omega) (by omega) (by omega)]; exact hC.1
          · rw [keep _ _ (by omega) (by omega) (by omega)]; exact hC.2 k hk
          · by_cases z : k = j
            · subst z
              exact eN.fr (fun a ha => hF2.i (by omega)) (hF2.i (by omega)) (hF2.i (by omega))
            · exact (hD k (by omega)).1.fr (fun a ha => keep _ _ (by omega) (by omega) (by omega)) (keep _ _ (by omega) (by omega) (by omega)) (keep _ _ (by omega) (by omega) (by omega))
          · by_cases z : k = j
            · subst z; exact hu u hu8
            · rw [hF2.i (by omega), no _ _ (by omega) (by omega)]
              exact (hD k (by omega)).2 u hu8
        | succ v ihv =>
          intro p M2 hp hF2 hu
          have hF2' : FrI (mTk n) M M2 := hFN.tr (hF2.mono (fun a k z => by unfold mTk; omega))
          refine b_Mo_takes_266 (by omega) (by omega) (by omega) (by omega) (by omega) (by omega) (bf (by omega) ⟨by omega, by omega, ?_⟩)
          rw [show (8 * (8 * (n : Int) + (j : Int)) + (p : Int)).toNat = 8 * (8 * n + j) + p by omega, show (8 * (8 * (s : Int) + (j : Int)) + (p : Int)).toNat = 8 * (8 * s + j) + p by omega, rd hF2' 555 _ (by omega)]
          refine ihv (p + 1) _ (by omega) (hF2.tr (FrI.st ⟨rfl, by omega, by omega⟩)) (fun u hu2 => ?_)
          by_cases z : u = p
          · subst z; rw [gI_same]
          · rw [gI_ne _ _ _ _ _ _ (by omega)]; exact hu u (by omega)
      exact inner 8 0 N (by omega) (FrI.rf N) (fun u hu => by omega)
  -- the hosts
  have l101 : ∀ (w j : Nat) (M1 : Mem), j + w = 4 → FrI (mTk n) M M1 → TkA M M1 s n → TkB M M1 s n 3 → TkC M M1 s n j → P_Mo_takes g 101 [(0, vr g 530), (1, vi (s : Int)), (2, vi (n : Int)), (3, vi (j : Int))] [] M1 Q := by
    intro w
    induction w with
    | zero =>
      intro j M1 hj hF hA hB hC
      have : j = 4 := by omega
      subst this
      exact b_Mo_takes_101 (by omega) (by omega) (by omega) (bt (by omega) (l138 8 0 M1 (by omega) hF hA hB hC (fun k hk => by omega)))
    | succ w ih =>
      intro j M1 hj hF hA hB hC
      refine b_Mo_takes_101 (by omega) (by omega) (by omega) (bf (by omega) ⟨by omega, by omega, ?_⟩)
      rw [show (21 * (n : Int) + 17 + (j : Int)).toNat = 21 * n + (17 + j) by omega, show (4 * (s : Int) + (j : Int)).toNat = 4 * s + j by omega, rd hF 558 _ (by omega)]
      refine ih (j + 1) _ (by omega) (hF.tr (FrI.st (by unfold mTk; omega))) ?_ (fun k hk => ?_) ⟨?_, fun k hk => ?_⟩
      · obtain ⟨a1, a2, a3, a4⟩ := hA
        exact ⟨by rw [gI_ne _ _ _ _ _ _ (by omega)]; exact a1, by rw [gI_ne _ _ _ _ _ _ (by omega)]; exact a2, by rw [gI_ne _ _ _ _ _ _ (by omega)]; exact a3, by rw [gI_ne _ _ _ _ _ _ (by omega)]; exact a4⟩
      · rw [gI_ne _ _ _ _ _ _ (by omega)]; exact hB k hk
      · rw [gI_ne _ _ _ _ _ _ (by omega)]; exact hC.1
      · by_cases z : k = j
        · subst z; rw [gI_same]
        · rw [gI_ne _ _ _ _ _ _ (by omega)]; exact hC.2 k (by omega)
  have l50 : ∀ (w j : Nat) (M1 : Mem), j + w = 3 → FrI (mTk n) M M1 → TkA M M1 s n → TkB M M1 s n j → P_Mo_takes g 50 [(0, vr g 530), (1, vi (s : Int)), (2, vi (n : Int)), (3, vi (j : Int))] [] M1 Q := by
    intro w
    induction w with
    | zero =>
      intro j M1 hj hF hA hB
      have : j = 3 := by omega
      subst this
      refine b_Mo_takes_50 (by omega) (by omega) (by omega) (bt (by omega) ⟨by omega, by omega, ?_⟩)
      rw [show (21 * (n : Int) + 16).toNat = 21 * n + 16 by omega, Int.toNat_natCast, rd hF 557 _ (by omega)]
      refine l101 4 0 _ (by omega) (hF.tr (FrI.st (by unfold mTk; omega))) ?_ (fun k hk => ?_) ⟨gI_same _ _ _ _, fun k hk => by omega⟩
      · obtain ⟨a1, a2, a3, a4⟩ := hA
        exact ⟨by rw [gI_ne _ _ _ _ _ _ (by omega)]; exact a1, by rw [gI_ne _ _ _ _ _ _ (by omega)]; exact a2, by rw [gI_ne _ _ _ _ _ _ (by omega)]; exact a3, by rw [gI_ne _ _ _ _ _ _ (by omega)]; exact a4⟩
      · rw [gI_ne _ _ _ _ _ _ (by omega)]; exact hB k hk
    | succ w ih =>
      intro j M1 hj hF hA hB
      refine b_Mo_takes_50 (by omega) (by omega) (by omega) (bf (by omega) ⟨by omega, by omega, ?_⟩)
      rw [show (3 * (n : Int) + (j : Int)).toNat = 3 * n + j by omega, show (3 * (s : Int) + (j : Int)).toNat = 3 * s + j by omega, rd hF 549 _ (by omega)]
      refine ih (j + 1) _ (by omega) (hF.tr (FrI.st (by unfold mTk; omega))) ?_ (fun k hk => ?_)
      · obtain ⟨a1, a2, a3, a4⟩ := hA
        exact ⟨by rw [gI_ne _ _ _ _ _ _ (by omega)]; exact a1, by rw [gI_ne _ _ _ _ _ _ (by omega)]; exact a2, by rw [gI_ne _ _ _ _ _ _ (by omega)]; exact a3, by rw [gI_ne _ _ _ _ _ _ (by omega)]; exact a4⟩
      · by_cases z : k = j
        · subst z; rw [gI_same]
        · rw [gI_ne _ _ _ _ _ _ (by omega)]; exact hB k (by omega)
  refine i_Mo_takes (b_Mo_takes_0 (by omega) (by omega) ⟨by omega, by omega, ?_⟩)
  rw [Int.toNat_natCast, Int.toNat_natCast]
  refine l50 3 0 _ (by omega) (FrI.tr (FrI.tr (FrI.tr (FrI.st (by unfold mTk; omega)) (FrI.st (by unfold mTk; omega))) (FrI.st (by unfold mTk; omega))) (FrI.st (by unfold mTk; omega))) ⟨?_, ?_, ?_, gI_same _ _ _ _⟩ (fun k hk => by omega)
  · rw [gI_ne _ _ _ _ _ _ (by omega), gI_ne _ _ _ _ _ _ (by omega), gI_ne _ _ _ _ _ _ (by omega), gI_same]
  · rw [gI_ne _ _ _ _ _ _ (by omega), gI_ne _ _ _ _ _ _ (by omega), gI_same]
  · rw [gI_ne _ _ _ _ _ _ (by omega), gI_same]
end TK
