/-! ===== the class's ways to match ===== -/
def fEm (a k : Nat) : Prop := (a = 258 ∧ (k = 5 ∨ k = 6)) ∨ a = 259
theorem fEm_sc {M M' : Mem} (h : FrI fEm M M') : FrI scC M M' := h.mono (fun a k q => by unfold fEm at q; unfold scC; omega)
section MT
variable {g : Ctx} {M : Mem}
theorem k_Ev_lookUp {Q : Int → Mem → Prop} {lk : Int} (h4 : gI M 258 4 = lk) (h6 : gI M 258 6 = 0) (hl : 0 ≤ lk ∧ lk ≤ 10) (q1 : lk < 10 → Q 1 (sI M 258 4 (lk + 1))) (q0 : 10 ≤ lk → Q 0 (sI (sI M 258 4 (lk + 1)) 258 6 1)) : K_Ev_lookUp g 33 M Q := by
  refine i_Ev_lookUp (b_Ev_lookUp_0 ?_)
  rw [h4]
  exact ⟨by omega, fun c => bnf h6 (q1 (by omega)), fun c => q0 (by omega)⟩
theorem k_Ev_findEmpty {Q : Mem → Prop} {em : Int} (h5 : gI M 258 5 = em) (h6 : gI M 258 6 = 0) (he : 0 ≤ em ∧ em ≤ 2) (q : ∀ M' : Mem, FrI fEm M M' → gI M' 258 5 = em + 1 → gI M' 258 6 = (if 2 ≤ em then 1 else 0) → Q M') : K_Ev_findEmpty g 33 M Q := by
  refine i_Ev_findEmpty (b_Ev_findEmpty_0 ?_)
  rw [h5]
  refine ⟨by omega, fun c => q _ (FrI.st (Or.inl ⟨rfl, Or.inl rfl⟩)) (gI_same _ _ _ _) ?_, fun c => q _ (FrI.tr (FrI.st (Or.inl ⟨rfl, Or.inl rfl⟩)) (FrI.st (Or.inl ⟨rfl, Or.inr rfl⟩))) ?_ ?_⟩
  · rw [gI_ne _ _ _ _ _ _ (by omega), if_neg (by omega)]; exact h6
  · rw [gI_ne _ _ _ _ _ _ (by omega), gI_same]
  · rw [gI_same, if_pos (by omega)]
/-- a name's records are found, or there are none -/
theorem kC_domainOf {Q : Nat → Mem → Prop} {v : Int} (hR : Rel M) (hv : InR v) (hs : ∀ j : Nat, (j : Int) < gI M 530 2 → noM M v = j → Q (gP M (gP M 0 1 + 1) j) M) (hn : noM M v = -4 → Q 0 M) : K_Rc_domainOf g 33 (gP M 0 1) v M Q := by
  have h12 := hR.names
  have hz := hR.size
  refine k_Rc_domainOf hR.pres hv (by omega) (by omega) (fun i hi e => hs i (by omega) ?_) (fun e => hn ?_)
  · rw [hR.no] at e; exact e
  · rw [hR.no] at e; exact e
/-- the host's place is looked for -/
theorem kC_place {Q : Int → Mem → Prop} {j : Nat} {a : Int} (hR : Rel M) (hj : (j : Int) < gI M 530 2) (ha : InR a) (q1 : hasN M j a = true → ∀ x : Int, x ≠ -1 → Q x M) (q0 : hasN M j a = false → Q (-1) M) : K_Dm_placeOfHost g 33 (gP M (gP M 0 1 + 1) j) a M Q := by
  obtain ⟨m1, m2, m3⟩ := (hR.mdom hj).2.1
  have eh : hasN M j a = hasF (fun k => mnow M j (17 + k)) a (mnow M j 16).toNat := by unfold hasN; rw [if_neg (by omega), Int.toNat_natCast]
  have ev : nowv M (21 * j + 16) = mnow M j 16 := rfl
  rw [ev] at m1 m2 m3
  refine k_Dm_placeOfHost (hR.dom hj) ha (by omega) (by omega) ?_
  rw [m1]
  rcases noF_cases (gI M (gP M (gP M 0 1 + 1) j + 3)) a (mnow M j 16).toNat with ⟨e, hno⟩ | ⟨i, hi, e, hf, _⟩
  · rw [e]
    refine q0 ?_
    rw [eh]
    cases hb : hasF (fun k => mnow M j (17 + k)) a (mnow M j 16).toNat with
    | false => rfl
    | true =>
      obtain ⟨i, hi, hx⟩ := (hasF_iff _ _ _).mp hb
      exact absurd ((m3 i (by omega)).trans hx) (hno i hi)
  · rw [e]
    refine q1 ?_ _ (by unfold m1F; rw [if_neg (by omega)]; omega)
    rw [eh, hasF_iff]
    exact ⟨i, hi, (m3 i (by omega)).symm.trans hf⟩
end MT
