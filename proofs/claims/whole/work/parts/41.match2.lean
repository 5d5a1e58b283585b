/-! ===== hostMatches, mailMatches, existsMatches ===== -/
section MT2
variable {g : Ctx}
/-- what a match that looks something up ends with: x of fitK -/
def EndM (M : Mem) (em x : Int) (Q : Int → Mem → Prop) : Prop := (x ≠ 2 → ∀ M' : Mem, FrI fEm M M' → gI M' 258 5 = em → gI M' 258 6 = 0 → Q x M') ∧ (x = 2 → ∀ M' : Mem, FrI fEm M M' → gI M' 258 5 = em + 1 → gI M' 258 6 = (if 2 ≤ em then 1 else 0) → Q 0 M')
theorem EndM.no {M M1 : Mem} {em : Int} {Q : Int → Mem → Prop} (h : EndM M em 2 Q) (hF : FrI fEm M M1) (h5 : gI M1 258 5 = em) (h6 : gI M1 258 6 = 0) (he : 0 ≤ em ∧ em ≤ 2) : K_Ev_findEmpty g 33 M1 (fun M12 => WT M12 → Q 0 M12) := k_Ev_findEmpty h5 h6 he (fun M' hF' e5 e6 _ => h.2 rfl M' (hF.tr hF') e5 e6)
/-- a rule of the class during a check -/
theorem rul_sc {r a : Nat} (h : isRul r) (hk : a = r ∨ a = r + 1) (k : Nat) : ¬ scC a k := by
  obtain ⟨d, i, ⟨b, q, hb, hq, rfl⟩, hi, rfl⟩ := h
  unfold scC
  rcases hb with rfl | rfl <;> omega
theorem k_Ev_hostMatches {M0 M : Mem} {Q : Int → Mem → Prop} {o m k : Nat} {a l em : Int} (hC : CSt M0 o a l) (hw : WT M0) (hm : (m : Int) < gI M0 530 2) (hk : (k : Int) < gI M0 533 m) (hF : FrI scC M0 M) (h5 : gI M 258 5 = em) (h6 : gI M 258 6 = 0) (he : 0 ≤ em ∧ em ≤ 2) (hkd : gI M0 537 (rlA M0 m k) = 3) (h : EndM M em (fitK M0 o a l m (rlA M0 m k)) Q) : K_Ev_hostMatches g 33 (gP M0 (gP M0 (gP M0 0 1 + 1) m + 2) k) M Q := by
  have hC1 := hC.fr hw hF
  have hR1 := scC_rw hF
  have hd := hC.1.dom hm
  have h8 := (hC.1.rcnt hm).2
  have hru : isRul (gP M0 (gP M0 (gP M0 0 1 + 1) m + 2) k) := hw.rul hd (by omega)
  obtain ⟨m1, m2, m3, m4⟩ := (hC.1.mdom hm).2.2.1 k hk
  generalize gP M0 (gP M0 (gP M0 0 1 + 1) m + 2) k = r at hru m3 m4
  have e4 : gI M r 4 = gI M0 540 (rlA M0 m k) := by
    rw [hF.i (rul_sc hru (Or.inl rfl) _)]
    exact (m4.2.2.2.1 (by have : gI M0 537 (8 * m + (nowv M0 (21 * m + k)).toNat) = 3 := hkd; omega) (by have : gI M0 537 (8 * m + (nowv M0 (21 * m + k)).toNat) = 3 := hkd; omega)).1
  have hf : fitK M0 o a l m (rlA M0 m k) = if hstN M0 (noM M0 (gI M0 540 (rlA M0 m k))) = 0 then 2 else if hasN M0 (noM M0 (gI M0 540 (rlA M0 m k))) a = true then 1 else 0 := by
    unfold fitK; rw [if_neg (by omega), if_neg (by omega), if_neg (by omega), if_neg (by omega)]
  refine i_Ev_hostMatches (w_wt (fun hw1 => b_Ev_hostMatches_0 hru ⟨by rw [hC1.2.1]; exact hC1.1.pres, ?_⟩))
  rw [hC1.2.1]
  refine kC_domainOf hC1.1 (hw1.1 _ _) (fun j hj ej _ _ => ?_) (fun en _ _ => bt rfl ?_)
  · rw [e4, hR1.no] at ej
    rw [ej] at hf
    have e8 : gI M (gP M (gP M 0 1 + 1) j) 8 = hstN M0 j := by
      rw [(hC1.1.mdom hj).2.1.1]
      unfold hstN
      rw [if_neg (by omega), Int.toNat_natCast]
      exact hR1.now j 16
    rw [e8, hC1.2.2.2.2.1]
    refine bf (nDom (hC1.1.dom hj)) ⟨fun c => ?_, fun c => ?_⟩
    · rw [if_neg c] at hf
      refine kC_place hC1.1 hj (by have := hC.2.2.2.2.2.2.1; omega) (fun t x hx _ _ => bf hx ?_) (fun t _ _ => bt rfl ?_)
      · rw [hR1.has] at t
        rw [if_pos t] at hf
        rw [hf] at h
        exact h.1 (by omega) M (FrI.rf M) h5 h6
      · rw [hR1.has] at t
        rw [if_neg (by rw [t]; decide)] at hf
        rw [hf] at h
        exact h.1 (by omega) M (FrI.rf M) h5 h6
    · rw [if_pos c] at hf
      rw [hf] at h
      exact h.no (FrI.rf M) h5 h6 he
  · rw [e4, hR1.no] at en
    rw [en, show hstN M0 (-4) = 0 from rfl, if_pos rfl] at hf
    rw [hf] at h
    exact h.no (FrI.rf M) h5 h6 he
end MT2
