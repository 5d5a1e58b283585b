/-! ===== mailMatches, hasPrefixOf ===== -/
section ML
variable {g : Ctx}
theorem anyE_le {M : Mem} {n : Nat} {a : Int} : ∀ {c i : Nat}, i < c → hasN M (noM M (gI M 536 (3 * n + i))) a = true → anyE M n a c = true
  | 0, i, h, _ => by omega
  | c + 1, i, h, t => by
    rw [anyE]
    by_cases e : i = c
    · subst e; rw [t, Bool.or_true]
    · rw [anyE_le (c := c) (i := i) (by omega) t, Bool.true_or]
theorem k_Ev_mailMatches {M0 M : Mem} {Q : Int → Mem → Prop} {o m k : Nat} {a l em : Int} (hC : CSt M0 o a l) (hw : WT M0) (hm : (m : Int) < gI M0 530 2) (hk : (k : Int) < gI M0 533 m) (hF : FrI scC M0 M) (h5 : gI M 258 5 = em) (h6 : gI M 258 6 = 0) (he : 0 ≤ em ∧ em ≤ 2) (hkd : gI M0 537 (rlA M0 m k) = 4) (h : EndM M em (fitK M0 o a l m (rlA M0 m k)) Q) : K_Ev_mailMatches g 33 (gP M0 (gP M0 (gP M0 0 1 + 1) m + 2) k) M Q := by
  have hC1 := hC.fr hw hF
  have hR1 := scC_rw hF
  have hd := hC.1.dom hm
  have h8 := (hC.1.rcnt hm).2
  have hru : isRul (gP M0 (gP M0 (gP M0 0 1 + 1) m + 2) k) := hw.rul hd (by omega)
  obtain ⟨m1, m2, m3, m4⟩ := (hC.1.mdom hm).2.2.1 k hk
  generalize gP M0 (gP M0 (gP M0 0 1 + 1) m + 2) k = r at hru m3 m4
  have e4 : gI M r 4 = gI M0 540 (rlA M0 m k) := by
    rw [hF.i (rul_sc hru (Or.inl rfl) _)]
    exact (m4.2.2.2.1 (by have : gI M0 537 (8 * m + (nowv M0 (21 * m + k)).toNat) = 4 := hkd; omega) (by have : gI M0 537 (8 * m + (nowv M0 (21 * m + k)).toNat) = 4 := hkd; omega)).1
  generalize rlA M0 m k = ra at *
  have hf : fitK M0 o a l m ra = if noM M0 (gI M0 540 ra) = -4 ∨ gI M0 535 (noM M0 (gI M0 540 ra)).toNat = 0 then 2 else if anyE M0 (noM M0 (gI M0 540 ra)).toNat a (gI M0 535 (noM M0 (gI M0 540 ra)).toNat).toNat = true then 1 else 0 := by
    unfold fitK; rw [if_neg (by omega), if_neg (by omega), if_pos hkd]
  refine i_Ev_mailMatches (w_wt (fun hw1 => b_Ev_mailMatches_0 hru ⟨by rw [hC1.2.1]; exact hC1.1.pres, ?_⟩))
  rw [hC1.2.1]
  refine kC_domainOf hC1.1 (hw1.1 _ _) (fun j hj ej _ _ => ?_) (fun en _ _ => bt rfl ?_)
  · rw [e4, hR1.no] at ej
    rw [ej, Int.toNat_natCast] at hf
    have hdj := hC1.1.dom hj
    obtain ⟨_, _, _, _, _, _, _, x10, xc, xk⟩ := (hC1.1.mdom hj).1
    have x35 : gI M 535 j = gI M0 535 j := hR1.2 _ _ (by omega) (by omega)
    rw [x35] at x10 xc xk
    refine bf (nDom hdj) ⟨fun c => ?_, fun c => ?_⟩
    · rw [x10] at c
      rw [if_neg (by omega)] at hf
      have loop : ∀ (w i : Nat), (i : Int) + w = gI M0 535 j → anyE M0 j a i = false → P_Ev_mailMatches g 33 31 [(0, vr g 258), (2, vr g (gP M (gP M 0 1 + 1) j)), (3, vi (i : Int))] [] M Q := by
        intro w
        induction w with
        | zero =>
          intro i hi hb
          rw [show (gI M0 535 j).toNat = i by omega, hb, if_neg (by decide)] at hf
          rw [hf] at h
          exact b_Ev_mailMatches_31 hdj (by omega) (bt (by omega) (h.1 (by omega) M (FrI.rf M) h5 h6))
        | succ w ih =>
          intro i hi hb
          have hki := xk i (by omega)
          refine b_Ev_mailMatches_31 hdj (by omega) (bf (by omega) ⟨by rw [hC1.2.1]; exact hC1.1.pres, by omega, ?_⟩)
          rw [hC1.2.1, Int.toNat_natCast, hki.1]
          have e36 : gI M 536 (3 * j + i) = gI M0 536 (3 * j + i) := hR1.2 _ _ (by omega) (by omega)
          refine kC_domainOf hC1.1 (by omega) (fun j' hj' ej' _ _ => bf (nDom (hC1.1.dom hj')) ?_) (fun en' _ _ => bt rfl ?_)
          · rw [hC1.2.2.2.2.1]
            rw [hR1.no, e36] at ej'
            refine kC_place hC1.1 hj' (by have := hC.2.2.2.2.2.2.1; omega) (fun t x hx _ _ => bf hx ?_) (fun t _ _ => bt rfl ?_)
            · rw [hR1.has] at t
              rw [anyE_le (i := i) (by omega) (by rw [ej']; exact t), if_pos rfl] at hf
              rw [hf] at h
              exact h.1 (by omega) M (FrI.rf M) h5 h6
            · rw [hR1.has] at t
              exact ih (i + 1) (by omega) (by rw [anyE, hb, ej', t]; rfl)
          · rw [hR1.no, e36] at en'
            exact ih (i + 1) (by omega) (by rw [anyE, hb, en']; rfl)
      exact loop (gI M0 535 j).toNat 0 (by omega) rfl
    · rw [x10] at c
      rw [if_pos (Or.inr c)] at hf
      rw [hf] at h
      exact h.no (FrI.rf M) h5 h6 he
  · rw [e4, hR1.no] at en
    rw [if_pos (Or.inl en)] at hf
    rw [hf] at h
    exact h.no (FrI.rf M) h5 h6 he
theorem jxor_comm (x y : Int) : jxor x y = jxor y x := by
  unfold jxor
  rw [Int32.xor_comm]
theorem k_Ru_hasPrefixOf {M0 M : Mem} {Q : Int → Mem → Prop} {o m k : Nat} {a l : Int} (hC : CSt M0 o a l) (hw : WT M0) (hm : (m : Int) < gI M0 530 2) (hk : (k : Int) < gI M0 533 m) (hF : FrI scC M0 M) (hkd : gI M0 537 (rlA M0 m k) = 1) (h : Q (fitK M0 o a l m (rlA M0 m k)) M) : K_Ru_hasPrefixOf g 33 (gP M0 (gP M0 (gP M0 0 1 + 1) m + 2) k) a M Q := by
  have hd := hC.1.dom hm
  have h8 := (hC.1.rcnt hm).2
  have hru : isRul (gP M0 (gP M0 (gP M0 0 1 + 1) m + 2) k) := hw.rul hd (by omega)
  obtain ⟨m1, m2, m3, m4⟩ := (hC.1.mdom hm).2.2.1 k hk
  generalize gP M0 (gP M0 (gP M0 0 1 + 1) m + 2) k = r at hru m3 m4
  obtain ⟨x2, x3, _⟩ := m4.2.2.1 hkd
  rw [show 8 * m + (nowv M0 (21 * m + k)).toNat = rlA M0 m k from rfl] at x2 x3
  have hf : fitK M0 o a l m (rlA M0 m k) = if jshr (jxor a (gI M0 538 (rlA M0 m k))) (8 - gI M0 539 (rlA M0 m k)) = 0 then 1 else 0 := by
    unfold fitK; rw [if_neg (by omega), if_pos hkd]
  refine i_Ru_hasPrefixOf (b_Ru_hasPrefixOf_0 hru (by have := hC.2.2.2.2.2.2.1; omega) ?_)
  rw [hF.i (rul_sc hru (Or.inl rfl) _), hF.i (rul_sc hru (Or.inl rfl) _), x2, x3, jxor_comm]
  rw [hf] at h
  refine ⟨fun c => ?_, fun c => ?_⟩
  · rw [if_neg c] at h; exact h
  · rw [if_pos c] at h; exact h
end ML
