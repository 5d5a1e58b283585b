/-! ===== existsMatches ===== -/
theorem at259_em {M M' : Mem} (h : FrI (atO 259) M M') : FrI fEm M M' := h.mono (fun a k q => Or.inr q)
section EX
variable {g : Ctx}
theorem k_Ev_existsMatches {M0 M : Mem} {Q : Int → Mem → Prop} {o m k : Nat} {a l em : Int} (hC : CSt M0 o a l) (hw : WT M0) (hm : (m : Int) < gI M0 530 2) (hk : (k : Int) < gI M0 533 m) (hF : FrI scC M0 M) (h5 : gI M 258 5 = em) (h6 : gI M 258 6 = 0) (he : 0 ≤ em ∧ em ≤ 2) (hkd : gI M0 537 (rlA M0 m k) = 5) (h : EndM M em (fitK M0 o a l m (rlA M0 m k)) Q) : K_Ev_existsMatches g 33 (gP M0 (gP M0 (gP M0 0 1 + 1) m + 2) k) (gP M0 (gP M0 0 1 + 1) m) M Q := by
  have hd := hC.1.dom hm
  have h8 := (hC.1.rcnt hm).2
  have hru : isRul (gP M0 (gP M0 (gP M0 0 1 + 1) m + 2) k) := hw.rul hd (by omega)
  obtain ⟨m1, m2, m3, m4⟩ := (hC.1.mdom hm).2.2.1 k hk
  generalize gP M0 (gP M0 (gP M0 0 1 + 1) m + 2) k = r at hru m3 m4
  obtain ⟨p6, pn, pp⟩ := m4.2.2.2.2.2 hkd
  have ea : 8 * m + (nowv M0 (21 * m + k)).toNat = rlA M0 m k := rfl
  rw [ea] at p6 pn pp
  generalize rlA M0 m k = ra at *
  obtain ⟨_, ⟨nm, vm, _⟩, _⟩ := (hC.1.mdom hm).1
  obtain ⟨_, ⟨no, vo, _⟩, _⟩ := (hC.1.mdom hC.2.2.1).1
  have hl := hC.2.2.2.2.2.2.2
  have hmok : ∀ i : Nat, (i : Int) ≤ gI M0 541 ra → okL (macT M0 o a l m ra i) := fun i hi => macT_ok hl ⟨_, vo⟩ ⟨_, vm⟩ i (fun j hj => (pp j (by omega)).ok.1)
  have hf : fitK M0 o a l m ra = if hstN M0 (noM M0 (mnmN M0 o a l m ra)) = 0 then 2 else 1 := by
    unfold fitK; rw [if_neg (by omega), if_neg (by omega), if_neg (by omega), if_pos hkd]
  have loop : ∀ (i : Nat) (M1 : Mem) (s : List Int), (i : Int) ≤ gI M0 541 ra → FrI (atO 259) M M1 → okL s → MkIs M1 259 s → s ++ (macT M0 o a l m ra i).reverse = (macT M0 o a l m ra (gI M0 541 ra).toNat).reverse → P_Ev_existsMatches g 33 14 [(0, vr g 258), (1, vr g r), (2, vr g (gP M0 (gP M0 0 1 + 1) m)), (3, vi ((i : Int) - 1))] [] M1 Q := by
    intro i
    induction i with
    | zero =>
      intro M1 s hi hF1 hs hM1 hsum
      have hFF := hF.tr (at259 hF1)
      have hC1 := hC.fr hw hFF
      have hR1 := scC_rw hFF
      rw [macT, List.reverse_nil, List.append_nil] at hsum
      have hb := enc7_bd 7 s hs
      have hb2 : enc7 7 s < 410338673 := by simpa using hb.2
      have t5 : gI M1 258 5 = em := by rw [hF1.i (by unfold atO; omega)]; exact h5
      have t6 : gI M1 258 6 = 0 := by rw [hF1.i (by unfold atO; omega)]; exact h6
      refine b_Ev_existsMatches_14 hru hd (by omega) (bt (by omega) ⟨by rw [hC1.2.1]; exact hC1.1.pres, ?_⟩)
      rw [hC1.2.1]
      refine k_Nm_finished (Or.inr rfl) rfl hM1.1 (by omega) hM1.2.1 (by rw [hM1.2.2]; exact hb2) (fun hIR _ => ?_)
      rw [hM1.2.2, hsum] at hIR ⊢
      rw [show enc7 7 (macT M0 o a l m ra (gI M0 541 ra).toNat).reverse = mnmN M0 o a l m ra from rfl] at hIR ⊢
      refine kC_domainOf hC1.1 hIR (fun j hj ej _ _ => ?_) (fun en _ _ => bt rfl ?_)
      · rw [hR1.no] at ej
        rw [ej] at hf
        have e8 : gI M1 (gP M1 (gP M1 0 1 + 1) j) 8 = hstN M0 j := by
          rw [(hC1.1.mdom hj).2.1.1]
          unfold hstN
          rw [if_neg (by omega), Int.toNat_natCast]
          exact hR1.now j 16
        rw [e8]
        refine bf (nDom (hC1.1.dom hj)) ⟨fun c => ?_, fun c => ?_⟩
        · rw [if_neg c] at hf
          rw [hf] at h
          exact h.1 (by omega) M1 (at259_em hF1) t5 t6
        · rw [if_pos c] at hf
          rw [hf] at h
          exact h.no (at259_em hF1) t5 t6 he
      · rw [hR1.no] at en
        rw [en, show hstN M0 (-4) = 0 from rfl, if_pos rfl] at hf
        rw [hf] at h
        exact h.no (at259_em hF1) t5 t6 he
    | succ i ih =>
      intro M1 s hi hF1 hs hM1 hsum
      have hFF := hF.tr (at259 hF1)
      refine b_Ev_existsMatches_14 hru hd (by omega) (bf (by omega) ⟨by omega, ?_⟩)
      rw [show (((i + 1 : Nat) : Int) - 1).toNat = i by omega, show (((i + 1 : Nat) : Int) - 1 + -1) = (i : Int) - 1 by omega, hFF.i (rul_sc hru (Or.inr rfl) _)]
      refine k_Ev_putPart hC hw hm (pp i (by omega)) hFF hs hM1 (fun M2 hF2 hM2 _ => ?_)
      refine ih M2 _ (by omega) (hF1.tr hF2) (okL_app hs (okL_rev (prtT_ok (pp i (by omega)).ok.1 hl ⟨_, vo⟩ ⟨_, vm⟩))) hM2 ?_
      rw [← hsum, macT, List.reverse_append, List.append_assoc]
  refine i_Ev_existsMatches (b_Ev_existsMatches_0 hru hd (k_Nm_clear (Or.inr rfl) (fun M1 hF1 hM1 _ => ?_)))
  rw [(hF.tr (at259 hF1)).i (rul_sc hru (Or.inl rfl) _), p6]
  have := loop (gI M0 541 ra).toNat M1 [] (by omega) hF1 okL_nil hM1 (by rw [List.nil_append])
  rw [Int.toNat_of_nonneg (by omega)] at this
  exact this
end EX
