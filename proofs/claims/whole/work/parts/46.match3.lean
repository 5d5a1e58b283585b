/-! ===== matches ===== -/
section MX
variable {g : Ctx}
theorem st4_fr {M0 M : Mem} {lk : Int} (hF : FrI scC M0 M) : FrI scC M0 (sI M 258 4 lk) := hF.tr (FrI.st (Or.inl ⟨rfl, by omega⟩))
/-- a match, but for the include: what it answers, by fitK -/
theorem k_Ev_matches {M0 M : Mem} {Q : Int → Mem → Prop} {o m k lev : Nat} {a l lk em dep : Int} (hC : CSt M0 o a l) (hw : WT M0) (hm : (m : Int) < gI M0 530 2) (hk : (k : Int) < gI M0 533 m) (hF : FrI scC M0 M) (h4 : gI M 258 4 = lk) (h5 : gI M 258 5 = em) (h6 : gI M 258 6 = 0) (hl : 0 ≤ lk ∧ lk ≤ 10) (he : 0 ≤ em ∧ em ≤ 2) (hdep : InR dep)
    (qs : gI M0 537 (rlA M0 m k) < 2 → Q (fitK M0 o a l m (rlA M0 m k)) M)
    (qo : 2 ≤ gI M0 537 (rlA M0 m k) → 10 ≤ lk → Q 0 (sI (sI M 258 4 (lk + 1)) 258 6 1))
    (qi : gI M0 537 (rlA M0 m k) = 2 → lk < 10 → K_Ev_includeMatches g 33 lev (gP M0 (gP M0 (gP M0 0 1 + 1) m + 2) k) dep (sI M 258 4 (lk + 1)) Q)
    (qe : 2 < gI M0 537 (rlA M0 m k) → lk < 10 → EndM (sI M 258 4 (lk + 1)) em (fitK M0 o a l m (rlA M0 m k)) Q) :
    K_Ev_matches g 33 lev (gP M0 (gP M0 (gP M0 0 1 + 1) m + 2) k) (gP M0 (gP M0 0 1 + 1) m) dep M Q := by
  have hC1 := hC.fr hw hF
  have hd := hC.1.dom hm
  have h8 := (hC.1.rcnt hm).2
  have hru : isRul (gP M0 (gP M0 (gP M0 0 1 + 1) m + 2) k) := hw.rul hd (by omega)
  obtain ⟨m1, m2, m3, m4⟩ := (hC.1.mdom hm).2.2.1 k hk
  have hF1 : FrI scC M0 (sI M 258 4 (lk + 1)) := st4_fr hF
  have ek0 : gI M0 (gP M0 (gP M0 (gP M0 0 1 + 1) m + 2) k) 1 = gI M0 537 (rlA M0 m k) := m4.1
  have hkb : 0 ≤ gI M0 537 (rlA M0 m k) ∧ gI M0 537 (rlA M0 m k) ≤ 5 := m4.2.1
  have ek : gI M (gP M0 (gP M0 (gP M0 0 1 + 1) m + 2) k) 1 = gI M0 537 (rlA M0 m k) := by rw [hF.i (rul_sc hru (Or.inl rfl) _)]; exact ek0
  have ek1 : gI (sI M 258 4 (lk + 1)) (gP M0 (gP M0 (gP M0 0 1 + 1) m + 2) k) 1 = gI M0 537 (rlA M0 m k) := by rw [hF1.i (rul_sc hru (Or.inl rfl) _)]; exact ek0
  have t5 : gI (sI M 258 4 (lk + 1)) 258 5 = em := by rw [gI_ne _ _ _ _ _ _ (by omega)]; exact h5
  have t6 : gI (sI M 258 4 (lk + 1)) 258 6 = 0 := by rw [gI_ne _ _ _ _ _ _ (by omega)]; exact h6
  refine i_Ev_matches (b_Ev_matches_0 hru hd hdep ?_)
  rw [ek, hC1.2.2.2.2.1]
  refine ⟨fun c => ⟨fun c2 => ?_, fun c2 => ?_⟩, fun c => ?_⟩
  · refine k_Ev_lookUp h4 h6 hl (fun c3 _ _ => bnt (by decide) ?_) (fun c3 _ _ => bnf rfl (qo (by omega) c3))
    rw [ek1]
    refine ⟨fun c4 => ?_, fun c4 => ⟨fun c5 => ?_, fun c5 => ⟨fun c6 => ?_, fun c6 => ?_⟩⟩⟩
    · exact CallsM.mono (qi c4 c3) (fun v M' q => by obtain ⟨r, e, i, q⟩ := q; exact ⟨r, e, i, fun _ _ => q⟩)
    · have := qe (by omega) c3
      exact k_Ev_hostMatches hC hw hm hk hF1 t5 t6 he c5 ⟨fun z M' f1 f2 f3 _ _ => this.1 z M' f1 f2 f3, fun z M' f1 f2 f3 _ _ => this.2 z M' f1 f2 f3⟩
    · have := qe (by omega) c3
      exact k_Ev_mailMatches hC hw hm hk hF1 t5 t6 he c6 ⟨fun z M' f1 f2 f3 _ _ => this.1 z M' f1 f2 f3, fun z M' f1 f2 f3 _ _ => this.2 z M' f1 f2 f3⟩
    · have := qe (by omega) c3
      exact k_Ev_existsMatches hC hw hm hk hF1 t5 t6 he (by omega) ⟨fun z M' f1 f2 f3 _ _ => this.1 z M' f1 f2 f3, fun z M' f1 f2 f3 _ _ => this.2 z M' f1 f2 f3⟩
  · exact k_Ru_hasPrefixOf hC hw hm hk hF c2 (fun _ _ => qs (by omega))
  · have := qs (by omega)
    unfold fitK at this
    rw [if_pos c] at this
    exact this
end MX
