/-! ===== the class reads an item, and all ===== -/
section CI
variable {g : Ctx} {M : Mem} {n : Nat} {t : Nat → Int} {L : Nat}
theorem cN_R {b : Nat} {M M' : Mem} (h : FrI cN M M') : FrR b M M' := FrR.of h (fun a k q => Or.inl q)
theorem CRec.nfr {M' : Mem} {b : Nat} {ks : List Int} {P : Int → ReP} (hb : isRec b) (h : CRec M b ks P) (hF : FrI cN M M') : CRec M' b ks P := by
  have hb4 : 4 ≤ b := by rcases hb with rfl | rfl <;> omega
  obtain ⟨h1, h2, h3, h4, h5, h6, h7⟩ := h
  have e : ∀ a k, b ≤ a → gI M' a k = gI M a k := fun a k x => hF.i (by unfold cN; omega)
  have ek : ∀ i, i < ks.length → kyF M' b i = kyF M b i := fun i hi => by
    have := dom_in h3 (i := i) (by omega)
    unfold kyF
    rw [hF.p, e _ _ (by omega)]
  refine ⟨by rw [e _ _ (Nat.le_refl _)]; exact h1, h2, h3.fr (fun a k _ => hF.p a k), fun i hi => by rw [ek i (by omega), ek (i + 1) (by omega)]; exact h4 i hi, fun i hi => by rw [ek i hi]; exact h5 i hi, fun c hc => ?_, fun i hi => ?_⟩
  · obtain ⟨i, hi, ei⟩ := h6 c hc
    exact ⟨i, hi, by rw [ek i hi]; exact ei⟩
  · rw [ek i hi, hF.p]
    obtain ⟨g1, g2⟩ := h7 i hi
    have := dom_in h3 (i := i) (by omega)
    exact ⟨g1, g2.fr (h3.pd (by omega)) g1 (fun a k x y => e _ _ (by omega)) (fun i => hF.p _ _)⟩
theorem rd_end {Q : Int → Mem → Prop} {p : Nat} {M1 : Mem} (hT : TxT t L) (hM1 : TxC M1 t L) (hp : gI M1 1 2 = (p : Nat)) (q1 : t p = 59 → ∀ M' : Mem, FrI cAt M1 M' → gI M' 1 2 = ((p + 1 : Nat) : Int) → Q 1 M') (q0 : t p ≠ 59 → Q 0 M1) : K_Rd_take g n 59 M1 (fun r20 M21 => (r20 = 0 ∨ r20 = 1) → WT M21 → (((r20 = 0) → Q 0 M21) ∧ ((¬ (r20 = 0)) → Q 1 M21))) :=
  k_Rd_tk (by omega) hT hM1 hp (fun e M' hF h _ _ => bz1 (q1 e M' hF h)) (fun e _ _ => bz0 (q0 e))
theorem k_Rd_item {Q : Int → Mem → Prop} {b p : Nat} {ks : List Int} {P : Int → ReP} (hb : isRec b) (hT : TxT t L) (hM : TxC M t L) (hR : CRec M b ks P) (hp : gI M 1 2 = (p : Nat)) (hpL : p < L)
    (q0 : (itmP t p = none ∨ ∃ r, itmP t p = some r ∧ r.1 ∉ ks ∧ ks.length = 12) → ∀ M' : Mem, FrR b M M' → Q 0 M')
    (q1 : ∀ r, itmP t p = some r → ¬ (r.1 ∉ ks ∧ ks.length = 12) → ∀ M' : Mem, FrR b M M' → gI M' 1 2 = (r.2.2 : Nat) → CRec M' b (nxK ks r.1) (updR P r.1 (r.2.1 (curR ks P r.1))) → Q 1 M') : K_Rd_readItem g n b M Q := by
  have hL := hT.1
  have hb4 : 4 ≤ b := by rcases hb with rfl | rfl <;> omega
  refine i_Rd_readItem (b_Rd_readItem_0 hb (k_Rd_nx hT hM hp (fun M1 hF1 h1 _ _ => ?_)))
  have e1 : nxp L p = p + 1 := by unfold nxp; rw [if_pos hpL]
  rw [e1] at h1
  have hM1 := hM.n (cAt_N hF1)
  refine k_Rd_rn hT hM1 h1 (by omega) (fun r hr M2 hF2 h2 _ _ => bf (by obtain ⟨⟨vn, hv⟩, _⟩ := nameP_ok hT hr; exact vcode_pos hv) ?_) (fun hr c M2 hF2 hx _ _ => ⟨fun z => q0 (Or.inl (itm_n hr)) M2 (cN_R ((cAt_N hF1).tr hF2)), fun z => ?_⟩)
  · have o := nameP_ok hT hr
    have hFa := (cAt_N hF1).tr hF2
    refine k_Rd_tk (by omega) hT (hM.n hFa) h2 (fun e M3 hF3 h3 _ _ => bnt (by decide) ?_) (fun e _ _ => bnf rfl (q0 (Or.inl (itm_k hr e)) M2 (cN_R hFa)))
    have hFb := hFa.tr (cAt_N hF3)
    have hlt := hT.in (p := r.2) (by omega)
    refine k_Rc_foa hb o.1 (hR.nfr hb hFb) (fun hn h12 _ _ => bnf rfl (q0 ?_ M3 (cN_R hFb))) (fun hok j M4 hF4 g4 hj hkj hR4 hor _ => ?_)
    · cases hi : itmP t p with
      | none => exact Or.inl rfl
      | some s =>
        obtain ⟨e1, _⟩ := itm_c hr hi
        exact Or.inr ⟨s, rfl, by rw [e1]; exact hn, h12⟩
    have hd := hR4.dom hb hj
    have hP4 := hR4.2.2.1
    have hj12 : j < 12 := by have := hR4.2.1; omega
    have hin := dom_in hP4 hj12
    have hPD := hP4.pd hj12
    have hFc := (cN_R (b := b) hFb).tr hF4
    have hM4 := hM.rc hb hFc
    rw [h3] at g4
    obtain ⟨okcur, dcur⟩ := hR4.2.2.2.2.2.2 j hj
    rw [hkj, upd_at] at okcur dcur
    refine bnt (nDom hd) ?_
    generalize hdd : gP M4 (b + 1) j = d at *
    -- what the body of an item leaves
    have fin : ∀ (u : (ReP → ReP) × Nat) (M5 : Mem), itmB t (t p) (r.2 + 1) = some u → FrR b M M5 → gI M5 1 2 = (u.2 : Nat) → CRec M5 b (nxK ks r.1) (updR P r.1 (u.1 (curR ks P r.1))) → K_Rd_take g n 59 M5 (fun r20 M21 => (r20 = 0 ∨ r20 = 1) → WT M21 → (((r20 = 0) → Q 0 M21) ∧ ((¬ (r20 = 0)) → Q 1 M21))) := by
      intro u M5 hu hF5 g5 hR5
      have ou := itmB_ok hT hu
      exact rd_end hT (hM.rc hb hF5) g5 (fun e6 M6 hF6 g6 => q1 _ (itm_s hr e hu e6) hok M6 (hF5.tr (cN_R (cAt_N hF6))) g6 (hR5.nfr hb (cAt_N hF6))) (fun e6 => q0 (Or.inl (itm_e hr e hu e6)) M5 hF5)
    have bad : ∀ (x : Int) (M5 : Mem), itmB t (t p) (r.2 + 1) = none → FrR b M M5 → (x = 0 ∨ (x = 1 ∧ DoomE M5 t L)) → ((x = 0) → Q 0 M5) ∧ ((¬ (x = 0)) → K_Rd_take g n 59 M5 (fun r20 M21 => (r20 = 0 ∨ r20 = 1) → WT M21 → (((r20 = 0) → Q 0 M21) ∧ ((¬ (r20 = 0)) → Q 1 M21)))) := by
      intro x M5 hu hF5 hx
      refine ⟨fun _ => q0 (Or.inl (itm_b hr e hu)) M5 hF5, fun z => ?_⟩
      rcases hx with hx | ⟨_, kk, hkL, hk2, hk3⟩
      · exact absurd hx z
      · exact rd_end hT (hM.rc hb hF5) hk2 (fun e6 => absurd e6 hk3) (fun _ => q0 (Or.inl (itm_b hr e hu)) M5 hF5)
    refine ⟨fun c => ?_, fun c => ⟨fun c2 => ?_, fun c2 => ⟨fun c3 => ?_, fun c3 => ?_⟩⟩⟩
    · have eb := itb_a (t := t) (p := r.2 + 1) c
      refine k_Rd_hst hd hT hM4 (by omega) g4 (fun s hs M5 hF5 g5 hE _ _ => bf (by decide) ?_) (fun hs M5 hF5 _ _ => bad 0 M5 (by rw [eb, hs]; rfl) (hFc.tr (FrR.of hF5 (fun a k q => by unfold cHo cN at q; unfold cN; omega))) (Or.inl rfl))
      have oe := hstP_ok hT 4 _ s hs
      rw [hs] at eb
      refine fin _ M5 eb (hFc.tr (FrR.of hF5 (fun a k q => by unfold cHo cN at q; unfold cN; omega))) g5 ?_
      have := hR4.upd (M' := M5) (R := ((curR ks P r.1).1, (curR ks P r.1).2.1, s.1, (curR ks P r.1).2.2.2)) hj ⟨okcur.1, okcur.2.1, oe.1, okcur.2.2.2⟩ (by
        rw [hdd, hkj]
        obtain ⟨d1, ⟨nn, hv, d2, d3⟩, d4, d5, d6⟩ := dcur
        exact ⟨by rw [hF5.i (by unfold cHo cN; omega)]; exact d1, ⟨nn, hv, by rw [hF5.i (by unfold cHo cN; omega)]; exact d2, fun k hk => by rw [hF5.i (by unfold cHo cN; omega)]; exact d3 k hk⟩, d4.fr hPD okcur.1.1 (fun k hk => hF5.i (by unfold cHo cN; omega)) (fun a k x y => hF5.i (by unfold cHo cN; omega)) (fun i => hF5.p _ _), hE, d6.fr (hF5.i (by unfold cHo cN; omega)) (fun k => hF5.i (by unfold cHo cN; omega))⟩) (fun a k x y => hF5.i (by unfold cHo cN; omega)) (fun a k => hF5.p a k)
      rw [hkj, upd_upd] at this
      exact this
    · have eb := itb_n (t := t) (p := r.2 + 1) c2
      refine k_Rd_pol hd hPD hT hM4 (by omega) g4 (fun s hs M5 hF5 g5 hE _ _ => bf (by decide) ?_) (fun hs x M5 hF5 hx _ _ => bad x M5 (by rw [eb, hs]; rfl) (hFc.tr (FrR.of hF5 (fun a k q => by unfold cPo cN at q; unfold cN; omega))) hx)
      obtain ⟨⟨a1, a2, _⟩, a3, _⟩ := polP_ok hT 9 0 _ s rfl hs
      rw [hs] at eb
      refine fin _ M5 eb (hFc.tr (FrR.of hF5 (fun a k q => by unfold cPo cN at q; unfold cN; omega))) g5 ?_
      have := hR4.upd (M' := M5) (R := (s.1.1, s.1.2, (curR ks P r.1).2.2.1, (curR ks P r.1).2.2.2)) hj ⟨⟨by dsimp only; omega, a2⟩, a3, okcur.2.2⟩ (by
        rw [hdd, hkj]
        obtain ⟨d1, ⟨nn, hv, d2, d3⟩, d4, d5, d6⟩ := dcur
        exact ⟨by rw [hF5.i (by unfold cPo cN; omega)]; exact d1, ⟨nn, hv, by rw [hF5.i (by unfold cPo cN; omega)]; exact d2, fun k hk => by rw [hF5.i (by unfold cPo cN; omega)]; exact d3 k hk⟩, hE, d5.fr (hF5.i (by unfold cPo cN; omega)) (fun k => hF5.i (by unfold cPo cN; omega)), d6.fr (hF5.i (by unfold cPo cN; omega)) (fun k => hF5.i (by unfold cPo cN; omega))⟩) (fun a k x y => hF5.i (by unfold cPo cN; omega)) (fun a k => hF5.p a k)
      rw [hkj, upd_upd] at this
      exact this
    · have eb := itb_x (t := t) (p := r.2 + 1) c3
      refine k_Rd_exc hd hT hM4 (by omega) g4 (fun s hs M5 hF5 g5 hE _ _ => bf (by decide) ?_) (fun hs x M5 hF5 hx _ _ => bad x M5 (by rw [eb, hs]; rfl) (hFc.tr (FrR.of hF5 (fun a k q => by unfold cEx cN at q; unfold cN; omega))) hx)
      have oe := excP_ok hT 3 _ s hs
      rw [hs] at eb
      refine fin _ M5 eb (hFc.tr (FrR.of hF5 (fun a k q => by unfold cEx cN at q; unfold cN; omega))) g5 ?_
      have := hR4.upd (M' := M5) (R := ((curR ks P r.1).1, (curR ks P r.1).2.1, (curR ks P r.1).2.2.1, s.1)) hj ⟨okcur.1, okcur.2.1, okcur.2.2.1, oe.1, oe.2.1⟩ (by
        rw [hdd, hkj]
        obtain ⟨d1, ⟨nn, hv, d2, d3⟩, d4, d5, d6⟩ := dcur
        exact ⟨by rw [hF5.i (by unfold cEx cN; omega)]; exact d1, ⟨nn, hv, by rw [hF5.i (by unfold cEx cN; omega)]; exact d2, fun k hk => by rw [hF5.i (by unfold cEx cN; omega)]; exact d3 k hk⟩, d4.fr hPD okcur.1.1 (fun k hk => hF5.i (by unfold cEx cN; omega)) (fun a k x y => hF5.i (by unfold cEx cN; omega)) (fun i => hF5.p _ _), d5.fr (hF5.i (by unfold cEx cN; omega)) (fun k => hF5.i (by unfold cEx cN; omega)), hE⟩) (fun a k x y => hF5.i (by unfold cEx cN; omega)) (fun a k => hF5.p a k)
      rw [hkj, upd_upd] at this
      exact this
    · exact q0 (Or.inl (itm_b hr e (itb_o c2 c c3))) M4 hFc
  · rcases hx with hx | ⟨kk, hkL, hk2, hk3⟩
    · exact absurd hx z
    · have hFa := (cAt_N hF1).tr hF2
      exact k_Rd_tk (by omega) hT (hM.n hFa) hk2 (fun e => by omega) (fun e _ _ => bnf rfl (q0 (Or.inl (itm_n hr)) M2 (cN_R hFa)))
theorem k_Rd_all {Q : Int → Mem → Prop} {b : Nat} (hb : isRec b) (hP : PRec M b) (hT : TxT t L) (hM : TxC M t L) (q : ∀ M' : Mem, FrR b M M' → ((allP t L 240 0 [] P00).1 = -4 → CRec M' b (allP t L 240 0 [] P00).2.1 (allP t L 240 0 [] P00).2.2) → Q (allP t L 240 0 [] P00).1 M') : K_Rd_readAll g n b M Q := by
  have hb4 : 4 ≤ b := by rcases hb with rfl | rfl <;> omega
  have hL := hT.1
  have loop : ∀ (f i p : Nat) (ks : List Int) (P : Int → ReP) (M1 : Mem), f + i = 240 → p ≤ L → L ≤ p + f → FrR b M M1 → gI M1 1 2 = (p : Nat) → CRec M1 b ks P → (∀ M' : Mem, FrR b M M' → ((allP t L f p ks P).1 = -4 → CRec M' b (allP t L f p ks P).2.1 (allP t L f p ks P).2.2) → Q (allP t L f p ks P).1 M') → P_Rd_readAll g n 11 [(0, vr g 1), (1, vr g b), (2, vi (i : Int))] [] M1 Q := by
    intro f
    induction f with
    | zero =>
      intro i p ks P M1 hi hp hf hF h2 hR q
      exact b_Rd_readAll_11 hb (by omega) (bt (by omega) (q M1 hF (fun _ => hR)))
    | succ f ih =>
      intro i p ks P M1 hi hp hf hF h2 hR q
      have hM1 := hM.rc hb hF
      refine b_Rd_readAll_11 hb (by omega) (bf (by omega) ?_)
      rw [h2, hM1.1]
      refine ⟨fun c => ?_, fun c => ?_⟩
      · rw [all_z (by omega)] at q
        exact q M1 hF (fun _ => hR)
      · have hnl : ¬ L ≤ p := by omega
        refine k_Rd_item hb hT hM1 hR h2 (by omega) (fun hn M2 hF2 _ _ => bnf rfl ?_) (fun r hr hok M2 hF2 g2 hR2 _ _ => bnt (by decide) ?_)
        · have ea : allP t L (f + 1) p ks P = ((p : Int), ks, P) := by
            rcases hn with hn | ⟨r, hr, h1, h12⟩
            · exact all_n hnl hn
            · exact all_f hnl hr h1 h12
          rw [ea] at q
          exact q M2 (hF.tr hF2) (fun z => by dsimp only at z; omega)
        · have ea := all_s (f := f) (P := P) hnl hr hok
          rw [ea] at q
          have o := itmP_ok hT hr
          exact ih (i + 1) r.2.2 _ _ M2 (by omega) o.2.2.1 (by omega) (hF.tr hF2) g2 hR2 q
  refine i_Rd_readAll (b_Rd_readAll_0 hb (i_Rc_clear (b_Rc_clear_0 hb (fun _ => ?_))))
  have hF0 : FrR b M (sI (sI M 1 2 0) b 1 0) := FrR.of (S := fun a k => (a = 1 ∧ k = 2) ∨ a = b) (FrI.tr (FrI.st (Or.inl ⟨rfl, rfl⟩)) (FrI.st (Or.inr rfl))) (fun a k q => by unfold cN; omega)
  refine loop 240 0 0 [] P00 _ (by omega) (Nat.zero_le _) (by omega) hF0 ?_ ⟨gI_same _ _ _ _, by simp, hF0.2.2 hP, fun j hj => by simp at hj, fun j hj => by simp at hj, fun c hc => by simp at hc, fun j hj => by simp at hj⟩ q
  rw [gI_ne _ _ _ _ _ _ (by omega), gI_same]; rfl
end CI
