/-! ===== fault, lay, named ===== -/
theorem tx_of {M : Mem} (h : TextR M) : ∃ (t : Nat → Int) (L : Nat), TxT t L ∧ TxC M t L ∧ TxM M t L := by
  obtain ⟨h1, h2, h3⟩ := h
  refine ⟨fun p => if (p : Int) < gI M 530 0 then gI M 531 p else 0, (gI M 530 0).toNat, ⟨by omega, fun p hp => ?_, fun p hp => ?_⟩, ⟨by omega, fun p hp => ?_⟩, ⟨by omega, fun p hp => ?_⟩⟩
  · dsimp only; rw [if_pos (by omega)]; exact (h3 p (by omega)).2
  · dsimp only; rw [if_neg (by omega)]
  · dsimp only; rw [if_pos (by omega)]; exact (h3 p (by omega)).1
  · dsimp only; rw [if_pos (by omega)]
theorem CRec.blk {M M' : Mem} {b : Nat} {ks : List Int} {P : Int → ReP} (h : CRec M b ks P) (e : ∀ a k, b ≤ a → a < b + 254 → gI M' a k = gI M a k) (ep : ∀ a k, b ≤ a → a < b + 254 → gP M' a k = gP M a k) : CRec M' b ks P := by
  obtain ⟨h1, h2, h3, h4, h5, h6, h7⟩ := h
  have ek : ∀ i, i < ks.length → kyF M' b i = kyF M b i := fun i hi => by
    have := dom_in h3 (i := i) (by omega)
    unfold kyF
    rw [ep _ _ (by omega) (by omega), e _ _ (by omega) (by omega)]
  refine ⟨by rw [e _ _ (by omega) (by omega)]; exact h1, h2, h3.fr (fun a k z => ep a k z.1 z.2), fun i hi => by rw [ek i (by omega), ek (i + 1) (by omega)]; exact h4 i hi, fun i hi => by rw [ek i hi]; exact h5 i hi, fun c hc => ?_, fun i hi => ?_⟩
  · obtain ⟨i, hi, ei⟩ := h6 c hc
    exact ⟨i, hi, by rw [ek i hi]; exact ei⟩
  · rw [ek i hi, ep _ _ (by omega) (by omega)]
    obtain ⟨g1, g2⟩ := h7 i hi
    have := dom_in h3 (i := i) (by omega)
    exact ⟨g1, g2.fr (h3.pd (by omega)) g1 (fun a k x y => e _ _ (by omega) (by omega)) (fun i => ep _ _ (by omega) (by omega))⟩
/-- reading into the spare Records leaves the relation -/
theorem Rel.frS {M M' : Mem} (h : Rel M) (hw : WT M) (hF : FrR (gP M 0 2) M M') : Rel M' := by
  obtain ⟨h1, ⟨p1, p2, p3⟩, h2, h3, h4, h5⟩ := h
  have hs : isRec (gP M 0 2) := by rcases h2 with z | z <;> rw [z.2] <;> first | exact Or.inl rfl | exact Or.inr rfl
  have hps : PRec M (gP M 0 2) := by rcases h2 with z | z <;> rw [z.2] <;> first | exact p1 | exact p2
  have hb4 : 4 ≤ gP M 0 2 ∧ gP M 0 2 + 254 ≤ 530 ∧ (gP M 0 2 = 4 ∨ gP M 0 2 = 276) := by rcases h2 with z | z <;> omega
  have hp := hF.2.2 hps
  have e0 := hF.2.1 0 1 (by omega)
  have en : nowv M' = nowv M := by
    funext k
    exact hF.1 _ _ (by unfold cN; omega) (by omega)
  have pr : ∀ b, isRec b → b ≠ gP M 0 2 → PRec M b → PRec M' b := fun b hb hne hq => hq.fr (fun a k z => hF.2.1 a k (by rcases hb with rfl | rfl <;> omega))
  refine ⟨h1.fr (fun a k z => hF.1 _ _ (by unfold dTx at z; unfold cN; omega) (by unfold dTx at z; omega)), ⟨?_, ?_, p3.fr (fun a k z => hF.2.1 a k (by omega))⟩, h2.fr (fun a k z => hF.2.1 a k (by omega)), ?_, h4.fr hw (fun a k z => hF.1 _ _ (by unfold dKp at z; unfold cN; omega) (by unfold dKp at z; omega)) (fun a k z => hF.2.1 a k (by omega)), h5.fr hw (fun a k z => hF.1 _ _ (by unfold dHs at z; unfold cN; omega) (by unfold dHs at z; omega)) (fun a k z => hF.2.1 a k (by omega))⟩
  · rcases h2 with z | z
    · exact pr 4 (Or.inl rfl) (by omega) p1
    · rw [z.2] at hp; exact hp
  · rcases h2 with z | z
    · rw [z.2] at hp; exact hp
    · exact pr 276 (Or.inr rfl) (by omega) p2
  · rw [e0, en]
    rcases h2 with z | z
    · rw [z.1] at h3 ⊢
      exact h3.fr p1 (fun a k y => hF.1 _ _ (by unfold dRc at y; unfold cN; omega) (by unfold dRc at y; omega)) (fun a k y => hF.2.1 a k (by omega))
    · rw [z.1] at h3 ⊢
      exact h3.fr p2 (fun a k y => hF.1 _ _ (by unfold dRc at y; unfold cN; omega) (by unfold dRc at y; omega)) (fun a k y => hF.2.1 a k (by omega))
theorem mRd_rel {M M' : Mem} (h : FrI mRd M M') (hR : Rel M) (hw : WT M) : Rel M' := hR.fr hw (fun a k q => h.i (by unfold mRd; unfold dTx dAll dKp dHs at q; omega)) (fun a k _ => h.p a k)
theorem TxM.lo {M M' : Mem} {t : Nat → Int} {L : Nat} (h : TxM M t L) (e : ∀ a k, 530 ≤ a → gI M' a k = gI M a k) : TxM M' t L := ⟨by rw [e _ _ (by omega)]; exact h.1, fun p hp => by rw [e _ _ (by omega)]; exact h.2 p hp⟩
theorem sum_z {f : Nat → Int} : ∀ {n : Nat}, (∀ i, i < n → 0 ≤ f i) → (sumF f n = 0 ↔ ∀ i, i < n → f i = 0)
  | 0, _ => ⟨fun _ i hi => by omega, fun _ => rfl⟩
  | n + 1, h => by
    have ih := sum_z (f := f) (n := n) (fun i hi => h i (by omega))
    have hn := h n (by omega)
    have hb : 0 ≤ sumF f n := by
      clear ih hn
      induction n with
      | zero => simp [sumF]
      | succ n ihn =>
        rw [sumF]
        have := ihn (fun i hi => h i (by omega))
        have := h n (by omega)
        omega
    rw [sumF]
    refine ⟨fun e i hi => ?_, fun e => ?_⟩
    · by_cases z : i = n
      · rw [z]; omega
      · exact ih.mp (by omega) i (by omega)
    · rw [ih.mpr (fun i hi => e i (by omega)), e n (by omega)]; rfl
section TX
variable {g : Ctx} {M : Mem}
theorem frR_hi {b : Nat} {M' : Mem} (hb : isRec b) (h : FrR b M M') : ∀ a k, 530 ≤ a → gI M' a k = gI M a k := fun a k x => h.1 _ _ (by unfold cN; omega) (by rcases hb with rfl | rfl <;> omega)
theorem j_fault (hR : Rel M) : K_Sr_fault g 33 M (fun r M1 => WT M1 → K_Mo_fault g M1 (fun r' M2 => WT M2 → r = r' ∧ Rel M2)) := by
  obtain ⟨t, L, hT, hTC, hTM⟩ := tx_of hR.1
  refine i_Sr_fault (w_wt (fun hw => b_Sr_fault_0 ⟨hR.spar, k_Rd_all hR.spar (hR.prec hR.spar) hT hTC (fun M1 hF1 _ _ hw1 _ => ?_)⟩))
  have hR1 := hR.frS hw hF1
  exact i_Mo_fault (b_Mo_fault_0 (k_Mo_reads hT (hTM.lo (frR_hi hR.spar hF1)) (fun M2 hF2 _ _ _ _ => ⟨rfl, mRd_rel hF2 hR1 hw1⟩)))
theorem j_lay (hR : Rel M) : K_Sr_lay g 33 M (fun r M1 => WT M1 → K_Mo_lay g M1 (fun r' M2 => WT M2 → r = r' ∧ Rel M2)) := by
  obtain ⟨t, L, hT, hTC, hTM⟩ := tx_of hR.1
  have hsp := hR.spar
  have hpp := hR.pres
  refine i_Sr_lay (w_wt (fun hw => b_Sr_lay_0 ⟨hsp, k_Rd_all hsp (hR.prec hsp) hT hTC (fun M1 hF1 hC1 _ hw1 => ?_)⟩))
  have hR1 := hR.frS hw hF1
  have hTM1 := hTM.lo (frR_hi hsp hF1)
  have e02 : gP M1 0 2 = gP M 0 2 := hF1.2.1 _ _ (by omega)
  have e01 : gP M1 0 1 = gP M 0 1 := hF1.2.1 _ _ (by omega)
  rw [e02]
  generalize hA : allP t L 240 0 [] P00 = A at *
  refine ⟨fun c _ => ?_, fun c => ⟨hsp, ?_⟩⟩
  · refine k_Mo_lay (b := gP M 0 2) hsp hT hTM1 (fun z => ?_) (fun _ M2 hF2 _ => ⟨rfl, mRd_rel hF2 hR1 hw1⟩) (fun z => ?_)
    · rw [hA] at z; exact absurd z c
    · rw [hA] at z; exact absurd z c
  have hC := hC1 c
  have hsz := hC.1
  have h12 := hC.2.1
  have hsum : (sumF (fun j => if gI M1 (gP M1 (gP M 0 2 + 1) j) 3 = 0 then 0 else 1) (gI M1 (gP M 0 2) 1).toNat = 0) ↔ noPol A.2.1 A.2.2 := by
    rw [sum_z (fun i hi => by (try dsimp only); split <;> omega), hsz, Int.toNat_natCast]
    refine ⟨fun h x hx => ?_, fun h i hi => ?_⟩
    · obtain ⟨j, hj, ej⟩ := hC.2.2.2.2.2.1 x hx
      have h3 := (hC.2.2.2.2.2.2 j hj).2.2.2.1.1
      have := h j hj
      (try dsimp only at this)
      rw [h3, ej] at this
      by_cases z : (A.2.2 x).1.length = 0
      · exact List.length_eq_zero_iff.mp z
      · rw [if_neg z, if_neg (by decide)] at this; omega
    · have h3 := (hC.2.2.2.2.2.2 i hi).2.2.2.1.1
      (try dsimp only)
      rw [h3, h _ (hC.2.2.2.2.1 i hi)]
      rfl
  refine k_Rc_policies hsp (by omega) (by omega) (fun _ _ => ?_)
  refine ⟨fun z => ⟨by rw [e01]; exact hpp, by rw [e02]; exact hsp, ?_⟩, fun z _ => ?_⟩
  · rw [e01, e02]
    refine i_Ks_clear (b_Ks_clear_0 (fun _ => i_Hi_clear (b_Hi_clear_0 (fun _ => ?_))))
    generalize hN : sI (sI (sP (sP M1 0 1 (gP M 0 2)) 0 2 (gP M 0 1)) 260 1 0) 270 1 0 = N
    have nI : ∀ a k, ¬ (a = 260 ∧ k = 1) → ¬ (a = 270 ∧ k = 1) → gI N a k = gI M1 a k := fun a k z1 z2 => by rw [← hN, gI_ne _ _ _ _ _ _ z2, gI_ne _ _ _ _ _ _ z1, gI_sP, gI_sP]
    have nP : ∀ a k, a ≠ 0 → gP N a k = gP M1 a k := fun a k z => by rw [← hN, gP_sI, gP_sI, gP_sP, gP_sP, if_neg (by omega), if_neg (by omega)]
    have n01 : gP N 0 1 = gP M 0 2 := by rw [← hN]; rfl
    have n02 : gP N 0 2 = gP M 0 1 := by rw [← hN]; rfl
    have n60 : gI N 260 1 = 0 := by rw [← hN]; rfl
    have n70 : gI N 270 1 = 0 := by rw [← hN]; rfl
    have hb4 : 4 ≤ gP M 0 2 ∧ (gP M 0 2 = 4 ∨ gP M 0 2 = 276) := by rcases hsp with q | q <;> omega
    refine ⟨by rw [n01]; exact hsp, fun hwN => ?_⟩
    rw [n01, nI _ _ (by omega) (by omega), hsz]
    have hCN : CRec N (gP M 0 2) A.2.1 A.2.2 := hC.blk (fun a k x y => nI _ _ (by omega) (by omega)) (fun a k x y => nP _ _ (by omega))
    refine k_Mo_lay (b := gP M 0 2) hsp hT (hTM1.lo (fun a k x => nI _ _ (by omega) (by omega))) (fun _ => by rw [hA]; exact hCN) (fun zz => ?_) (fun z1 z2 M2 hF2 g16 g34 hAll hw2 => ⟨by rw [hA], ?_⟩)
    · rw [hA] at zz
      rcases zz with zz | zz
      · exact absurd c zz
      · exact absurd (hsum.mpr zz) z
    · obtain ⟨r1, ⟨p1, p2, p3⟩, r2, r3, r4, r5⟩ := hR1
      have g60 : gI M2 260 1 = 0 := by rw [hF2.i (by unfold mLy; omega)]; exact n60
      have g70 : gI M2 270 1 = 0 := by rw [hF2.i (by unfold mLy; omega)]; exact n70
      have m01 : gP M2 0 1 = gP M 0 2 := by rw [hF2.p]; exact n01
      have m02 : gP M2 0 2 = gP M 0 1 := by rw [hF2.p]; exact n02
      refine ⟨r1.fr (fun a k y => by unfold dTx at y; rw [hF2.i (by unfold mLy; omega), nI _ _ (by omega) (by omega)]), ⟨p1.fr (fun a k y => by rw [hF2.p, nP _ _ (by omega)]), p2.fr (fun a k y => by rw [hF2.p, nP _ _ (by omega)]), p3.fr (fun a k y => by rw [hF2.p, nP _ _ (by omega)])⟩, ?_, by rw [m01]; exact hAll, ⟨by rw [g60, g34], by omega, fun i hi => by omega⟩, ⟨by rw [g70, g16], by omega, fun i hi => by omega⟩⟩
      unfold PresR
      rw [m01, m02]
      rcases hR.2.2.1 with y | y
      · exact Or.inr ⟨y.2, y.1⟩
      · exact Or.inl ⟨y.2, y.1⟩
  · refine k_Mo_lay (b := gP M 0 2) hsp hT hTM1 (fun _ => by rw [hA]; exact hC) (fun _ M2 hF2 _ => ⟨rfl, mRd_rel hF2 hR1 hw1⟩) (fun _ z2 => ?_)
    rw [hA] at z2
    exact absurd (hsum.mp z) z2
/-- how many keys lie ahead of c -/
theorem before_ex (f : Nat → Int) (c : Int) : ∀ n : Nat, (∀ i, i + 1 < n → f i < f (i + 1)) → ∃ p, p ≤ n ∧ (∀ j, j < p → f j < c) ∧ (p < n → c ≤ f p)
  | 0, _ => ⟨0, Nat.le_refl _, fun j hj => by omega, fun h => by omega⟩
  | n + 1, h => by
    obtain ⟨p, h1, h2, h3⟩ := before_ex f c n (fun i hi => h i (by omega))
    by_cases z : p < n
    · exact ⟨p, by omega, h2, fun _ => h3 z⟩
    · have hp : p = n := by omega
      subst hp
      by_cases z2 : f p < c
      · refine ⟨p + 1, Nat.le_refl _, fun j hj => ?_, fun h => by omega⟩
        by_cases z3 : j = p
        · rw [z3]; exact z2
        · exact h2 j (by omega)
      · exact ⟨p, by omega, h2, fun _ => by omega⟩
theorem cN_rel {M M' : Mem} (h : FrI cN M M') (hR : Rel M) (hw : WT M) : Rel M' := hR.fr hw (fun a k q => h.i (by unfold cN; unfold dTx dAll dKp dHs at q; omega)) (fun a k _ => h.p a k)
theorem mV_rel {M M' : Mem} (h : FrI mV M M') (hR : Rel M) (hw : WT M) : Rel M' := hR.fr hw (fun a k q => h.i (by unfold mV; unfold dTx dAll dKp dHs at q; omega)) (fun a k _ => h.p a k)
theorem j_named {p0 : Int} (hR : Rel M) (h0 : InR p0) : K_Sr_named g 33 p0 M (fun r M1 => WT M1 → K_Mo_named g p0 M1 (fun r' M2 => WT M2 → r = r' ∧ Rel M2)) := by
  obtain ⟨t, L, hT, hTC, hTM⟩ := tx_of hR.1
  have hL := hT.1
  have bad : (p0 < 0 ∨ 2 < p0) → K_Mo_named g p0 M (fun r' M2 => WT M2 → -1 = r' ∧ Rel M2) := fun hb => i_Mo_named (b_Mo_named_0 h0 (k_Mo_isIn h0 (by omega) (by omega) (fun _ _ _ _ => by omega) (fun _ _ _ => bnf rfl (fun _ => ⟨rfl, hR⟩))))
  refine i_Sr_named (w_wt (fun hw => b_Sr_named_0 h0 ⟨fun c _ => bad (Or.inl c), fun c => ⟨fun c2 => ?_, fun c2 _ => bad (Or.inr (by omega))⟩⟩))
  -- no name
  have noN : ∀ M1 : Mem, FrI cN M M1 → (∀ r, nameP t 0 = some r → r.2 ≠ L) → K_Mo_named g p0 M1 (fun r' M2 => WT M2 → -2 = r' ∧ Rel M2) := by
    intro M1 hF1 hno
    have hTM1 : TxM M1 t L := hTM.lo (fun a k x => hF1.i (by unfold cN; omega))
    have st : FrI mV M1 (sI M1 530 32 0) := FrI.st ⟨rfl, Or.inl rfl⟩
    refine i_Mo_named (w_wt (fun hw1 => b_Mo_named_0 h0 (k_Mo_isIn h0 (by omega) (by omega) (fun _ _ _ _ => bnt (by decide) ?_) (fun _ => by omega))))
    have hR1 := cN_rel hF1 hR hw
    refine k_Mo_rn hT (hTM1.v st) (p := 0) (by rw [gI_same]; rfl) (by omega) (fun r hr M2 hF2 g2 g3 _ _ => bf (by decide) ⟨fun z => ?_, fun z _ => ⟨rfl, mV_rel (st.tr hF2) hR1 hw1⟩⟩) (fun hr M2 hF2 _ _ => bt rfl (fun _ => ⟨rfl, mV_rel (st.tr hF2) hR1 hw1⟩))
    have := hno r hr
    rw [g2, ((hTM1.v st).v hF2).1] at z
    omega
  have st : FrI cN M (sI M 1 2 0) := FrI.st (Or.inl ⟨rfl, rfl⟩)
  refine i_Rd_readWholeAsName (b_Rd_readWholeAsName_0 (k_Rd_rn hT (hTC.n st) (p := 0) (by rw [gI_same]; rfl) (by omega) (fun r hr M1 hF1 g1 hir _ => ?_) (fun hr c M1 hF1 hx hir _ => ?_)))
  · have hFa := st.tr hF1
    rw [g1, (hTC.n hFa).1]
    refine ⟨fun z _ _ => bnf rfl (fun _ => noN M1 hFa (fun r' hr' => ?_)), fun z _ hw1 => bnt (by obtain ⟨⟨vn, hv⟩, _⟩ := nameP_ok hT hr; exact vcode_pos hv) ?_⟩
    · rw [hr] at hr'; cases hr'; omega
    have hR1 := cN_rel hFa hR hw
    have hrL : r.2 = L := by omega
    have hn := hR1.names
    have hs := hR1.size
    have hTM1 : TxM M1 t L := hTM.lo (fun a k x => hFa.i (by unfold cN; omega))
    obtain ⟨N, hN⟩ : ∃ N : Nat, gI M1 530 2 = N := ⟨(gI M1 530 2).toNat, by omega⟩
    obtain ⟨p, hp1, hp2, hp3⟩ := before_ex (gI M1 532) r.1 N (fun i hi => hR1.2.2.2.1.2.2.1 i (by omega))
    have after : ∀ j, p < j → j < N → r.1 < gI M1 532 j := fun j hj1 hj2 => by
      have a1 := keys_lt hR1 (j - p - 1) p (by omega)
      rw [show p + (j - p - 1) + 1 = j by omega] at a1
      have := hp3 (by omega)
      omega
    -- the model's search
    have mo : ∀ Q : Int → Mem → Prop, (∀ M' : Mem, FrI mV M1 M' → (p0 = 0 → Q (if p < N ∧ gI M1 532 p = r.1 then (p : Int) else -4) M') ∧ (p0 = 1 → Q (if p < N ∧ gI M1 532 p = r.1 then (p : Int) else if p = 0 then -4 else (p : Int) - 1) M') ∧ (p0 = 2 → Q (if p < N then (p : Int) else -4) M')) → K_Mo_named g p0 M1 Q := by
      intro Q q
      have st2 : FrI mV M1 (sI M1 530 32 0) := FrI.st ⟨rfl, Or.inl rfl⟩
      refine i_Mo_named (b_Mo_named_0 h0 (k_Mo_isIn h0 (by omega) (by omega) (fun _ _ _ _ => bnt (by decide) ?_) (fun _ => by omega)))
      refine k_Mo_rn hT (hTM1.v st2) (p := 0) (by rw [gI_same]; rfl) (by omega) (fun r' hr' M2 hF2 g2 g3 _ _ => bf (by decide) (bt ?_ ?_)) (fun hr' => by rw [hr] at hr'; cases hr')
      · rw [hr] at hr'; cases hr'
        rw [g2, ((hTM1.v st2).v hF2).1, hrL]
      rw [hr] at hr'
      cases hr'
      have hFb := st2.tr hF2
      obtain ⟨qa, qb, qc⟩ := q M2 hFb
      have e2 : gI M2 530 2 = N := by rw [hFb.i (by unfold mV; omega)]; exact hN
      have ek : ∀ j, gI M2 532 j = gI M1 532 j := fun j => hFb.i (by unfold mV; omega)
      have fnd : ∀ (x : Nat → Int), (∀ i, i ≤ N → InR (x i)) → x 0 = -4 → (∀ i : Nat, i < N → (p0 = 0 → (gI M1 532 i ≠ r.1 → x (i + 1) = x i) ∧ (gI M1 532 i = r.1 → x (i + 1) = i)) ∧ (p0 = 1 → (r.1 < gI M1 532 i → x (i + 1) = x i) ∧ (¬ r.1 < gI M1 532 i → x (i + 1) = i)) ∧ (p0 = 2 → (gI M1 532 i < r.1 → x (i + 1) = x i) ∧ (¬ gI M1 532 i < r.1 → x i ≠ -4 → x (i + 1) = x i) ∧ (¬ gI M1 532 i < r.1 → x i = -4 → x (i + 1) = i))) → Q (x N) M2 → P_Mo_named g 42 [(0, vr g 530), (1, vi p0), (2, vi (-4)), (3, vi 0)] [] M2 Q := by
        intro x hxr hx0 hx hq
        have loop : ∀ (w i : Nat), i + w = N → P_Mo_named g 42 [(0, vr g 530), (1, vi p0), (2, vi (x i)), (3, vi (i : Int))] [] M2 Q := by
          intro w
          induction w with
          | zero =>
            intro i hi
            have hi' : i = N := by omega
            subst hi'
            exact b_Mo_named_42 h0 (hxr i (by omega)) (by omega) (bt (by omega) hq)
          | succ w ih =>
            intro i hi
            have nx := ih (i + 1) (by omega)
            rw [show ((i + 1 : Nat) : Int) = (i : Int) + 1 by omega] at nx
            obtain ⟨x0, x1, x2⟩ := hx i (by omega)
            refine b_Mo_named_42 h0 (hxr i (by omega)) (by omega) (bf (by omega) ?_)
            rw [Int.toNat_natCast, ek, g3]
            refine ⟨fun z0 => ⟨fun z1 => ⟨by omega, fun y => ?_, fun y => ⟨fun y2 => ?_, fun y2 => ?_⟩⟩, fun z1 => ⟨by omega, fun y => ?_, fun y => ?_⟩⟩, fun z0 => ⟨by omega, fun y => ?_, fun y => ?_⟩⟩
            · rw [(x2 (by omega)).1 y] at nx; exact nx
            · rw [(x2 (by omega)).2.1 y y2] at nx; exact nx
            · rw [(x2 (by omega)).2.2 y y2] at nx; exact nx
            · rw [(x1 z1).1 y] at nx; exact nx
            · rw [(x1 z1).2 y] at nx; exact nx
            · rw [(x0 z0).1 y] at nx; exact nx
            · rw [(x0 z0).2 y] at nx; exact nx
        have := loop N 0 (by omega)
        rw [hx0] at this
        exact this
      have hp03 : p0 = 0 ∨ p0 = 1 ∨ p0 = 2 := by omega
      rcases hp03 with z0 | z0 | z0
      · refine fnd (fun i => if p < i ∧ gI M1 532 p = r.1 then (p : Int) else -4) (fun i hi => by (try dsimp only); split <;> omega) (by (try dsimp only); rw [if_neg (by omega)]) (fun i hi => ⟨fun _ => ⟨fun y => ?_, fun y => ?_⟩, fun z => by omega, fun z => by omega⟩) (qa z0)
        · (try dsimp only)
          by_cases y1 : gI M1 532 p = r.1
          · have : i ≠ p := fun e => y (by rw [e]; exact y1)
            by_cases y2 : p < i
            · rw [if_pos ⟨by omega, y1⟩, if_pos ⟨y2, y1⟩]
            · rw [if_neg (by omega), if_neg (by omega)]
          · rw [if_neg (fun e => y1 e.2), if_neg (fun e => y1 e.2)]
        · (try dsimp only)
          have hip : i = p := by
            rcases Nat.lt_trichotomy i p with a | a | a
            · have := hp2 i a; omega
            · exact a
            · have := after i a hi; omega
          subst hip
          rw [if_pos ⟨by omega, y⟩]
      · refine fnd (fun i => if p < i ∧ gI M1 532 p = r.1 then (p : Int) else if min i p = 0 then -4 else (min i p : Nat) - 1) (fun i hi => by (try dsimp only); split; omega; split <;> omega) (by (try dsimp only); rw [if_neg (by omega), if_pos (by omega)]) (fun i hi => ⟨fun z => by omega, fun _ => ⟨fun y => ?_, fun y => ?_⟩, fun z => by omega⟩) ?_
        · (try dsimp only)
          have hip : p ≤ i := by
            by_cases a : p ≤ i
            · exact a
            · have := hp2 i (by omega); omega
          have hne : ¬ (i = p ∧ gI M1 532 p = r.1) := fun e => by rw [e.1] at y; omega
          by_cases y1 : p < i ∧ gI M1 532 p = r.1
          · rw [if_pos ⟨by omega, y1.2⟩, if_pos y1]
          · rw [if_neg (fun e => y1 ⟨by have := e.1; by_cases q : i = p; exact absurd ⟨q, e.2⟩ hne; omega, e.2⟩), if_neg y1, show min (i + 1) p = min i p by omega]
        · (try dsimp only)
          have hip : i ≤ p := by
            by_cases a : i ≤ p
            · exact a
            · have := after i (by omega) hi; omega
          by_cases y1 : i = p
          · subst y1
            have := hp3 hi
            rw [if_pos ⟨by omega, by omega⟩]
          · rw [if_neg (by omega), if_neg (by omega)]; omega
        · (try dsimp only)
          have := qb z0
          by_cases y1 : p < N ∧ gI M1 532 p = r.1
          · rw [if_pos y1] at this ⊢; exact this
          · rw [if_neg y1] at this ⊢
            rw [show min N p = p by omega]
            exact this
      · refine fnd (fun i => if p < i then (p : Int) else -4) (fun i hi => by (try dsimp only); split <;> omega) (by (try dsimp only); rw [if_neg (by omega)]) (fun i hi => ⟨fun z => by omega, fun z => by omega, fun _ => ⟨fun y => ?_, fun y y2 => ?_, fun y y2 => ?_⟩⟩) (qc z0)
        · (try dsimp only)
          have : ¬ p ≤ i := fun e => by
            by_cases q : i = p
            · subst q; have := hp3 hi; omega
            · have := after i (by omega) hi; omega
          rw [if_neg (by omega), if_neg (by omega)]
        · (try dsimp only at y2 ⊢)
          by_cases q : p < i
          · rw [if_pos (by omega), if_pos q]
          · rw [if_neg q] at y2; exact absurd rfl y2
        · (try dsimp only at y2 ⊢)
          have h1 : p ≤ i := by
            by_cases q : p ≤ i
            · exact q
            · have := hp2 i (by omega); omega
          by_cases q : p < i
          · rw [if_pos q] at y2; omega
          · rw [if_pos (by omega)]; omega
    have fin : ∀ M2 : Mem, FrI mV M1 M2 → Rel M2 := fun M2 hF2 => mV_rel hF2 hR1 hw1
    refine ⟨hR1.pres, k_Rc_find hR1.pres hir (by omega) (by omega) (fun hir2 _ => ?_)⟩
    rw [hR1.no, show (gI M1 530 2).toNat = N by omega] at hir2 ⊢
    by_cases z5 : p < N ∧ gI M1 532 p = r.1
    · have en : noF (gI M1 532) r.1 N = (p : Nat) := noF_at z5.1 z5.2 (fun j hj => by have := hp2 j hj; omega)
      rw [en]
      have em : m1F (p : Int) = p := by unfold m1F; rw [if_neg (by omega)]
      rw [em]
      refine ⟨fun z0 => bnt (by omega) (fun _ => mo _ (fun M2 hF2 => ⟨fun _ _ => ⟨by rw [if_pos z5], fin M2 hF2⟩, fun y => by omega, fun y => by omega⟩)), fun z0 => bf (by omega) (bnt (by omega) (fun _ => mo _ (fun M2 hF2 => ⟨fun y => by omega, fun _ _ => ⟨by rw [if_pos z5], fin M2 hF2⟩, fun _ _ => ⟨by rw [if_pos z5.1], fin M2 hF2⟩⟩)))⟩
    · have en : noF (gI M1 532) r.1 N = -4 := noF_none (fun j hj => by
        rcases Nat.lt_trichotomy j p with a | a | a
        · have := hp2 j a; omega
        · subst a; exact fun e => z5 ⟨hj, e⟩
        · have := after j a hj; omega)
      rw [en]
      have em : m1F (-4) = -1 := rfl
      rw [em]
      refine ⟨fun z0 => bnf rfl (fun _ => mo _ (fun M2 hF2 => ⟨fun _ _ => ⟨by rw [if_neg z5], fin M2 hF2⟩, fun y => by omega, fun y => by omega⟩)), fun z0 => bt rfl ⟨hR1.pres, ?_⟩⟩
      refine k_Rc_firstNotBefore hR1.pres hir (by omega) (by omega) (fun p' h1' h2' h3' _ _ => ?_)
      have kk : ∀ j : Nat, j < N → kyF M1 (gP M1 0 1) j = gI M1 532 j := fun j hj => hR1.keys j (by omega)
      have ep : p' = p := by
        rcases Nat.lt_trichotomy p' p with a | a | a
        · have a1 := h3' (by omega)
          rw [kk p' (by omega)] at a1
          have := hp2 p' a
          omega
        · exact a
        · have a1 := h2' p a
          rw [kk p (by omega)] at a1
          have := hp3 (by omega)
          omega
      subst ep
      rw [hs, hN]
      refine ⟨fun z1 => ⟨hR1.pres, fun z2 _ => ?_, fun z2 _ => ?_⟩, fun z1 => ⟨fun z2 _ => ?_, fun z2 => ⟨by omega, fun _ => ?_⟩⟩⟩
      · exact mo _ (fun M2 hF2 => ⟨fun y => by omega, fun y => by omega, fun _ _ => ⟨by rw [if_neg (by omega)], fin M2 hF2⟩⟩)
      · exact mo _ (fun M2 hF2 => ⟨fun y => by omega, fun y => by omega, fun _ _ => ⟨by rw [if_pos (by omega)], fin M2 hF2⟩⟩)
      · exact mo _ (fun M2 hF2 => ⟨fun y => by omega, fun _ _ => ⟨by rw [if_neg z5, if_pos (by omega)], fin M2 hF2⟩, fun y => by omega⟩)
      · exact mo _ (fun M2 hF2 => ⟨fun y => by omega, fun _ _ => ⟨by rw [if_neg z5, if_neg (by omega)], fin M2 hF2⟩, fun y => by omega⟩)
  · have hFa := st.tr hF1
    rw [(hTC.n hFa).1]
    have no := noN M1 hFa (fun r' hr' => by rw [hr] at hr'; cases hr')
    refine ⟨fun z _ _ => bnf rfl (fun _ => no), fun z hh _ => ?_⟩
    rcases hx with hx | ⟨kk, hkL, hk2, hk3⟩
    · rw [hx]
      exact bnf rfl (fun _ => no)
    · have := hT.in (p := kk) (by omega)
      omega
end TX
