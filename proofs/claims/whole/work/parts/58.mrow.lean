/-! ===== the model reads: policies, hosts, exchangers ===== -/
def mPo (n a k : Nat) : Prop := mV a k ∨ ((a = 546 ∨ a = 547) ∧ k = n) ∨ (((550 ≤ a ∧ a ≤ 554) ∨ a = 556) ∧ 8 * n ≤ k ∧ k < 8 * n + 8) ∨ (a = 555 ∧ 64 * n ≤ k ∧ k < 64 * n + 64)
def mHo (n a k : Nat) : Prop := mV a k ∨ (a = 557 ∧ k = n) ∨ (a = 558 ∧ 4 * n ≤ k ∧ k < 4 * n + 4)
def mEx (n a k : Nat) : Prop := mV a k ∨ (a = 548 ∧ k = n) ∨ (a = 549 ∧ 3 * n ≤ k ∧ k < 3 * n + 3)
theorem mV_Po {M M' : Mem} {n : Nat} (h : FrI mV M M') : FrI (mPo n) M M' := h.mono (fun a k q => Or.inl q)
theorem mV_Ho {M M' : Mem} {n : Nat} (h : FrI mV M M') : FrI (mHo n) M M' := h.mono (fun a k q => Or.inl q)
theorem mV_Ex {M M' : Mem} {n : Nat} (h : FrI mV M M') : FrI (mEx n) M M' := h.mono (fun a k q => Or.inl q)
theorem TxM.po {M M' : Mem} {t : Nat → Int} {L n : Nat} (h : TxM M t L) (hF : FrI (mPo n) M M') : TxM M' t L := h.fr hF (by unfold mPo mV; omega) (fun k => by unfold mPo mV; omega)
theorem TxM.ho {M M' : Mem} {t : Nat → Int} {L n : Nat} (h : TxM M t L) (hF : FrI (mHo n) M M') : TxM M' t L := h.fr hF (by unfold mHo mV; omega) (fun k => by unfold mHo mV; omega)
theorem TxM.ex {M M' : Mem} {t : Nat → Int} {L n : Nat} (h : TxM M t L) (hF : FrI (mEx n) M M') : TxM M' t L := h.fr hF (by unfold mEx mV; omega) (fun k => by unfold mEx mV; omega)
def PolM (M : Mem) (n : Nat) (l : List RuP) (c : Int) : Prop := gI M 546 n = (l.length : Nat) ∧ gI M 547 n = c ∧ ∀ i R, l[i]? = some R → RuleM M (8 * n + i) R
def HstM (M : Mem) (n : Nat) (l : List Int) : Prop := gI M 557 n = (l.length : Nat) ∧ ∀ i x, l[i]? = some x → gI M 558 (4 * n + i) = x
def ExcM (M : Mem) (n : Nat) (l : List Int) : Prop := gI M 548 n = (l.length : Nat) ∧ ∀ i x, l[i]? = some x → gI M 549 (3 * n + i) = x
theorem RuleM.fr {M M' : Mem} {r : Nat} {R : RuP} (h : RuleM M r R) (h8 : R.2.2.2.2.2.length ≤ 8) (e : ∀ a, ((550 ≤ a ∧ a ≤ 554) ∨ a = 556) → gI M' a r = gI M a r) (e5 : ∀ k, 8 * r ≤ k → k < 8 * r + 8 → gI M' 555 k = gI M 555 k) : RuleM M' r R := by
  obtain ⟨h1, h2, h3, h4, h5⟩ := h
  refine ⟨by rw [e _ (by omega)]; exact h1, by rw [e _ (by omega)]; exact h2, fun z => ?_, fun z z2 => ?_, fun z => ⟨?_, fun i x hx => ?_⟩⟩
  · rw [e _ (by omega), e _ (by omega)]; exact h3 z
  · rw [e _ (by omega)]; exact h4 z z2
  · rw [e _ (by omega)]; exact (h5 z).1
  · have := at_lt hx
    rw [e5 _ (by omega) (by omega)]; exact (h5 z).2 i x hx
theorem okRu_len {t : Nat → Int} {L p : Nat} (hT : TxT t L) {r : RuP × Nat} (h : rulP t p = some r) : r.1.2.2.2.2.2.length ≤ 8 := by
  by_cases hs : sgnV (t p) = -4
  · rw [rul_n hs] at h; cases h
  by_cases c0 : t (p + 1) = 97
  · rw [rul_0 hs c0] at h; cases h; exact Nat.zero_le _
  by_cases c1 : t (p + 1) = 112
  · cases hn : numP t 255 (p + 2) with
    | none => rw [rul_1n hs c1 hn] at h; cases h
    | some s =>
      by_cases hc : t s.2 = 47
      · rw [rul_1m hs c1 hn hc] at h
        cases hm : numP t 8 (s.2 + 1) with
        | none => rw [hm] at h; cases h
        | some s2 => rw [hm] at h; cases h; exact Nat.zero_le _
      · rw [rul_1s hs c1 hn hc] at h; cases h
  by_cases c5 : t (p + 1) = 101
  · have := hT.in (p := p + 1) (by omega)
    cases hn : macP t 8 (p + 2) with
    | none => rw [rul_5n hs c5 hn] at h; cases h
    | some s =>
      by_cases hz : s.1 = []
      · rw [rul_5z hs c5 hn hz] at h; cases h
      · rw [rul_5m hs c5 hn hz] at h
        cases h
        exact (macP_ok hT 8 (p + 2) s (by omega) hn).1
  by_cases ck : t (p + 1) = 105 ∨ t (p + 1) = 104 ∨ t (p + 1) = 109
  · rw [rul_k hs ck] at h
    cases hn : nameP t (p + 2) with
    | none => rw [hn] at h; cases h
    | some s => rw [hn] at h; cases h; exact Nat.zero_le _
  · rw [rul_x hs (by omega)] at h; cases h
section MW
variable {g : Ctx} {M : Mem} {t : Nat → Int} {L : Nat}
theorem mo_pol {Q : Int → Mem → Prop} {n : Nat} (hn : n < 12) (hT : TxT t L) (hM : TxM M t L) :
    ∀ (f k p : Nat) (acc : List RuP) (M1 : Mem), acc.length = k → f + k = 9 → k ≤ 8 → p ≤ L → FrI (mPo n) M M1 → gI M1 530 32 = (p : Nat) → gI M1 547 n = 0 → (∀ i R, acc[i]? = some R → RuleM M1 (8 * n + i) R ∧ R.2.2.2.2.2.length ≤ 8) →
      (∀ s, polP t f k p = some s → ∀ M' : Mem, FrI (mPo n) M M' → gI M' 530 32 = (s.2 : Nat) → PolM M' n (acc ++ s.1.1) s.1.2 → Q 1 M') →
      (polP t f k p = none → ∀ M' : Mem, FrI (mPo n) M M' → Q 0 M') →
      P_Mo_rulesOf g 11 [(0, vr g 530), (1, vi (n : Int)), (2, vi (k : Int)), (3, vi 1)] [] M1 Q := by
  intro f
  induction f with
  | zero => intro k p acc M1 _ h1 h2; omega
  | succ f ih =>
    intro k p acc M1 hk hf hk8 hp hF h2 h0 ha q1 q0
    have hL := hT.1
    have rest : ¬ (0 < k ∧ t p = 114) → ∀ M2 : Mem, FrI mAt M1 M2 → gI M2 530 32 = (p : Int) → K_Mo_next g M2 (fun r5 M6 => InR r5 → WT M6 → K_Mo_signOf g r5 M6 (fun r7 M8 => InR r7 → WT M8 → (((r7 = (-4)) → Q 0 M8) ∧ ((¬ (r7 = (-4))) → (((¬ (k : Int) = 8) → (InR ((gI M8 530 32) + 1)) ∧ (0 ≤ ((8 * (n : Int)) + (k : Int)) ∧ ((8 * (n : Int)) + (k : Int)) < 96) ∧ K_Mo_asks g ((8 * (n : Int)) + (k : Int)) (sI (sI M8 530 32 ((gI M8 530 32) + 1)) 556 (((8 * (n : Int)) + (k : Int)).toNat) r7) (fun r15 M16 => (r15 = 0 ∨ r15 = 1) → WT M16 → (((¬ r15 = 0) → K_Mo_comes g 44 M16 (fun r18 M19 => (r18 = 0 ∨ r18 = 1) → WT M19 → P_Mo_rulesOf g 11 [(0, vr g 530), (1, vi (n : Int)), (2, vi ((k : Int) + 1)), (3, vi r18)] [] M19 Q)) ∧ ((r15 = 0) → Q 0 M16)))) ∧ (((k : Int) = 8) → Q 0 M8)))))) := by
      intro hnr M2 hF2 g2
      have hF2' := hF.tr (mV_Po (mAt_V hF2))
      have hM2 := hM.po hF2'
      have tr := hT.rng p
      have sr := sgnV_rng (t p)
      refine k_Mo_nx hT hM2 g2 (fun _ _ => k_Mo_signOf (by omega) (fun _ _ => ⟨fun c => q0 (pol_n hnr (rul_n c)) M2 hF2', fun c => ⟨fun c8 => ⟨by omega, by omega, ?_⟩, fun c8 => q0 (pol_8 hnr (by omega)) M2 hF2'⟩⟩))
      rw [show (8 * (n : Int) + (k : Int)).toNat = 8 * n + k by omega, show (8 * (n : Int) + (k : Int)) = ((8 * n + k : Nat) : Int) by omega, g2]
      have hFa : FrI (mPo n) M (sI (sI M2 530 32 ((p : Int) + 1)) 556 (8 * n + k) (sgnV (t p))) := hF2'.tr (FrI.tr (FrI.st (Or.inl ⟨rfl, Or.inl rfl⟩)) (FrI.st (Or.inr (Or.inr (Or.inl ⟨by omega, by omega, by omega⟩)))))
      have ruPo : ∀ {A B : Mem}, FrI (mRu (8 * n + k)) A B → FrI (mPo n) A B := fun h => h.mono (fun a j q => by unfold mRu mV at q; unfold mPo mV; omega)
      refine k_Mo_asks (by omega) hT (hM.po hFa) (p := p) (by rw [gI_ne _ _ _ _ _ _ (by omega), gI_same]; omega) c (fun R hR M3 hF3 g3 hA _ _ => bnt (by decide) ?_) (fun hR M3 hF3 _ _ => bnf rfl (q0 (pol_n hnr hR) M3 (hFa.tr (ruPo hF3))))
      have oR := rulP_ok hT hR
      have hFb := hFa.tr (ruPo hF3)
      have hRM : RuleM M3 (8 * n + k) R.1 := by
        refine ⟨?_, hA⟩
        rw [hF3.i (by unfold mRu mV; omega), gI_same]
        by_cases z0 : t (p + 1) = 97
        · rw [rul_0 c z0] at hR; cases hR; rfl
        by_cases z1 : t (p + 1) = 112
        · cases hq : numP t 255 (p + 2) with
          | none => rw [rul_1n c z1 hq] at hR; cases hR
          | some s =>
            by_cases hc : t s.2 = 47
            · rw [rul_1m c z1 hq hc] at hR
              cases hm : numP t 8 (s.2 + 1) with
              | none => rw [hm] at hR; cases hR
              | some s2 => rw [hm] at hR; cases hR; rfl
            · rw [rul_1s c z1 hq hc] at hR; cases hR
        by_cases z5 : t (p + 1) = 101
        · cases hq : macP t 8 (p + 2) with
          | none => rw [rul_5n c z5 hq] at hR; cases hR
          | some s =>
            by_cases hz : s.1 = []
            · rw [rul_5z c z5 hq hz] at hR; cases hR
            · rw [rul_5m c z5 hq hz] at hR; cases hR; rfl
        by_cases zk : t (p + 1) = 105 ∨ t (p + 1) = 104 ∨ t (p + 1) = 109
        · rw [rul_k c zk] at hR
          cases hq : nameP t (p + 2) with
          | none => rw [hq] at hR; cases hR
          | some s => rw [hq] at hR; cases hR; rfl
        · rw [rul_x c (by omega)] at hR; cases hR
      have acc' : ∀ i X, (acc ++ [R.1])[i]? = some X → RuleM M3 (8 * n + i) X ∧ X.2.2.2.2.2.length ≤ 8 := fun i X hX => by
        rcases snoc_at hX with h | ⟨h, h'⟩
        · have hi := at_lt h
          obtain ⟨u1, u2⟩ := ha i X h
          refine ⟨u1.fr u2 (fun a hab => ?_) (fun j hj1 hj2 => ?_), u2⟩
          · rw [hF3.i (by unfold mRu mV; omega), gI_ne _ _ _ _ _ _ (by omega), gI_ne _ _ _ _ _ _ (by omega), hF2.i (by unfold mAt; omega)]
          · rw [hF3.i (by unfold mRu mV; omega), gI_ne _ _ _ _ _ _ (by omega), gI_ne _ _ _ _ _ _ (by omega), hF2.i (by unfold mAt; omega)]
        · subst h; subst h'; rw [hk]; exact ⟨hRM, okRu_len hT hR⟩
      have e547 : gI M3 547 n = 0 := by rw [hF3.i (by unfold mRu mV; omega), gI_ne _ _ _ _ _ _ (by omega), gI_ne _ _ _ _ _ _ (by omega), hF2.i (by unfold mAt; omega)]; exact h0
      refine k_Mo_cm (by omega) hT (hM.po hFb) g3 (by omega) (fun e M4 hF4 g4 _ _ => ?_) (fun e M4 hF4 g4 _ _ => ?_)
      · have hlt := hT.in (p := R.2) (by omega)
        have e1 : ((k : Int) + 1) = ((k + 1 : Nat) : Int) := by omega
        rw [e1]
        refine ih (k + 1) (R.2 + 1) (acc ++ [R.1]) M4 (by simp; omega) (by omega) (by omega) (by omega) (hFb.tr (mV_Po (mAt_V hF4))) g4 (by rw [hF4.i (by unfold mAt; omega)]; exact e547) (fun i X hX => ?_) (fun s hs M' hF' k1 k2 => ?_) (fun hs M' hF' => ?_)
        · obtain ⟨u1, u2⟩ := acc' i X hX
          exact ⟨u1.fr u2 (fun a _ => hF4.i (by unfold mAt; omega)) (fun j _ _ => hF4.i (by unfold mAt; omega)), u2⟩
        · have ep := pol_c (f := f) hnr (by omega) hR e
          rw [hs] at ep
          rw [List.append_assoc] at k2
          exact q1 _ ep M' hF' k1 k2
        · have ep := pol_c (f := f) hnr (by omega) hR e
          rw [hs] at ep
          exact q0 ep M' hF'
      · have ep := pol_e (f := f) hnr (by omega) hR e
        refine b_Mo_rulesOf_11 (by omega) (by omega) (by omega) (bt rfl ⟨by omega, ?_⟩)
        rw [Int.toNat_natCast]
        refine q1 _ ep _ (hFb.tr ((mV_Po (mAt_V hF4)).tr (FrI.st (Or.inr (Or.inl ⟨Or.inl rfl, rfl⟩))))) ?_ ⟨?_, ?_, fun i X hX => ?_⟩
        · rw [gI_ne _ _ _ _ _ _ (by omega)]; exact g4
        · rw [gI_same]; simp; omega
        · rw [gI_ne _ _ _ _ _ _ (by omega), hF4.i (by unfold mAt; omega)]; exact e547
        · obtain ⟨u1, u2⟩ := acc' i X hX
          exact u1.fr u2 (fun a _ => by rw [gI_ne _ _ _ _ _ _ (by omega), hF4.i (by unfold mAt; omega)]) (fun j _ _ => by rw [gI_ne _ _ _ _ _ _ (by omega), hF4.i (by unfold mAt; omega)])
    refine b_Mo_rulesOf_11 (by omega) (by omega) (by omega) (bf (by decide) ⟨fun c => rest (by omega) M1 (FrI.rf M1) h2, fun c => k_Mo_cm (by omega) hT (hM.po hF) h2 (by omega) (fun e M2 hF2 g2 _ _ => bf (by decide) ?_) (fun e M2 hF2 g2 _ _ => bt rfl (rest (by omega) M2 hF2 g2))⟩)
    have hFa := hF.tr (mV_Po (mAt_V hF2))
    have ep := pol_r (f := f) (k := k) (p := p) (t := t) ⟨by omega, e⟩
    refine k_Mo_rn hT (hM.po hFa) g2 (by omega) (fun s hs M3 hF3 g3 g4 _ _ => bnt (by decide) ⟨by omega, ?_⟩) (fun hs M3 hF3 _ _ => bnf rfl (q0 (by rw [ep, hs]; rfl) M3 (hFa.tr (mV_Po hF3))))
    rw [Int.toNat_natCast]
    rw [hs] at ep
    refine q1 _ ep _ (hFa.tr ((mV_Po hF3).tr (FrI.tr (FrI.st (Or.inr (Or.inl ⟨Or.inr rfl, rfl⟩))) (FrI.st (Or.inr (Or.inl ⟨Or.inl rfl, rfl⟩)))))) ?_ ⟨?_, ?_, fun i X hX => ?_⟩
    · rw [gI_ne _ _ _ _ _ _ (by omega), gI_ne _ _ _ _ _ _ (by omega)]; exact g3
    · rw [gI_same]; simp; omega
    · rw [gI_ne _ _ _ _ _ _ (by omega), gI_same]; exact g4
    · dsimp only at hX
      rw [List.append_nil] at hX
      obtain ⟨u1, u2⟩ := ha i X hX
      exact u1.fr u2 (fun a _ => by rw [gI_ne _ _ _ _ _ _ (by omega), gI_ne _ _ _ _ _ _ (by omega), hF3.i (by unfold mV; omega), hF2.i (by unfold mAt; omega)]) (fun j _ _ => by rw [gI_ne _ _ _ _ _ _ (by omega), gI_ne _ _ _ _ _ _ (by omega), hF3.i (by unfold mV; omega), hF2.i (by unfold mAt; omega)])
theorem k_Mo_rulesOf {Q : Int → Mem → Prop} {n p : Nat} (hn : n < 12) (hT : TxT t L) (hM : TxM M t L) (hp : p ≤ L) (h2 : gI M 530 32 = (p : Nat)) (q1 : ∀ s, polP t 9 0 p = some s → ∀ M' : Mem, FrI (mPo n) M M' → gI M' 530 32 = (s.2 : Nat) → PolM M' n s.1.1 s.1.2 → Q 1 M') (q0 : polP t 9 0 p = none → ∀ M' : Mem, FrI (mPo n) M M' → Q 0 M') : K_Mo_rulesOf g n M Q := by
  refine i_Mo_rulesOf (b_Mo_rulesOf_0 (by omega) ⟨by omega, ?_⟩)
  rw [Int.toNat_natCast]
  refine mo_pol (M := M) hn hT hM 9 0 p [] _ rfl rfl (by omega) hp (FrI.st (Or.inr (Or.inl ⟨Or.inr rfl, rfl⟩))) ?_ (gI_same _ _ _ _) (fun i R h => by simp at h) (fun s hs M' hF' k1 k2 => ?_) q0
  · rw [gI_ne _ _ _ _ _ _ (by omega)]; exact h2
  · rw [List.nil_append] at k2; exact q1 s hs M' hF' k1 k2
theorem mo_hst {Q : Int → Mem → Prop} {n : Nat} (hn : n < 12) (hT : TxT t L) (hM : TxM M t L) :
    ∀ (f k p : Nat) (acc : List Int) (M1 : Mem), acc.length = k → f + k = 4 → p ≤ L → FrI (mHo n) M M1 → gI M1 530 32 = (p : Nat) → (∀ i x, acc[i]? = some x → gI M1 558 (4 * n + i) = x) →
      (∀ s, hstP t f p = some s → ∀ M' : Mem, FrI (mHo n) M M' → gI M' 530 32 = (s.2 : Nat) → HstM M' n (acc ++ s.1) → Q 1 M') →
      (hstP t f p = none → ∀ M' : Mem, FrI (mHo n) M M' → Q 0 M') →
      P_Mo_hostsOf g 4 [(0, vr g 530), (1, vi (n : Int)), (2, vi (k : Int)), (3, vi 1)] [] M1 Q := by
  intro f
  induction f with
  | zero => intro k p acc M1 hk hf hp hF h2 ha q1 q0; exact b_Mo_hostsOf_4 (by omega) (by omega) (by omega) (bf (by decide) (bt (by omega) (q0 rfl M1 hF)))
  | succ f ih =>
    intro k p acc M1 hk hf hp hF h2 ha q1 q0
    have hL := hT.1
    refine b_Mo_hostsOf_4 (by omega) (by omega) (by omega) (bf (by decide) (bf (by omega) (k_Mo_nm (by omega) hT (hM.ho hF) h2 (by omega) (fun s hs M2 hF2 g2 g3 _ _ => bnt (by decide) ⟨by omega, ?_⟩) (fun hs M2 hF2 _ _ => bnf rfl (q0 (hst_n hs) M2 (hF.tr (mV_Ho hF2)))))))
    rw [show (4 * (n : Int) + (k : Int)).toNat = 4 * n + k by omega, g3]
    have os := numP_ok hT hs
    have hFa : FrI (mHo n) M (sI M2 558 (4 * n + k) s.1) := hF.tr ((mV_Ho hF2).tr (FrI.st (Or.inr (Or.inr ⟨rfl, by omega, by omega⟩))))
    have acc' : ∀ i x, (acc ++ [s.1])[i]? = some x → gI (sI M2 558 (4 * n + k) s.1) 558 (4 * n + i) = x := fun i x hx => by
      rcases snoc_at hx with h | ⟨h, h'⟩
      · have := at_lt h
        rw [gI_ne _ _ _ _ _ _ (by omega), hF2.i (by unfold mV; omega)]; exact ha i x h
      · rw [h, hk, gI_same]; exact h'.symm
    refine k_Mo_cm (by omega) hT (hM.ho hFa) (p := s.2) (by rw [gI_ne _ _ _ _ _ _ (by omega)]; exact g2) (by omega) (fun e M4 hF4 g4 _ _ => ?_) (fun e M4 hF4 g4 _ _ => ?_)
    · have hlt := hT.in (p := s.2) (by omega)
      have ep := hst_c (f := f) hs e
      rw [show ((k : Int) + 1) = ((k + 1 : Nat) : Int) by omega]
      refine ih (k + 1) (s.2 + 1) (acc ++ [s.1]) M4 (by simp; omega) (by omega) (by omega) (hFa.tr (mV_Ho (mAt_V hF4))) g4 (fun i x hx => by rw [hF4.i (by unfold mAt; omega)]; exact acc' i x hx) (fun s2 hs2 M' hF' k1 k2 => ?_) (fun hs2 M' hF' => ?_)
      · rw [hs2] at ep
        rw [List.append_assoc] at k2
        exact q1 _ ep M' hF' k1 k2
      · rw [hs2] at ep
        exact q0 ep M' hF'
    · refine b_Mo_hostsOf_4 (by omega) (by omega) (by omega) (bt rfl ⟨by omega, ?_⟩)
      rw [Int.toNat_natCast]
      refine q1 _ (hst_e (f := f) hs e) _ (hFa.tr ((mV_Ho (mAt_V hF4)).tr (FrI.st (Or.inr (Or.inl ⟨rfl, rfl⟩))))) ?_ ⟨?_, fun i x hx => ?_⟩
      · rw [gI_ne _ _ _ _ _ _ (by omega)]; exact g4
      · rw [gI_same]; simp; omega
      · rw [gI_ne _ _ _ _ _ _ (by omega), hF4.i (by unfold mAt; omega)]; exact acc' i x hx
theorem k_Mo_hostsOf {Q : Int → Mem → Prop} {n p : Nat} (hn : n < 12) (hT : TxT t L) (hM : TxM M t L) (hp : p ≤ L) (h2 : gI M 530 32 = (p : Nat)) (q1 : ∀ s, hstP t 4 p = some s → ∀ M' : Mem, FrI (mHo n) M M' → gI M' 530 32 = (s.2 : Nat) → HstM M' n s.1 → Q 1 M') (q0 : hstP t 4 p = none → ∀ M' : Mem, FrI (mHo n) M M' → Q 0 M') : K_Mo_hostsOf g n M Q :=
  i_Mo_hostsOf (b_Mo_hostsOf_0 (by omega) (mo_hst (M := M) hn hT hM 4 0 p [] M rfl rfl hp (FrI.rf M) h2 (fun i R h => by simp at h) (fun s hs M' hF' k1 k2 => by rw [List.nil_append] at k2; exact q1 s hs M' hF' k1 k2) q0))
theorem mo_exc {Q : Int → Mem → Prop} {n : Nat} (hn : n < 12) (hT : TxT t L) (hM : TxM M t L) :
    ∀ (f k p : Nat) (acc : List Int) (M1 : Mem), acc.length = k → f + k = 3 → p ≤ L → FrI (mEx n) M M1 → gI M1 530 32 = (p : Nat) → (∀ i x, acc[i]? = some x → gI M1 549 (3 * n + i) = x) →
      (∀ s, excP t f p = some s → ∀ M' : Mem, FrI (mEx n) M M' → gI M' 530 32 = (s.2 : Nat) → ExcM M' n (acc ++ s.1) → Q 1 M') →
      (excP t f p = none → ∀ M' : Mem, FrI (mEx n) M M' → Q 0 M') →
      P_Mo_exchangersOf g 4 [(0, vr g 530), (1, vi (n : Int)), (2, vi (k : Int)), (3, vi 1)] [] M1 Q := by
  intro f
  induction f with
  | zero => intro k p acc M1 hk hf hp hF h2 ha q1 q0; exact b_Mo_exchangersOf_4 (by omega) (by omega) (by omega) (bf (by decide) (bt (by omega) (q0 rfl M1 hF)))
  | succ f ih =>
    intro k p acc M1 hk hf hp hF h2 ha q1 q0
    have hL := hT.1
    refine b_Mo_exchangersOf_4 (by omega) (by omega) (by omega) (bf (by decide) (bf (by omega) (k_Mo_rn hT (hM.ex hF) h2 (by omega) (fun s hs M2 hF2 g2 g3 _ _ => bnt (by decide) ⟨by omega, ?_⟩) (fun hs M2 hF2 _ _ => bnf rfl (q0 (exc_n hs) M2 (hF.tr (mV_Ex hF2)))))))
    rw [show (3 * (n : Int) + (k : Int)).toNat = 3 * n + k by omega, g3]
    have os := nameP_ok hT hs
    have hFa : FrI (mEx n) M (sI M2 549 (3 * n + k) s.1) := hF.tr ((mV_Ex hF2).tr (FrI.st (Or.inr (Or.inr ⟨rfl, by omega, by omega⟩))))
    have acc' : ∀ i x, (acc ++ [s.1])[i]? = some x → gI (sI M2 549 (3 * n + k) s.1) 549 (3 * n + i) = x := fun i x hx => by
      rcases snoc_at hx with h | ⟨h, h'⟩
      · have := at_lt h
        rw [gI_ne _ _ _ _ _ _ (by omega), hF2.i (by unfold mV; omega)]; exact ha i x h
      · rw [h, hk, gI_same]; exact h'.symm
    refine k_Mo_cm (by omega) hT (hM.ex hFa) (p := s.2) (by rw [gI_ne _ _ _ _ _ _ (by omega)]; exact g2) (by omega) (fun e M4 hF4 g4 _ _ => ?_) (fun e M4 hF4 g4 _ _ => ?_)
    · have hlt := hT.in (p := s.2) (by omega)
      have ep := exc_c (f := f) hs e
      rw [show ((k : Int) + 1) = ((k + 1 : Nat) : Int) by omega]
      refine ih (k + 1) (s.2 + 1) (acc ++ [s.1]) M4 (by simp; omega) (by omega) (by omega) (hFa.tr (mV_Ex (mAt_V hF4))) g4 (fun i x hx => by rw [hF4.i (by unfold mAt; omega)]; exact acc' i x hx) (fun s2 hs2 M' hF' k1 k2 => ?_) (fun hs2 M' hF' => ?_)
      · rw [hs2] at ep
        rw [List.append_assoc] at k2
        exact q1 _ ep M' hF' k1 k2
      · rw [hs2] at ep
        exact q0 ep M' hF'
    · refine b_Mo_exchangersOf_4 (by omega) (by omega) (by omega) (bt rfl ⟨by omega, ?_⟩)
      rw [Int.toNat_natCast]
      refine q1 _ (exc_e (f := f) hs e) _ (hFa.tr ((mV_Ex (mAt_V hF4)).tr (FrI.st (Or.inr (Or.inl ⟨rfl, rfl⟩))))) ?_ ⟨?_, fun i x hx => ?_⟩
      · rw [gI_ne _ _ _ _ _ _ (by omega)]; exact g4
      · rw [gI_same]; simp; omega
      · rw [gI_ne _ _ _ _ _ _ (by omega), hF4.i (by unfold mAt; omega)]; exact acc' i x hx
theorem k_Mo_exchangersOf {Q : Int → Mem → Prop} {n p : Nat} (hn : n < 12) (hT : TxT t L) (hM : TxM M t L) (hp : p ≤ L) (h2 : gI M 530 32 = (p : Nat)) (q1 : ∀ s, excP t 3 p = some s → ∀ M' : Mem, FrI (mEx n) M M' → gI M' 530 32 = (s.2 : Nat) → ExcM M' n s.1 → Q 1 M') (q0 : excP t 3 p = none → ∀ M' : Mem, FrI (mEx n) M M' → Q 0 M') : K_Mo_exchangersOf g n M Q :=
  i_Mo_exchangersOf (b_Mo_exchangersOf_0 (by omega) (mo_exc (M := M) hn hT hM 3 0 p [] M rfl rfl hp (FrI.rf M) h2 (fun i R h => by simp at h) (fun s hs M' hF' k1 k2 => by rw [List.nil_append] at k2; exact q1 s hs M' hF' k1 k2) q0))
end MW
