/-! ===== the class reads: macros, rules ===== -/
theorem rul_lo {r : Nat} (h : isRul r) : 11 ≤ r := by
  obtain ⟨d, i, ⟨b, q, hb, hq, rfl⟩, hi, rfl⟩ := h
  rcases hb with rfl | rfl <;> omega
theorem dom_lo {d : Nat} (h : isDom d) : 6 ≤ d := by
  obtain ⟨b, q, hb, hq, rfl⟩ := h
  rcases hb with rfl | rfl <;> omega
def cRu (r a k : Nat) : Prop := cN a k ∨ a = r ∨ a = r + 1
theorem cN_Ru {M M' : Mem} {r : Nat} (h : FrI cN M M') : FrI (cRu r) M M' := h.mono (fun a k q => Or.inl q)
theorem cAt_Ru {M M' : Mem} {r : Nat} (h : FrI cAt M M') : FrI (cRu r) M M' := cN_Ru (cAt_N h)
theorem TxC.ru {M M' : Mem} {t : Nat → Int} {L r : Nat} (hr : isRul r) (h : TxC M t L) (hF : FrI (cRu r) M M') : TxC M' t L := by
  have := rul_lo hr
  exact h.fr hF (by unfold cRu cN; omega) (fun k => by unfold cRu cN; omega)
def DoomS (M : Mem) (t : Nat → Int) (L : Nat) : Prop := ∃ k : Nat, k ≤ L ∧ gI M 1 2 = k ∧ ¬ sepT (t k)
def DoomE (M : Mem) (t : Nat → Int) (L : Nat) : Prop := ∃ k : Nat, k ≤ L ∧ gI M 1 2 = k ∧ t k ≠ 59
/-- a rule in the class's cell r -/
def RuleC (M : Mem) (r : Nat) (R : RuP) : Prop := gI M r 0 = R.1 ∧ gI M r 1 = R.2.1 ∧ (R.2.1 = 1 → gI M r 2 = R.2.2.1 ∧ gI M r 3 = R.2.2.2.1) ∧ (2 ≤ R.2.1 → R.2.1 ≤ 4 → gI M r 4 = R.2.2.2.2.1) ∧ ((R.2.1 < 2 ∨ 4 < R.2.1) → gI M r 4 = 0) ∧ (R.2.1 = 5 → gI M r 6 = (R.2.2.2.2.2.length : Nat) ∧ ∀ i x, R.2.2.2.2.2[i]? = some x → PartR (gI M (r + 1) i) x)
theorem RuleC.fr {M M' : Mem} {r : Nat} {R : RuP} (h : RuleC M r R) (e0 : ∀ k, gI M' r k = gI M r k) (e1 : ∀ k, gI M' (r + 1) k = gI M (r + 1) k) : RuleC M' r R := by
  unfold RuleC at *
  simp only [e0, e1]
  exact h
theorem PartR.nn {v x : Int} (h : PartR v x) : 0 ≤ v := by rcases h with h | ⟨s, u, f, h⟩ <;> omega
section CU
variable {g : Ctx} {M : Mem} {n : Nat} {t : Nat → Int} {L : Nat}
theorem rd_mac {Q : Int → Mem → Prop} {r : Nat} (hr : isRul r) (hT : TxT t L) (hM : TxC M t L) :
    ∀ (f p : Nat) (acc : List Int) (M1 : Mem), p ≤ L → acc.length + f = 8 → FrI (cRu r) M M1 → gI M1 1 2 = (p : Nat) → gI M1 r 6 = (acc.length : Nat) → (∀ i x, acc[i]? = some x → PartR (gI M1 (r + 1) i) x) →
      (∀ s, macP t f p = some s → acc ++ s.1 ≠ [] → ∀ M' : Mem, FrI (cRu r) M M' → (∀ k, k ≠ 6 → gI M' r k = gI M1 r k) → gI M' 1 2 = (s.2 : Nat) → gI M' r 6 = ((acc ++ s.1).length : Nat) → (∀ i x, (acc ++ s.1)[i]? = some x → PartR (gI M' (r + 1) i) x) → Q 1 M') →
      ((macP t f p = none ∨ ∃ s, macP t f p = some s ∧ acc ++ s.1 = []) → ∀ (x : Int) (M' : Mem), FrI (cRu r) M M' → (x = 0 ∨ (x = 1 ∧ DoomS M' t L)) → Q x M') →
      P_Rd_readMacro g n 2 [(0, vr g 1), (1, vr g r), (2, vi (acc.length : Int))] [] M1 Q := by
  have hrl := rul_lo hr
  have hL := hT.1
  intro f
  induction f with
  | zero =>
    intro p acc M1 hp hf hF h2 h6 ha q1 q0
    refine b_Rd_readMacro_2 hr (by omega) (bt (by omega) ?_)
    rw [h6]
    refine bf (by omega) ?_
    by_cases c : sepT (t p)
    · have em : macP t 0 p = some ([], p) := by unfold macP; rw [if_pos c]
      exact q1 ([], p) em (by intro e; have ee := congrArg List.length e; rw [List.append_nil] at ee; have ee2 : acc.length = 0 := ee; omega) M1 hF (fun _ _ => rfl) h2 (by rw [List.append_nil]; exact h6) (fun i x hx => by rw [List.append_nil] at hx; exact ha i x hx)
    · exact q0 (Or.inl (by unfold macP; rw [if_neg c])) 1 M1 hF (Or.inr ⟨rfl, p, hp, h2, c⟩)
  | succ f ih =>
    intro p acc M1 hp hf hF h2 h6 ha q1 q0
    have hM1 := hM.ru hr hF
    have unf : ¬ sepT (t p) → macP t (f + 1) p = match prtP t p with | none => none | some r => match macP t f r.2 with | none => none | some s => some (r.1 :: s.1, s.2) := fun hns => by
      show (if sepT (t p) then some ([], p) else match prtP t p with | none => none | some r => match macP t f r.2 with | none => none | some s => some (r.1 :: s.1, s.2)) = _
      rw [if_neg hns]
    have stop : ¬ isL (t p) → t p ≠ 37 → (((gI M1 r 6) ≤ 0) → Q 0 M1) ∧ ((¬ ((gI M1 r 6) ≤ 0)) → Q 1 M1) := by
      intro hnl hn37
      rw [h6]
      by_cases c : sepT (t p)
      · have em : macP t (f + 1) p = some ([], p) := by unfold macP; rw [if_pos c]
        refine ⟨fun z => q0 (Or.inr ⟨([], p), em, ?_⟩) 0 M1 hF (Or.inl rfl), fun z => q1 ([], p) em (by intro e; have ee := congrArg List.length e; rw [List.append_nil] at ee; have ee2 : acc.length = 0 := ee; omega) M1 hF (fun _ _ => rfl) h2 (by rw [List.append_nil]; exact h6) (fun i x hx => by rw [List.append_nil] at hx; exact ha i x hx)⟩
        rw [List.append_nil]; exact List.length_eq_zero_iff.mp (by omega)
      · have em : macP t (f + 1) p = none := by
          rw [unf c]
          have : prtP t p = none := by unfold prtP; rw [if_neg hnl, if_neg hn37]
          rw [this]
        exact ⟨fun z => q0 (Or.inl em) 0 M1 hF (Or.inl rfl), fun z => q0 (Or.inl em) 1 M1 hF (Or.inr ⟨rfl, p, hp, h2, c⟩)⟩
    have part : (isL (t p) ∨ t p = 37) → K_Rd_readPart g n M1 (fun r6 M7 => InR r6 → WT M7 → (((0 ≤ r6) → (0 ≤ (acc.length : Int) ∧ (acc.length : Int) < 8) ∧ (InR ((acc.length : Int) + 1)) ∧ P_Rd_readMacro g n 2 [(0, vr g 1), (1, vr g r), (2, vi ((acc.length : Int) + 1))] [] (sI (sI M7 (r + 1) ((acc.length : Int).toNat) r6) r 6 ((acc.length : Int) + 1)) Q) ∧ ((¬ (0 ≤ r6)) → Q 0 M7))) := by
      intro hc
      have hns : ¬ sepT (t p) := by omega
      have em := unf hns
      refine k_Rd_rp hT hM1 h2 (by omega) hc (fun s hs v M2 hF2 h3 hv _ _ => bt hv.nn ⟨by omega, by omega, ?_⟩) (fun hs M2 hF2 _ _ => bf (by decide) (q0 (Or.inl (by rw [em, hs])) 0 M2 (hF.tr (cAt_Ru hF2)) (Or.inl rfl)))
      rw [Int.toNat_natCast]
      obtain ⟨o1, o2, o3⟩ := prtP_ok hT hs
      have e1 : ((acc.length : Int) + 1) = ((acc ++ [s.1]).length : Int) := by simp
      rw [hs] at em
      dsimp only at em
      rw [e1]
      refine ih s.2 (acc ++ [s.1]) _ o2 (by simp; omega) (hF.tr ((cAt_Ru hF2).tr (FrI.tr (FrI.st (Or.inr (Or.inr rfl))) (FrI.st (Or.inr (Or.inl rfl)))))) ?_ (gI_same _ _ _ _) (fun i x hx => ?_) (fun s2 hs2 hne M' hF' k0 k1 k2 k3 => ?_) (fun hn x M' hF' hx => ?_)
      · rw [gI_ne _ _ _ _ _ _ (by omega), gI_ne _ _ _ _ _ _ (by omega)]; exact h3
      · rcases snoc_at hx with h | ⟨h, h'⟩
        · have := at_lt h
          rw [gI_ne _ _ _ _ _ _ (by omega), gI_ne _ _ _ _ _ _ (by omega), hF2.i (by unfold cAt; omega)]; exact ha i x h
        · subst h; rw [gI_ne _ _ _ _ _ _ (by omega), gI_same, h']; exact hv
      · rw [hs2] at em
        rw [List.append_assoc] at k2 k3 hne
        refine q1 (s.1 :: s2.1, s2.2) em hne M' hF' (fun k hk => ?_) k1 k2 k3
        rw [k0 k hk, gI_ne _ _ _ _ _ _ (by omega), gI_ne _ _ _ _ _ _ (by omega), hF2.i (by unfold cAt; omega)]
      · refine q0 ?_ x M' hF' hx
        rcases hn with hn | ⟨s2, hs2, hn⟩
        · rw [hn] at em; exact Or.inl em
        · rw [hs2] at em
          refine Or.inr ⟨_, em, ?_⟩
          rw [List.append_assoc] at hn
          exact hn
    refine b_Rd_readMacro_2 hr (by omega) (bf (by omega) (k_Rd_pk hT hM1 h2 (fun _ _ => ⟨fun c => part (Or.inr c), fun c => ⟨fun c2 => stop (by omega) c, fun c2 => ⟨fun c3 => part (Or.inl ⟨by omega, c3⟩), fun c3 => stop (by omega) c⟩⟩⟩)))
theorem knd_inv (x : Int) : (kndV x = 0 → x = 97) ∧ (kndV x = 1 → x = 112) ∧ (kndV x = 2 → x = 105) ∧ (kndV x = 3 → x = 104) ∧ (kndV x = 4 → x = 109) ∧ (kndV x = 5 → x = 101) ∧ (x = 97 → kndV x = 0) ∧ (x = 112 → kndV x = 1) ∧ (x = 105 → kndV x = 2) ∧ (x = 104 → kndV x = 3) ∧ (x = 109 → kndV x = 4) ∧ (x = 101 → kndV x = 5) ∧ -1 ≤ kndV x ∧ kndV x ≤ 5 := by
  unfold kndV
  split
  · omega
  · split
    · omega
    · split
      · omega
      · split
        · omega
        · split
          · omega
          · split <;> omega
theorem k_Rd_rr {Q : Int → Mem → Prop} {r p : Nat} (hr : isRul r) (hT : TxT t L) (hM : TxC M t L) (hp : gI M 1 2 = (p : Nat)) (hpL : p ≤ L)
    (q1 : ∀ R, rulP t p = some R → ∀ M' : Mem, FrI (cRu r) M M' → gI M' 1 2 = (R.2 : Nat) → RuleC M' r R.1 → Q 1 M') (q0 : rulP t p = none → ∀ (x : Int) (M' : Mem), FrI (cRu r) M M' → (x = 0 ∨ (x = 1 ∧ DoomS M' t L)) → Q x M') : K_Rd_readRule g n r M Q := by
  have hrl := rul_lo hr
  have hL := hT.1
  have tr := hT.rng p
  have sr := sgnV_rng (t p)
  have nb : nxp L p ≤ 1000 := by unfold nxp; split <;> omega
  refine i_Rd_readRule (b_Rd_readRule_0 hr (k_Rd_nx hT hM hp (fun M1 hF1 h1 hr1 _ => k_J_ix1 hr1 (fun _ _ => k_Rd_nx hT (hM.n (cAt_N hF1)) h1 (fun M2 hF2 h2 hr2 _ => k_J_ix2 hr2 (fun hk2 _ => ?_))))))
  have hF12 := hF1.tr hF2
  by_cases c : sgnV (t p) = -4
  · rw [if_pos c]
    exact bf (by decide) (q0 (rul_n c) 0 M2 (cAt_Ru hF12) (Or.inl rfl))
  rw [if_neg c]
  have hlt := hT.in (p := p) (fun z => c (by rw [z]; rfl))
  have e1 : nxp L p = p + 1 := by unfold nxp; rw [if_pos hlt]
  rw [e1] at h2 ⊢
  have kb := knd_inv (t (p + 1))
  refine bt (by omega) (i_Ru_start (b_Ru_start_0 hr (by omega) (by omega) (fun _ => ?_)))
  generalize hN : sI (sI (sI (sI (sI (sI M2 r 0 (sgnV (t p))) r 1 (kndV (t (p + 1)))) r 2 0) r 3 0) r 4 0) r 6 0 = N
  have hFN : FrI (cRu r) M N := by
    rw [← hN]
    exact (cAt_Ru hF12).tr (FrI.tr (FrI.tr (FrI.tr (FrI.tr (FrI.tr (FrI.st (Or.inr (Or.inl rfl))) (FrI.st (Or.inr (Or.inl rfl)))) (FrI.st (Or.inr (Or.inl rfl)))) (FrI.st (Or.inr (Or.inl rfl)))) (FrI.st (Or.inr (Or.inl rfl)))) (FrI.st (Or.inr (Or.inl rfl))))
  have hMN := hM.ru hr hFN
  have n0 : gI N r 0 = sgnV (t p) := by rw [← hN, gI_ne _ _ _ _ _ _ (by omega), gI_ne _ _ _ _ _ _ (by omega), gI_ne _ _ _ _ _ _ (by omega), gI_ne _ _ _ _ _ _ (by omega), gI_ne _ _ _ _ _ _ (by omega), gI_same]
  have n1 : gI N r 1 = kndV (t (p + 1)) := by rw [← hN, gI_ne _ _ _ _ _ _ (by omega), gI_ne _ _ _ _ _ _ (by omega), gI_ne _ _ _ _ _ _ (by omega), gI_ne _ _ _ _ _ _ (by omega), gI_same]
  have n4 : gI N r 4 = 0 := by rw [← hN, gI_ne _ _ _ _ _ _ (by omega), gI_same]
  have n6 : gI N r 6 = 0 := by rw [← hN, gI_same]
  have nat : gI N 1 2 = (nxp L (p + 1) : Nat) := by rw [← hN, gI_ne _ _ _ _ _ _ (by omega), gI_ne _ _ _ _ _ _ (by omega), gI_ne _ _ _ _ _ _ (by omega), gI_ne _ _ _ _ _ _ (by omega), gI_ne _ _ _ _ _ _ (by omega), gI_ne _ _ _ _ _ _ (by omega)]; exact h2
  have nat2 : t (p + 1) ≠ 0 → p + 1 < L ∧ gI N 1 2 = ((p + 2 : Nat) : Int) := fun h => by
    have := hT.in h
    unfold nxp at nat
    rw [if_pos this] at nat
    exact ⟨this, nat⟩
  -- a rule with a name
  have nmk : (t (p + 1) = 105 ∨ t (p + 1) = 104 ∨ t (p + 1) = 109) → kndV (t (p + 1)) = kdV (t (p + 1)) → K_Rd_readName g n N (fun r17 M18 => InR r17 → WT M18 → (((r17 = 0) → Q 0 (sI M18 r 4 r17)) ∧ ((¬ (r17 = 0)) → Q 1 (sI M18 r 4 r17)))) := by
    intro hk ek
    obtain ⟨hlt2, g2⟩ := nat2 (by omega)
    have er := rul_k (t := t) (p := p) c hk
    have k24 : 2 ≤ kdV (t (p + 1)) ∧ kdV (t (p + 1)) ≤ 4 := by unfold kdV; split; omega; split <;> omega
    refine k_Rd_rn hT hMN g2 (by omega) (fun s hs M3 hF3 g3 _ _ => bf (by obtain ⟨⟨vn, hv⟩, _⟩ := nameP_ok hT hs; exact vcode_pos hv) ?_) (fun hs cc M3 hF3 hd _ _ => ⟨fun z => q0 (by rw [er, hs]; rfl) 0 _ (hFN.tr ((cN_Ru hF3).tr (FrI.st (Or.inr (Or.inl rfl))))) (Or.inl rfl), fun z => q0 (by rw [er, hs]; rfl) 1 _ (hFN.tr ((cN_Ru hF3).tr (FrI.st (Or.inr (Or.inl rfl))))) (Or.inr ⟨rfl, ?_⟩)⟩)
    · rw [hs] at er
      refine q1 _ er _ (hFN.tr ((cN_Ru hF3).tr (FrI.st (Or.inr (Or.inl rfl))))) ?_ ⟨?_, ?_, fun z => ?_, fun _ _ => ?_, fun z => ?_, fun z => ?_⟩
      · rw [gI_ne _ _ _ _ _ _ (by omega)]; exact g3
      · rw [gI_ne _ _ _ _ _ _ (by omega), hF3.i (by unfold cN; omega)]; exact n0
      · rw [gI_ne _ _ _ _ _ _ (by omega), hF3.i (by unfold cN; omega), n1]; exact ek
      · dsimp only at z; omega
      · rw [gI_same]
      · dsimp only at z; omega
      · dsimp only at z; omega
    · rcases hd with hd | ⟨k, hk1, hk2, hk3⟩
      · exact absurd hd z
      · exact ⟨k, hk1, by rw [gI_ne _ _ _ _ _ _ (by omega)]; exact hk2, by omega⟩
  refine ⟨fun c0 => ?_, fun c0 => ⟨fun c1 => ?_, fun c1 => ⟨fun c2 => ?_, fun c2 => ⟨fun c3 => ?_, fun c3 => ⟨fun c4 => ?_, fun c4 => ⟨fun c5 => ?_, fun c5 => ?_⟩⟩⟩⟩⟩⟩
  · have hx := kb.1 c0
    obtain ⟨hlt2, g2⟩ := nat2 (by omega)
    refine q1 _ (rul_0 c hx) N hFN g2 ⟨n0, by rw [n1]; exact c0, fun z => ?_, fun z => ?_, fun _ => n4, fun z => ?_⟩ <;> (dsimp only at z; omega)
  · have hx := kb.2.1 c1
    obtain ⟨hlt2, g2⟩ := nat2 (by omega)
    have st1 : ∀ (M0 : Mem) (k : Nat) (x : Int), FrI (cRu r) M0 (sI M0 r k x) := fun M0 k x => FrI.st (Or.inr (Or.inl rfl))
    refine i_Rd_readPrefix (b_Rd_readPrefix_0 hr (k_Rd_nm (by omega) hT hMN g2 (by omega) (fun s hs M3 hF3 g3 _ _ => bf (by have := numP_ok hT hs; omega) ?_) (fun hs M3 hF3 _ _ => bt (by decide) (fun _ _ => q0 (rul_1n c hx hs) 0 _ (hFN.tr ((cAt_Ru hF3).tr (st1 _ _ _))) (Or.inl rfl)))))
    have hFa := hFN.tr ((cAt_Ru hF3).tr (st1 M3 2 s.1))
    have os := numP_ok hT hs
    refine k_Rd_tk (by omega) hT (hM.ru hr hFa) (p := s.2) (by rw [gI_ne _ _ _ _ _ _ (by omega)]; exact g3) (fun e M4 hF4 g4 _ _ => bnt (by decide) ?_) (fun e _ _ => bnf rfl (fun _ _ => q0 (rul_1s c hx hs e) 0 _ hFa (Or.inl rfl)))
    have er := rul_1m c hx hs e
    have hFb := hFa.tr (cAt_Ru hF4)
    refine k_Rd_nm (by omega) hT (hM.ru hr hFb) g4 (by omega) (fun s2 hs2 M5 hF5 g5 _ _ => bf (by have := numP_ok hT hs2; omega) (fun _ _ => ?_)) (fun hs2 M5 hF5 _ _ => bt (by decide) (fun _ _ => q0 (by rw [er, hs2]; rfl) 0 _ (hFb.tr ((cAt_Ru hF5).tr (st1 _ _ _))) (Or.inl rfl)))
    rw [hs2] at er
    refine q1 _ er _ (hFb.tr ((cAt_Ru hF5).tr (st1 _ _ _))) ?_ ⟨?_, ?_, fun _ => ⟨?_, ?_⟩, fun z => ?_, fun _ => ?_, fun z => ?_⟩
    · rw [gI_ne _ _ _ _ _ _ (by omega)]; exact g5
    · rw [gI_ne _ _ _ _ _ _ (by omega), hF5.i (by unfold cAt; omega), hF4.i (by unfold cAt; omega), gI_ne _ _ _ _ _ _ (by omega), hF3.i (by unfold cAt; omega)]; exact n0
    · rw [gI_ne _ _ _ _ _ _ (by omega), hF5.i (by unfold cAt; omega), hF4.i (by unfold cAt; omega), gI_ne _ _ _ _ _ _ (by omega), hF3.i (by unfold cAt; omega), n1]; exact c1
    · rw [gI_ne _ _ _ _ _ _ (by omega), hF5.i (by unfold cAt; omega), hF4.i (by unfold cAt; omega), gI_same]
    · rw [gI_same]
    · dsimp only at z; omega
    · rw [gI_ne _ _ _ _ _ _ (by omega), hF5.i (by unfold cAt; omega), hF4.i (by unfold cAt; omega), gI_ne _ _ _ _ _ _ (by omega), hF3.i (by unfold cAt; omega)]; exact n4
    · dsimp only at z; omega
  · have hx := kb.2.2.1 c2
    exact nmk (by omega) (by unfold kdV; rw [if_pos hx]; exact c2)
  · have hx := kb.2.2.2.1 c3
    exact nmk (by omega) (by unfold kdV; rw [if_neg (by omega), if_pos hx]; exact c3)
  · have hx := kb.2.2.2.2.1 c4
    exact nmk (by omega) (by unfold kdV; rw [if_neg (by omega), if_neg (by omega)]; exact c4)
  · have hx := kb.2.2.2.2.2.1 c5
    obtain ⟨hlt2, g2⟩ := nat2 (by omega)
    refine i_Rd_readMacro (b_Rd_readMacro_0 hr (rd_mac (M := M) hr hT hM 8 (p + 2) [] N (by omega) rfl hFN g2 (by rw [n6]; rfl) (fun i x hx => by simp at hx) (fun s hs hne M' hF' k0 k1 k2 k3 _ _ => ?_) (fun hn x M' hF' hd _ _ => q0 ?_ x M' hF' hd)))
    · rw [List.nil_append] at hne k2 k3
      exact q1 _ (rul_5m c hx hs hne) M' hF' k1 ⟨by rw [k0 0 (by omega)]; exact n0, by rw [k0 1 (by omega), n1]; exact c5, fun z => by dsimp only at z; omega, fun z => by dsimp only at z ⊢; omega, fun _ => by rw [k0 4 (by omega)]; exact n4, fun _ => ⟨k2, k3⟩⟩
    · rcases hn with hn | ⟨s, hn, hn2⟩
      · exact rul_5n c hx hn
      · rw [List.nil_append] at hn2
        exact rul_5z c hx hn hn2
  · exact q0 (rul_x c (by omega)) 0 N hFN (Or.inl rfl)
end CU
