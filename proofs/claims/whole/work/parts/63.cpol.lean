/-! ===== the class reads: policies, hosts, exchangers ===== -/
def cPo (d a k : Nat) : Prop := cN a k ∨ (a = d ∧ (k = 3 ∨ k = 5 ∨ k = 6)) ∨ (d + 5 ≤ a ∧ a < d + 21)
def cHo (d a k : Nat) : Prop := cN a k ∨ (a = d ∧ k = 8) ∨ a = d + 3
def cEx (d a k : Nat) : Prop := cN a k ∨ (a = d ∧ k = 10) ∨ a = d + 4
theorem cN_Po {M M' : Mem} {d : Nat} (h : FrI cN M M') : FrI (cPo d) M M' := h.mono (fun a k q => Or.inl q)
theorem cN_Ho {M M' : Mem} {d : Nat} (h : FrI cN M M') : FrI (cHo d) M M' := h.mono (fun a k q => Or.inl q)
theorem cN_Ex {M M' : Mem} {d : Nat} (h : FrI cN M M') : FrI (cEx d) M M' := h.mono (fun a k q => Or.inl q)
theorem TxC.po {M M' : Mem} {t : Nat → Int} {L d : Nat} (hd : isDom d) (h : TxC M t L) (hF : FrI (cPo d) M M') : TxC M' t L := by
  have := dom_lo hd
  exact h.fr hF (by unfold cPo cN; omega) (fun k => by unfold cPo cN; omega)
theorem TxC.ho {M M' : Mem} {t : Nat → Int} {L d : Nat} (hd : isDom d) (h : TxC M t L) (hF : FrI (cHo d) M M') : TxC M' t L := by
  have := dom_lo hd
  exact h.fr hF (by unfold cHo cN; omega) (fun k => by unfold cHo cN; omega)
theorem TxC.ex {M M' : Mem} {t : Nat → Int} {L d : Nat} (hd : isDom d) (h : TxC M t L) (hF : FrI (cEx d) M M') : TxC M' t L := by
  have := dom_lo hd
  exact h.fr hF (by unfold cEx cN; omega) (fun k => by unfold cEx cN; omega)
def PolC (M : Mem) (d : Nat) (l : List RuP) (c : Int) : Prop := gI M d 3 = (if l.length = 0 then 0 else 1) ∧ gI M d 5 = (l.length : Nat) ∧ gI M d 6 = c ∧ ∀ i R, l[i]? = some R → RuleC M (gP M (d + 2) i) R
def HstC (M : Mem) (d : Nat) (l : List Int) : Prop := gI M d 8 = (l.length : Nat) ∧ ∀ i x, l[i]? = some x → gI M (d + 3) i = x
def ExcC (M : Mem) (d : Nat) (l : List Int) : Prop := gI M d 10 = (l.length : Nat) ∧ ∀ i x, l[i]? = some x → gI M (d + 4) i = x
section CP
variable {g : Ctx} {M : Mem} {n : Nat} {t : Nat → Int} {L : Nat}
theorem rd_pol {Q : Int → Mem → Prop} {d : Nat} (hd : isDom d) (hP : PDom M d) (hT : TxT t L) (hM : TxC M t L) :
    ∀ (f k p : Nat) (acc : List RuP) (M1 : Mem), acc.length = k → f + k = 9 → k ≤ 8 → p ≤ L → FrI (cPo d) M M1 → gI M1 1 2 = (p : Nat) → gI M1 d 3 = 1 → gI M1 d 5 = (k : Nat) → gI M1 d 6 = 0 → (∀ i R, acc[i]? = some R → RuleC M1 (gP M (d + 2) i) R) →
      (∀ s, polP t f k p = some s → ∀ M' : Mem, FrI (cPo d) M M' → gI M' 1 2 = (s.2 : Nat) → PolC M' d (acc ++ s.1.1) s.1.2 → Q 1 M') →
      (polP t f k p = none → ∀ (x : Int) (M' : Mem), FrI (cPo d) M M' → (x = 0 ∨ (x = 1 ∧ DoomE M' t L)) → Q x M') →
      P_Rd_readPolicy g n 6 [(0, vr g 1), (1, vr g d), (2, vi (k : Int))] [] M1 Q := by
  have hdl := dom_lo hd
  have hL := hT.1
  intro f
  induction f with
  | zero => intro k p acc M1 _ h1 h2; omega
  | succ f ih =>
    intro k p acc M1 hk hf hk8 hp hF h2 h3 h5 h6 ha q1 q0
    have rest : ¬ (0 < k ∧ t p = 114) → K_Dm_addRule g n d M1 (fun r3 M4 => (r3 = 0 ∨ isRul r3) → WT M4 → (((r3 = 0) → Q 0 M4) ∧ ((¬ (r3 = 0)) → K_Rd_readRule g n r3 M4 (fun r6 M7 => (r6 = 0 ∨ r6 = 1) → WT M7 → (((¬ r6 = 0) → K_Rd_take g n 44 M7 (fun r9 M10 => (r9 = 0 ∨ r9 = 1) → WT M10 → (((¬ r9 = 0) → P_Rd_readPolicy g n 6 [(0, vr g 1), (1, vr g d), (2, vi ((k : Int) + 1))] [] M10 Q) ∧ ((r9 = 0) → Q 1 M10)))) ∧ ((r6 = 0) → Q 0 M7)))))) := by
      intro hnr
      refine i_Dm_addRule (b_Dm_addRule_0 hd ?_)
      rw [h5, Int.toNat_natCast]
      refine ⟨fun c => ⟨by omega, by omega, fun hor _ => ?_⟩, fun c _ _ => bt rfl (q0 (pol_8 hnr (by omega)) 0 M1 hF (Or.inl rfl))⟩
      obtain ⟨j, hj, ej⟩ := hP.1 k (by omega)
      rw [hF.p]
      rw [hF.p] at hor
      have hru : isRul (gP M (d + 2) k) := hor.resolve_left (by omega)
      refine bf (by omega) ?_
      have hFa : FrI (cPo d) M (sI M1 d 5 ((k : Int) + 1)) := hF.tr (FrI.st (Or.inr (Or.inl ⟨rfl, by omega⟩)))
      have ruPo : ∀ {A B : Mem}, FrI (cRu (gP M (d + 2) k)) A B → FrI (cPo d) A B := fun h => h.mono (fun a i q => by unfold cRu cN at q; unfold cPo cN; rw [ej] at q; omega)
      refine k_Rd_rr hru hT (hM.po hd hFa) (p := p) (by rw [gI_ne _ _ _ _ _ _ (by omega)]; exact h2) hp (fun R hR M3 hF3 g3 hA _ _ => bnt (by decide) ?_) (fun hR x M3 hF3 hx hz _ => ⟨fun z => ?_, fun z => q0 (pol_n hnr hR) 0 M3 (hFa.tr (ruPo hF3)) (Or.inl rfl)⟩)
      · have oR := rulP_ok hT hR
        have hFb := hFa.tr (ruPo hF3)
        have acc' : ∀ i X, (acc ++ [R.1])[i]? = some X → RuleC M3 (gP M (d + 2) i) X := fun i X hX => by
          rcases snoc_at hX with h | ⟨h, h'⟩
          · have hi := at_lt h
            obtain ⟨j2, hj2, ej2⟩ := hP.1 i (by omega)
            have hne : gP M (d + 2) i ≠ gP M (d + 2) k := fun z => by have := hP.2 i k (by omega) (by omega) z; omega
            refine (ha i X h).fr (fun u => ?_) (fun u => ?_)
            · rw [hF3.i (by unfold cRu cN; rw [ej2, ej]; rw [ej2, ej] at hne; omega), gI_ne _ _ _ _ _ _ (by rw [ej2]; omega)]
            · rw [hF3.i (by unfold cRu cN; rw [ej2, ej]; rw [ej2, ej] at hne; omega), gI_ne _ _ _ _ _ _ (by rw [ej2]; omega)]
          · subst h'; rw [h, hk]; exact hA
        have keep : ∀ u, (u = 3 ∨ u = 6) → gI M3 d u = gI M1 d u := fun u hu => by rw [hF3.i (by unfold cRu cN; rw [ej]; omega), gI_ne _ _ _ _ _ _ (by omega)]
        have k5 : gI M3 d 5 = ((k + 1 : Nat) : Int) := by rw [hF3.i (by unfold cRu cN; rw [ej]; omega), gI_same]; omega
        refine k_Rd_tk (by omega) hT (hM.po hd hFb) g3 (fun e M4 hF4 g4 _ _ => bnt (by decide) ?_) (fun e _ _ => bnf rfl ?_)
        · have hlt := hT.in (p := R.2) (by omega)
          rw [show ((k : Int) + 1) = ((k + 1 : Nat) : Int) by omega]
          refine ih (k + 1) (R.2 + 1) (acc ++ [R.1]) M4 (by simp; omega) (by omega) (by omega) (by omega) (hFb.tr (cN_Po (cAt_N hF4))) g4 ?_ ?_ ?_ (fun i X hX => ?_) (fun s hs M' hF' k1 k2 => ?_) (fun hs x M' hF' hx => ?_)
          · rw [hF4.i (by unfold cAt; omega), keep 3 (by omega)]; exact h3
          · rw [hF4.i (by unfold cAt; omega)]; exact k5
          · rw [hF4.i (by unfold cAt; omega), keep 6 (by omega)]; exact h6
          · have hi := at_lt hX
            rw [List.length_append, List.length_singleton] at hi
            obtain ⟨j2, hj2, ej2⟩ := hP.1 i (by omega)
            exact (acc' i X hX).fr (fun u => hF4.i (by unfold cAt; rw [ej2]; omega)) (fun u => hF4.i (by unfold cAt; rw [ej2]; omega))
          · have ep := pol_c (f := f) hnr (by omega) hR e
            rw [hs] at ep
            rw [List.append_assoc] at k2
            exact q1 _ ep M' hF' k1 k2
          · have ep := pol_c (f := f) hnr (by omega) hR e
            rw [hs] at ep
            exact q0 ep x M' hF' hx
        · have ep := pol_e (f := f) hnr (by omega) hR e
          refine q1 _ ep M3 hFb g3 ⟨?_, ?_, ?_, fun i X hX => ?_⟩
          · rw [keep 3 (by omega), h3, if_neg (by simp)]
          · rw [k5]; simp; omega
          · rw [keep 6 (by omega)]; exact h6
          · rw [hFb.p]; exact acc' i X hX
      · rcases hx with hx | ⟨_, kk, hkL, hk2, hk3⟩
        · exact absurd hx z
        · have hFb := hFa.tr (ruPo hF3)
          refine k_Rd_tk (by omega) hT (hM.po hd hFb) hk2 (fun e => by omega) (fun e _ _ => bnf rfl (q0 (pol_n hnr hR) 1 M3 hFb (Or.inr ⟨rfl, kk, hkL, hk2, by omega⟩)))
    refine b_Rd_readPolicy_6 hd (by omega) (bf (by omega) ⟨fun c => rest (by omega), fun c => k_Rd_tk (by omega) hT (hM.po hd hF) h2 (fun e M2 hF2 g2 _ _ => bf (by decide) ?_) (fun e _ _ => bt rfl (rest (by omega)))⟩)
    have hFa := hF.tr (cN_Po (d := d) (cAt_N hF2))
    have ep := pol_r (f := f) (k := k) (p := p) (t := t) ⟨by omega, e⟩
    have st6 : ∀ (A : Mem) (v : Int), FrI (cPo d) A (sI A d 6 v) := fun A v => FrI.st (Or.inr (Or.inl ⟨rfl, by omega⟩))
    refine k_Rd_rn hT (hM.po hd hFa) g2 (by omega) (fun s hs M3 hF3 g3 _ _ => bf (by obtain ⟨⟨vn, hv⟩, _⟩ := nameP_ok hT hs; exact vcode_pos hv) ?_) (fun hs cc M3 hF3 hx _ _ => ⟨fun z => q0 (by rw [ep, hs]; rfl) 0 _ (hFa.tr ((cN_Po hF3).tr (st6 _ _))) (Or.inl rfl), fun z => q0 (by rw [ep, hs]; rfl) 1 _ (hFa.tr ((cN_Po hF3).tr (st6 _ _))) (Or.inr ⟨rfl, ?_⟩)⟩)
    · rw [hs] at ep
      refine q1 _ ep _ (hFa.tr ((cN_Po hF3).tr (st6 _ _))) ?_ ⟨?_, ?_, ?_, fun i X hX => ?_⟩
      · rw [gI_ne _ _ _ _ _ _ (by omega)]; exact g3
      · dsimp only
        rw [List.append_nil, if_neg (by omega), gI_ne _ _ _ _ _ _ (by omega), hF3.i (by unfold cN; omega), hF2.i (by unfold cAt; omega)]; exact h3
      · dsimp only
        rw [List.append_nil, gI_ne _ _ _ _ _ _ (by omega), hF3.i (by unfold cN; omega), hF2.i (by unfold cAt; omega), h5, hk]
      · rw [gI_same]
      · dsimp only at hX
        rw [List.append_nil] at hX
        have hi := at_lt hX
        obtain ⟨j2, hj2, ej2⟩ := hP.1 i (by omega)
        rw [gP_sI, hF3.p, hF2.p, hF.p]
        exact (ha i X hX).fr (fun u => by rw [gI_ne _ _ _ _ _ _ (by rw [ej2]; omega), hF3.i (by unfold cN; rw [ej2]; omega), hF2.i (by unfold cAt; rw [ej2]; omega)]) (fun u => by rw [gI_ne _ _ _ _ _ _ (by rw [ej2]; omega), hF3.i (by unfold cN; rw [ej2]; omega), hF2.i (by unfold cAt; rw [ej2]; omega)])
    · rcases hx with hx | ⟨kk, hkL, hk2, hk3⟩
      · exact absurd hx z
      · exact ⟨kk, hkL, by rw [gI_ne _ _ _ _ _ _ (by omega)]; exact hk2, by omega⟩
theorem k_Rd_pol {Q : Int → Mem → Prop} {d p : Nat} (hd : isDom d) (hP : PDom M d) (hT : TxT t L) (hM : TxC M t L) (hp : p ≤ L) (h2 : gI M 1 2 = (p : Nat)) (q1 : ∀ s, polP t 9 0 p = some s → ∀ M' : Mem, FrI (cPo d) M M' → gI M' 1 2 = (s.2 : Nat) → PolC M' d s.1.1 s.1.2 → Q 1 M') (q0 : polP t 9 0 p = none → ∀ (x : Int) (M' : Mem), FrI (cPo d) M M' → (x = 0 ∨ (x = 1 ∧ DoomE M' t L)) → Q x M') : K_Rd_readPolicy g n d M Q := by
  have hdl := dom_lo hd
  refine i_Rd_readPolicy (b_Rd_readPolicy_0 hd (i_Dm_startPolicy (b_Dm_startPolicy_0 hd (fun _ => ?_))))
  refine rd_pol (M := M) hd hP hT hM 9 0 p [] _ rfl rfl (by omega) hp (FrI.tr (FrI.tr (FrI.st (Or.inr (Or.inl ⟨rfl, by omega⟩))) (FrI.st (Or.inr (Or.inl ⟨rfl, by omega⟩)))) (FrI.st (Or.inr (Or.inl ⟨rfl, by omega⟩)))) ?_ ?_ ?_ (gI_same _ _ _ _) (fun i R h => by simp at h) (fun s hs M' hF' k1 k2 => ?_) q0
  · rw [gI_ne _ _ _ _ _ _ (by omega), gI_ne _ _ _ _ _ _ (by omega), gI_ne _ _ _ _ _ _ (by omega)]; exact h2
  · rw [gI_ne _ _ _ _ _ _ (by omega), gI_ne _ _ _ _ _ _ (by omega), gI_same]
  · rw [gI_ne _ _ _ _ _ _ (by omega), gI_same]; rfl
  · rw [List.nil_append] at k2; exact q1 s hs M' hF' k1 k2
theorem rd_hst {Q : Int → Mem → Prop} {d : Nat} (hd : isDom d) (hT : TxT t L) (hM : TxC M t L) :
    ∀ (f k p : Nat) (acc : List Int) (M1 : Mem), acc.length = k → f + k = 4 → p ≤ L → FrI (cHo d) M M1 → gI M1 1 2 = (p : Nat) → gI M1 d 8 = (k : Nat) → (∀ i x, acc[i]? = some x → gI M1 (d + 3) i = x) →
      (∀ s, hstP t f p = some s → ∀ M' : Mem, FrI (cHo d) M M' → gI M' 1 2 = (s.2 : Nat) → HstC M' d (acc ++ s.1) → Q 1 M') →
      (hstP t f p = none → ∀ M' : Mem, FrI (cHo d) M M' → Q 0 M') →
      P_Rd_readHosts g n 7 [(0, vr g 1), (1, vr g d), (2, vi (k : Int))] [] M1 Q := by
  have hdl := dom_lo hd
  have hL := hT.1
  intro f
  induction f with
  | zero => intro k p acc M1 hk hf hp hF h2 h8 ha q1 q0; exact b_Rd_readHosts_7 hd (by omega) (bt (by omega) (q0 rfl M1 hF))
  | succ f ih =>
    intro k p acc M1 hk hf hp hF h2 h8 ha q1 q0
    refine b_Rd_readHosts_7 hd (by omega) (bf (by omega) (k_Rd_nm (by omega) hT (hM.ho hd hF) h2 (by omega) (fun s hs M2 hF2 g2 hir _ => bf (by have := numP_ok hT hs; omega) ?_) (fun hs M2 hF2 _ _ => bt (by decide) (q0 (hst_n hs) M2 (hF.tr (cN_Ho (cAt_N hF2)))))))
    have os := numP_ok hT hs
    have e8 : gI M2 d 8 = (k : Nat) := by rw [hF2.i (by unfold cAt; omega)]; exact h8
    refine k_Dm_insertHost hd hir (by omega) (by omega) (by omega) (fun z => by omega) (fun M3 _ hF3 g8 gi _ _ => bnt (by decide) ?_)
    have hFb : FrI (cHo d) M M3 := hF.tr ((cN_Ho (cAt_N hF2)).tr (hF3.mono (fun a u q => by unfold cHo; omega)))
    have acc' : ∀ i x, (acc ++ [s.1])[i]? = some x → gI M3 (d + 3) i = x := fun i x hx => by
      rcases snoc_at hx with h | ⟨h, h'⟩
      · have hi := at_lt h
        rw [gi i (by omega)]
        unfold insF
        rw [if_pos (by omega), hF2.i (by unfold cAt; omega)]; exact ha i x h
      · rw [gi i (by omega)]
        unfold insF
        rw [if_neg (by omega), if_pos (by omega)]; exact h'.symm
    refine k_Rd_tk (by omega) hT (hM.ho hd hFb) (p := s.2) (by rw [hF3.i (by omega)]; exact g2) (fun e M4 hF4 g4 _ _ => bnt (by decide) ?_) (fun e _ _ => bnf rfl ?_)
    · have hlt := hT.in (p := s.2) (by omega)
      have ep := hst_c (f := f) hs e
      rw [show ((k : Int) + 1) = ((k + 1 : Nat) : Int) by omega]
      refine ih (k + 1) (s.2 + 1) (acc ++ [s.1]) M4 (by simp; omega) (by omega) (by omega) (hFb.tr (cN_Ho (cAt_N hF4))) g4 ?_ (fun i x hx => by rw [hF4.i (by unfold cAt; omega)]; exact acc' i x hx) (fun s2 hs2 M' hF' k1 k2 => ?_) (fun hs2 M' hF' => ?_)
      · rw [hF4.i (by unfold cAt; omega), g8, e8]; omega
      · rw [hs2] at ep
        rw [List.append_assoc] at k2
        exact q1 _ ep M' hF' k1 k2
      · rw [hs2] at ep
        exact q0 ep M' hF'
    · refine q1 _ (hst_e (f := f) hs e) M3 hFb ?_ ⟨?_, acc'⟩
      · rw [hF3.i (by omega)]; exact g2
      · rw [g8, e8]; simp; omega
theorem k_Rd_hst {Q : Int → Mem → Prop} {d p : Nat} (hd : isDom d) (hT : TxT t L) (hM : TxC M t L) (hp : p ≤ L) (h2 : gI M 1 2 = (p : Nat)) (q1 : ∀ s, hstP t 4 p = some s → ∀ M' : Mem, FrI (cHo d) M M' → gI M' 1 2 = (s.2 : Nat) → HstC M' d s.1 → Q 1 M') (q0 : hstP t 4 p = none → ∀ M' : Mem, FrI (cHo d) M M' → Q 0 M') : K_Rd_readHosts g n d M Q := by
  have hdl := dom_lo hd
  refine i_Rd_readHosts (b_Rd_readHosts_0 hd (rd_hst (M := M) hd hT hM 4 0 p [] _ rfl rfl hp (FrI.st (Or.inr (Or.inl ⟨rfl, rfl⟩))) ?_ (gI_same _ _ _ _) (fun i R h => by simp at h) (fun s hs M' hF' k1 k2 => by rw [List.nil_append] at k2; exact q1 s hs M' hF' k1 k2) q0))
  rw [gI_ne _ _ _ _ _ _ (by omega)]; exact h2
theorem rd_exc {Q : Int → Mem → Prop} {d : Nat} (hd : isDom d) (hT : TxT t L) (hM : TxC M t L) :
    ∀ (f k p : Nat) (acc : List Int) (M1 : Mem), acc.length = k → f + k = 3 → p ≤ L → FrI (cEx d) M M1 → gI M1 1 2 = (p : Nat) → gI M1 d 10 = (k : Nat) → (∀ i x, acc[i]? = some x → gI M1 (d + 4) i = x) →
      (∀ s, excP t f p = some s → ∀ M' : Mem, FrI (cEx d) M M' → gI M' 1 2 = (s.2 : Nat) → ExcC M' d (acc ++ s.1) → Q 1 M') →
      (excP t f p = none → ∀ (x : Int) (M' : Mem), FrI (cEx d) M M' → (x = 0 ∨ (x = 1 ∧ DoomE M' t L)) → Q x M') →
      P_Rd_readExchangers g n 7 [(0, vr g 1), (1, vr g d), (2, vi (k : Int))] [] M1 Q := by
  have hdl := dom_lo hd
  have hL := hT.1
  intro f
  induction f with
  | zero => intro k p acc M1 hk hf hp hF h2 h8 ha q1 q0; exact b_Rd_readExchangers_7 hd (by omega) (bt (by omega) (q0 rfl 0 M1 hF (Or.inl rfl)))
  | succ f ih =>
    intro k p acc M1 hk hf hp hF h2 h8 ha q1 q0
    have stE : ∀ (A : Mem) (v w : Int), FrI (cEx d) A (sI (sI A (d + 4) k v) d 10 w) := fun A v w => FrI.tr (FrI.st (Or.inr (Or.inr rfl))) (FrI.st (Or.inr (Or.inl ⟨rfl, rfl⟩)))
    refine b_Rd_readExchangers_7 hd (by omega) (bf (by omega) (k_Rd_rn hT (hM.ex hd hF) h2 (by omega) (fun s hs M2 hF2 g2 hir _ => bf (by obtain ⟨⟨vn, hv⟩, _⟩ := nameP_ok hT hs; exact vcode_pos hv) ?_) (fun hs cc M2 hF2 hx hir _ => ⟨fun z => q0 (exc_n hs) 0 M2 (hF.tr (cN_Ex hF2)) (Or.inl rfl), fun z => ?_⟩)))
    · have os := nameP_ok hT hs
      have e10 : gI M2 d 10 = (k : Nat) := by rw [hF2.i (by unfold cN; omega)]; exact h8
      refine i_Dm_addExchanger (b_Dm_addExchanger_0 hd hir ?_)
      rw [e10, Int.toNat_natCast]
      refine bt (by omega) ⟨by omega, by omega, fun _ _ => bnt (by decide) ?_⟩
      have hFb := hF.tr ((cN_Ex hF2).tr (stE M2 s.1 ((k : Int) + 1)))
      have acc' : ∀ i x, (acc ++ [s.1])[i]? = some x → gI (sI (sI M2 (d + 4) k s.1) d 10 ((k : Int) + 1)) (d + 4) i = x := fun i x hx => by
        rcases snoc_at hx with h | ⟨h, h'⟩
        · have hi := at_lt h
          rw [gI_ne _ _ _ _ _ _ (by omega), gI_ne _ _ _ _ _ _ (by omega), hF2.i (by unfold cN; omega)]; exact ha i x h
        · rw [h, hk, gI_ne _ _ _ _ _ _ (by omega), gI_same]; exact h'.symm
      refine k_Rd_tk (by omega) hT (hM.ex hd hFb) (p := s.2) (by rw [gI_ne _ _ _ _ _ _ (by omega), gI_ne _ _ _ _ _ _ (by omega)]; exact g2) (fun e M4 hF4 g4 _ _ => bnt (by decide) ?_) (fun e _ _ => bnf rfl ?_)
      · have hlt := hT.in (p := s.2) (by omega)
        have ep := exc_c (f := f) hs e
        rw [show ((k : Int) + 1) = ((k + 1 : Nat) : Int) by omega] at hF4 ⊢
        refine ih (k + 1) (s.2 + 1) (acc ++ [s.1]) M4 (by simp; omega) (by omega) (by omega) (hFb.tr (cN_Ex (cAt_N hF4))) g4 ?_ (fun i x hx => by rw [hF4.i (by unfold cAt; omega)]; exact acc' i x hx) (fun s2 hs2 M' hF' k1 k2 => ?_) (fun hs2 x M' hF' hx => ?_)
        · rw [hF4.i (by unfold cAt; omega), gI_same]
        · rw [hs2] at ep
          rw [List.append_assoc] at k2
          exact q1 _ ep M' hF' k1 k2
        · rw [hs2] at ep
          exact q0 ep x M' hF' hx
      · refine q1 _ (exc_e (f := f) hs e) _ hFb ?_ ⟨?_, acc'⟩
        · rw [gI_ne _ _ _ _ _ _ (by omega), gI_ne _ _ _ _ _ _ (by omega)]; exact g2
        · rw [gI_same]; simp; omega
    · have e10 : gI M2 d 10 = (k : Nat) := by rw [hF2.i (by unfold cN; omega)]; exact h8
      rcases hx with hx | ⟨kk, hkL, hk2, hk3⟩
      · exact absurd hx z
      refine i_Dm_addExchanger (b_Dm_addExchanger_0 hd hir ?_)
      rw [e10, Int.toNat_natCast]
      refine bt (by omega) ⟨by omega, by omega, fun _ _ => bnt (by decide) ?_⟩
      have hFb := hF.tr ((cN_Ex hF2).tr (stE M2 cc ((k : Int) + 1)))
      have gk : gI (sI (sI M2 (d + 4) k cc) d 10 ((k : Int) + 1)) 1 2 = (kk : Nat) := by rw [gI_ne _ _ _ _ _ _ (by omega), gI_ne _ _ _ _ _ _ (by omega)]; exact hk2
      exact k_Rd_tk (by omega) hT (hM.ex hd hFb) gk (fun e => by omega) (fun e _ _ => bnf rfl (q0 (exc_n hs) 1 _ hFb (Or.inr ⟨rfl, kk, hkL, gk, by omega⟩)))
theorem k_Rd_exc {Q : Int → Mem → Prop} {d p : Nat} (hd : isDom d) (hT : TxT t L) (hM : TxC M t L) (hp : p ≤ L) (h2 : gI M 1 2 = (p : Nat)) (q1 : ∀ s, excP t 3 p = some s → ∀ M' : Mem, FrI (cEx d) M M' → gI M' 1 2 = (s.2 : Nat) → ExcC M' d s.1 → Q 1 M') (q0 : excP t 3 p = none → ∀ (x : Int) (M' : Mem), FrI (cEx d) M M' → (x = 0 ∨ (x = 1 ∧ DoomE M' t L)) → Q x M') : K_Rd_readExchangers g n d M Q := by
  have hdl := dom_lo hd
  refine i_Rd_readExchangers (b_Rd_readExchangers_0 hd (rd_exc (M := M) hd hT hM 3 0 p [] _ rfl rfl hp (FrI.st (Or.inr (Or.inl ⟨rfl, rfl⟩))) ?_ (gI_same _ _ _ _) (fun i R h => by simp at h) (fun s hs M' hF' k1 k2 => by rw [List.nil_append] at k2; exact q1 s hs M' hF' k1 k2) q0))
  rw [gI_ne _ _ _ _ _ _ (by omega)]; exact h2
end CP
