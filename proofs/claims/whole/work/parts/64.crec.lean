/-! ===== the class's Records while they are read ===== -/
def DomC (M : Mem) (d : Nat) (c : Int) (R : ReP) : Prop := gI M d 0 = c ∧ (∃ nn : Nat, vcode c nn ∧ gI M d 2 = nn ∧ ∀ k, k < 7 → gI M (d + 1) k = dg c k - 1) ∧ PolC M d R.1 R.2.1 ∧ HstC M d R.2.2.1 ∧ ExcC M d R.2.2.2
theorem PolC.fr {M M' : Mem} {d : Nat} {l : List RuP} {c : Int} (h : PolC M d l c) (hP : PDom M d) (hl : l.length ≤ 8) (e0 : ∀ k, k = 3 ∨ k = 5 ∨ k = 6 → gI M' d k = gI M d k) (e1 : ∀ a k, d + 5 ≤ a → a < d + 21 → gI M' a k = gI M a k) (ep : ∀ i, gP M' (d + 2) i = gP M (d + 2) i) : PolC M' d l c := by
  obtain ⟨h1, h2, h3, h4⟩ := h
  refine ⟨by rw [e0 _ (by omega)]; exact h1, by rw [e0 _ (by omega)]; exact h2, by rw [e0 _ (by omega)]; exact h3, fun i R hR => ?_⟩
  have hi := at_lt hR
  obtain ⟨k, hk, ek⟩ := hP.1 i (by omega)
  rw [ep]
  exact (h4 i R hR).fr (fun u => e1 _ _ (by omega) (by omega)) (fun u => e1 _ _ (by omega) (by omega))
theorem HstC.fr {M M' : Mem} {d : Nat} {l : List Int} (h : HstC M d l) (e0 : gI M' d 8 = gI M d 8) (e1 : ∀ k, gI M' (d + 3) k = gI M (d + 3) k) : HstC M' d l := ⟨by rw [e0]; exact h.1, fun i x hx => by rw [e1]; exact h.2 i x hx⟩
theorem ExcC.fr {M M' : Mem} {d : Nat} {l : List Int} (h : ExcC M d l) (e0 : gI M' d 10 = gI M d 10) (e1 : ∀ k, gI M' (d + 4) k = gI M (d + 4) k) : ExcC M' d l := ⟨by rw [e0]; exact h.1, fun i x hx => by rw [e1]; exact h.2 i x hx⟩
theorem DomC.fr {M M' : Mem} {d : Nat} {c : Int} {R : ReP} (h : DomC M d c R) (hP : PDom M d) (ok : okRe R) (e : ∀ a k, d ≤ a → a < d + 21 → gI M' a k = gI M a k) (ep : ∀ i, gP M' (d + 2) i = gP M (d + 2) i) : DomC M' d c R := by
  obtain ⟨h1, ⟨nn, hv, h2, h3⟩, h4, h5, h6⟩ := h
  refine ⟨by rw [e _ _ (by omega) (by omega)]; exact h1, ⟨nn, hv, by rw [e _ _ (by omega) (by omega)]; exact h2, fun k hk => by rw [e _ _ (by omega) (by omega)]; exact h3 k hk⟩, h4.fr hP ok.1.1 (fun k _ => e _ _ (by omega) (by omega)) (fun a k x y => e _ _ (by omega) y) ep, h5.fr (e _ _ (by omega) (by omega)) (fun k => e _ _ (by omega) (by omega)), h6.fr (e _ _ (by omega) (by omega)) (fun k => e _ _ (by omega) (by omega))⟩
/-- what reading into the Records b may change -/
def FrR (b : Nat) (M M' : Mem) : Prop := (∀ a k, ¬ cN a k → ¬ (b ≤ a ∧ a < b + 254) → gI M' a k = gI M a k) ∧ (∀ a k, a ≠ b + 1 → gP M' a k = gP M a k) ∧ (PRec M b → PRec M' b)
theorem FrR.rf (b : Nat) (M : Mem) : FrR b M M := ⟨fun _ _ _ _ => rfl, fun _ _ _ => rfl, fun h => h⟩
theorem FrR.tr {b : Nat} {M M1 M2 : Mem} (h : FrR b M M1) (h' : FrR b M1 M2) : FrR b M M2 := ⟨fun a k x y => (h'.1 a k x y).trans (h.1 a k x y), fun a k x => (h'.2.1 a k x).trans (h.2.1 a k x), fun x => h'.2.2 (h.2.2 x)⟩
theorem FrR.of {S : Nat → Nat → Prop} {b : Nat} {M M' : Mem} (h : FrI S M M') (hs : ∀ a k, S a k → cN a k ∨ (b ≤ a ∧ a < b + 254)) : FrR b M M' := ⟨fun a k x y => h.i (fun z => (hs a k z).elim x y), fun a k _ => h.p a k, fun x => x.fr (fun a k _ => h.p a k)⟩
theorem TxC.rc {M M' : Mem} {t : Nat → Int} {L b : Nat} (hb : isRec b) (h : TxC M t L) (hF : FrR b M M') : TxC M' t L := by
  have hb4 : 4 ≤ b := by rcases hb with rfl | rfl <;> omega
  exact ⟨by rw [hF.1 _ _ (by unfold cN; omega) (by omega)]; exact h.1, fun p hp => by rw [hF.1 _ _ (by unfold cN; omega) (by omega)]; exact h.2 p hp⟩
/-- the Records b: keys ks, records P -/
def CRec (M : Mem) (b : Nat) (ks : List Int) (P : Int → ReP) : Prop := gI M b 1 = (ks.length : Nat) ∧ ks.length ≤ 12 ∧ PRec M b ∧ (∀ j, j + 1 < ks.length → kyF M b j < kyF M b (j + 1)) ∧ (∀ j, j < ks.length → kyF M b j ∈ ks) ∧ (∀ c, c ∈ ks → ∃ j, j < ks.length ∧ kyF M b j = c) ∧ ∀ j, j < ks.length → okRe (P (kyF M b j)) ∧ DomC M (gP M (b + 1) j) (kyF M b j) (P (kyF M b j))
section CC
variable {g : Ctx} {M : Mem} {n : Nat}
theorem k_Dm_start {Q : Mem → Prop} {d nn : Nat} {c : Int} (hd : isDom d) (hc : vcode c nn) (q : ∀ M' : Mem, FrI (fun a _ => a = d ∨ a = d + 1) M M' → gI M' d 0 = c → gI M' d 2 = (nn : Nat) → (∀ k, k < 7 → gI M' (d + 1) k = dg c k - 1) → gI M' d 3 = 0 → gI M' d 5 = 0 → gI M' d 6 = 0 → gI M' d 8 = 0 → gI M' d 10 = 0 → Q M') : K_Dm_start g n d c M Q := by
  have h0 := hc.1
  have hb := hc.2.1
  have hn7 := hc.2.2.2.1
  have loop : ∀ (j : Nat) (M1 : Mem), j ≤ 7 → FrI (fun a _ => a = d ∨ a = d + 1) M M1 → gI M1 d 0 = c → gI M1 d 2 = ((nn - j : Nat) : Int) → (∀ k, j ≤ k → k < 7 → gI M1 (d + 1) k = dg c k - 1) → P_Dm_start g n 15 [(0, vr g d), (2, vi (c / 17 ^ (7 - j))), (3, vi ((j : Int) - 1))] [] M1 Q := by
    intro j
    induction j with
    | zero =>
      intro M1 hj hF e0 e2 e1
      have p0 := pow17_pos (7 - 0)
      have x0 : 0 ≤ c / 17 ^ (7 - 0) := Int.ediv_nonneg h0 (by omega)
      have x1 : c / 17 ^ (7 - 0) ≤ c := Int.ediv_le_self _ h0
      refine b_Dm_start_15 hd (by omega) (by omega) (bt (by omega) (q _ (hF.tr (FrI.tr (FrI.tr (FrI.tr (FrI.tr (FrI.st (Or.inl rfl)) (FrI.st (Or.inl rfl))) (FrI.st (Or.inl rfl))) (FrI.st (Or.inl rfl))) (FrI.st (Or.inl rfl)))) ?_ ?_ (fun k hk => ?_) ?_ ?_ ?_ ?_ ?_))
      · rw [gI_ne _ _ _ _ _ _ (by omega), gI_ne _ _ _ _ _ _ (by omega), gI_ne _ _ _ _ _ _ (by omega), gI_ne _ _ _ _ _ _ (by omega), gI_ne _ _ _ _ _ _ (by omega)]; exact e0
      · rw [gI_ne _ _ _ _ _ _ (by omega), gI_ne _ _ _ _ _ _ (by omega), gI_ne _ _ _ _ _ _ (by omega), gI_ne _ _ _ _ _ _ (by omega), gI_ne _ _ _ _ _ _ (by omega)]; exact e2
      · rw [gI_ne _ _ _ _ _ _ (by omega), gI_ne _ _ _ _ _ _ (by omega), gI_ne _ _ _ _ _ _ (by omega), gI_ne _ _ _ _ _ _ (by omega), gI_ne _ _ _ _ _ _ (by omega)]; exact e1 k (by omega) hk
      · rw [gI_ne _ _ _ _ _ _ (by omega), gI_ne _ _ _ _ _ _ (by omega), gI_ne _ _ _ _ _ _ (by omega), gI_ne _ _ _ _ _ _ (by omega), gI_same]
      · rw [gI_ne _ _ _ _ _ _ (by omega), gI_ne _ _ _ _ _ _ (by omega), gI_ne _ _ _ _ _ _ (by omega), gI_same]
      · rw [gI_ne _ _ _ _ _ _ (by omega), gI_ne _ _ _ _ _ _ (by omega), gI_same]
      · rw [gI_ne _ _ _ _ _ _ (by omega), gI_same]
      · rw [gI_same]
    | succ j ih =>
      intro M1 hj hF e0 e2 e1
      have p0 := pow17_pos (7 - (j + 1))
      have x0 : 0 ≤ c / 17 ^ (7 - (j + 1)) := Int.ediv_nonneg h0 (by omega)
      have x1 : c / 17 ^ (7 - (j + 1)) ≤ c := Int.ediv_le_self _ h0
      have ed : c / 17 ^ (7 - (j + 1)) % 17 = dg c j := by unfold dg; rw [show 7 - (j + 1) = 6 - j by omega]
      have en : c / 17 ^ (7 - (j + 1)) / 17 = c / 17 ^ (7 - j) := by
        rw [Int.ediv_ediv_of_nonneg (by omega), ← Int.pow_succ, show (7 - (j + 1)).succ = 7 - j by omega]
      have hd2 := dg_bd c j
      refine b_Dm_start_15 hd (by omega) (by omega) (bf (by omega) ⟨x0, x0, by omega, by omega, by omega, ?_⟩)
      rw [ed, en, show (((j + 1 : Nat) : Int) - 1).toNat = j by omega, show ((j + 1 : Nat) : Int) - 1 + -1 = (j : Int) - 1 by omega]
      have cells : ∀ k, j ≤ k → k < 7 → gI (sI M1 (d + 1) j (dg c j - 1)) (d + 1) k = dg c k - 1 := fun k hk1 hk2 => by
        by_cases z : k = j
        · rw [z, gI_same]
        · rw [gI_ne _ _ _ _ _ _ (by omega)]; exact e1 k (by omega) hk2
      refine ⟨fun z => ih _ (by omega) (hF.tr (FrI.st (Or.inr rfl))) ?_ ?_ cells, fun z => ⟨by rw [e2]; omega, ih _ (by omega) (hF.tr (FrI.tr (FrI.st (Or.inr rfl)) (FrI.st (Or.inl rfl)))) ?_ ?_ (fun k hk1 hk2 => ?_)⟩⟩
      · rw [gI_ne _ _ _ _ _ _ (by omega)]; exact e0
      · rw [gI_ne _ _ _ _ _ _ (by omega), e2]
        have : ¬ j < nn := fun h => by have := hc.2.2.2.2.1 j h; omega
        omega
      · rw [gI_ne _ _ _ _ _ _ (by omega), gI_ne _ _ _ _ _ _ (by omega)]; exact e0
      · rw [gI_same, e2]
        have : j < nn := by
          by_cases h : j < nn
          · exact h
          · have := hc.2.2.2.2.2 j (by omega) (by omega); omega
        omega
      · rw [gI_ne _ _ _ _ _ _ (by omega)]; exact cells k hk1 hk2
  refine i_Dm_start (b_Dm_start_0 hd (by omega) ?_)
  have := loop 7 (sI (sI M d 0 c) d 2 0) (Nat.le_refl _) (FrI.tr (FrI.st (Or.inl rfl)) (FrI.st (Or.inl rfl))) (by rw [gI_ne _ _ _ _ _ _ (by omega), gI_same]) (by rw [gI_same]; omega) (fun k hk1 hk2 => by omega)
  simpa using this
theorem CRec.dom {b : Nat} {ks : List Int} {P : Int → ReP} (h : CRec M b ks P) (hb : isRec b) {j : Nat} (hj : j < ks.length) : isDom (gP M (b + 1) j) := by
  obtain ⟨q, hq, e⟩ := h.2.2.1.1 j (by have := h.2.1; omega)
  exact ⟨b, q, hb, hq, e⟩
theorem dom_blk {b : Nat} (h : PRec M b) {i j : Nat} (hi : i < 12) (hj : j < 12) (hne : i ≠ j) : gP M (b + 1) i + 21 ≤ gP M (b + 1) j ∨ gP M (b + 1) j + 21 ≤ gP M (b + 1) i := by
  obtain ⟨q1, h1, e1⟩ := h.1 i hi
  obtain ⟨q2, h2, e2⟩ := h.1 j hj
  have : q1 ≠ q2 := fun z => hne (h.2.1 i j hi hj (by rw [e1, e2, z]))
  omega
theorem dom_in {b : Nat} (h : PRec M b) {i : Nat} (hi : i < 12) : b + 2 ≤ gP M (b + 1) i ∧ gP M (b + 1) i + 21 ≤ b + 254 := by
  obtain ⟨q1, h1, e1⟩ := h.1 i hi
  omega
/-- a record is changed in its name's cells -/
theorem CRec.upd {M' : Mem} {b j : Nat} {ks : List Int} {P : Int → ReP} {R : ReP} (h : CRec M b ks P) (hj : j < ks.length) (hR : okRe R) (hD : DomC M' (gP M (b + 1) j) (kyF M b j) R) (e : ∀ a k, (b ≤ a ∧ a < b + 254) → ¬ (gP M (b + 1) j ≤ a ∧ a < gP M (b + 1) j + 21) → gI M' a k = gI M a k) (ep : ∀ a k, gP M' a k = gP M a k) : CRec M' b ks (updR P (kyF M b j) R) := by
  obtain ⟨h1, h2, h3, h4, h5, h6, h7⟩ := h
  have hin := dom_in h3 (i := j) (by omega)
  have ek : ∀ i, i < ks.length → kyF M' b i = kyF M b i := fun i hi => by
    unfold kyF
    rw [ep]
    by_cases z : i = j
    · rw [z]; exact hD.1
    · have := dom_blk h3 (i := i) (j := j) (by omega) (by omega) z
      have := dom_in h3 (i := i) (by omega)
      exact e _ _ (by omega) (by omega)
  have inj : ∀ i, i < ks.length → kyF M b i = kyF M b j → i = j := fun i hi z => by
    have mono : ∀ (w a : Nat), a + w + 1 < ks.length → kyF M b a < kyF M b (a + w + 1) := by
      intro w
      induction w with
      | zero => intro a ha; exact h4 a ha
      | succ w ih => intro a ha; exact Int.lt_trans (ih a (by omega)) (h4 (a + w + 1) (by omega))
    rcases Nat.lt_trichotomy i j with q | q | q
    · have := mono (j - i - 1) i (by omega)
      rw [show i + (j - i - 1) + 1 = j by omega] at this
      omega
    · exact q
    · have := mono (i - j - 1) j (by omega)
      rw [show j + (i - j - 1) + 1 = i by omega] at this
      omega
  refine ⟨by rw [e b 1 (by omega) (by omega)]; exact h1, h2, h3.fr (fun a k _ => ep a k), fun i hi => by rw [ek i (by omega), ek (i + 1) (by omega)]; exact h4 i hi, fun i hi => by rw [ek i hi]; exact h5 i hi, fun c hc => ?_, fun i hi => ?_⟩
  · obtain ⟨i, hi, ei⟩ := h6 c hc
    exact ⟨i, hi, by rw [ek i hi]; exact ei⟩
  · rw [ek i hi, ep]
    by_cases z : i = j
    · rw [z, upd_at]; exact ⟨hR, hD⟩
    · rw [upd_ne _ _ (fun q => z (inj i hi q))]
      obtain ⟨g1, g2⟩ := h7 i hi
      have := dom_blk h3 (i := i) (j := j) (by omega) (by omega) z
      have := dom_in h3 (i := i) (by omega)
      exact ⟨g1, g2.fr (h3.pd (by omega)) g1 (fun a k x y => e _ _ (by omega) (by omega)) (fun i => ep _ _)⟩
def insP (M : Mem) (b p s j : Nat) : Nat := if j = p then gP M (b + 1) s else if p < j ∧ j ≤ s then gP M (b + 1) (j - 1) else gP M (b + 1) j
theorem ins_prec {M' : Mem} {b p s : Nat} (h : PRec M b) (hp : p ≤ s) (hs : s < 12) (e : ∀ j, gP M' (b + 1) j = insP M b p s j) (eo : ∀ a k, a ≠ b + 1 → gP M' a k = gP M a k) : PRec M' b := by
  have hx : ∀ j, j < 12 → ∃ k, k < 12 ∧ gP M' (b + 1) j = gP M (b + 1) k ∧ ((j = p ∧ k = s) ∨ (p < j ∧ j ≤ s ∧ k = j - 1) ∨ (¬ (p ≤ j ∧ j ≤ s) ∧ k = j)) := fun j hj => by
    rw [e]
    unfold insP
    by_cases z : j = p
    · exact ⟨s, hs, by rw [if_pos z], Or.inl ⟨z, rfl⟩⟩
    · by_cases z2 : p < j ∧ j ≤ s
      · exact ⟨j - 1, by omega, by rw [if_neg z, if_pos z2], by omega⟩
      · exact ⟨j, hj, by rw [if_neg z, if_neg z2], by omega⟩
  refine ⟨fun i hi => ?_, fun i i' hi hi' q => ?_, fun q hq => (h.2.2 q hq).fr (fun i => eo _ _ (by omega))⟩
  · obtain ⟨k, hk, ek, _⟩ := hx i hi
    rw [ek]
    exact h.1 k hk
  · obtain ⟨k, hk, ek, c1⟩ := hx i hi
    obtain ⟨k', hk', ek', c2⟩ := hx i' hi'
    rw [ek, ek'] at q
    have := h.2.1 k k' hk hk' q
    omega
theorem k_Rc_foa {Q : Nat → Mem → Prop} {b : Nat} {c : Int} {ks : List Int} {P : Int → ReP} (hb : isRec b) (hc : okC c) (h : CRec M b ks P) (q0 : c ∉ ks → ks.length = 12 → Q 0 M) (q1 : ¬ (c ∉ ks ∧ ks.length = 12) → ∀ (j : Nat) (M' : Mem), FrR b M M' → gI M' 1 2 = gI M 1 2 → j < (nxK ks c).length → kyF M' b j = c → CRec M' b (nxK ks c) (updR P c (curR ks P c)) → Q (gP M' (b + 1) j) M') : K_Rc_findOrAdd g n b c M Q := by
  obtain ⟨nn, hv⟩ := hc
  have hcr : InR c := by have := hv.1; have := hv.2.1; omega
  have hb4 : 4 ≤ b ∧ (b = 4 ∨ b = 276) := by rcases hb with rfl | rfl <;> omega
  have hh := h
  obtain ⟨h1, h2, h3, h4, h5, h6, h7⟩ := h
  refine i_Rc_findOrAdd (b_Rc_findOrAdd_0 hb hcr (k_Rc_domainOf hb hcr (by omega) (by omega) (fun i hi e hor _ => ?_) (fun e _ _ => bnf rfl ?_)))
  · have hi' : i < ks.length := by omega
    have ec : kyF M b i = c := by
      rcases noF_cases (kyF M b) c (gI M b 1).toNat with ⟨e', _⟩ | ⟨i', _, e', hf, _⟩
      · omega
      · have : i = i' := by omega
        rw [this]; exact hf
    have hm : c ∈ ks := ec ▸ h5 i hi'
    have e1 : nxK ks c = ks := by unfold nxK; rw [if_pos hm]
    have e2 : curR ks P c = P c := by unfold curR; rw [if_pos hm]
    refine bnt (nDom (hh.dom hb hi')) ?_
    have hq := q1 (fun z => z.1 hm) i M (FrR.rf b M) rfl
    rw [e1, e2, upd_same] at hq
    exact hq hi' ec hh
  · have hnc : c ∉ ks := fun hm => by
      obtain ⟨j, hj, ej⟩ := h6 c hm
      rcases noF_cases (kyF M b) c (gI M b 1).toNat with ⟨_, hno⟩ | ⟨i, hi, e', _⟩
      · exact hno j (by omega) ej
      · omega
    refine ⟨fun c12 => ?_, fun c12 => q0 hnc (by omega)⟩
    refine k_Rc_firstNotBefore hb hcr (by omega) (by omega) (fun p hp hlt hge hir hw => ⟨by omega, ?_⟩)
    have hp' : p ≤ ks.length := by omega
    rw [h1, Int.toNat_natCast]
    have hdn : isDom (gP M (b + 1) ks.length) := hw.dom hb (by omega)
    have hgt : p < ks.length → c < kyF M b p := fun z => by
      have a1 := hge (by omega)
      have : kyF M b p ≠ c := fun z2 => hnc (z2 ▸ h5 p z)
      omega
    have e1 : nxK ks c = ks ++ [c] := by unfold nxK; rw [if_neg hnc]
    have e2 : curR ks P c = empR := by unfold curR; rw [if_neg hnc]
    have hq := q1 (by omega) p
    rw [e1, e2] at hq
    have loop : ∀ (w i : Nat) (M1 : Mem), i = p + w → i ≤ ks.length → (∀ a k, gI M1 a k = gI M a k) → (∀ a k, a ≠ b + 1 → gP M1 a k = gP M a k) → (∀ j, gP M1 (b + 1) j = if i < j ∧ j ≤ ks.length then gP M (b + 1) (j - 1) else gP M (b + 1) j) → P_Rc_findOrAdd g n 44 [(0, vr g b), (1, vi c), (3, vi (p : Int)), (4, vr g (gP M (b + 1) ks.length)), (5, vi (i : Int))] [] M1 Q := by
      intro w
      induction w with
      | zero =>
        intro i M1 hi hil hI hP hj
        have hi' : i = p := by omega
        subst hi'
        refine b_Rc_findOrAdd_44 hb hcr (by omega) hdn (by omega) (bt (by omega) ⟨by omega, by rw [hI, h1]; omega, ?_⟩)
        rw [hI, h1, Int.toNat_natCast]
        refine k_Dm_start hdn hv (fun M2 hF2 d0 d2 d1 d3 d5 d6 d8 d10 _ => ?_)
        have pM2 : ∀ a k, a ≠ b + 1 → gP M2 a k = gP M a k := fun a k z => by rw [hF2.p, gP_sI, gP_sP, if_neg (by omega), hP a k z]
        have pI : ∀ j, gP M2 (b + 1) j = insP M b i ks.length j := fun j => by
          rw [hF2.p, gP_sI, gP_sP]
          unfold insP
          by_cases z : j = i
          · rw [if_pos ⟨rfl, z⟩, if_pos z]
          · rw [if_neg (by omega), if_neg z, hj]
        have hP2 : PRec M2 b := ins_prec h3 hil (by omega) pI pM2
        have hin := dom_in h3 (i := ks.length) (by omega)
        have iM2 : ∀ a k, ¬ (a = gP M (b + 1) ks.length ∨ a = gP M (b + 1) ks.length + 1) → ¬ (a = b ∧ k = 1) → gI M2 a k = gI M a k := fun a k z1 z2 => by rw [hF2.i z1, gI_ne _ _ _ _ _ _ z2, gI_sP, hI]
        have odom : ∀ k, k < ks.length → ∀ a u, gP M (b + 1) k ≤ a → a < gP M (b + 1) k + 21 → gI M2 a u = gI M a u := fun k hk a u x y => by
          have := dom_blk h3 (i := k) (j := ks.length) (by omega) (by omega) (by omega)
          have := dom_in h3 (i := k) (by omega)
          exact iM2 _ _ (by omega) (by omega)
        -- where a name was
        have src : ∀ j, j < ks.length + 1 → j ≠ i → ∃ k, k < ks.length ∧ gP M2 (b + 1) j = gP M (b + 1) k ∧ kyF M2 b j = kyF M b k ∧ ((j < i ∧ k = j) ∨ (i < j ∧ k = j - 1)) := fun j hjl z => by
          obtain ⟨k, hk, ek, ck⟩ : ∃ k, k < ks.length ∧ insP M b i ks.length j = gP M (b + 1) k ∧ ((j < i ∧ k = j) ∨ (i < j ∧ k = j - 1)) := by
            unfold insP
            by_cases z2 : i < j ∧ j ≤ ks.length
            · exact ⟨j - 1, by omega, by rw [if_neg z, if_pos z2], by omega⟩
            · exact ⟨j, by omega, by rw [if_neg z, if_neg z2], by omega⟩
          refine ⟨k, hk, by rw [pI]; exact ek, ?_, ck⟩
          unfold kyF
          rw [pI, ek]
          exact odom k hk _ _ (Nat.le_refl _) (by omega)
        have kyi : kyF M2 b i = c := by unfold kyF; rw [pI]; unfold insP; rw [if_pos rfl]; exact d0
        have dni : gP M2 (b + 1) i = gP M (b + 1) ks.length := by rw [pI]; unfold insP; rw [if_pos rfl]
        have hlen : (ks ++ [c]).length = ks.length + 1 := by simp
        have hq2 := hq M2 ⟨fun a k x y => iM2 a k (by omega) (by omega), pM2, fun _ => hP2⟩ (iM2 _ _ (by omega) (by omega)) (by omega) kyi
        rw [dni] at hq2
        refine hq2 ⟨?_, by omega, hP2, fun j hj2 => ?_, fun j hj2 => ?_, fun x hx => ?_, fun j hj2 => ?_⟩
        · rw [hF2.i (by omega), gI_same, hlen]; omega
        · rw [hlen] at hj2
          by_cases z : j = i
          · obtain ⟨k, hk, _, ek, ck⟩ := src (j + 1) (by omega) (by omega)
            rw [z, kyi, ← z, ek, show k = i by omega]
            exact hgt (by omega)
          · by_cases z2 : j + 1 = i
            · obtain ⟨k, hk, _, ek, ck⟩ := src j (by omega) z
              rw [ek, z2, kyi]
              exact hlt k (by omega)
            · obtain ⟨k, hk, _, ek, ck⟩ := src j (by omega) z
              obtain ⟨k', hk', _, ek', ck'⟩ := src (j + 1) (by omega) z2
              rw [ek, ek', show k' = k + 1 by omega]
              exact h4 k (by omega)
        · rw [hlen] at hj2
          by_cases z : j = i
          · rw [z, kyi]; simp
          · obtain ⟨k, hk, _, ek, ck⟩ := src j (by omega) z
            rw [ek]
            exact List.mem_append_left _ (h5 k hk)
        · rw [hlen]
          rcases List.mem_append.mp hx with hx | hx
          · obtain ⟨k, hk, ek⟩ := h6 x hx
            by_cases z : k < i
            · obtain ⟨k2, _, _, ek2, ck2⟩ := src k (by omega) (by omega)
              exact ⟨k, by omega, by rw [ek2, show k2 = k by omega]; exact ek⟩
            · obtain ⟨k2, _, _, ek2, ck2⟩ := src (k + 1) (by omega) (by omega)
              exact ⟨k + 1, by omega, by rw [ek2, show k2 = k by omega]; exact ek⟩
          · rw [List.mem_singleton] at hx
            exact ⟨i, by omega, by rw [hx]; exact kyi⟩
        · rw [hlen] at hj2
          by_cases z : j = i
          · rw [z, kyi, dni, upd_at]
            exact ⟨empR_ok, d0, ⟨nn, hv, d2, d1⟩, ⟨by rw [d3]; rfl, d5, d6, fun i R hR => by simp [empR] at hR⟩, ⟨d8, fun i R hR => by simp [empR] at hR⟩, ⟨d10, fun i R hR => by simp [empR] at hR⟩⟩
          · obtain ⟨k, hk, ep, ek, ck⟩ := src j (by omega) z
            have hne : kyF M b k ≠ c := fun z2 => hnc (z2 ▸ h5 k hk)
            rw [ek, ep, upd_ne _ _ hne]
            obtain ⟨g1, g2⟩ := h7 k hk
            obtain ⟨qq, hqq, eqq⟩ := h3.1 k (by omega)
            exact ⟨g1, g2.fr (h3.pd (by omega)) g1 (fun a u x y => odom k hk a u x y) (fun u => pM2 _ _ (by omega))⟩
      | succ w ih =>
        intro i M1 hi hil hI hP hj
        refine b_Rc_findOrAdd_44 hb hcr (by omega) hdn (by omega) (bf (by omega) ⟨by omega, by omega, ?_⟩)
        have ei : gP M1 (b + 1) (i - 1) = gP M (b + 1) (i - 1) := by rw [hj, if_neg (by omega)]
        rw [show ((i : Int) - 1).toNat = i - 1 by omega, Int.toNat_natCast, ei, show (i : Int) + -1 = ((i - 1 : Nat) : Int) by omega]
        refine ih (i - 1) _ (by omega) (by omega) (fun a k => by rw [gI_sP]; exact hI a k) (fun a k z => by rw [gP_sP, if_neg (by omega)]; exact hP a k z) (fun j => ?_)
        rw [gP_sP]
        by_cases z : j = i
        · rw [if_pos ⟨rfl, z⟩, if_pos (by omega), z]
        · rw [if_neg (by omega), hj]
          by_cases z2 : i < j ∧ j ≤ ks.length
          · rw [if_pos z2, if_pos (by omega)]
          · rw [if_neg z2, if_neg (by omega)]
    exact loop (ks.length - p) ks.length M (by omega) (Nat.le_refl _) (fun _ _ => rfl) (fun _ _ _ => rfl) (fun j => by rw [if_neg (by omega)])
end CC
