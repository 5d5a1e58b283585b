/-! ===== the class reads: names, numbers, parts ===== -/
def kndV (x : Int) : Int := if x = 97 then 0 else if x = 112 then 1 else if x = 105 then 2 else if x = 104 then 3 else if x = 109 then 4 else if x = 101 then 5 else -1
theorem ix_1 (x : Int) : m1F (noF (bV 1) x 4) = if sgnV x = -4 then -1 else sgnV x := by
  have b0 : bV 1 0 = 43 := by decide
  have b1 : bV 1 1 = 45 := by decide
  have b2 : bV 1 2 = 126 := by decide
  have b3 : bV 1 3 = 63 := by decide
  rcases noF_cases (bV 1) x 4 with ⟨e, hno⟩ | ⟨j, hj, e, hf, _⟩
  · have n0 := hno 0 (by omega)
    have n1 := hno 1 (by omega)
    have n2 := hno 2 (by omega)
    have n3 := hno 3 (by omega)
    rw [b0] at n0
    rw [b1] at n1
    rw [b2] at n2
    rw [b3] at n3
    have : sgnV x = -4 := by unfold sgnV; rw [if_neg (Ne.symm n0), if_neg (Ne.symm n1), if_neg (Ne.symm n2), if_neg (Ne.symm n3)]
    rw [e, if_pos this]; rfl
  · rw [e]
    match j, hj with
    | 0, _ => rw [b0] at hf; subst hf; rfl
    | 1, _ => rw [b1] at hf; subst hf; rfl
    | 2, _ => rw [b2] at hf; subst hf; rfl
    | 3, _ => rw [b3] at hf; subst hf; rfl
theorem ix_3 (x : Int) : m1F (noF (bV 3) x 4) = if srtV x = -4 then -1 else srtV x := by
  have b0 : bV 3 0 = 100 := by decide
  have b1 : bV 3 1 = 111 := by decide
  have b2 : bV 3 2 = 115 := by decide
  have b3 : bV 3 3 = 108 := by decide
  rcases noF_cases (bV 3) x 4 with ⟨e, hno⟩ | ⟨j, hj, e, hf, _⟩
  · have n0 := hno 0 (by omega)
    have n1 := hno 1 (by omega)
    have n2 := hno 2 (by omega)
    have n3 := hno 3 (by omega)
    rw [b0] at n0
    rw [b1] at n1
    rw [b2] at n2
    rw [b3] at n3
    have : srtV x = -4 := by unfold srtV; rw [if_neg (Ne.symm n0), if_neg (Ne.symm n1), if_neg (Ne.symm n2), if_neg (Ne.symm n3)]
    rw [e, if_pos this]; rfl
  · rw [e]
    match j, hj with
    | 0, _ => rw [b0] at hf; subst hf; rfl
    | 1, _ => rw [b1] at hf; subst hf; rfl
    | 2, _ => rw [b2] at hf; subst hf; rfl
    | 3, _ => rw [b3] at hf; subst hf; rfl
theorem ix_2 (x : Int) : m1F (noF (bV 2) x 6) = kndV x := by
  have b0 : bV 2 0 = 97 := by decide
  have b1 : bV 2 1 = 112 := by decide
  have b2 : bV 2 2 = 105 := by decide
  have b3 : bV 2 3 = 104 := by decide
  have b4 : bV 2 4 = 109 := by decide
  have b5 : bV 2 5 = 101 := by decide
  rcases noF_cases (bV 2) x 6 with ⟨e, hno⟩ | ⟨j, hj, e, hf, _⟩
  · have n0 := hno 0 (by omega)
    have n1 := hno 1 (by omega)
    have n2 := hno 2 (by omega)
    have n3 := hno 3 (by omega)
    have n4 := hno 4 (by omega)
    have n5 := hno 5 (by omega)
    rw [b0] at n0
    rw [b1] at n1
    rw [b2] at n2
    rw [b3] at n3
    rw [b4] at n4
    rw [b5] at n5
    have : kndV x = -1 := by unfold kndV; rw [if_neg (Ne.symm n0), if_neg (Ne.symm n1), if_neg (Ne.symm n2), if_neg (Ne.symm n3), if_neg (Ne.symm n4), if_neg (Ne.symm n5)]
    rw [e, this]; rfl
  · rw [e]
    match j, hj with
    | 0, _ => rw [b0] at hf; subst hf; rfl
    | 1, _ => rw [b1] at hf; subst hf; rfl
    | 2, _ => rw [b2] at hf; subst hf; rfl
    | 3, _ => rw [b3] at hf; subst hf; rfl
    | 4, _ => rw [b4] at hf; subst hf; rfl
    | 5, _ => rw [b5] at hf; subst hf; rfl
section JX
variable {g : Ctx} {M : Mem} {n : Nat}
theorem k_J_ix1 {Q : Int → Mem → Prop} {x : Int} (hx : 0 ≤ x ∧ x < 65536) (h : Q (if sgnV x = -4 then -1 else sgnV x) M) : K_J_indexOf g n 1 x M Q := k_J_indexOf (by omega) hx (by rw [show sLen.getD 1 0 = 4 from rfl, ix_1]; exact h)
theorem k_J_ix2 {Q : Int → Mem → Prop} {x : Int} (hx : 0 ≤ x ∧ x < 65536) (h : Q (kndV x) M) : K_J_indexOf g n 2 x M Q := k_J_indexOf (by omega) hx (by rw [show sLen.getD 2 0 = 6 from rfl, ix_2]; exact h)
theorem k_J_ix3 {Q : Int → Mem → Prop} {x : Int} (hx : 0 ≤ x ∧ x < 65536) (h : Q (if srtV x = -4 then -1 else srtV x) M) : K_J_indexOf g n 3 x M Q := k_J_indexOf (by omega) hx (by rw [show sLen.getD 3 0 = 4 from rfl, ix_3]; exact h)
end JX
def cAt (a k : Nat) : Prop := a = 1 ∧ k = 2
def cN (a k : Nat) : Prop := (a = 1 ∧ k = 2) ∨ a = 3
theorem cAt_N {M M' : Mem} (h : FrI cAt M M') : FrI cN M M' := h.mono (fun a k q => Or.inl q)
def TxC (M : Mem) (t : Nat → Int) (L : Nat) : Prop := gI M 1 1 = (L : Nat) ∧ ∀ p, p < L → gI M 2 p = t p
theorem TxC.fr {S : Nat → Nat → Prop} {M M' : Mem} {t : Nat → Int} {L : Nat} (h : TxC M t L) (hF : FrI S M M') (h0 : ¬ S 1 1) (h1 : ∀ k, ¬ S 2 k) : TxC M' t L := ⟨by rw [hF.i h0]; exact h.1, fun p hp => by rw [hF.i (h1 p)]; exact h.2 p hp⟩
theorem TxC.n {M M' : Mem} {t : Nat → Int} {L : Nat} (h : TxC M t L) (hF : FrI cN M M') : TxC M' t L := h.fr hF (by unfold cN; omega) (fun k => by unfold cN; omega)
def nxp (L p : Nat) : Nat := if p < L then p + 1 else p
section CR
variable {g : Ctx} {M : Mem} {n : Nat} {t : Nat → Int} {L p : Nat}
theorem k_Rd_pk {Q : Int → Mem → Prop} (hT : TxT t L) (hM : TxC M t L) (hp : gI M 1 2 = (p : Nat)) (q : Q (t p) M) : K_Rd_peek g n M Q := by
  refine i_Rd_peek (b_Rd_peek_0 ?_)
  rw [hp, hM.1, Int.toNat_natCast]
  have := hT.1
  have tr := hT.rng p
  refine ⟨fun c => ?_, fun c => ⟨by omega, ?_⟩⟩
  · rw [hT.2.2 p (by omega)] at q; exact q
  · rw [hM.2 p (by omega)]; exact ⟨by omega, q⟩
theorem k_Rd_nx {Q : Int → Mem → Prop} (hT : TxT t L) (hM : TxC M t L) (hp : gI M 1 2 = (p : Nat)) (q : ∀ M' : Mem, FrI cAt M M' → gI M' 1 2 = (nxp L p : Nat) → Q (t p) M') : K_Rd_next g n M Q := by
  refine i_Rd_next (b_Rd_next_0 ?_)
  rw [hp, hM.1, Int.toNat_natCast]
  have := hT.1
  have tr := hT.rng p
  unfold nxp at q
  refine ⟨fun c => ⟨by omega, by omega, ?_⟩, fun c => ?_⟩
  · rw [hM.2 p (by omega)]
    rw [if_pos (by omega)] at q
    exact ⟨by omega, q _ (FrI.st ⟨rfl, rfl⟩) (by rw [gI_same]; rfl)⟩
  · rw [hT.2.2 p (by omega), if_neg (by omega)] at q
    exact q M (FrI.rf M) hp
theorem k_Rd_tk {Q : Int → Mem → Prop} {x : Int} (hx : 0 < x ∧ x < 65536) (hT : TxT t L) (hM : TxC M t L) (hp : gI M 1 2 = (p : Nat)) (q1 : t p = x → ∀ M' : Mem, FrI cAt M M' → gI M' 1 2 = ((p + 1 : Nat) : Int) → Q 1 M') (q0 : t p ≠ x → Q 0 M) : K_Rd_take g n x M Q := by
  refine i_Rd_take (b_Rd_take_0 (by omega) ?_)
  rw [hp, hM.1, Int.toNat_natCast]
  have := hT.1
  refine ⟨fun c => q0 (by rw [hT.2.2 p (by omega)]; omega), fun c => ⟨by omega, ?_⟩⟩
  rw [hM.2 p (by omega)]
  exact ⟨fun e => ⟨by omega, q1 e _ (FrI.st ⟨rfl, rfl⟩) (by rw [gI_same]; rfl)⟩, fun e => q0 e⟩
theorem lsR_split (t : Nat → Int) (p : Nat) : ∀ j : Nat, lsR t p (j + 1) = [t (p + j) - 97] ++ lsR t p j := fun _ => rfl
theorem k_Rd_rn {Q : Int → Mem → Prop} (hT : TxT t L) (hM : TxC M t L) (hp : gI M 1 2 = (p : Nat)) (hb : p ≤ 1000) (q1 : ∀ r, nameP t p = some r → ∀ M' : Mem, FrI cN M M' → gI M' 1 2 = (r.2 : Nat) → Q r.1 M') (q0 : nameP t p = none → ∀ (c : Int) (M' : Mem), FrI cN M M' → (c = 0 ∨ ∃ k : Nat, k ≤ L ∧ gI M' 1 2 = k ∧ isL (t k)) → Q c M') : K_Rd_readName g n M Q := by
  have sp := cntL_spec t 8 p
  have e8 : namL t p = cntL t 8 p := rfl
  rw [← e8] at sp
  generalize hm : min (namL t p) 7 = m
  have hle : 1 ≤ m → p + m ≤ L := fun h => by
    have := sp.2.1 (m - 1) (by omega)
    have := hT.in (p := p + (m - 1)) (by omega)
    omega
  have okm : okL (lsR t p m) := lsR_ok (fun i hi => sp.2.1 i (by omega))
  have hLL := hT.1
  -- the letters are put together
  have put : ∀ (j : Nat) (M1 : Mem) (s : List Int), j ≤ m → FrI cN M M1 → gI M1 1 2 = ((p + m : Nat) : Int) → okL s → MkIs M1 3 s → s ++ lsR t p j = lsR t p m → P_Rd_readName g n 61 [(0, vr g 1), (1, vi (p : Int)), (2, vi ((p : Int) + j - 1))] [] M1 Q := by
    intro j
    induction j with
    | zero =>
      intro M1 s hj hF h2 hs hK hsum
      rw [lsR, List.append_nil] at hsum
      have hbd := enc7_bd 7 s hs
      have hb2 : enc7 7 s < 410338673 := by simpa using hbd.2
      refine b_Rd_readName_61 (by omega) (by omega) (bt (by omega) (k_Nm_finished (Or.inl rfl) rfl hK.1 (by omega) hK.2.1 (by rw [hK.2.2]; exact hb2) (fun hIR _ => ?_)))
      rw [hK.2.2, hsum]
      by_cases c : 1 ≤ namL t p ∧ namL t p ≤ 7
      · have em : m = namL t p := by omega
        have := q1 (enc7 7 (lsR t p (namL t p)), p + namL t p) (by unfold nameP; rw [if_pos c]) M1 hF (by rw [h2, em])
        rw [em]
        exact this
      · refine q0 (by unfold nameP; rw [if_neg c]) _ M1 hF ?_
        by_cases z : namL t p = 0
        · left
          have : m = 0 := by omega
          rw [this]; rfl
        · right
          have e7 : m = 7 := by omega
          refine ⟨p + 7, ?_, by rw [h2, e7], sp.2.1 7 (by omega)⟩
          have := hle (by omega)
          omega
    | succ j ih =>
      intro M1 s hj hF h2 hs hK hsum
      have lj := sp.2.1 j (by omega)
      have := hle (by omega)
      refine b_Rd_readName_61 (by omega) (by omega) (bf (by omega) ⟨by omega, ?_⟩)
      rw [show ((p : Int) + ((j + 1 : Nat) : Int) - 1).toNat = p + j by omega, show ((p : Int) + ((j + 1 : Nat) : Int) - 1 + -1) = (p : Int) + j - 1 by omega, (hM.n hF).2 (p + j) (by omega)]
      refine k_Nm_putBefore (Or.inl rfl) (by omega) hs hK (fun M2 hF2 hK2 _ => ih M2 _ (by omega) (hF.tr (hF2.mono (fun a k q => Or.inr q))) ?_ (okL_app hs (okL_cons (by omega) okL_nil)) hK2 ?_)
      · rw [hF2.i (by unfold atO; omega)]; exact h2
      · rw [← hsum, lsR_split, List.append_assoc]
  have clr : ∀ M1 : Mem, FrI cN M M1 → gI M1 1 2 = ((p + m : Nat) : Int) → K_Nm_clear g n 3 M1 (fun M3 => WT M3 → P_Rd_readName g n 61 [(0, vr g 1), (1, vi (p : Int)), (2, vi ((gI M3 1 2) - 1))] [] M3 Q) := by
    intro M1 hF h2
    refine k_Nm_clear (Or.inl rfl) (fun M2 hF2 hK2 _ => ?_)
    have e2 : gI M2 1 2 = ((p + m : Nat) : Int) := by rw [hF2.i (by unfold atO; omega)]; exact h2
    rw [e2, show (((p + m : Nat) : Int) - 1) = (p : Int) + m - 1 by omega]
    exact put m M2 [] (Nat.le_refl _) (hF.tr (hF2.mono (fun a k q => Or.inr q))) e2 okL_nil hK2 (List.nil_append _)
  have loop : ∀ (w i : Nat) (M1 : Mem), i + w = m → FrI cN M M1 → gI M1 1 2 = ((p + i : Nat) : Int) → P_Rd_readName g n 7 [(0, vr g 1), (1, vi (p : Int)), (2, vi (i : Int))] [] M1 Q := by
    intro w
    induction w with
    | zero =>
      intro i M1 hi hF h2
      have hi' : i = m := by omega
      subst hi'
      have hM1 := hM.n hF
      refine b_Rd_readName_7 (by omega) (by omega) ⟨fun c => clr M1 hF h2, fun c => k_Rd_pk hT hM1 h2 (fun _ _ => ⟨fun c2 => clr M1 hF h2, fun c2 => k_Rd_pk hT hM1 h2 (fun _ _ => ⟨fun c3 => clr M1 hF h2, fun c3 => ?_⟩)⟩)⟩
      have em : i = namL t p := by omega
      rw [em] at c2 c3
      exact absurd ⟨by omega, by omega⟩ (sp.2.2 (by omega))
    | succ w ih =>
      intro i M1 hi hF h2
      have hM1 := hM.n hF
      have li := sp.2.1 i (by omega)
      refine b_Rd_readName_7 (by omega) (by omega) (bf (by omega) (k_Rd_pk hT hM1 h2 (fun _ _ => bf (by omega) (k_Rd_pk hT hM1 h2 (fun _ _ => bf (by omega) ⟨by omega, ?_⟩)))))
      refine ih (i + 1) _ (by omega) (hF.tr (FrI.st (Or.inl ⟨rfl, rfl⟩))) ?_
      rw [gI_same, h2]; omega
  refine i_Rd_readName (b_Rd_readName_0 ?_)
  rw [hp]
  exact loop m 0 M (by omega) (FrI.rf M) hp
theorem k_Rd_nm {Q : Int → Mem → Prop} {hi : Int} (hh : InR hi) (hT : TxT t L) (hM : TxC M t L) (hp : gI M 1 2 = (p : Nat)) (hb : p ≤ 1000) (q1 : ∀ r, numP t hi p = some r → ∀ M' : Mem, FrI cAt M M' → gI M' 1 2 = (r.2 : Nat) → Q r.1 M') (q0 : numP t hi p = none → ∀ M' : Mem, FrI cAt M M' → Q (-1) M') : K_Rd_readNumber g n hi M Q := by
  have sp := cntD_spec t 3 p
  have fin : ∀ M1 : Mem, FrI cAt M M1 → gI M1 1 2 = ((p + cntD t 3 p : Nat) : Int) → ((((cntD t 3 p : Nat) : Int) = 0) → Q (-1) M1) ∧ ((¬ (((cntD t 3 p : Nat) : Int) = 0)) → ((((valD t p (cntD t 3 p)) ≤ hi) → Q (valD t p (cntD t 3 p)) M1) ∧ ((¬ ((valD t p (cntD t 3 p)) ≤ hi)) → Q (-1) M1))) := by
    intro M1 hF h2
    refine ⟨fun c => q0 (by unfold numP; rw [if_neg (by omega)]) M1 hF, fun c => ⟨fun c2 => q1 (valD t p (cntD t 3 p), p + cntD t 3 p) (by unfold numP; rw [if_pos (by omega)]) M1 hF h2, fun c2 => q0 (by unfold numP; rw [if_neg (by omega)]) M1 hF⟩⟩
  have loop : ∀ (w i : Nat) (M1 : Mem), i + w = cntD t 3 p → FrI cAt M M1 → gI M1 1 2 = ((p + i : Nat) : Int) → P_Rd_readNumber g n 4 [(0, vr g 1), (1, vi hi), (2, vi (valD t p i)), (3, vi (i : Int))] [] M1 Q := by
    intro w
    induction w with
    | zero =>
      intro i M1 hi hF h2
      have hi' : i = cntD t 3 p := by omega
      subst hi'
      have hM1 := hM.n (cAt_N hF)
      have vb := valD_bd (t := t) (p := p) (n := cntD t 3 p) sp.1 sp.2.1
      refine b_Rd_readNumber_4 hh (by omega) (by omega) ⟨fun c => fin M1 hF h2, fun c => k_Rd_pk hT hM1 h2 (fun _ _ => ⟨fun c2 => fin M1 hF h2, fun c2 => k_Rd_pk hT hM1 h2 (fun _ _ => ⟨fun c3 => fin M1 hF h2, fun c3 => ?_⟩)⟩)⟩
      exact absurd ⟨by omega, by omega⟩ (sp.2.2 (by omega))
    | succ w ih =>
      intro i M1 hi hF h2
      have hM1 := hM.n (cAt_N hF)
      have li := sp.2.1 i (by omega)
      have vb := valD_bd (t := t) (p := p) (n := i) (by omega) (fun j hj => sp.2.1 j (by omega))
      have hlt := hT.in (p := p + i) (by omega)
      refine b_Rd_readNumber_4 hh (by omega) (by omega) (bf (by omega) (k_Rd_pk hT hM1 h2 (fun _ _ => bf (by omega) (k_Rd_pk hT hM1 h2 (fun _ _ => bf (by omega) (k_Rd_nx hT hM1 h2 (fun M2 hF2 h3 _ _ => ?_)))))))
      unfold nxp at h3
      rw [if_pos hlt] at h3
      have := ih (i + 1) M2 (by omega) (hF.tr hF2) h3
      rw [valD] at this
      rw [Int.mul_comm]
      exact this
  exact i_Rd_readNumber (b_Rd_readNumber_0 hh (loop (cntD t 3 p) 0 M (by omega) (FrI.rf M) hp))
theorem jpart : ∀ s : Fin 4, ∀ f : Fin 8, ∀ u : Fin 2, jor (jor (jshl (16 + ((s : Nat) : Int)) 4) (jshl ((f : Nat) : Int) 1)) ((u : Nat) : Int) = 16 * (16 + ((s : Nat) : Int)) + 2 * ((f : Nat) : Int) + ((u : Nat) : Int) := by decide +kernel
theorem jlett : ∀ c : Fin 16, jshl ((c : Nat) : Int) 4 = 16 * ((c : Nat) : Int) := by decide +kernel
theorem jpartZ {s f u : Int} (hs : 0 ≤ s ∧ s ≤ 3) (hf : 0 ≤ f ∧ f ≤ 7) (hu : u = 0 ∨ u = 1) : jor (jor (jshl (16 + s) 4) (jshl f 1)) u = 16 * (16 + s) + 2 * f + u := by
  obtain ⟨a, rfl⟩ := Int.eq_ofNat_of_zero_le hs.1
  obtain ⟨b, rfl⟩ := Int.eq_ofNat_of_zero_le hf.1
  obtain ⟨c, rfl⟩ := Int.eq_ofNat_of_zero_le (show 0 ≤ u by omega)
  exact jpart ⟨a, by omega⟩ ⟨b, by omega⟩ ⟨c, by omega⟩
/-- behind the % and the minus sign, the class's way -/
theorem rd_fig {Q : Int → Mem → Prop} {u : Int} {k m : Nat} (hT : TxT t L) (hb : k ≤ 1000) (hm : m ≤ 1) (hk : k = p + minV t p) (em : minV t p = m) (hu : u = (m : Int)) {M1 : Mem} (hF : FrI cAt M M1) (hM1 : TxC M1 t L) (h2 : gI M1 1 2 = (k : Nat)) (q1 : ∀ r, prtQ t p = some r → ∀ (v : Int) (M' : Mem), FrI cAt M M' → gI M' 1 2 = (r.2 : Nat) → PartR v r.1 → Q v M') (q0 : prtQ t p = none → ∀ M' : Mem, FrI cAt M M' → Q (-1) M') :
    K_Rd_peek g n M1 (fun r7 M8 => (0 ≤ r7 ∧ r7 < 65536) → WT M8 → (((r7 < 49) → K_Rd_next g n M8 (fun r10 M11 => (0 ≤ r10 ∧ r10 < 65536) → WT M11 → K_J_indexOf g n 3 r10 M11 (fun r12 M13 => InR r12 → WT M13 → (((0 ≤ r12) → Q (jor (jor (jshl (16 + r12) 4) (jshl 0 1)) u) M13) ∧ ((¬ (0 ≤ r12)) → Q (-1) M13))))) ∧ ((¬ (r7 < 49)) → K_Rd_peek g n M8 (fun r15 M16 => (0 ≤ r15 ∧ r15 < 65536) → WT M16 → (((55 < r15) → K_Rd_next g n M16 (fun r18 M19 => (0 ≤ r18 ∧ r18 < 65536) → WT M19 → K_J_indexOf g n 3 r18 M19 (fun r20 M21 => InR r20 → WT M21 → (((0 ≤ r20) → Q (jor (jor (jshl (16 + r20) 4) (jshl 0 1)) u) M21) ∧ ((¬ (0 ≤ r20)) → Q (-1) M21))))) ∧ ((¬ (55 < r15)) → K_Rd_next g n M16 (fun r23 M24 => (0 ≤ r23 ∧ r23 < 65536) → WT M24 → K_Rd_next g n M24 (fun r25 M26 => (0 ≤ r25 ∧ r25 < 65536) → WT M26 → K_J_indexOf g n 3 r25 M26 (fun r27 M28 => InR r27 → WT M28 → (((0 ≤ r27) → Q (jor (jor (jshl (16 + r27) 4) (jshl (r23 - 48) 1)) u) M28) ∧ ((¬ (0 ≤ r27)) → Q (-1) M28))))))))))) := by
  have tr := hT.rng k
  subst hk
  have last : ∀ (M2 : Mem) (j : Nat) (f : Int), FrI cAt M M2 → TxC M2 t L → gI M2 1 2 = (j : Nat) → 0 ≤ f → f ≤ 7 → j = p + minV t p + fgN t (p + minV t p) → f = fgV t (p + minV t p) → K_Rd_next g n M2 (fun r10 M11 => (0 ≤ r10 ∧ r10 < 65536) → WT M11 → K_J_indexOf g n 3 r10 M11 (fun r12 M13 => InR r12 → WT M13 → (((0 ≤ r12) → Q (jor (jor (jshl (16 + r12) 4) (jshl f 1)) u) M13) ∧ ((¬ (0 ≤ r12)) → Q (-1) M13)))) := by
    intro M2 j f hF2 hM2 g2 f0 f7 ej ef
    have tj := hT.rng j
    have sr := srtV_rng (t j)
    refine k_Rd_nx hT hM2 g2 (fun M3 hF3 g3 hr _ => k_J_ix3 hr (fun _ _ => ?_))
    by_cases c : srtV (t j) = -4
    · rw [if_pos c]
      exact bf (by decide) (q0 (by unfold prtQ; rw [← ej, if_pos c]) M3 (hF2.tr hF3))
    · rw [if_neg c]
      have hj := hT.in (p := j) (fun z => c (by rw [z]; rfl))
      unfold nxp at g3
      rw [if_pos hj] at g3
      refine bt (by omega) ?_
      rw [jpartZ (by omega) (by omega) (by omega)]
      refine q1 _ (by unfold prtQ; rw [← ej, if_neg c]) _ M3 (hF2.tr hF3) g3 (Or.inr ⟨srtV (t j), u, f, by omega, by omega, by omega, ?_, rfl⟩)
      dsimp only
      rw [← ef, em, ← hu]
      omega
  refine k_Rd_pk hT hM1 h2 (fun _ _ => ⟨fun c => last M1 _ 0 hF hM1 h2 (by omega) (by omega) ?_ ?_, fun c => k_Rd_pk hT hM1 h2 (fun _ _ => ⟨fun c2 => last M1 _ 0 hF hM1 h2 (by omega) (by omega) ?_ ?_, fun c2 => k_Rd_nx hT hM1 h2 (fun M2 hF2 g2 _ _ => ?_)⟩)⟩)
  · unfold fgN; rw [if_neg (by omega)]; omega
  · unfold fgV; rw [if_neg (by omega)]
  · unfold fgN; rw [if_neg (by omega)]; omega
  · unfold fgV; rw [if_neg (by omega)]
  · have hlt := hT.in (p := p + minV t p) (by omega)
    unfold nxp at g2
    rw [if_pos hlt] at g2
    refine last M2 _ _ (hF.tr hF2) (hM1.n (cAt_N hF2)) g2 (by omega) (by omega) ?_ ?_
    · unfold fgN; rw [if_pos (by omega)]
    · unfold fgV; rw [if_pos (by omega)]
theorem k_Rd_rp {Q : Int → Mem → Prop} (hT : TxT t L) (hM : TxC M t L) (hp : gI M 1 2 = (p : Nat)) (hb : p ≤ 300) (hc : isL (t p) ∨ t p = 37) (q1 : ∀ r, prtP t p = some r → ∀ (v : Int) (M' : Mem), FrI cAt M M' → gI M' 1 2 = (r.2 : Nat) → PartR v r.1 → Q v M') (q0 : prtP t p = none → ∀ M' : Mem, FrI cAt M M' → Q (-1) M') : K_Rd_readPart g n M Q := by
  have hlt := hT.in (p := p) (by omega)
  refine i_Rd_readPart (b_Rd_readPart_0 (k_Rd_nx hT hM hp (fun M1 hF1 h1 _ _ => ⟨fun c => ?_, fun c => ?_⟩)))
  · unfold nxp at h1
    rw [if_pos hlt] at h1
    have ep : prtP t p = prtQ t (p + 1) := by unfold prtP; rw [if_neg (by omega), if_pos c]
    rw [ep] at q1 q0
    have hM1 := hM.n (cAt_N hF1)
    refine k_Rd_tk (by omega) hT hM1 h1 (fun e M2 hF2 h2 _ _ => bf (by decide) ?_) (fun e _ _ => bt rfl ?_)
    · have em : minV t (p + 1) = 1 := by unfold minV; rw [if_pos e]
      exact rd_fig (M := M) (p := p + 1) (k := p + 1 + 1) (m := 1) hT (by omega) (by omega) (by omega) em (by decide) (hF1.tr hF2) (hM.n (cAt_N (hF1.tr hF2))) h2 q1 q0
    · have em : minV t (p + 1) = 0 := by unfold minV; rw [if_neg e]
      exact rd_fig (M := M) (p := p + 1) (k := p + 1) (m := 0) hT (by omega) (by omega) (by omega) em (by decide) hF1 hM1 h1 q1 q0
  · unfold nxp at h1
    rw [if_pos hlt] at h1
    have hl : isL (t p) := by omega
    have e : jshl (t p - 97) 4 = 16 * (t p - 97) := by
      obtain ⟨a, ha⟩ := Int.eq_ofNat_of_zero_le (show 0 ≤ t p - 97 by omega)
      rw [ha]
      exact jlett ⟨a, by omega⟩
    rw [e]
    refine q1 (t p - 97, p + 1) (by unfold prtP; rw [if_pos hl]) _ M1 hF1 h1 (Or.inl ⟨by dsimp only; omega, by dsimp only; omega, rfl⟩)
end CR
