/-! ===== check, many, dead ===== -/
section CK
variable {g : Ctx} {M : Mem}
theorem mo_ck179 {N : Mem} {Q : Int → Mem → Prop} {x1 x2 x3 x4 : Int} {t : Nat} (ht : t ≤ 3) (h1 : InR x1) (h2 : InR x2) (h3 : InR x3) (h4 : InR x4) (q : ∀ M' : Mem, (∀ a k, a ≠ 559 → gI M' a k = gI N a k) → (∀ a k, gP M' a k = gP N a k) → (∀ k, k < 8 → gI M' 559 k = if k = 0 then x1 else if k = 1 then x2 else if k = 2 then x3 else if k = 3 then x4 else if k = 4 then gI N 530 39 else if k = 5 then gI N 530 40 else if k = 6 then gI N 530 41 else gI N 530 42) → (∀ k, 8 ≤ k → k < 8 * t + 8 → gI M' 559 k = gI N 559 (k - 8)) → (∀ k, 8 * t + 8 ≤ k → gI M' 559 k = gI N 559 k) → Q x4 M') : P_Mo_check g 179 [(0, vr g 530), (1, vi x1), (2, vi x2), (3, vi x3), (4, vi x4), (7, vi (8 * (t : Int) - 1))] [] N Q := by
  have loop : ∀ (m : Nat) (M1 : Mem), m ≤ 8 * t → (∀ a k, a ≠ 559 → gI M1 a k = gI N a k) → (∀ a k, gP M1 a k = gP N a k) → (∀ k, gI M1 559 k = if m + 8 ≤ k ∧ k < 8 * t + 8 then gI N 559 (k - 8) else gI N 559 k) → P_Mo_check g 179 [(0, vr g 530), (1, vi x1), (2, vi x2), (3, vi x3), (4, vi x4), (7, vi ((m : Int) - 1))] [] M1 Q := by
    intro m
    induction m with
    | zero =>
      intro M1 hm hI hP hk
      refine b_Mo_check_179 h1 h2 h3 h4 (by omega) (bt (by omega) ?_)
      rw [hI 530 39 (by omega), hI 530 40 (by omega), hI 530 41 (by omega), hI 530 42 (by omega)]
      generalize hM3 : sI (sI (sI (sI (sI (sI (sI (sI M1 559 0 x1) 559 1 x2) 559 2 x3) 559 3 x4) 559 4 (gI N 530 39)) 559 5 (gI N 530 40)) 559 6 (gI N 530 41)) 559 7 (gI N 530 42) = M3
      have hge : ∀ k, 8 ≤ k → gI M3 559 k = gI M1 559 k := fun k h => by
        rw [← hM3, gI_ne _ _ _ _ _ _ (by omega), gI_ne _ _ _ _ _ _ (by omega), gI_ne _ _ _ _ _ _ (by omega), gI_ne _ _ _ _ _ _ (by omega), gI_ne _ _ _ _ _ _ (by omega), gI_ne _ _ _ _ _ _ (by omega), gI_ne _ _ _ _ _ _ (by omega), gI_ne _ _ _ _ _ _ (by omega)]
      refine q M3 (fun a k h => ?_) (fun a k => ?_) (fun k h => ?_) (fun k h h' => ?_) (fun k h => ?_)
      · rw [← hM3, gI_ne _ _ _ _ _ _ (by omega), gI_ne _ _ _ _ _ _ (by omega), gI_ne _ _ _ _ _ _ (by omega), gI_ne _ _ _ _ _ _ (by omega), gI_ne _ _ _ _ _ _ (by omega), gI_ne _ _ _ _ _ _ (by omega), gI_ne _ _ _ _ _ _ (by omega), gI_ne _ _ _ _ _ _ (by omega)]
        exact hI a k h
      · rw [← hM3]; exact hP a k
      · rw [← hM3]
        simp only [gI_sI]
        match k, h with
        | 0, _ => simp
        | 1, _ => simp
        | 2, _ => simp
        | 3, _ => simp
        | 4, _ => simp
        | 5, _ => simp
        | 6, _ => simp
        | 7, _ => simp
      · rw [hge k h, hk, if_pos (by omega)]
      · rw [hge k (by omega), hk, if_neg (by omega)]
    | succ m ih =>
      intro M1 hm hI hP hk
      refine b_Mo_check_179 h1 h2 h3 h4 (by omega) (bf (by omega) ⟨by omega, by omega, ?_⟩)
      rw [show (((m + 1 : Nat) : Int) - 1 + 8).toNat = m + 8 by omega, show (((m + 1 : Nat) : Int) - 1).toNat = m by omega, show ((m + 1 : Nat) : Int) - 1 + -1 = (m : Int) - 1 by omega]
      refine ih _ (by omega) (fun a k h => by rw [gI_ne _ _ _ _ _ _ (by omega)]; exact hI a k h) (fun a k => by rw [gP_sI]; exact hP a k) (fun k => ?_)
      rw [hk m, if_neg (by omega)]
      by_cases z : k = m + 8
      · subst z
        rw [gI_same, if_pos (by omega), Nat.add_sub_cancel]
      · rw [gI_ne _ _ _ _ _ _ (by omega), hk]
        by_cases z2 : m + 1 + 8 ≤ k ∧ k < 8 * t + 8
        · rw [if_pos z2, if_pos (by omega)]
        · rw [if_neg z2, if_neg (by omega)]
  have := loop (8 * t) N (Nat.le_refl _) (fun _ _ _ => rfl) (fun _ _ => rfl) (fun k => by rw [if_neg (by omega)])
  rw [show ((8 * t : Nat) : Int) = 8 * (t : Int) by omega] at this
  exact this
theorem mo_ck43 {N : Mem} {Q : Int → Mem → Prop} {x1 x2 x3 x4 : Int} {c p : Nat} (hc : gI N 530 34 = c) (hc4 : c ≤ 4) (h1 : InR x1) (h2 : InR x2) (h3 : InR x3) (h4 : InR x4) (hp : firK (fun i j => gI N 559 (8 * i + j)) x1 x2 x3 c p) (q : P_Mo_check g 179 [(0, vr g 530), (1, vi x1), (2, vi x2), (3, vi x3), (4, vi x4), (7, vi (8 * ((min p 3 : Nat) : Int) - 1))] [] (sI N 530 34 (cntK c p : Nat)) Q) :
    ∀ (w i : Nat), i + w = p → P_Mo_check g 43 [(0, vr g 530), (1, vi x1), (2, vi x2), (3, vi x3), (4, vi x4), (5, vi (i : Int))] [] N Q := by
  obtain ⟨hpc, hpn, hps⟩ := hp
  intro w
  induction w with
  | zero =>
    intro i hi
    have hi' : i = p := by omega
    subst hi'
    refine b_Mo_check_43 h1 h2 h3 h4 (by omega) ⟨fun h => bt h ⟨fun h4c => bf (by omega) (bnf (by omega) ?_), fun h4c => bf (by omega) (bnt (by omega) ⟨by omega, ?_⟩)⟩, fun h => ⟨by omega, ?_⟩⟩
    · have e1 : min i 3 = 3 := by omega
      have e2 : cntK c i = c := by unfold cntK; rw [if_neg (by omega)]
      rw [e1, e2] at q
      rw [hc]
      exact q
    · have e1 : ((min i 3 : Nat) : Int) = c := by omega
      have e2 : ((cntK c i : Nat) : Int) = (c : Int) + 1 := by unfold cntK; rw [if_pos (by omega)]; omega
      rw [e1, e2] at q
      rw [hc]
      exact q
    · obtain ⟨s1, s2, s3⟩ := hps (by omega)
      rw [show (8 * (i : Int)).toNat = 8 * i + 0 by omega, show (8 * (i : Int) + 1).toNat = 8 * i + 1 by omega, show (8 * (i : Int) + 2).toNat = 8 * i + 2 by omega]
      refine bnf s1 ⟨by omega, bnf s2 ⟨by omega, bt s3 (bf (by omega) (bt (by omega) ?_))⟩⟩
      have e1 : ((min i 3 : Nat) : Int) = i := by omega
      have e2 : cntK c i = c := by unfold cntK; rw [if_neg (by omega)]
      rw [e1, e2] at q
      rw [hc]
      exact q
  | succ w ih =>
    intro i hi
    have hns := hpn i (by omega)
    have nx : P_Mo_check g 43 [(0, vr g 530), (1, vi x1), (2, vi x2), (3, vi x3), (4, vi x4), (5, vi ((i : Int) + 1))] [] N Q := ih (i + 1) (by omega)
    refine b_Mo_check_43 h1 h2 h3 h4 (by omega) (bf (by omega) ⟨by omega, ?_⟩)
    rw [show (8 * (i : Int)).toNat = 8 * i + 0 by omega, show (8 * (i : Int) + 1).toNat = 8 * i + 1 by omega, show (8 * (i : Int) + 2).toNat = 8 * i + 2 by omega]
    exact ⟨fun _ => nx, fun s1 => ⟨by omega, fun _ => nx, fun s2 => ⟨by omega, fun s3 => absurd ⟨s1, s2, s3⟩ hns, fun _ => nx⟩⟩⟩
/-- the two rows of kept checks agree again -/
theorem kept_again {M M1 M2 : Mem} {c p : Nat} {w : Nat → Int} (hK : KeptR M) (hc : gI M 530 34 = c) (hp : p ≤ c) (hc4 : c ≤ 4) (h1 : KeepC M M1 c p w) (hV : ∀ a k, (260 ≤ a ∧ a < 270) → gI M2 a k = gI M1 a k) (hVp : ∀ k, gP M2 261 k = gP M1 261 k) (e34 : gI M2 530 34 = (cntK c p : Nat)) (r0 : ∀ k, k < 8 → gI M2 559 k = w k) (r1 : ∀ k, 8 ≤ k → k < 8 * min p 3 + 8 → gI M2 559 k = gI M 559 (k - 8)) (r2 : ∀ k, 8 * min p 3 + 8 ≤ k → gI M2 559 k = gI M 559 k) (hkc : ∀ k, k < 4 → isKc (gP M1 261 k)) : KeptR M2 := by
  obtain ⟨k1, k2, k3⟩ := hK
  obtain ⟨a1, a2, a3, a4, _, _, _⟩ := h1
  have hcc : cntK c p ≤ 4 ∧ (cntK c p = c ∨ (cntK c p = c + 1 ∧ p = c ∧ c < 4)) := by
    unfold cntK
    by_cases z : p = c ∧ c < 4
    · rw [if_pos z]; omega
    · rw [if_neg z]; omega
  refine ⟨by rw [hV _ _ (by omega), e34]; exact a1, by rw [e34]; omega, fun i hi j hj => ?_⟩
  rw [e34] at hi
  obtain ⟨x, hx, ex⟩ := hkc i (by omega)
  have eL : gI M2 (gP M2 261 i + 1) j = kpF M1 i j := by rw [hVp, hV _ _ (by omega)]; rfl
  rw [eL]
  by_cases z : i = 0
  · subst z
    rw [a2 j hj, r0 _ (by omega), Nat.mul_zero, Nat.zero_add]
  · by_cases z2 : i ≤ min p 3
    · rw [a3 i (by omega) z2, r1 _ (by omega) (by omega), show 8 * i + j - 8 = 8 * (i - 1) + j by omega]
      exact k3 (i - 1) (by omega) j hj
    · rw [a4 i (by omega) (by omega), r2 _ (by omega)]
      exact k3 i (by omega) j hj
theorem j_check {p0 p1 p2 : Int} (hR : Rel M) (h0 : InR p0) (h1 : InR p1) (h2 : InR p2) : K_Sr_check g 33 p0 p1 p2 M (fun r M1 => WT M1 → K_Mo_check g p0 p1 p2 M1 (fun r' M2 => WT M2 → r = r' ∧ Rel M2)) := by
  have hn := hR.names
  have hs := hR.size
  have bad : (p0 < 0 ∨ gI M 530 2 ≤ p0 ∨ p1 < 0 ∨ 256 ≤ p1 ∨ p2 < 0 ∨ 16 ≤ p2) → K_Mo_check g p0 p1 p2 M (fun r' M2 => WT M2 → -1 = r' ∧ Rel M2) := fun hb =>
    i_Mo_check (b_Mo_check_0 h0 h1 h2 (k_Mo_isName h0 (by omega) (by omega) (fun _ _ _ _ => bz1 (k_Mo_isIn h1 (by omega) (by omega) (fun _ _ _ _ => bz1 (k_Mo_isIn h2 (by omega) (by omega) (fun _ _ _ _ => by omega) (fun _ _ _ => bnf rfl (fun _ => ⟨rfl, hR⟩)))) (fun _ _ _ => bz0 (fun _ => ⟨rfl, hR⟩)))) (fun _ _ _ => bz0 (fun _ => ⟨rfl, hR⟩))))
  refine i_Sr_check (w_wt (fun hw => b_Sr_check_0 h0 h1 h2 (k_Sr_isKnown h0 hR.pres (fun a0 b0 _ _ => bz1 (k_Sr_isAddress h1 (fun a1 b1 _ _ => bz1 (k_Sr_isLetter h2 (fun a2 b2 _ _ => bnt (by decide) ⟨hR.pres, ?_⟩) (fun z _ _ => bnf rfl (fun _ => bad (by omega))))) (fun z _ _ => bz0 (fun _ => bad (by omega))))) (fun z _ _ => bz0 (fun _ => bad (by omega))))))
  obtain ⟨o, rfl⟩ : ∃ o : Nat, p0 = o := ⟨p0.toNat, by omega⟩
  have ho : (o : Int) < gI M 530 2 := by omega
  obtain ⟨k1, k2, k3⟩ := hR.2.2.2.2.1
  obtain ⟨c, hc⟩ : ∃ c : Nat, gI M 530 34 = c := ⟨(gI M 530 34).toNat, by omega⟩
  have hc4 : c ≤ 4 := by omega
  refine k_Ev_evaluate hR ho (by omega) (by omega) (fun M1 hV e2 e3 e4 e5 e7 e8 hir hw1 => ?_)
  have hR1 := hV.rel hR hw
  have hP1 : PIn M1 := hR1.2.1.2.2
  refine k_Ks_keep (c := c) hP1 (by rw [hV.1 _ _ (by omega), k1]; exact hc) hc4 h0 hir e2 e3 (fun p hp M2 hK hw2 _ => ?_)
  have hK' := hK
  obtain ⟨q1, q2, q3, q4, q5, q6, q7⟩ := hK'
  have hrw : RwE M M2 := hV.rw.tr ⟨q5 _ _ (by omega) (by omega), fun a k x y => q5 _ _ (by omega) (by omega)⟩
  have hT := evT_fr hrw o p1 p2
  have n2 : gI M2 530 2 = gI M 530 2 := hrw.1
  refine i_Mo_check (b_Mo_check_0 h0 h1 h2 (k_Mo_isName h0 (by omega) (by omega) (fun _ _ _ _ => bz1 (k_Mo_isIn h1 (by omega) (by omega) (fun _ _ _ _ => bz1 (k_Mo_isIn h2 (by omega) (by omega) (fun _ _ _ _ => bnt (by decide) (k_Mo_goes (hR.wf.fr hrw) (by omega) (by omega) (by omega) (fun M3 hF t39 t40 t41 t42 hir3 _ => ?_))) (fun _ => by omega))) (fun _ => by omega))) (fun _ => by omega)))
  rw [hT] at hir3 t39 t40 t41 t42 ⊢
  have f559 : ∀ k, gI M3 559 k = gI M 559 k := fun k => by rw [hF.i (by unfold scM; omega), q5 _ _ (by omega) (by omega), hV.1 _ _ (by omega)]
  have e34 : gI M3 530 34 = c := by rw [hF.i (by unfold scM; omega), q5 _ _ (by omega) (by omega), hV.1 _ _ (by omega)]; exact hc
  have kp1 : ∀ i j, i < 4 → kpF M1 i j = kpF M i j := fun i j hi => by
    obtain ⟨x, hx, ex⟩ := hw.kc hi
    unfold kpF
    rw [hV.2 _ _ (by omega), hV.1 _ _ (by omega)]
  have hp3 : firK (fun i j => gI M3 559 (8 * i + j)) o p1 p2 c p := by
    have cv : ∀ i, i < c → (sameK (fun i j => gI M3 559 (8 * i + j)) o p1 p2 i ↔ sameK (kpF M1) o p1 p2 i) := fun i hi => by
      unfold sameK
      simp only [f559]
      rw [kp1 i 0 (by omega), kp1 i 1 (by omega), kp1 i 2 (by omega), ← k3 i (by omega) 0 (by omega), ← k3 i (by omega) 1 (by omega), ← k3 i (by omega) 2 (by omega)]
      exact Iff.rfl
    exact ⟨hp.1, fun i hi s => hp.2.1 i hi ((cv i (by have := hp.1; omega)).mp s), fun h => (cv p h).mpr (hp.2.2 h)⟩
  refine mo_ck43 (c := c) (p := p) e34 hc4 h0 h1 h2 hir3 hp3 (mo_ck179 (by omega) h0 h1 h2 hir3 (fun M4 i4 p4 r0 r1 r2 _ => ⟨rfl, ?_⟩)) p 0 (by omega)
  have i4' : ∀ a k, a ≠ 559 → ¬ (a = 530 ∧ k = 34) → gI M4 a k = gI M3 a k := fun a k z z2 => by rw [i4 a k z, gI_ne _ _ _ _ _ _ z2]
  have n34 : ∀ k, k ≠ 34 → gI (sI M3 530 34 (cntK c p : Nat)) 530 k = gI M3 530 k := fun k z => gI_ne _ _ _ _ _ _ (by omega)
  have hKM1 : KeptR M1 := hR1.2.2.2.2.1
  refine hR.frK hw (fun a k z => ?_) (fun a k z => ?_) (fun i i' hi hi' => ?_) (kept_again (M := M1) (M1 := M2) (c := c) (p := p) hKM1 (by rw [hV.1 _ _ (by omega)]; exact hc) hp.1 hc4 hK (fun a k z => ?_) (fun k => ?_) ?_ (fun k z => ?_) (fun k z z2 => ?_) (fun k z => ?_) (fun k z => hw2.kc z))
  · unfold dNK dTx dHs at z
    rw [i4' _ _ (by omega) (by omega), hF.i (by unfold scM; omega), q5 _ _ (by omega) (by omega), hV.1 _ _ (by omega)]
  · rw [p4, gP_sI, hF.p, q6 _ _ z.2, hV.2 _ _ z.1]
  · rw [p4, p4, gP_sI, gP_sI, hF.p, hF.p]; exact q7 i i' hi hi'
  · rw [i4' _ _ (by omega) (by omega), hF.i (by unfold scM; omega)]
  · rw [p4, gP_sI, hF.p]
  · rw [i4 _ _ (by omega), gI_same]
  · rw [r0 k z, n34 _ (by omega), n34 _ (by omega), n34 _ (by omega), n34 _ (by omega), t39, t40, t41, t42]
    rw [e4, e5, e7, e8]
  · rw [r1 k z z2, gI_ne _ _ _ _ _ _ (by omega), f559, hV.1 _ _ (by omega)]
  · rw [r2 k z, gI_ne _ _ _ _ _ _ (by omega), f559, hV.1 _ _ (by omega)]
end CK
