/-! ===== kept checks: the class's row of them ===== -/
def dNK (a k : Nat) : Prop := dTx a k ∨ (4 ≤ a ∧ a < 258) ∨ (276 ≤ a ∧ a < 530) ∨ dHs a k ∨ (a = 530 ∧ k = 2) ∨ (532 ≤ a ∧ a ≤ 542)
theorem Rel.frK {M M' : Mem} (h : Rel M) (hw : WT M) (A : AgI dNK M M') (B : AgP (fun a => a ≠ 258 ∧ a ≠ 261) M M') (hP : ∀ i i', i < 4 → i' < 4 → gP M' 261 i = gP M' 261 i' → i = i') (hK : KeptR M') : Rel M' := by
  obtain ⟨h1, ⟨p1, p2, p3⟩, h2, h3, h4, h5⟩ := h
  have e0 := B 0 1 (by omega)
  have en : nowv M' = nowv M := by
    funext k
    exact A _ _ (Or.inr (Or.inr (Or.inr (Or.inl (Or.inr (Or.inr (Or.inr (Or.inr (Or.inl rfl)))))))))
  refine ⟨h1.fr (fun a k q => A a k (Or.inl q)), ⟨p1.fr (fun a k q => B a k (by omega)), p2.fr (fun a k q => B a k (by omega)), hP, fun i i' hi hi' => by rw [B 271 i (by omega), B 271 i' (by omega)]; exact p3.2 i i' hi hi'⟩, h2.fr (fun a k q => B a k (by omega)), ?_, hK, h5.fr hw (fun a k q => A a k (Or.inr (Or.inr (Or.inr (Or.inl q))))) (fun a k q => B a k (by omega))⟩
  rw [e0, en]
  rcases h2 with q | q
  · rw [q.1] at h3 ⊢
    exact h3.fr p1 (fun a k z => A a k (by unfold dRc at z; unfold dNK; omega)) (fun a k z => B a k (by omega))
  · rw [q.1] at h3 ⊢
    exact h3.fr p2 (fun a k z => A a k (by unfold dRc at z; unfold dNK; omega)) (fun a k z => B a k (by omega))
def kpF (M : Mem) (i j : Nat) : Int := gI M (gP M 261 i + 1) j
def sameK (f : Nat → Nat → Int) (x y z : Int) (i : Nat) : Prop := f i 0 = x ∧ f i 1 = y ∧ f i 2 = z
def cntK (c p : Nat) : Nat := if p = c ∧ c < 4 then c + 1 else c
/-- the first place of the same check, or the number of them -/
def firK (f : Nat → Nat → Int) (x y z : Int) (c p : Nat) : Prop := p ≤ c ∧ (∀ i, i < p → ¬ sameK f x y z i) ∧ (p < c → sameK f x y z p)
def rotK (M M' : Mem) (t : Nat) : Prop := (∀ j, gP M' 261 j = if j = 0 then gP M 261 t else if j ≤ t then gP M 261 (j - 1) else gP M 261 j) ∧ ∀ a k, a ≠ 261 → gP M' a k = gP M a k
section KP
variable {g : Ctx} {M : Mem}
theorem pf_82 {N : Mem} {Q : Nat → Mem → Prop} {t : Nat} (ht : t ≤ 3) (hk : isKc (gP N 261 t)) (q : ∀ M' : Mem, rotK N M' t → (∀ a k, gI M' a k = gI N a k) → Q (gP N 261 t) M') : P_Ks_placeFor g 33 82 [(0, vr g 260), (5, vr g (gP N 261 t)), (6, vi (t : Int))] [] N Q := by
  have loop : ∀ (i : Nat) (M1 : Mem), i ≤ t → (∀ a k, gI M1 a k = gI N a k) → (∀ a k, a ≠ 261 → gP M1 a k = gP N a k) → (∀ j, gP M1 261 j = if i < j ∧ j ≤ t then gP N 261 (j - 1) else gP N 261 j) → P_Ks_placeFor g 33 82 [(0, vr g 260), (5, vr g (gP N 261 t)), (6, vi (i : Int))] [] M1 Q := by
    intro i
    induction i with
    | zero =>
      intro M1 hi hI hP hj
      refine b_Ks_placeFor_82 hk (by omega) (bt (by omega) (q _ ⟨fun j => ?_, fun a k z => ?_⟩ (fun a k => ?_)))
      · rw [gP_sP]
        by_cases z : j = 0
        · rw [if_pos ⟨rfl, z⟩, if_pos z]
        · rw [if_neg (by omega), if_neg z, hj]
          by_cases z2 : j ≤ t
          · rw [if_pos (by omega), if_pos z2]
          · rw [if_neg (by omega), if_neg z2]
      · rw [gP_sP, if_neg (by omega)]; exact hP a k z
      · rw [gI_sP]; exact hI a k
    | succ i ih =>
      intro M1 hi hI hP hj
      refine b_Ks_placeFor_82 hk (by omega) (bf (by omega) ⟨by omega, by omega, ?_⟩)
      rw [show (((i + 1 : Nat) : Int) - 1).toNat = i by omega, Int.toNat_natCast, show ((i + 1 : Nat) : Int) + -1 = (i : Int) by omega]
      refine ih _ (by omega) (fun a k => by rw [gI_sP]; exact hI a k) (fun a k z => by rw [gP_sP, if_neg (by omega)]; exact hP a k z) (fun j => ?_)
      have ei : gP M1 261 i = gP N 261 i := by rw [hj i, if_neg (by omega)]
      rw [ei, gP_sP]
      by_cases z : j = i + 1
      · rw [if_pos ⟨rfl, z⟩, if_pos (by omega), z, Nat.add_sub_cancel]
      · rw [if_neg (by omega), hj]
        by_cases z2 : i + 1 < j ∧ j ≤ t
        · rw [if_pos z2, if_pos (by omega)]
        · rw [if_neg z2, if_neg (by omega)]
  exact loop t N (Nat.le_refl _) (fun _ _ => rfl) (fun _ _ _ => rfl) (fun j => by rw [if_neg (by omega)])
theorem k_Ks_placeFor {Q : Nat → Mem → Prop} {x y z : Int} {c : Nat} (hc : gI M 260 1 = c) (hc4 : c ≤ 4) (hx : InR x) (hy : InR y) (hz : InR z) (q : ∀ p : Nat, firK (kpF M) x y z c p → ∀ M' : Mem, rotK M M' (min p 3) → (∀ a k, ¬ (a = 260 ∧ k = 1) → gI M' a k = gI M a k) → gI M' 260 1 = (cntK c p : Nat) → Q (gP M 261 (min p 3)) M') : K_Ks_placeFor g 33 x y z M Q := by
  refine i_Ks_placeFor (w_wt (fun hw => b_Ks_placeFor_0 hx hy hz ?_))
  have tl : ∀ p : Nat, (if 3 < (p : Int) then 3 else (p : Int)) = ((min p 3 : Nat) : Int) := fun p => by
    by_cases h : 3 < (p : Int)
    · rw [if_pos h]; omega
    · rw [if_neg h]; omega
  have fin : ∀ p : Nat, firK (kpF M) x y z c p → (((¬ (p : Int) = (gI M 260 1)) → (0 ≤ (if 3 < (p : Int) then 3 else (p : Int)) ∧ (if 3 < (p : Int) then 3 else (p : Int)) < 4) ∧ P_Ks_placeFor g 33 82 [(0, vr g 260), (5, vr g (gP M 261 ((if 3 < (p : Int) then 3 else (p : Int)).toNat))), (6, vi (if 3 < (p : Int) then 3 else (p : Int)))] [] M Q) ∧ (((p : Int) = (gI M 260 1)) → (((4 ≤ (gI M 260 1)) → (0 ≤ (if 3 < (p : Int) then 3 else (p : Int)) ∧ (if 3 < (p : Int) then 3 else (p : Int)) < 4) ∧ P_Ks_placeFor g 33 82 [(0, vr g 260), (5, vr g (gP M 261 ((if 3 < (p : Int) then 3 else (p : Int)).toNat))), (6, vi (if 3 < (p : Int) then 3 else (p : Int)))] [] M Q) ∧ ((¬ (4 ≤ (gI M 260 1))) → (InR ((gI M 260 1) + 1)) ∧ (0 ≤ (if 3 < (p : Int) then 3 else (p : Int)) ∧ (if 3 < (p : Int) then 3 else (p : Int)) < 4) ∧ P_Ks_placeFor g 33 82 [(0, vr g 260), (5, vr g (gP M 261 ((if 3 < (p : Int) then 3 else (p : Int)).toNat))), (6, vi (if 3 < (p : Int) then 3 else (p : Int)))] [] (sI M 260 1 ((gI M 260 1) + 1)) Q)))) := by
    intro p hp
    have hpc := hp.1
    rw [tl, hc, Int.toNat_natCast]
    have hk : isKc (gP M 261 (min p 3)) := hw.kc (by omega)
    refine ⟨fun h1 => ⟨by omega, pf_82 (by omega) hk (fun M' hr hI => q p hp M' hr (fun a k _ => hI a k) ?_)⟩, fun h1 => ⟨fun h2 => ⟨by omega, pf_82 (by omega) hk (fun M' hr hI => q p hp M' hr (fun a k _ => hI a k) ?_)⟩, fun h2 => ⟨by omega, by omega, pf_82 (N := sI M 260 1 ((c : Int) + 1)) (by omega) hk (fun M' hr hI => q p hp M' hr (fun a k zz => ?_) ?_)⟩⟩⟩
    · rw [hI, hc]; unfold cntK; rw [if_neg (by omega)]
    · rw [hI, hc]; unfold cntK; rw [if_neg (by omega)]
    · rw [hI, gI_ne _ _ _ _ _ _ zz]
    · rw [hI, gI_same]; unfold cntK; rw [if_pos (by omega)]; omega
  have loop : ∀ (w p : Nat), p + w = c → (∀ i, i < p → ¬ sameK (kpF M) x y z i) → P_Ks_placeFor g 33 3 [(0, vr g 260), (1, vi x), (2, vi y), (3, vi z), (4, vi (p : Int))] [] M Q := by
    intro w
    induction w with
    | zero =>
      intro p hp hn
      exact b_Ks_placeFor_3 hx hy hz (by omega) (bt (by omega) (fin p ⟨by omega, hn, fun h => by omega⟩))
    | succ w ih =>
      intro p hp hn
      have nx : ¬ sameK (kpF M) x y z p → P_Ks_placeFor g 33 3 [(0, vr g 260), (1, vi x), (2, vi y), (3, vi z), (4, vi ((p : Int) + 1))] [] M Q := fun h => by
        have := ih (p + 1) (by omega) (fun i hi => by
          by_cases e : i = p
          · rw [e]; exact h
          · exact hn i (by omega))
        exact this
      refine b_Ks_placeFor_3 hx hy hz (by omega) (bf (by omega) ⟨by omega, ?_⟩)
      rw [Int.toNat_natCast]
      refine i_Kc_isOf (b_Kc_isOf_0 (hw.kc (by omega)) hx hy hz ⟨fun h _ _ => bnf rfl (nx (fun s => h s.1)), fun h1 => ⟨fun h _ _ => bnf rfl (nx (fun s => h s.2.1)), fun h2 => ⟨fun h _ _ => bnf rfl (nx (fun s => h s.2.2)), fun h3 _ _ => bnt (by decide) (fin p ⟨by omega, hn, fun _ => ⟨h1, h2, h3⟩⟩)⟩⟩⟩)
  exact loop c 0 (by omega) (fun i hi => by omega)
/-- how the class's row of kept checks changes -/
def KeepC (M M' : Mem) (c p : Nat) (w : Nat → Int) : Prop := gI M' 260 1 = (cntK c p : Nat) ∧ (∀ j, j < 8 → kpF M' 0 j = w j) ∧ (∀ i, 1 ≤ i → i ≤ min p 3 → ∀ j, kpF M' i j = kpF M (i - 1) j) ∧ (∀ i, min p 3 < i → i < 4 → ∀ j, kpF M' i j = kpF M i j) ∧
  (∀ a k, ¬ (a = 260 ∧ k = 1) → ¬ (262 ≤ a ∧ a < 270) → gI M' a k = gI M a k) ∧ (∀ a k, a ≠ 261 → gP M' a k = gP M a k) ∧ ∀ i i', i < 4 → i' < 4 → gP M' 261 i = gP M' 261 i' → i = i'
theorem rotK_inj {M M' : Mem} {t : Nat} (hP : PIn M) (ht : t ≤ 3) (h : rotK M M' t) : ∀ i i', i < 4 → i' < 4 → gP M' 261 i = gP M' 261 i' → i = i' := by
  have hs : ∀ i, i < 4 → ∃ k, k < 4 ∧ gP M' 261 i = gP M 261 k ∧ ((i = 0 ∧ k = t) ∨ (i ≠ 0 ∧ i ≤ t ∧ k = i - 1) ∨ (t < i ∧ k = i)) := fun i hi => by
    by_cases z : i = 0
    · exact ⟨t, by omega, by rw [h.1, if_pos z], by omega⟩
    · by_cases z2 : i ≤ t
      · exact ⟨i - 1, by omega, by rw [h.1, if_neg z, if_pos z2], by omega⟩
      · exact ⟨i, by omega, by rw [h.1, if_neg z, if_neg z2], by omega⟩
  intro i i' hi hi' e
  obtain ⟨k, hk, e1, c1⟩ := hs i hi
  obtain ⟨k', hk', e2, c2⟩ := hs i' hi'
  rw [e1, e2] at e
  have := hP.1 k k' hk hk' e
  omega
theorem k_Ks_keep {Q : Mem → Prop} {x y z r : Int} {c : Nat} (hP : PIn M) (hc : gI M 260 1 = c) (hc4 : c ≤ 4) (hx : InR x) (hr : InR r) (e2 : gI M 258 2 = y) (e3 : gI M 258 3 = z) (q : ∀ p : Nat, firK (kpF M) x y z c p → ∀ M' : Mem, KeepC M M' c p (fun j => if j = 0 then x else if j = 1 then y else if j = 2 then z else if j = 3 then r else if j = 4 then gI M 258 4 else if j = 5 then gI M 258 5 else if j = 6 then gI M 258 7 else gI M 258 8) → Q M') : K_Ks_keep g 33 x r M Q := by
  refine i_Ks_keep (w_wt (fun hw => b_Ks_keep_0 hx hr ?_))
  rw [e2, e3]
  refine k_Ks_placeFor hc hc4 hx (by rw [← e2]; exact hw.1 _ _) (by rw [← e3]; exact hw.1 _ _) (fun p hp M2 hro hI hcn hkc hw2 => ?_)
  have hkt : isKc (gP M 261 (min p 3)) := hw.kc (by omega)
  have hne : ¬ gP M 261 (min p 3) = 0 := by obtain ⟨i, _, e⟩ := hkt; omega
  refine ⟨hne, ?_⟩
  have h258 : ∀ k, gI M2 258 k = gI M 258 k := fun k => hI _ _ (by omega)
  rw [h258, h258, h258, h258, h258, h258, e2, e3]
  generalize hT : gP M 261 (min p 3) = T at *
  obtain ⟨ti, hti, eT⟩ := hkt
  generalize hM3 : sI (sI (sI (sI (sI (sI (sI (sI M2 (T + 1) 0 x) (T + 1) 1 y) (T + 1) 2 z) (T + 1) 3 r) (T + 1) 4 (gI M 258 4)) (T + 1) 5 (gI M 258 5)) (T + 1) 6 (gI M 258 7)) (T + 1) 7 (gI M 258 8) = M3
  have hP3 : ∀ a k, gP M3 a k = gP M2 a k := fun a k => by rw [← hM3]; rfl
  have hI3 : ∀ a k, a ≠ T + 1 → gI M3 a k = gI M2 a k := fun a k h => by
    rw [← hM3, gI_ne _ _ _ _ _ _ (by omega), gI_ne _ _ _ _ _ _ (by omega), gI_ne _ _ _ _ _ _ (by omega), gI_ne _ _ _ _ _ _ (by omega), gI_ne _ _ _ _ _ _ (by omega), gI_ne _ _ _ _ _ _ (by omega), gI_ne _ _ _ _ _ _ (by omega), gI_ne _ _ _ _ _ _ (by omega)]
  have inj := rotK_inj hP (by omega) hro
  have hoth : ∀ i, 1 ≤ i → i < 4 → gP M3 261 i ≠ T := fun i h1 h2 e => by
    rw [hP3, ← hT] at e
    have e0 : gP M2 261 0 = gP M 261 (min p 3) := by rw [hro.1, if_pos rfl]
    rw [← e0] at e
    have := inj i 0 h2 (by omega) e
    omega
  have kc2 : ∀ i, i < 4 → ∃ k, k < 4 ∧ gP M2 261 i = 262 + 2 * k := fun i hi => hw2.kc hi
  refine q p hp M3 ⟨?_, fun j hj => ?_, fun i h1 h2 j => ?_, fun i h1 h2 j => ?_, fun a k h1 h2 => ?_, fun a k h => ?_, ?_⟩
  · rw [hI3 _ _ (by omega)]; exact hcn
  · have e0 : gP M3 261 0 = T := by rw [hP3, hro.1, if_pos rfl]; exact hT
    unfold kpF
    rw [e0, ← hM3]
    simp only [gI_sI]
    match j, hj with
    | 0, _ => simp
    | 1, _ => simp
    | 2, _ => simp
    | 3, _ => simp
    | 4, _ => simp
    | 5, _ => simp
    | 6, _ => simp
    | 7, _ => simp
  · have h4 : i < 4 := by omega
    obtain ⟨k, hk, ek⟩ := kc2 i h4
    have h3 := hoth i h1 h4
    unfold kpF
    rw [hI3 _ _ (by omega), hP3, hI _ _ (by omega), hro.1, if_neg (by omega), if_pos h2]
  · obtain ⟨k, hk, ek⟩ := kc2 i h2
    have h3 := hoth i (by omega) h2
    unfold kpF
    rw [hI3 _ _ (by omega), hP3, hI _ _ (by omega), hro.1, if_neg (by omega), if_neg (by omega)]
  · rw [hI3 _ _ (by omega), hI _ _ h1]
  · rw [hP3]; exact hro.2 a k h
  · intro i i' hi hi'
    rw [hP3, hP3]
    exact inj i i' hi hi'
end KP
