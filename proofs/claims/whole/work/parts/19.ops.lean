/-! ===== the class's changes, on its cells ===== -/
theorem MDom.fr {M M' : Mem} {d j : Nat} {v : Nat → Int} (hpd : PDom M d) (h : MDom M d j v) (inb : ∀ c k, c < 21 → gI M' (d + c) k = gI M (d + c) k) (pin : ∀ i, gP M' (d + 2) i = gP M (d + 2) i) (m2 : ∀ x k, 532 ≤ x → x ≤ 542 → gI M' x k = gI M x k) : MDom M' d j v := by
  obtain ⟨g1, g2, g3⟩ := h
  have hr8 : gI M 533 j ≤ 8 := g1.2.2.2.1.2
  refine ⟨g1.fr (fun k _ => inb 0 k (by decide)) (fun k => inb 1 k (by decide)) (fun k => inb 4 k (by decide)) (fun x k p q => m2 x k p (by omega)), g2.fr (inb 0 8 (by decide)) (fun k => inb 3 k (by decide)), g3.fr (m2 533 _ (by decide) (by decide)) (fun i hi => ?_)⟩
  obtain ⟨k, hk, ek⟩ := hpd.1 i (by omega)
  have ir : ∀ c z, c < 2 → gI M' (gP M (d + 2) i + c) z = gI M (gP M (d + 2) i + c) z := fun c z hc => by
    rw [ek, show d + 5 + 2 * k + c = d + (5 + 2 * k + c) by omega]
    exact inb _ _ (by omega)
  exact ⟨pin i, ir 0 0 (by decide), fun a ha => ha.fr (fun z _ => ir 0 z (by decide)) (fun z => ir 1 z (by decide)) (fun x z p q => m2 x z (by omega) q)⟩
theorem MAll.upd {M M' : Mem} {b j : Nat} {v v' : Nat → Int} (hP : PRec M b) (h : MAll M b v) (hj : (j : Int) < gI M 530 2) (hsz : gI M' b 1 = gI M b 1) (n2 : gI M' 530 2 = gI M 530 2) (m2 : ∀ x k, 532 ≤ x → x ≤ 542 → gI M' x k = gI M x k) (hp1 : ∀ i, gP M' (b + 1) i = gP M (b + 1) i)
    (off : ∀ q c k, q < 12 → b + 2 + 21 * q ≠ gP M (b + 1) j → c < 21 → gI M' (b + 2 + 21 * q + c) k = gI M (b + 2 + 21 * q + c) k) (offp : ∀ q i, q < 12 → b + 2 + 21 * q ≠ gP M (b + 1) j → gP M' (b + 2 + 21 * q + 2) i = gP M (b + 2 + 21 * q + 2) i)
    (voff : ∀ j' : Nat, j' ≠ j → (j' : Int) < gI M 530 2 → V1 (gI M 533 j') j' v v') (hd : MDom M' (gP M (b + 1) j) j v') : MAll M' b v' := by
  obtain ⟨h1, h2, h3, h4⟩ := h
  refine ⟨by rw [hsz, n2]; exact h1, by rw [n2]; exact h2, fun i hi => ?_, fun i hi => ?_⟩
  · rw [n2] at hi
    rw [m2 532 _ (by decide) (by decide), m2 532 _ (by decide) (by decide)]
    exact h3 i hi
  · rw [n2] at hi
    rw [hp1]
    by_cases e : i = j
    · subst e; exact hd
    · obtain ⟨q, hq, eq⟩ := hP.1 i (by omega)
      have hne : b + 2 + 21 * q ≠ gP M (b + 1) j := fun z => e (hP.2.1 i j (by omega) (by omega) (by rw [eq, z]))
      have hm := h4 i hi
      have hm' : MDom M (gP M (b + 1) i) i v' := ⟨hm.1, hm.2.1.veq (voff i e hi), hm.2.2.veq (voff i e hi)⟩
      refine hm'.fr (hP.pd (by omega)) (fun c k hc => ?_) (fun z => ?_) m2
      · rw [eq]; exact off q c k hq hne hc
      · rw [eq]; exact offp q z hq hne
theorem row8 {M : Mem} {d j : Nat} {v : Nat → Int} (h : MDom M d j v) {p : Nat} (hp : (p : Int) < gI M 533 j) : 0 ≤ v (21 * j + p) ∧ v (21 * j + p) < 8 := by
  have h1 := (h.2.2.1 p hp).1
  have h2 := h.1.2.2.2.1.2
  omega
/-- the sign of a rule is set -/
theorem cls0 {M : Mem} {b j p : Nat} {s : Int} {v : Nat → Int} (hb : isRec b) (hP : PRec M b) (h : MAll M b v) (hj : (j : Int) < gI M 530 2) (hp : (p : Int) < gI M 533 j) (hs : 0 ≤ s ∧ s ≤ 3) : MAll (sI M (gP M (gP M (b + 1) j + 2) p) 0 s) b (undoV 0 j p s v) := by
  have hm := h.2.2.2 j hj
  have hn := h.2.1
  have h8 := hm.1.2.2.2.1
  have hpd := hP.pd (j := j) (by omega)
  obtain ⟨q, hq, eq⟩ := hP.1 j (by omega)
  obtain ⟨k, hk, ek⟩ := hpd.1 p (by omega)
  have hr8 := row8 hm hp
  have hne : ∀ a z, (a ≠ b + 2 + 21 * q + 5 + 2 * k ∨ z ≠ 0) → gI (sI M (gP M (gP M (b + 1) j + 2) p) 0 s) a z = gI M a z := fun a z hz => gI_ne _ _ _ _ _ _ (by rw [ek, eq]; omega)
  have hb4 : b = 4 ∨ b = 276 := hb
  refine h.upd hP hj (hne _ _ (by omega)) (hne _ _ (by omega)) (fun x z _ _ => hne _ _ (by omega)) (fun _ => rfl) (fun q' c z hq' hd' hc => hne _ _ (by rw [eq] at hd'; omega)) (fun _ _ _ _ => rfl) (fun j' hj' hjn => V1.off hj' (h.2.2.2 j' hjn).1.2.2.2.1.2 (h.2.2.2 j' hjn).2.1.2.1.2 (Or.inr (by decide)) (fun _ => hr8)) ?_
  refine ⟨hm.1.fr (fun z hz => hne _ _ (by omega)) (fun z => hne _ _ (by rw [eq]; omega)) (fun z => hne _ _ (by rw [eq]; omega)) (fun x z _ _ => hne _ _ (by omega)), ?_, ?_, ?_⟩
  · have hh := hm.2.1
    refine ⟨?_, ?_, fun z hz => ?_⟩
    · rw [hne _ _ (by omega), undo0, if_neg (by omega)]; exact hh.1
    · rw [undo0, if_neg (by omega)]; exact hh.2.1
    · rw [undo0, if_neg (by omega)] at hz
      have := hh.2.1
      rw [hne _ _ (by rw [eq]; omega), undo0, if_neg (by omega)]; exact hh.2.2 z hz
  · intro i hi
    have e3 : gI (sI M (gP M (gP M (b + 1) j + 2) p) 0 s) 533 j = gI M 533 j := hne _ _ (by omega)
    rw [e3] at hi ⊢
    obtain ⟨q1, q2, q3, q4⟩ := hm.2.2.1 i hi
    have hv : undoV 0 j p s v (21 * j + i) = v (21 * j + i) := by rw [undo0, if_neg (by omega)]
    obtain ⟨ki, hki, eki⟩ := hpd.1 i (by omega)
    have hmr : MRule (sI M (gP M (gP M (b + 1) j + 2) p) 0 s) (gP M (gP M (b + 1) j + 2) i) (8 * j + (v (21 * j + i)).toNat) := q4.fr (fun z hz => hne _ _ (by omega)) (fun z => hne _ _ (by rw [eki, eq]; omega)) (fun x z _ _ => hne _ _ (by omega))
    rw [hv, undo0]
    by_cases e : i = p
    · subst e
      rw [if_pos rfl]
      exact ⟨q1, hs, gI_same _ _ _ _, hmr⟩
    · have ha : ¬ (8 + (v (21 * j + i)).toNat = 8 + (v (21 * j + p)).toNat) := fun z => e (hm.2.2.2 i p hi hp (by have := (hm.2.2.1 p hp).1; omega))
      rw [if_neg ha]
      refine ⟨q1, q2, ?_, hmr⟩
      rw [← q3]
      exact gI_ne _ _ _ _ _ _ (fun z => e (hpd.2 i p (by omega) (by omega) z.1))
  · intro i i' hi hi' hv
    have e3 : gI (sI M (gP M (gP M (b + 1) j + 2) p) 0 s) 533 j = gI M 533 j := hne _ _ (by omega)
    rw [e3] at hi hi'
    rw [undo0, undo0, if_neg (by omega), if_neg (by omega)] at hv
    exact hm.2.2.2 i i' hi hi' hv
def swp (p i : Nat) : Nat := if i = p then p + 1 else if i = p + 1 then p else i
theorem swp_lt {p i m : Nat} (hp : p + 1 < m) (hi : i < m) : swp p i < m := by
  unfold swp
  split
  · omega
  · split <;> omega
theorem swp_inj {p i k : Nat} (h : swp p i = swp p k) : i = k := by
  unfold swp at h
  by_cases a : i = p
  · rw [if_pos a] at h
    by_cases c : k = p
    · omega
    · rw [if_neg c] at h
      split at h <;> omega
  · rw [if_neg a] at h
    by_cases a2 : i = p + 1
    · rw [if_pos a2] at h
      by_cases c : k = p
      · rw [if_pos c] at h; omega
      · rw [if_neg c] at h
        split at h <;> omega
    · rw [if_neg a2] at h
      by_cases c : k = p
      · rw [if_pos c] at h; omega
      · rw [if_neg c] at h
        split at h <;> omega
/-- two rules are exchanged -/
theorem cls1 {M : Mem} {b j p : Nat} {x : Int} {v : Nat → Int} (hb : isRec b) (hP : PRec M b) (h : MAll M b v) (hj : (j : Int) < gI M 530 2) (hp : (p : Int) + 1 < gI M 533 j) :
    MAll (sP (sP M (gP M (b + 1) j + 2) p (gP M (gP M (b + 1) j + 2) (p + 1))) (gP M (b + 1) j + 2) (p + 1) (gP M (gP M (b + 1) j + 2) p)) b (undoV 1 j p x v) ∧
    PRec (sP (sP M (gP M (b + 1) j + 2) p (gP M (gP M (b + 1) j + 2) (p + 1))) (gP M (b + 1) j + 2) (p + 1) (gP M (gP M (b + 1) j + 2) p)) b ∧
    ∀ a k, a ≠ gP M (b + 1) j + 2 → gP (sP (sP M (gP M (b + 1) j + 2) p (gP M (gP M (b + 1) j + 2) (p + 1))) (gP M (b + 1) j + 2) (p + 1) (gP M (gP M (b + 1) j + 2) p)) a k = gP M a k := by
  have hm := h.2.2.2 j hj
  have hn := h.2.1
  have h8 := hm.1.2.2.2.1
  have hpd := hP.pd (j := j) (by omega)
  obtain ⟨q, hq, eq⟩ := hP.1 j (by omega)
  have hb4 : b = 4 ∨ b = 276 := hb
  generalize hd : gP M (b + 1) j = d at *
  have hpo : ∀ a k, a ≠ d + 2 → gP (sP (sP M (d + 2) p (gP M (d + 2) (p + 1))) (d + 2) (p + 1) (gP M (d + 2) p)) a k = gP M a k := fun a k ha => by rw [gP_ne _ _ _ _ _ _ (by omega), gP_ne _ _ _ _ _ _ (by omega)]
  have hpi : ∀ i, gP (sP (sP M (d + 2) p (gP M (d + 2) (p + 1))) (d + 2) (p + 1) (gP M (d + 2) p)) (d + 2) i = gP M (d + 2) (swp p i) := fun i => by
    unfold swp
    by_cases e : i = p + 1
    · rw [e, gP_same, if_neg (by omega), if_pos rfl]
    · rw [gP_ne _ _ _ _ _ _ (by omega), gP_sP]
      by_cases e2 : i = p
      · rw [if_pos ⟨rfl, e2⟩, if_pos e2]
      · rw [if_neg (by omega), if_neg e2, if_neg e]
  have hsw : ∀ i, i < 8 → swp p i < 8 := fun i hi => swp_lt (by omega) hi
  have hinj : ∀ i i', swp p i = swp p i' → i = i' := fun i i' z => swp_inj z
  have hsr : ∀ i : Nat, (i : Int) < gI M 533 j → ((swp p i : Nat) : Int) < gI M 533 j := fun i hi => by
    have := swp_lt (p := p) (i := i) (m := (gI M 533 j).toNat) (by omega) (by omega)
    omega
  generalize hM1 : sP (sP M (d + 2) p (gP M (d + 2) (p + 1))) (d + 2) (p + 1) (gP M (d + 2) p) = M1 at *
  have hint : ∀ a k, gI M1 a k = gI M a k := fun a k => by rw [← hM1]; rfl
  refine ⟨?_, ?_, hpo⟩
  · refine h.upd (j := j) hP hj (hint _ _) (hint _ _) (fun x z _ _ => hint _ _) (fun i => hpo _ _ (by omega)) (fun q' c z _ _ _ => hint _ _) (fun q' i hq' hd' => hpo _ _ (by rw [hd] at hd'; omega)) (fun j' hj' hjn => V1.off hj' (h.2.2.2 j' hjn).1.2.2.2.1.2 (h.2.2.2 j' hjn).2.1.2.1.2 (Or.inl (by omega)) (fun z => absurd z (by decide))) ?_
    rw [hd]
    refine ⟨hm.1.fr (fun z hz => hint _ _) (fun z => hint _ _) (fun z => hint _ _) (fun x z _ _ => hint _ _), ?_, ?_, ?_⟩
    · have hh := hm.2.1
      refine ⟨?_, ?_, fun z hz => ?_⟩
      · rw [hint, undo1, if_neg (by omega), if_neg (by omega)]; exact hh.1
      · rw [undo1, if_neg (by omega), if_neg (by omega)]; exact hh.2.1
      · rw [undo1, if_neg (by omega), if_neg (by omega)] at hz
        rw [hint, undo1, if_neg (by omega), if_neg (by omega)]; exact hh.2.2 z hz
    · intro i hi
      rw [hint] at hi ⊢
      obtain ⟨q1, q2, q3, q4⟩ := hm.2.2.1 _ (hsr i hi)
      have hv : undoV 1 j p x v (21 * j + i) = v (21 * j + swp p i) := by
        rw [undo1]; unfold swp; split
        · rfl
        · split <;> rfl
      rw [hv, undo1, if_neg (by omega), if_neg (by omega), hpi, hint]
      exact ⟨q1, q2, q3, q4.fr (fun z _ => hint _ _) (fun z => hint _ _) (fun x z _ _ => hint _ _)⟩
    · intro i i' hi hi' hv
      rw [hint] at hi hi'
      have hv1 : ∀ i, undoV 1 j p x v (21 * j + i) = v (21 * j + swp p i) := fun i => by
        rw [undo1]; unfold swp; split
        · rfl
        · split <;> rfl
      rw [hv1, hv1] at hv
      exact hinj i i' (hm.2.2.2 _ _ (hsr i hi) (hsr i' hi') hv)
  · refine ⟨fun i hi => ?_, fun i i' hi hi' z => ?_, fun q' hq' => ?_⟩
    · rw [hpo _ _ (by omega)]; exact hP.1 i hi
    · rw [hpo _ _ (by omega), hpo _ _ (by omega)] at z; exact hP.2.1 i i' hi hi' z
    · by_cases e : b + 2 + 21 * q' = d
      · rw [e]
        refine ⟨fun i hi => ?_, fun i i' hi hi' z => ?_⟩
        · rw [hpi]; exact hpd.1 _ (hsw i hi)
        · rw [hpi, hpi] at z
          exact hinj i i' (hpd.2 _ _ (hsw i hi) (hsw i' hi') z)
      · exact (hP.2.2 q' hq').fr (fun i => hpo _ _ (by omega))
/-- hosts change: the name's count and its row -/
theorem clsH {M M' : Mem} {b j p : Nat} {x kind : Int} {v : Nat → Int} (hb : isRec b) (hP : PRec M b) (h : MAll M b v) (hj : (j : Int) < gI M 530 2) (hk : kind = 2 ∨ kind = 3) (hF : FrI (fun a k => a = gP M (b + 1) j + 3 ∨ (a = gP M (b + 1) j ∧ k = 8)) M M') (hh : MHost M' (gP M (b + 1) j) j (undoV kind j p x v)) : MAll M' b (undoV kind j p x v) := by
  have hm := h.2.2.2 j hj
  have hn := h.2.1
  have h8 := hm.1.2.2.2.1
  have hpd := hP.pd (j := j) (by omega)
  obtain ⟨q, hq, eq⟩ := hP.1 j (by omega)
  have hb4 : b = 4 ∨ b = 276 := hb
  have hne : ∀ a z, (a ≠ b + 2 + 21 * q + 3 ∧ (a ≠ b + 2 + 21 * q ∨ z ≠ 8)) → gI M' a z = gI M a z := fun a z hz => hF.i (by rw [eq]; omega)
  have hlo : ∀ c, c < 16 → undoV kind j p x v (21 * j + c) = v (21 * j + c) := fun c hc => by
    rcases hk with rfl | rfl
    · exact undo2_lo _ _ _ _ hc
    · exact undo3_lo _ _ _ _ hc
  refine h.upd hP hj (hne _ _ (by omega)) (hne _ _ (by omega)) (fun x z _ _ => hne _ _ (by omega)) (fun i => hF.p _ _) (fun q' c z hq' hd' hc => hne _ _ (by rw [eq] at hd'; omega)) (fun q' i _ _ => hF.p _ _) (fun j' hj' hjn => V1.off hj' (h.2.2.2 j' hjn).1.2.2.2.1.2 (h.2.2.2 j' hjn).2.1.2.1.2 (Or.inr (by omega)) (fun z => by omega)) ⟨hm.1.fr (fun z hz => hne _ _ (by omega)) (fun z => hne _ _ (by rw [eq]; omega)) (fun z => hne _ _ (by rw [eq]; omega)) (fun x z _ _ => hne _ _ (by omega)), hh, ?_, ?_⟩
  · intro i hi
    rw [hne _ _ (by omega)] at hi ⊢
    obtain ⟨q1, q2, q3, q4⟩ := hm.2.2.1 i hi
    obtain ⟨ki, hki, eki⟩ := hpd.1 i (by omega)
    rw [hlo i (by omega), hlo _ (by omega), hF.p]
    exact ⟨q1, q2, by rw [hne _ _ (by rw [eki, eq]; omega)]; exact q3, q4.fr (fun z _ => hne _ _ (by rw [eki, eq]; omega)) (fun z => hne _ _ (by rw [eki, eq]; omega)) (fun x z _ _ => hne _ _ (by omega))⟩
  · intro i i' hi hi' hv
    rw [hne _ _ (by omega)] at hi hi'
    rw [hlo i (by omega), hlo i' (by omega)] at hv
    exact hm.2.2.2 i i' hi hi' hv
theorem MHost.ins {M M' : Mem} {d j p : Nat} {x : Int} {v : Nat → Int} (h : MHost M d j v) (hp : (p : Int) ≤ v (21 * j + 16)) (h4 : v (21 * j + 16) < 4) (e8 : gI M' d 8 = gI M d 8 + 1) (e3 : ∀ k : Nat, (k : Int) ≤ gI M d 8 → gI M' (d + 3) k = insF (gI M (d + 3)) p x k) : MHost M' d j (undoV 3 j p x v) := by
  obtain ⟨h1, h2, h3⟩ := h
  refine ⟨by rw [undo3_n, e8, h1], by rw [undo3_n]; omega, fun k hk => ?_⟩
  rw [undo3_n] at hk
  rw [undo3_h _ _ _ _ (by omega), e3 k (by omega)]
  unfold insF
  split
  · exact h3 k (by omega)
  · split
    · rfl
    · exact h3 (k - 1) (by omega)
theorem MHost.del {M M' : Mem} {d j p : Nat} {x : Int} {v : Nat → Int} (h : MHost M d j v) (hp : (p : Int) < v (21 * j + 16)) (e8 : gI M' d 8 = gI M d 8 - 1) (e3 : ∀ k : Nat, (k : Int) < gI M d 8 - 1 → gI M' (d + 3) k = delF (gI M (d + 3)) p k) : MHost M' d j (undoV 2 j p x v) := by
  obtain ⟨h1, h2, h3⟩ := h
  refine ⟨by rw [undo2_n, e8, h1], by rw [undo2_n]; omega, fun k hk => ?_⟩
  rw [undo2_n] at hk
  rw [undo2_h _ _ _ _ (by omega), e3 k (by omega)]
  unfold delF
  split
  · exact h3 k (by omega)
  · exact h3 (k + 1) (by omega)
