/-! ===== the model reads: items, the whole text ===== -/
section IE
variable {t : Nat → Int} {L : Nat}
theorem itm_n {p : Nat} (h : nameP t (p + 1) = none) : itmP t p = none := by unfold itmP; rw [h]
theorem itm_k {p : Nat} {r : Int × Nat} (h : nameP t (p + 1) = some r) (hc : t r.2 ≠ 58) : itmP t p = none := by unfold itmP; rw [h]; dsimp only; rw [if_neg hc]
theorem itm_b {p : Nat} {r : Int × Nat} (h : nameP t (p + 1) = some r) (hc : t r.2 = 58) (hb : itmB t (t p) (r.2 + 1) = none) : itmP t p = none := by unfold itmP; rw [h]; dsimp only; rw [if_pos hc, hb]
theorem itm_e {p : Nat} {r : Int × Nat} {s : (ReP → ReP) × Nat} (h : nameP t (p + 1) = some r) (hc : t r.2 = 58) (hb : itmB t (t p) (r.2 + 1) = some s) (he : t s.2 ≠ 59) : itmP t p = none := by unfold itmP; rw [h]; dsimp only; rw [if_pos hc, hb]; dsimp only; rw [if_neg he]
theorem itm_s {p : Nat} {r : Int × Nat} {s : (ReP → ReP) × Nat} (h : nameP t (p + 1) = some r) (hc : t r.2 = 58) (hb : itmB t (t p) (r.2 + 1) = some s) (he : t s.2 = 59) : itmP t p = some (r.1, s.1, s.2 + 1) := by unfold itmP; rw [h]; dsimp only; rw [if_pos hc, hb]; dsimp only; rw [if_pos he]
theorem itb_n {x : Int} {p : Nat} (hx : x = 110) : itmB t x p = (polP t 9 0 p).map (fun r => (fun R => (r.1.1, r.1.2, R.2.2.1, R.2.2.2), r.2)) := by
  unfold itmB; rw [if_pos hx]; cases polP t 9 0 p <;> rfl
theorem itb_a {x : Int} {p : Nat} (hx : x = 97) : itmB t x p = (hstP t 4 p).map (fun r => (fun R => (R.1, R.2.1, r.1, R.2.2.2), r.2)) := by
  unfold itmB; rw [if_neg (by omega), if_pos hx]; cases hstP t 4 p <;> rfl
theorem itb_x {x : Int} {p : Nat} (hx : x = 120) : itmB t x p = (excP t 3 p).map (fun r => (fun R => (R.1, R.2.1, R.2.2.1, r.1), r.2)) := by
  unfold itmB; rw [if_neg (by omega), if_neg (by omega), if_pos hx]; cases excP t 3 p <;> rfl
theorem itb_o {x : Int} {p : Nat} (h1 : x ≠ 110) (h2 : x ≠ 97) (h3 : x ≠ 120) : itmB t x p = none := by unfold itmB; rw [if_neg h1, if_neg h2, if_neg h3]
theorem itm_o {p : Nat} (h1 : t p ≠ 110) (h2 : t p ≠ 97) (h3 : t p ≠ 120) : itmP t p = none := by
  cases h : nameP t (p + 1) with
  | none => exact itm_n h
  | some r =>
    by_cases hc : t r.2 = 58
    · exact itm_b h hc (itb_o h1 h2 h3)
    · exact itm_k h hc
/-- the code of an item that is as described -/
theorem itm_c {p : Nat} {r : Int × Nat} {s : Int × (ReP → ReP) × Nat} (h : nameP t (p + 1) = some r) (hs : itmP t p = some s) : s.1 = r.1 ∧ t r.2 = 58 ∧ ∃ u, itmB t (t p) (r.2 + 1) = some u ∧ t u.2 = 59 ∧ s.2.1 = u.1 ∧ s.2.2 = u.2 + 1 := by
  by_cases hc : t r.2 = 58
  · cases hb : itmB t (t p) (r.2 + 1) with
    | none => rw [itm_b h hc hb] at hs; cases hs
    | some u =>
      by_cases he : t u.2 = 59
      · rw [itm_s h hc hb he] at hs
        cases hs
        exact ⟨rfl, hc, u, rfl, he, rfl, rfl⟩
      · rw [itm_e h hc hb he] at hs; cases hs
  · rw [itm_k h hc] at hs; cases hs
theorem itmP_ok (hT : TxT t L) {p : Nat} {s : Int × (ReP → ReP) × Nat} (hs : itmP t p = some s) : okC s.1 ∧ (∀ R, okRe R → okRe (s.2.1 R)) ∧ s.2.2 ≤ L ∧ p < s.2.2 := by
  cases h : nameP t (p + 1) with
  | none => rw [itm_n h] at hs; cases hs
  | some r =>
    obtain ⟨e1, _, u, hu, e3, e4, e5⟩ := itm_c h hs
    have o1 := nameP_ok hT h
    have o2 := itmB_ok hT hu
    have := hT.in (p := u.2) (by omega)
    rw [e1, e4, e5]
    exact ⟨o1.1, o2.1, by omega, by omega⟩
end IE
def nxK (ks : List Int) (c : Int) : List Int := if c ∈ ks then ks else ks ++ [c]
def curR (ks : List Int) (P : Int → ReP) (c : Int) : ReP := if c ∈ ks then P c else empR
theorem all_z {t : Nat → Int} {L f p : Nat} {ks : List Int} {P : Int → ReP} (h : L ≤ p) : allP t L f p ks P = (-4, ks, P) := by
  cases f with
  | zero => rfl
  | succ f => unfold allP; rw [if_pos h]
theorem all_n {t : Nat → Int} {L f p : Nat} {ks : List Int} {P : Int → ReP} (h : ¬ L ≤ p) (hn : itmP t p = none) : allP t L (f + 1) p ks P = ((p : Int), ks, P) := by unfold allP; rw [if_neg h, hn]
theorem all_f {t : Nat → Int} {L f p : Nat} {ks : List Int} {P : Int → ReP} {r : Int × (ReP → ReP) × Nat} (h : ¬ L ≤ p) (hn : itmP t p = some r) (h1 : r.1 ∉ ks) (h2 : ks.length = 12) : allP t L (f + 1) p ks P = ((p : Int), ks, P) := by unfold allP; rw [if_neg h, hn]; dsimp only; rw [if_neg h1, if_pos h2]
theorem all_s {t : Nat → Int} {L f p : Nat} {ks : List Int} {P : Int → ReP} {r : Int × (ReP → ReP) × Nat} (h : ¬ L ≤ p) (hn : itmP t p = some r) (h1 : ¬ (r.1 ∉ ks ∧ ks.length = 12)) : allP t L (f + 1) p ks P = allP t L f r.2.2 (nxK ks r.1) (updR P r.1 (r.2.1 (curR ks P r.1))) := by
  generalize hX : allP t L f r.2.2 (nxK ks r.1) (updR P r.1 (r.2.1 (curR ks P r.1))) = X
  unfold allP
  rw [if_neg h, hn]
  dsimp only
  unfold nxK curR at hX
  by_cases q : r.1 ∈ ks
  · rw [if_pos q, if_pos q] at hX; rw [if_pos q]; exact hX
  · rw [if_neg q, if_neg q] at hX; rw [if_neg q, if_neg (fun z => h1 ⟨q, z⟩)]; exact hX
def mRd (a k : Nat) : Prop := (a = 530 ∧ (k = 17 ∨ k = 32 ∨ k = 33)) ∨ (545 ≤ a ∧ a ≤ 558)
theorem mV_Rd {M M' : Mem} (h : FrI mV M M') : FrI mRd M M' := h.mono (fun a k q => by unfold mV at q; unfold mRd; omega)
theorem mPo_Rd {M M' : Mem} {n : Nat} (h : FrI (mPo n) M M') : FrI mRd M M' := h.mono (fun a k q => by unfold mPo mV at q; unfold mRd; omega)
theorem mHo_Rd {M M' : Mem} {n : Nat} (h : FrI (mHo n) M M') : FrI mRd M M' := h.mono (fun a k q => by unfold mHo mV at q; unfold mRd; omega)
theorem mEx_Rd {M M' : Mem} {n : Nat} (h : FrI (mEx n) M M') : FrI mRd M M' := h.mono (fun a k q => by unfold mEx mV at q; unfold mRd; omega)
theorem TxM.rd {M M' : Mem} {t : Nat → Int} {L : Nat} (h : TxM M t L) (hF : FrI mRd M M') : TxM M' t L := h.fr hF (by unfold mRd; omega) (fun k => by unfold mRd; omega)
def RowM (M : Mem) (n : Nat) (R : ReP) : Prop := PolM M n R.1 R.2.1 ∧ HstM M n R.2.2.1 ∧ ExcM M n R.2.2.2
theorem RuleM.fr2 {M M' : Mem} {r : Nat} {R : RuP} (h : RuleM M r R) (ok : okRu R) (e : ∀ a, ((550 ≤ a ∧ a ≤ 554) ∨ a = 556) → gI M' a r = gI M a r) (e5 : ∀ k, 8 * r ≤ k → k < 8 * r + 8 → gI M' 555 k = gI M 555 k) : RuleM M' r R := by
  obtain ⟨h1, h2, h3, h4, h5⟩ := h
  refine ⟨by rw [e _ (by omega)]; exact h1, by rw [e _ (by omega)]; exact h2, fun z => ?_, fun z z2 => ?_, fun z => ⟨?_, fun i x hx => ?_⟩⟩
  · rw [e _ (by omega), e _ (by omega)]; exact h3 z
  · rw [e _ (by omega)]; exact h4 z z2
  · rw [e _ (by omega)]; exact (h5 z).1
  · have := at_lt hx
    have := ok.2.2.2.2 z
    rw [e5 _ (by omega) (by omega)]; exact (h5 z).2 i x hx
theorem PolM.fr {M M' : Mem} {n : Nat} {l : List RuP} {c : Int} (h : PolM M n l c) (hl : l.length ≤ 8 ∧ ∀ x ∈ l, okRu x) (e1 : ∀ a, a = 546 ∨ a = 547 → gI M' a n = gI M a n) (e2 : ∀ a k, ((550 ≤ a ∧ a ≤ 554) ∨ a = 556) → 8 * n ≤ k → k < 8 * n + 8 → gI M' a k = gI M a k) (e3 : ∀ k, 64 * n ≤ k → k < 64 * n + 64 → gI M' 555 k = gI M 555 k) : PolM M' n l c := by
  obtain ⟨h1, h2, h3⟩ := h
  refine ⟨by rw [e1 _ (Or.inl rfl)]; exact h1, by rw [e1 _ (Or.inr rfl)]; exact h2, fun i R hR => ?_⟩
  have hi := at_lt hR
  exact (h3 i R hR).fr2 (hl.2 R (List.mem_of_getElem? hR)) (fun a ha => e2 a _ ha (by omega) (by omega)) (fun k hk1 hk2 => e3 k (by omega) (by omega))
theorem HstM.fr {M M' : Mem} {n : Nat} {l : List Int} (h : HstM M n l) (hl : l.length ≤ 4) (e1 : gI M' 557 n = gI M 557 n) (e2 : ∀ k, 4 * n ≤ k → k < 4 * n + 4 → gI M' 558 k = gI M 558 k) : HstM M' n l :=
  ⟨by rw [e1]; exact h.1, fun i x hx => by have := at_lt hx; rw [e2 _ (by omega) (by omega)]; exact h.2 i x hx⟩
theorem ExcM.fr {M M' : Mem} {n : Nat} {l : List Int} (h : ExcM M n l) (hl : l.length ≤ 3) (e1 : gI M' 548 n = gI M 548 n) (e2 : ∀ k, 3 * n ≤ k → k < 3 * n + 3 → gI M' 549 k = gI M 549 k) : ExcM M' n l :=
  ⟨by rw [e1]; exact h.1, fun i x hx => by have := at_lt hx; rw [e2 _ (by omega) (by omega)]; exact h.2 i x hx⟩
/-- the rows of the names that were read: keys ks, records P -/
def MRec (M : Mem) (ks : List Int) (P : Int → ReP) : Prop := gI M 530 17 = (ks.length : Nat) ∧ ks.length ≤ 12 ∧ ks.Nodup ∧ ∀ j c, ks[j]? = some c → gI M 545 j = c ∧ okC c ∧ okRe (P c) ∧ RowM M j (P c)
theorem mem_at {ks : List Int} {c : Int} (h : c ∈ ks) : ∃ n : Nat, ks[n]? = some c := List.getElem?_of_mem h
theorem nodup_at {ks : List Int} (h : ks.Nodup) {i j : Nat} {c : Int} (h1 : ks[i]? = some c) (h2 : ks[j]? = some c) : i = j := by
  have a := at_lt h1
  exact (List.getElem?_inj a h).mp (by rw [h1, h2])
theorem upd_same (P : Int → ReP) (c : Int) : updR P c (P c) = P := by funext x; unfold updR; by_cases h : x = c; rw [if_pos h, h]; rw [if_neg h]
theorem upd_upd (P : Int → ReP) (c : Int) (R R' : ReP) : updR (updR P c R) c R' = updR P c R' := by funext x; unfold updR; by_cases h : x = c; rw [if_pos h, if_pos h]; rw [if_neg h, if_neg h, if_neg h]
theorem upd_at (P : Int → ReP) (c : Int) (R : ReP) : updR P c R c = R := by unfold updR; rw [if_pos rfl]
theorem upd_ne (P : Int → ReP) {c x : Int} (R : ReP) (h : x ≠ c) : updR P c R x = P x := by unfold updR; rw [if_neg h]
/-- a record is changed: the row of its name -/
theorem MRec.upd {M M' : Mem} {ks : List Int} {P : Int → ReP} {n : Nat} {c : Int} {R : ReP} (h : MRec M ks P) (hn : ks[n]? = some c) (hR : okRe R) (hr : RowM M' n R) (e17 : gI M' 530 17 = gI M 530 17) (e545 : ∀ k, gI M' 545 k = gI M 545 k) (eo : ∀ j, j ≠ n → j < 12 → (∀ a, (546 ≤ a ∧ a ≤ 548) ∨ a = 557 → gI M' a j = gI M a j) ∧ (∀ a k, ((550 ≤ a ∧ a ≤ 554) ∨ a = 556) → 8 * j ≤ k → k < 8 * j + 8 → gI M' a k = gI M a k) ∧ (∀ k, 64 * j ≤ k → k < 64 * j + 64 → gI M' 555 k = gI M 555 k) ∧ (∀ k, 4 * j ≤ k → k < 4 * j + 4 → gI M' 558 k = gI M 558 k) ∧ ∀ k, 3 * j ≤ k → k < 3 * j + 3 → gI M' 549 k = gI M 549 k) : MRec M' ks (updR P c R) := by
  obtain ⟨h1, h2, h3, h4⟩ := h
  refine ⟨by rw [e17]; exact h1, h2, h3, fun j x hj => ?_⟩
  obtain ⟨g1, g2, g3, g4, g5, g6⟩ := h4 j x hj
  rw [e545]
  by_cases e : j = n
  · subst e
    have ex : x = c := by rw [hj] at hn; exact Option.some.inj hn
    subst ex
    rw [upd_at]
    exact ⟨g1, g2, hR, hr⟩
  · have hx : x ≠ c := fun z => e (nodup_at h3 (z ▸ hj) hn)
    rw [upd_ne _ _ hx]
    have hj12 := at_lt hj
    obtain ⟨f1, f2, f3, f4, f5⟩ := eo j e (by omega)
    exact ⟨g1, g2, g3, g4.fr g3.1 (fun a ha => f1 a (by omega)) f2 f3, g5.fr g3.2.2.1 (f1 557 (by omega)) f4, g6.fr g3.2.2.2.1 (f1 548 (by omega)) f5⟩
section MI
variable {g : Ctx} {M : Mem} {t : Nat → Int} {L : Nat}
theorem MRec.v {M' : Mem} {ks : List Int} {P : Int → ReP} (h : MRec M ks P) (hF : FrI mV M M') : MRec M' ks P := by
  obtain ⟨h1, h2, h3, h4⟩ := h
  refine ⟨by rw [hF.i (by unfold mV; omega)]; exact h1, h2, h3, fun j x hj => ?_⟩
  obtain ⟨g1, g2, g3, g4, g5, g6⟩ := h4 j x hj
  exact ⟨by rw [hF.i (by unfold mV; omega)]; exact g1, g2, g3, g4.fr g3.1 (fun a ha => hF.i (by unfold mV; omega)) (fun a k _ _ _ => hF.i (by unfold mV; omega)) (fun k _ _ => hF.i (by unfold mV; omega)), g5.fr g3.2.2.1 (hF.i (by unfold mV; omega)) (fun k _ _ => hF.i (by unfold mV; omega)), g6.fr g3.2.2.2.1 (hF.i (by unfold mV; omega)) (fun k _ _ => hF.i (by unfold mV; omega))⟩
theorem k_Mo_slotOf {Q : Int → Mem → Prop} {ks : List Int} {P : Int → ReP} {c : Int} (hc : okC c) (h : MRec M ks P) (q0 : c ∉ ks → ks.length = 12 → Q (-4) M) (q1 : ¬ (c ∉ ks ∧ ks.length = 12) → ∀ (n : Nat) (M' : Mem), FrI mRd M M' → gI M' 530 32 = gI M 530 32 → (nxK ks c)[n]? = some c → MRec M' (nxK ks c) (updR P c (curR ks P c)) → Q n M') : K_Mo_slotOf g c M Q := by
  obtain ⟨vn, hv⟩ := hc
  have hcr : InR c := by have := hv.1; have := hv.2.1; omega
  obtain ⟨h1, h2, h3, h4⟩ := h
  have loop : ∀ (w i : Nat), i + w = ks.length → (∀ j x, j < i → ks[j]? = some x → x ≠ c) → P_Mo_slotOf g 2 [(0, vr g 530), (1, vi c), (2, vi (i : Int))] [] M Q := by
    intro w
    induction w with
    | zero =>
      intro i hi hno
      have hnc : c ∉ ks := fun hm => by
        obtain ⟨n, hn⟩ := mem_at hm
        exact hno n c (by have := at_lt hn; omega) hn rfl
      refine b_Mo_slotOf_2 hcr (by omega) (bt (by omega) ?_)
      rw [h1, Int.toNat_natCast]
      refine ⟨fun c12 => ⟨by omega, by omega, by omega, ?_⟩, fun c12 => q0 hnc (by omega)⟩
      have e1 : nxK ks c = ks ++ [c] := by unfold nxK; rw [if_neg hnc]
      have e2 : curR ks P c = empR := by unfold curR; rw [if_neg hnc]
      have hq := q1 (by omega) ks.length
      rw [e1, e2] at hq
      generalize hN : sI (sI (sI (sI (sI (sI M 545 ks.length c) 546 ks.length 0) 547 ks.length 0) 548 ks.length 0) 557 ks.length 0) 530 17 ((ks.length : Int) + 1) = N
      have no : ∀ a k, ¬ ((545 ≤ a ∧ a ≤ 548 ∨ a = 557) ∧ k = ks.length) → ¬ (a = 530 ∧ k = 17) → gI N a k = gI M a k := fun a k z1 z2 => by
        rw [← hN, gI_ne _ _ _ _ _ _ (by omega), gI_ne _ _ _ _ _ _ (by omega), gI_ne _ _ _ _ _ _ (by omega), gI_ne _ _ _ _ _ _ (by omega), gI_ne _ _ _ _ _ _ (by omega), gI_ne _ _ _ _ _ _ (by omega)]
      refine hq N ?_ (no _ _ (by omega) (by omega)) (by rw [List.getElem?_append_right (Nat.le_refl _), Nat.sub_self]; rfl) ⟨?_, by simp; omega, ?_, fun j x hj => ?_⟩
      · rw [← hN]
        exact FrI.tr (FrI.tr (FrI.tr (FrI.tr (FrI.tr (FrI.st (Or.inr ⟨by omega, by omega⟩)) (FrI.st (Or.inr ⟨by omega, by omega⟩))) (FrI.st (Or.inr ⟨by omega, by omega⟩))) (FrI.st (Or.inr ⟨by omega, by omega⟩))) (FrI.st (Or.inr ⟨by omega, by omega⟩))) (FrI.st (Or.inl ⟨rfl, Or.inl rfl⟩))
      · rw [← hN, gI_same]; simp
      · rw [List.nodup_append]
        refine ⟨h3, by simp, fun a ha b hb => ?_⟩
        rw [List.mem_singleton] at hb
        intro e
        rw [e, hb] at ha
        exact hnc ha
      · rcases snoc_at hj with hj | ⟨hjj, hx⟩
        · have hjl := at_lt hj
          have hxc : x ≠ c := fun z => hnc (z ▸ List.mem_of_getElem? hj)
          rw [upd_ne _ _ hxc]
          obtain ⟨g1, g2, g3, g4, g5, g6⟩ := h4 j x hj
          exact ⟨by rw [no _ _ (by omega) (by omega)]; exact g1, g2, g3, g4.fr g3.1 (fun a ha => no _ _ (by omega) (by omega)) (fun a k _ _ _ => no _ _ (by omega) (by omega)) (fun k _ _ => no _ _ (by omega) (by omega)), g5.fr g3.2.2.1 (no _ _ (by omega) (by omega)) (fun k _ _ => no _ _ (by omega) (by omega)), g6.fr g3.2.2.2.1 (no _ _ (by omega) (by omega)) (fun k _ _ => no _ _ (by omega) (by omega))⟩
        · subst hx
          rw [upd_at, hjj]
          refine ⟨?_, ⟨vn, hv⟩, empR_ok, ⟨?_, ?_, fun i R hR => by simp [empR] at hR⟩, ⟨?_, fun i R hR => by simp [empR] at hR⟩, ⟨?_, fun i R hR => by simp [empR] at hR⟩⟩
          · rw [← hN, gI_ne _ _ _ _ _ _ (by omega), gI_ne _ _ _ _ _ _ (by omega), gI_ne _ _ _ _ _ _ (by omega), gI_ne _ _ _ _ _ _ (by omega), gI_ne _ _ _ _ _ _ (by omega), gI_same]
          · rw [← hN, gI_ne _ _ _ _ _ _ (by omega), gI_ne _ _ _ _ _ _ (by omega), gI_ne _ _ _ _ _ _ (by omega), gI_ne _ _ _ _ _ _ (by omega), gI_same]; rfl
          · rw [← hN, gI_ne _ _ _ _ _ _ (by omega), gI_ne _ _ _ _ _ _ (by omega), gI_ne _ _ _ _ _ _ (by omega), gI_same]; rfl
          · rw [← hN, gI_ne _ _ _ _ _ _ (by omega), gI_same]; rfl
          · rw [← hN, gI_ne _ _ _ _ _ _ (by omega), gI_ne _ _ _ _ _ _ (by omega), gI_same]; rfl
    | succ w ih =>
      intro i hi hno
      obtain ⟨x, hx⟩ : ∃ x, ks[i]? = some x := ⟨ks[i]'(by omega), List.getElem?_eq_getElem (by omega)⟩
      have g1 := (h4 i x hx).1
      refine b_Mo_slotOf_2 hcr (by omega) (bf (by omega) ⟨by omega, ?_⟩)
      rw [Int.toNat_natCast, g1]
      refine ⟨fun e => ?_, fun e => ?_⟩
      · refine ih (i + 1) (by omega) (fun j y hj hy => ?_)
        by_cases z : j = i
        · subst z; rw [hx] at hy; cases hy; exact e
        · exact hno j y (by omega) hy
      · subst e
        have hm : x ∈ ks := List.mem_of_getElem? hx
        have e1 : nxK ks x = ks := by unfold nxK; rw [if_pos hm]
        have e2 : curR ks P x = P x := by unfold curR; rw [if_pos hm]
        have hq := q1 (fun z => z.1 hm) i M (FrI.rf M) rfl
        rw [e1, e2, upd_same] at hq
        exact hq hx ⟨h1, h2, h3, h4⟩
  exact i_Mo_slotOf (b_Mo_slotOf_0 hcr (loop ks.length 0 (by omega) (fun j x hj => by omega)))
end MI
