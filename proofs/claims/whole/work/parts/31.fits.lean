/-! ===== whether a rule fits: the words of it, on the model's rows, and the model's fits ===== -/
def noM (M : Mem) (v : Int) : Int := noF (gI M 532) v (gI M 530 2).toNat
def hstN (M : Mem) (v : Int) : Int := if v = -4 then 0 else mnow M v.toNat 16
def hasN (M : Mem) (v a : Int) : Bool := if v = -4 then false else hasF (fun k => mnow M v.toNat (17 + k)) a (mnow M v.toNat 16).toNat
def anyE (M : Mem) (n : Nat) (a : Int) : Nat → Bool
  | 0 => false
  | c + 1 => anyE M n a c || hasN M (noM M (gI M 536 (3 * n + c))) a
def mnmN (M : Mem) (o : Nat) (a l : Int) (m r : Nat) : Int := enc7 7 (macT M o a l m r (gI M 541 r).toNat).reverse
/-- 1 fits, 0 doesn't, 2 finds nothing -/
def fitK (M : Mem) (o : Nat) (a l : Int) (m r : Nat) : Int :=
  if gI M 537 r = 0 then 1
  else if gI M 537 r = 1 then (if jshr (jxor a (gI M 538 r)) (8 - gI M 539 r) = 0 then 1 else 0)
  else if gI M 537 r = 4 then (if noM M (gI M 540 r) = -4 ∨ gI M 535 (noM M (gI M 540 r)).toNat = 0 then 2 else if anyE M (noM M (gI M 540 r)).toNat a (gI M 535 (noM M (gI M 540 r)).toNat).toNat = true then 1 else 0)
  else if gI M 537 r = 5 then (if hstN M (noM M (mnmN M o a l m r)) = 0 then 2 else 1)
  else (if hstN M (noM M (gI M 540 r)) = 0 then 2 else if hasN M (noM M (gI M 540 r)) a = true then 1 else 0)
/-- the rows that a check reads are the same -/
def RwE (M M' : Mem) : Prop := gI M' 530 2 = gI M 530 2 ∧ ∀ a k, 532 ≤ a → a ≤ 543 → gI M' a k = gI M a k
theorem RwE.rf (M : Mem) : RwE M M := ⟨rfl, fun _ _ _ _ => rfl⟩
theorem RwE.tr {M M1 M2 : Mem} (h : RwE M M1) (h' : RwE M1 M2) : RwE M M2 := ⟨h'.1.trans h.1, fun a k x y => (h'.2 a k x y).trans (h.2 a k x y)⟩
theorem RwE.r {M M' : Mem} (h : RwE M M') {a : Nat} (x : 532 ≤ a) (y : a ≤ 543) : gI M' a = gI M a := funext (fun k => h.2 a k x y)
theorem RwE.now {M M' : Mem} (h : RwE M M') (n k : Nat) : mnow M' n k = mnow M n k := h.2 543 _ (by omega) (by omega)
theorem RwE.no {M M' : Mem} (h : RwE M M') (v : Int) : noM M' v = noM M v := by unfold noM; rw [h.1, h.r (by omega) (by omega)]
theorem RwE.hst {M M' : Mem} (h : RwE M M') (v : Int) : hstN M' v = hstN M v := by unfold hstN; rw [h.now]
theorem RwE.has {M M' : Mem} (h : RwE M M') (v a : Int) : hasN M' v a = hasN M v a := by
  unfold hasN
  rw [h.now, show (fun k => mnow M' v.toNat (17 + k)) = (fun k => mnow M v.toNat (17 + k)) from funext (fun k => h.now _ _)]
theorem RwE.any {M M' : Mem} (h : RwE M M') (n : Nat) (a : Int) : ∀ c, anyE M' n a c = anyE M n a c
  | 0 => rfl
  | c + 1 => by rw [anyE, anyE, RwE.any h n a c, h.2 536 _ (by omega) (by omega), h.no, h.has]
theorem RwE.src {M M' : Mem} (h : RwE M M') (o : Nat) (a l : Int) (m : Nat) (p : Int) : srcT M' o a l m p = srcT M o a l m p := srcT_fr (fun k => h.2 532 k (by omega) (by omega))
theorem RwE.mac {M M' : Mem} (h : RwE M M') (o : Nat) (a l : Int) (m r : Nat) : ∀ k, macT M' o a l m r k = macT M o a l m r k
  | 0 => rfl
  | k + 1 => by rw [macT, macT, RwE.mac h o a l m r k, h.2 542 _ (by omega) (by omega)]; unfold prtT; rw [h.src]
theorem RwE.mnm {M M' : Mem} (h : RwE M M') (o : Nat) (a l : Int) (m r : Nat) : mnmN M' o a l m r = mnmN M o a l m r := by unfold mnmN; rw [h.2 541 _ (by omega) (by omega), h.mac]
theorem RwE.fit {M M' : Mem} (h : RwE M M') (o : Nat) (a l : Int) (m r : Nat) : fitK M' o a l m r = fitK M o a l m r := by
  unfold fitK
  rw [h.r (a := 537) (by omega) (by omega), h.r (a := 538) (by omega) (by omega), h.r (a := 539) (by omega) (by omega), h.r (a := 540) (by omega) (by omega), h.r (a := 535) (by omega) (by omega), h.no, h.mnm, h.no, h.hst, h.hst, h.has, h.any]
/-- the model's rows are well formed -/
def MWf (M : Mem) : Prop := (1 ≤ gI M 530 2 ∧ gI M 530 2 ≤ 12) ∧ ∀ j : Nat, (j : Int) < gI M 530 2 → (∃ n, vcode (gI M 532 j) n) ∧ (0 ≤ gI M 533 j ∧ gI M 533 j ≤ 8) ∧ (0 ≤ gI M 534 j ∧ gI M 534 j < 410338673) ∧ (0 ≤ gI M 535 j ∧ gI M 535 j ≤ 3) ∧ (∀ k : Nat, (k : Int) < gI M 535 j → 0 ≤ gI M 536 (3 * j + k) ∧ gI M 536 (3 * j + k) < 410338673) ∧ (0 ≤ mnow M j 16 ∧ mnow M j 16 ≤ 4) ∧
  ∀ i : Nat, (i : Int) < gI M 533 j → (0 ≤ mnow M j i ∧ mnow M j i < gI M 533 j) ∧ (0 ≤ mnow M j (8 + (mnow M j i).toNat) ∧ mnow M j (8 + (mnow M j i).toNat) ≤ 3) ∧
    (0 ≤ gI M 537 (8 * j + (mnow M j i).toNat) ∧ gI M 537 (8 * j + (mnow M j i).toNat) ≤ 5) ∧ (2 ≤ gI M 537 (8 * j + (mnow M j i).toNat) → gI M 537 (8 * j + (mnow M j i).toNat) ≤ 4 → 0 ≤ gI M 540 (8 * j + (mnow M j i).toNat) ∧ gI M 540 (8 * j + (mnow M j i).toNat) < 410338673) ∧
    (gI M 537 (8 * j + (mnow M j i).toNat) = 5 → (1 ≤ gI M 541 (8 * j + (mnow M j i).toNat) ∧ gI M 541 (8 * j + (mnow M j i).toNat) ≤ 8) ∧ ∀ p : Nat, (p : Int) < gI M 541 (8 * j + (mnow M j i).toNat) → okP (gI M 542 (8 * (8 * j + (mnow M j i).toNat) + p)))
theorem PartR.ok {q p : Int} (h : PartR q p) : okP p := by
  unfold okP
  rcases h with h | ⟨s, t, f, h⟩ <;> omega
theorem Rel.wf {M : Mem} (h : Rel M) : MWf M := by
  refine ⟨h.names, fun j hj => ?_⟩
  obtain ⟨⟨_, ⟨n, hv, _⟩, _, h3, _, _, h4, _, h5, h6⟩, ⟨_, h7, _⟩, h8, _⟩ := h.mdom hj
  refine ⟨⟨n, hv⟩, h3, h4, h5, fun k hk => (h6 k hk).2, h7, fun i hi => ?_⟩
  obtain ⟨p1, p2, _, p4, p5, _, p7, _, p9⟩ := h8 i hi
  exact ⟨p1, p2, p5, fun x y => (p7 x y).2, fun x => ⟨(p9 x).2.1, fun p hp => ((p9 x).2.2 p hp).ok⟩⟩
theorem MWf.fr {M M' : Mem} (h : MWf M) (e : RwE M M') : MWf M' := by
  unfold MWf
  rw [e.1]
  refine ⟨h.1, fun j hj => ?_⟩
  have := h.2 j hj
  rw [← e.r (a := 532) (by omega) (by omega), ← e.r (a := 533) (by omega) (by omega), ← e.r (a := 534) (by omega) (by omega), ← e.r (a := 535) (by omega) (by omega), ← e.r (a := 536) (by omega) (by omega), ← e.r (a := 537) (by omega) (by omega), ← e.r (a := 540) (by omega) (by omega), ← e.r (a := 541) (by omega) (by omega), ← e.r (a := 542) (by omega) (by omega), show mnow M = mnow M' from funext (fun n => funext (fun k => (e.now n k).symm))] at this
  exact this
theorem noM_rng {M : Mem} (h : MWf M) (v : Int) : noM M v = -4 ∨ (0 ≤ noM M v ∧ noM M v < gI M 530 2) := by
  have := h.1
  rcases noF_cases (gI M 532) v (gI M 530 2).toNat with ⟨e, _⟩ | ⟨i, hi, e, _⟩
  · exact Or.inl e
  · right; unfold noM; rw [e]; omega
section FT
variable {g : Ctx} {M : Mem}
theorem kM_no {Q : Int → Mem → Prop} {v : Int} (h : MWf M) (hv : InR v) (q : Q (noM M v) M) : K_Mo_numberOf g v M Q := k_Mo_numberOf hv (by have := h.1; omega) h.1.2 q
theorem kM_has {Q : Int → Mem → Prop} {v a : Int} (h : MWf M) (ha : InR a) (hv : v = -4 ∨ (0 ≤ v ∧ v < gI M 530 2)) (q : ∀ x : Int, (x = 1 ↔ hasN M v a = true) → (x = 0 ∨ x = 1) → Q x M) : K_Mo_hasHost g v a M Q := by
  have h12 := h.1
  refine k_Mo_hasHost (by omega) ha (fun n e => (h.2 n (by omega)).2.2.2.2.2.1) (fun n e _ t => q 1 ?_ (Or.inr rfl)) (fun c => q 0 ?_ (Or.inl rfl))
  · unfold hasN
    rw [if_neg (by omega), e, Int.toNat_natCast]
    exact ⟨fun _ => t, fun _ => rfl⟩
  · refine ⟨fun e => by omega, fun e => ?_⟩
    unfold hasN at e
    rcases c with c | ⟨n, c, _, t⟩
    · rw [if_pos c] at e; cases e
    · rw [if_neg (by omega), c, Int.toNat_natCast, t] at e; cases e
def mFt (a k : Nat) : Prop := (a = 530 ∧ (k = 39 ∨ k = 40 ∨ k = 47)) ∨ a = 562
theorem mFt_rw {M M' : Mem} (h : FrI mFt M M') : RwE M M' := ⟨h.i (by unfold mFt; omega), fun a k x y => h.i (by unfold mFt; omega)⟩
theorem mLt_ft {M M' : Mem} (h : FrI mLt M M') : FrI mFt M M' := h.mono (fun a k q => by unfold mLt at q; unfold mFt; omega)
/-- what is found empty -/
theorem ft_empty {Q : Int → Mem → Prop} {M1 : Mem} {e : Int} (h4 : gI M1 530 40 = e) (he : 0 ≤ e ∧ e ≤ 10) (h5 : 3 ≤ e + 1 → Q 5 (sI M1 530 40 (e + 1))) (h0 : e + 1 < 3 → Q 0 (sI M1 530 40 (e + 1))) : K_Mo_isEmpty g M1 (fun r4 M5 => (r4 = 0 ∨ r4 = 1) → WT M5 → (((r4 = 0) → Q 5 M5) ∧ ((¬ (r4 = 0)) → Q 0 M5))) := by
  subst h4
  refine k_Mo_isEmpty (by omega) (by omega) (fun c _ _ => ⟨fun _ => h5 c, fun q => absurd rfl q⟩) (fun c _ _ => ⟨fun q => by omega, fun _ => h0 c⟩)
/-- mail: the loop over the exchangers -/
theorem ft_mail {Q : Int → Mem → Prop} {n : Nat} {a e : Int} (h : MWf M) (hn : (n : Int) < gI M 530 2) (ha : InR a) (ea : gI M 530 37 = a) (h0 : gI M 535 n ≠ 0) (q1 : anyE M n a (gI M 535 n).toNat = true → Q 1 M) (q0 : anyE M n a (gI M 535 n).toNat = false → Q 0 M) :
    ∀ (w i : Nat), (i : Int) + w = gI M 535 n → ∀ x4 : Int, (x4 = 0 ∨ x4 = 1) → (x4 = 1 ↔ anyE M n a i = true) → P_Mo_fits g 122 [(0, vr g 530), (2, vi (n : Int)), (3, vi (gI M 535 n)), (4, vi x4), (5, vi (i : Int))] [] M Q := by
  have hj := h.2 n hn
  have h12 := h.1
  intro w
  induction w with
  | zero =>
    intro i hi x4 hx hx1
    refine b_Mo_fits_122 (by omega) (by omega) (by omega) (by omega) (bt (by omega) (bnt h0 ⟨fun c => q0 ?_, fun c => q1 ?_⟩))
    · rw [show (gI M 535 n).toNat = i by omega]
      cases hb : anyE M n a i with
      | false => rfl
      | true => have := hx1.mpr hb; omega
    · rw [show (gI M 535 n).toNat = i by omega]
      exact hx1.mp (by omega)
  | succ w ih =>
    intro i hi x4 hx hx1
    refine b_Mo_fits_122 (by omega) (by omega) (by omega) (by omega) (bf (by omega) ⟨fun c => ?_, fun c => ⟨by omega, ?_⟩⟩)
    · refine ih (i + 1) (by omega) 1 (Or.inr rfl) ⟨fun _ => ?_, fun _ => rfl⟩
      rw [anyE, hx1.mp (by omega), Bool.true_or]
    · have hb : anyE M n a i = false := by
        cases hb : anyE M n a i with
        | false => rfl
        | true => have := hx1.mpr hb; omega
      rw [show (3 * (n : Int) + (i : Int)).toNat = 3 * n + i by omega]
      have hek := hj.2.2.2.2.1 i (by omega)
      refine kM_no h (by omega) (fun _ _ => kM_has h (by omega) (noM_rng h _) (fun x hx2 hx3 _ _ => ⟨fun c2 => ?_, fun c2 => ?_⟩))
      · refine ih (i + 1) (by omega) 0 (Or.inl rfl) ⟨fun z => by omega, fun z => ?_⟩
        rw [anyE, hb, Bool.false_or] at z
        rw [ea] at hx2
        have := hx2.mpr z
        omega
      · refine ih (i + 1) (by omega) 1 (Or.inr rfl) ⟨fun _ => ?_, fun _ => rfl⟩
        rw [anyE, hb, Bool.false_or]
        rw [ea] at hx2
        exact hx2.mp (by omega)
end FT
