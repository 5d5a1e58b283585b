/-! ===== evaluate: the class's check as a whole ===== -/
theorem evR_fr {M M' : Mem} (h : RwE M M') (o : Nat) (a l : Int) : ∀ (f m k : Nat) (lk em : Int), evR M' o a l f m k lk em = evR M o a l f m k lk em := by
  intro f
  induction f with
  | zero => intro m k lk em; rfl
  | succ f ih =>
    intro m k lk em
    have e1 : ∀ m k, rlA M' m k = rlA M m k := fun m k => by unfold rlA; rw [h.now]
    have e2 : sgA M' m k = sgA M m k := by unfold sgA; rw [h.now, h.now]
    unfold evR
    simp only [ih, e1, e2, h.fit, h.no, bdN_fr h, h.r (a := 533) (by omega) (by omega), h.r (a := 534) (by omega) (by omega), h.r (a := 537) (by omega) (by omega), h.r (a := 540) (by omega) (by omega)]
theorem evT_fr {M M' : Mem} (h : RwE M M') (o : Nat) (a l : Int) : evT M' o a l = evT M o a l := by
  unfold evT
  rw [evR_fr h, h.r (a := 533) (by omega) (by omega)]
/-- only the evaluator's own differ -/
def FrV (M M' : Mem) : Prop := (∀ a k, ¬ (a = 258 ∨ a = 259) → gI M' a k = gI M a k) ∧ ∀ a k, a ≠ 258 → gP M' a k = gP M a k
theorem FrV.rf (M : Mem) : FrV M M := ⟨fun _ _ _ => rfl, fun _ _ _ => rfl⟩
theorem FrV.tr {M M1 M2 : Mem} (h : FrV M M1) (h' : FrV M1 M2) : FrV M M2 := ⟨fun a k q => (h'.1 a k q).trans (h.1 a k q), fun a k q => (h'.2 a k q).trans (h.2 a k q)⟩
theorem FrV.rw {M M' : Mem} (h : FrV M M') : RwE M M' := ⟨h.1 _ _ (by omega), fun a k x y => h.1 _ _ (by omega)⟩
theorem FrV.rel {M M' : Mem} (h : FrV M M') (hR : Rel M) (hw : WT M) : Rel M' := hR.fr hw (fun a k q => h.1 a k (by unfold dTx dAll dKp dHs at q; omega)) (fun a k q => h.2 a k q)
theorem scC_V {M M' : Mem} (h : FrI scC M M') : FrV M M' := ⟨fun a k q => h.i (by unfold scC; omega), fun a k _ => h.p a k⟩
theorem keys_lt {M : Mem} (hR : Rel M) : ∀ (d i : Nat), ((i + d + 1 : Nat) : Int) < gI M 530 2 → gI M 532 i < gI M 532 (i + d + 1)
  | 0, i, h => hR.2.2.2.1.2.2.1 i (by omega)
  | d + 1, i, h => Int.lt_trans (keys_lt hR d i (by omega)) (hR.2.2.2.1.2.2.1 (i + d + 1) (by omega))
theorem noM_key {M : Mem} (hR : Rel M) {o : Nat} (ho : (o : Int) < gI M 530 2) : noM M (gI M 532 o) = o := by
  unfold noM
  refine noF_at (by omega) rfl (fun j hj => ?_)
  have := keys_lt hR (o - j - 1) j (by omega)
  rw [show j + (o - j - 1) + 1 = o by omega] at this
  omega
section EV
variable {g : Ctx} {M : Mem}
theorem k_Ev_evaluate {Q : Int → Mem → Prop} {o : Nat} {a l : Int} (hR : Rel M) (ho : (o : Int) < gI M 530 2) (ha : 0 ≤ a ∧ a < 256) (hl : 0 ≤ l ∧ l ≤ 15) (q : ∀ M' : Mem, FrV M M' → gI M' 258 2 = a → gI M' 258 3 = l → gI M' 258 4 = (evT M o a l).2.1 → gI M' 258 5 = (evT M o a l).2.2.1 → gI M' 258 7 = (evT M o a l).2.2.2.1 → gI M' 258 8 = (evT M o a l).2.2.2.2 → Q (evT M o a l).1 M') : K_Ev_evaluate g 33 (gP M 0 1) o a l M Q := by
  have h12 := hR.names
  have hz := hR.size
  have hpr := hR.pres
  have hne : ∀ v, gP (sP M 258 0 v) (gP M 0 1 + 1) o = gP M (gP M 0 1 + 1) o := fun v => by rw [gP_sP, if_neg (by rcases hpr with e | e <;> omega)]
  refine i_Ev_evaluate (w_wt (fun hw => b_Ev_evaluate_0 hpr (by omega) (by omega) (by omega) (k_Rc_domainAt hpr (by omega) (by rw [gI_sP]; omega) (fun _ _ _ _ => ?_) (fun z => by rw [gI_sP] at z; omega))))
  rw [Int.toNat_natCast, hne]
  generalize hM1 : sI (sI (sI (sI (sI (sI (sI (sP (sP M 258 0 (gP M 0 1)) 258 1 (gP M (gP M 0 1 + 1) o)) 258 2 a) 258 3 l) 258 4 0) 258 5 0) 258 6 0) 258 7 (-4)) 258 8 (-4) = M1
  have i1 : ∀ x k, x ≠ 258 → gI M1 x k = gI M x k := fun x k z => by
    rw [← hM1, gI_ne _ _ _ _ _ _ (by omega), gI_ne _ _ _ _ _ _ (by omega), gI_ne _ _ _ _ _ _ (by omega), gI_ne _ _ _ _ _ _ (by omega), gI_ne _ _ _ _ _ _ (by omega), gI_ne _ _ _ _ _ _ (by omega), gI_ne _ _ _ _ _ _ (by omega), gI_sP, gI_sP]
  have p1 : ∀ x k, x ≠ 258 → gP M1 x k = gP M x k := fun x k z => by
    rw [← hM1]
    simp only [gP_sI, gP_sP]
    rw [if_neg (by omega), if_neg (by omega)]
  have hV : FrV M M1 := ⟨fun x k z => i1 x k (by omega), p1⟩
  have hR1 := hV.rel hR hw
  have hrw := hV.rw
  have ho1 : (o : Int) < gI M1 530 2 := by rw [hrw.1]; exact ho
  have e2 : gI M1 258 2 = a := by rw [← hM1]; rfl
  have e3 : gI M1 258 3 = l := by rw [← hM1]; rfl
  have e4 : gI M1 258 4 = 0 := by rw [← hM1]; rfl
  have e5 : gI M1 258 5 = 0 := by rw [← hM1]; rfl
  have e6 : gI M1 258 6 = 0 := by rw [← hM1]; rfl
  have e7 : gI M1 258 7 = -4 := by rw [← hM1]; rfl
  have e8 : gI M1 258 8 = -4 := by rw [← hM1]; rfl
  have eb : gP M1 0 1 = gP M 0 1 := p1 _ _ (by omega)
  have ed : gP M1 (gP M 0 1 + 1) o = gP M (gP M 0 1 + 1) o := p1 _ _ (by rcases hpr with e | e <;> omega)
  have f0 : gP M1 258 0 = gP M 0 1 := by rw [← hM1]; rfl
  have f1 : gP M1 258 1 = gP M (gP M 0 1 + 1) o := by rw [← hM1]; rfl
  have hC : CSt M1 o a l := ⟨hR1, by rw [f0, eb], ho1, by rw [f1, eb, ed], e2, e3, ha, hl⟩
  have hkey := noM_key hR1 ho1
  have hm1 : m1F (o : Int) = o := by unfold m1F; rw [if_neg (by omega)]
  have eT : evT M o a l = evT M1 o a l := (evT_fr hrw o a l).symm
  refine i_Ev_resultOf (w_wt (fun hw1 => b_Ev_resultOf_0 (by omega) (by omega) (bt (by omega) ?_)))
  have key := rs_15 (g := g) (lev := 12) (dep := 0) (x4 := 0) (v := gI M1 532 o) (Q := fun r12 M13 => InR r12 → WT M13 → Q r12 M13) hC hw1 (FrI.rf M1) (by omega) (by omega) (fun z _ _ _ => ?_) (fun _ z => absurd rfl z) (fun n en hn hn0 => ?_)
  · rw [hkey, hm1] at key
    exact key
  · rw [hkey, bdN_iff, Int.toNat_natCast] at z
    have ee : evT M1 o a l = (0, 0, 0, -4, -4) := by unfold evT; rw [if_pos (by omega)]
    have := q M1 hV
    rw [eT, ee] at this
    exact this e2 e3 e4 e5 e7 e8
  · rw [hkey] at en
    have en' : n = o := by omega
    subst en'
    have ee : evT M1 n a l = evR M1 n a l 120 n 0 0 0 := by unfold evT; rw [if_neg hn0]
    rw [eT, ee] at q
    refine rs_62 hC hw1 120 12 0 0 n 0 0 0 M1 _ (FrI.rf M1) e4 e5 e6 hn (by have := hR1.rcnt hn; omega) (by omega) (by omega) (by omega) (by omega) (by omega) (by omega) (by omega) (fun _ => ⟨e7, e8⟩) (fun M' hE _ _ => ?_)
    obtain ⟨w1, w2, w3, w4, w5, _⟩ := hE
    exact q M' (hV.tr (scC_V w1)) (by rw [w1.i (by unfold scC; omega)]; exact e2) (by rw [w1.i (by unfold scC; omega)]; exact e3) w2 w3 (w5 rfl).1 (w5 rfl).2
end EV
