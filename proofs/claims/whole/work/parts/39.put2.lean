/-! ===== putPart ===== -/
theorem prt_rev {M : Mem} {o m used : Nat} {a l p x5 : Int} (hx : x5 = 0 ∨ x5 = 1) (hx1 : x5 = 1 ↔ isTu p = true) (hu : dropN p (srcT M o a l m p).length + used = (srcT M o a l m p).length) : (if x5 = 0 then (srcT M o a l m p).reverse else srcT M o a l m p).take used = (prtT M o a l m p).reverse := by
  have e : (if x5 = 0 then (srcT M o a l m p).reverse else srcT M o a l m p) = (turnT p (srcT M o a l m p)).reverse := by
    unfold turnT
    by_cases q : isTu p = true
    · rw [if_pos q, if_neg (by have := hx1.mpr q; omega), List.reverse_reverse]
    · rw [if_neg q, if_pos (by rcases hx with z | z; exact z; exact absurd (hx1.mp z) q)]
  rw [e, List.take_reverse, turnT_len]
  unfold prtT
  rw [show (srcT M o a l m p).length - used = dropN p (srcT M o a l m p).length by omega]
section PP2
variable {g : Ctx}
theorem k_Ev_putPart {M0 M : Mem} {Q : Mem → Prop} {o m : Nat} {a l p q : Int} {s : List Int} (hC : CSt M0 o a l) (hw : WT M0) (hm : (m : Int) < gI M0 530 2) (hP : PartR q p) (hF : FrI scC M0 M) (hs : okL s) (hM : MkIs M 259 s) (h : ∀ M' : Mem, FrI (atO 259) M M' → MkIs M' 259 (s ++ (prtT M0 o a l m p).reverse) → Q M') : K_Ev_putPart g 33 q (gP M0 (gP M0 0 1 + 1) m) M Q := by
  have hC1 := hC.fr hw hF
  have hR1 := scC_rw hF
  have ed : gP M (gP M 0 1 + 1) m = gP M0 (gP M0 0 1 + 1) m := by rw [hF.p, hF.p]
  have hp0 : 0 ≤ p := hP.ok.1
  obtain ⟨_, ⟨nm, vm, _⟩, _⟩ := (hC.1.mdom hm).1
  obtain ⟨_, ⟨no, vo, _⟩, _⟩ := (hC.1.mdom hC.2.2.1).1
  have hl7 := srcT_len (a := a) (l := l) (p := p) ⟨_, vo⟩ ⟨_, vm⟩
  have hq0 : 0 ≤ q ∧ q < 65536 := by rcases hP with z | ⟨s, t, f, z⟩ <;> omega
  have e4 : jshr q 4 = srcQ q := by have := jshrN (k := 4) hq0.1 hq0.2 (by omega); exact this
  have e1 : jshr q 1 = q / 2 := by have := jshrN (k := 1) hq0.1 hq0.2 (by omega); exact this
  have e7 : jand (q / 2) 7 = q / 2 % 8 := jand7 (by omega) (by omega)
  have ej : jand q 1 = q % 2 := jand1 hq0.1 hq0.2
  -- the flags of the part
  have hfl : (q % 2 = 1 ↔ isTu p = true) ∧ ((q / 2 % 8).toNat = figN p) := by
    rcases hP with ⟨a1, a2, a3⟩ | ⟨s, t, f, b1, b2, b3, b4, b5⟩
    · refine ⟨⟨fun z => by omega, fun z => ?_⟩, ?_⟩
      · unfold isTu at z; rw [decide_eq_true_iff] at z; omega
      · unfold figN; rw [if_neg (by omega)]; omega
    · have f1 : q % 2 = t := by rcases b2 with rfl | rfl <;> omega
      have f2 : q / 2 % 8 = f := by rcases b2 with rfl | rfl <;> omega
      have f4 : p / 4 = 4 + t + 2 * f := by rw [b4, show 16 + s + 4 * t + 8 * f = s + 4 * (4 + t + 2 * f) by omega, Int.add_mul_ediv_left _ _ (by decide), Int.ediv_eq_zero_of_lt (by omega) (by omega)]; omega
      have f3 : p / 4 % 2 = t := by rw [f4]; rcases b2 with rfl | rfl <;> omega
      refine ⟨?_, ?_⟩
      · unfold isTu; rw [decide_eq_true_iff, f1, f3]; omega
      · rw [f2]; unfold figN; rw [if_pos (by omega)]; rcases b2 with rfl | rfl <;> omega
  have go : ∀ (x5 : Int) (used : Nat), (x5 = 0 ∨ x5 = 1) → (x5 = 1 ↔ isTu p = true) → dropN p (srcT M0 o a l m p).length + used = (srcT M0 o a l m p).length → P_Ev_putPart g 33 56 [(0, vr g 258), (2, vr g (gP M0 (gP M0 0 1 + 1) m)), (3, vi (srcQ q)), (5, vi x5), (6, vi ((srcT M0 o a l m p).length : Nat)), (7, vi (used : Int)), (8, vi 0)] [] M Q := by
    intro x5 used hx hx1 hu
    refine pp_loop hC hw hm hP hp0 hx (by omega) used 0 M s (by omega) hF hs hM (fun M' hF' hM' => h M' hF' ?_)
    rw [List.drop_zero, prt_rev hx hx1 hu] at hM'
    exact hM'
  refine i_Ev_putPart (b_Ev_putPart_0 (by omega) (hC.1.dom hm) ?_)
  rw [ej, e4, e1, e7]
  have hfin : ∀ x5 : Int, (x5 = 0 ∨ x5 = 1) → (x5 = 1 ↔ isTu p = true) → K_Ev_sizeOf g 33 (srcQ q) (gP M0 (gP M0 0 1 + 1) m) M (fun r2 M3 => InR r2 → WT M3 → (((¬ (q / 2 % 8) = 0) → P_Ev_putPart g 33 56 [(0, vr g 258), (2, vr g (gP M0 (gP M0 0 1 + 1) m)), (3, vi (srcQ q)), (5, vi x5), (6, vi r2), (7, vi (if r2 < (q / 2 % 8) then r2 else (q / 2 % 8))), (8, vi 0)] [] M3 Q) ∧ (((q / 2 % 8) = 0) → P_Ev_putPart g 33 56 [(0, vr g 258), (2, vr g (gP M0 (gP M0 0 1 + 1) m)), (3, vi (srcQ q)), (5, vi x5), (6, vi r2), (7, vi r2), (8, vi 0)] [] M3 Q))) := by
    intro x5 hx hx1
    rw [← ed]
    refine k_Ev_sizeOf (p := p) hC1 (by rw [hR1.1]; exact hm) hP (fun _ _ => ?_)
    rw [ed, hR1.src]
    refine ⟨fun c => ?_, fun c => ?_⟩
    · by_cases c2 : (((srcT M0 o a l m p).length : Nat) : Int) < q / 2 % 8
      · rw [if_pos c2]
        exact go x5 _ hx hx1 (by unfold dropN; rw [if_neg (by omega)]; omega)
      · rw [if_neg c2]
        have := go x5 (q / 2 % 8).toNat hx hx1 (by unfold dropN; rw [hfl.2]; split <;> omega)
        rw [Int.toNat_of_nonneg (by omega)] at this
        exact this
    · exact go x5 _ hx hx1 (by unfold dropN; rw [if_neg (by omega)]; omega)
  exact ⟨fun c => hfin 0 (Or.inl rfl) ⟨fun z => by omega, fun z => absurd (hfl.1.mpr z) c⟩, fun c => hfin 1 (Or.inr rfl) ⟨fun _ => hfl.1.mp c, fun _ => rfl⟩⟩
end PP2
