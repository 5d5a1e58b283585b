/-! ===== resultOf: the class's check against evR ===== -/
/-- how a check's part ends: its counts, whether it is over -/
def CEnd (M0 M : Mem) (dep : Nat) (R : Int × Int × Int × Int × Int) (M' : Mem) : Prop := FrI scC M0 M' ∧ gI M' 258 4 = R.2.1 ∧ gI M' 258 5 = R.2.2.1 ∧ gI M' 258 6 = (if R.1 = 5 then 1 else 0) ∧ (dep = 0 → gI M' 258 7 = R.2.2.2.1 ∧ gI M' 258 8 = R.2.2.2.2) ∧ (dep ≠ 0 → gI M' 258 7 = gI M 258 7 ∧ gI M' 258 8 = gI M 258 8)
section RS
variable {g : Ctx}
theorem rs_over {M : Mem} {Q : Int → Mem → Prop} {lev d : Nat} {x2 x3 x4 x6 : Int} (hx2 : InR x2) (hx3 : InR x3) (hx4 : InR x4) (hd : isDom d) (hx6 : InR x6) (h6 : gI M 258 6 ≠ 0) (h : Q 5 M) : P_Ev_resultOf g 33 lev 62 [(0, vr g 258), (2, vi x2), (3, vi x3), (4, vi x4), (5, vr g d), (6, vi x6)] [] M Q :=
  b_Ev_resultOf_62 hx2 hx3 hx4 hd hx6 ⟨fun _ => bf h6 h, fun _ => bnt h6 (bf h6 h)⟩
/-- a name is gone to: 15 from the entry and from a redirect -/
theorem rs_15 {M0 M : Mem} {Q : Int → Mem → Prop} {o lev dep x4 : Nat} {a l v : Int} (hC : CSt M0 o a l) (hw : WT M0) (hF : FrI scC M0 M) (hx4 : x4 ≤ 10) (hdep : dep ≤ 20)
    (q0 : bdN M0 (noM M0 v) = true → x4 = 0 → Q 0 M) (q5 : bdN M0 (noM M0 v) = true → x4 ≠ 0 → Q 5 (sI M 258 6 1))
    (q1 : ∀ n : Nat, noM M0 v = n → (n : Int) < gI M0 530 2 → gI M0 533 n ≠ 0 → P_Ev_resultOf g 33 lev 62 [(0, vr g 258), (2, vi (dep : Int)), (3, vi (n : Int)), (4, vi (x4 : Int)), (5, vr g (gP M0 (gP M0 0 1 + 1) n)), (6, vi 0)] [] M Q) :
    P_Ev_resultOf g 33 lev 15 [(0, vr g 258), (2, vi (dep : Int)), (3, vi (m1F (noM M0 v))), (4, vi (x4 : Int))] [] M Q := by
  have hC1 := hC.fr hw hF
  have hR1 := scC_rw hF
  have h12 := hC1.1.names
  have hz := hC1.1.size
  have hrg := noM_rng hC.1.wf v
  have e2 := hR1.1
  have hm1 : m1F (noM M0 v) = -1 ∧ noM M0 v = -4 ∨ m1F (noM M0 v) = noM M0 v ∧ 0 ≤ noM M0 v := by
    unfold m1F
    rcases hrg with z | z
    · rw [if_pos z]; exact Or.inl ⟨rfl, z⟩
    · rw [if_neg (by omega)]; exact Or.inr ⟨rfl, z.1⟩
  rw [bdN_iff] at q0 q5
  refine b_Ev_resultOf_15 (by omega) (by omega) (by omega) (bf (by omega) ⟨by rw [hC1.2.1]; exact hC1.1.pres, ?_⟩)
  rw [hC1.2.1]
  refine k_Rc_domainAt hC1.1.pres (by omega) (by omega) (fun a1 a2 _ _ => ?_) (fun a1 _ _ => bt rfl ⟨fun c => ?_, fun c => ?_⟩)
  · obtain ⟨n, en⟩ : ∃ n : Nat, noM M0 v = n := ⟨(noM M0 v).toNat, by omega⟩
    have hn : (n : Int) < gI M 530 2 := by omega
    have hdm := hC1.1.dom hn
    obtain ⟨_, _, _, _, x3, _⟩ := (hC1.1.mdom hn).1
    have x33 : gI M 533 n = gI M0 533 n := hR1.2 _ _ (by omega) (by omega)
    rw [x33] at x3
    rw [show (m1F (noM M0 v)).toNat = n by omega, show m1F (noM M0 v) = (n : Int) by omega, x3]
    rw [en, Int.toNat_natCast] at q0 q5
    refine bf (nDom hdm) ⟨fun c => ?_, fun c => ⟨fun c2 => ?_, fun c2 => ?_⟩⟩
    · rw [show gP M (gP M 0 1 + 1) n = gP M0 (gP M0 0 1 + 1) n by rw [hF.p, hF.p]]
      exact q1 n en (by omega) (fun z => by rw [if_pos z] at c; exact c rfl)
    · refine i_Ev_endWithError (b_Ev_endWithError_0 (fun _ _ => q5 (Or.inr ?_) (by omega)))
      by_cases z : gI M0 533 n = 0
      · exact z
      · rw [if_neg z] at c; omega
    · refine q0 (Or.inr ?_) (by omega)
      by_cases z : gI M0 533 n = 0
      · exact z
      · rw [if_neg z] at c; omega
  · exact i_Ev_endWithError (b_Ev_endWithError_0 (fun _ _ => q5 (Or.inl (by omega)) (by omega)))
  · exact q0 (Or.inl (by omega)) (by omega)
end RS
