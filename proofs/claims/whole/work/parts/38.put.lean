/-! ===== putPart, existsMatches ===== -/
theorem jand7 {x : Int} (h0 : 0 ≤ x) (h1 : x < 65536) : jand x 7 = x % 8 := by
  obtain ⟨n, rfl⟩ := Int.eq_ofNat_of_zero_le h0
  unfold jand
  rw [vi_nI, show Int32.ofInt 7 = nI 7 from rfl, nand, show (7 : Nat) = 2 ^ 3 - 1 from rfl, Nat.and_two_pow_sub_one_eq_mod, nI_toInt (by omega)]
  omega
theorem scC_all {M M' : Mem} (h : FrI scC M M') : AgI (fun a k => dTx a k ∨ dAll a k) M M' := fun a k q => h.i (by unfold scC; unfold dTx dAll dKp dHs at q; omega)
theorem CSt.fr {M M' : Mem} {o : Nat} {a l : Int} (h : CSt M o a l) (hw : WT M) (hF : FrI scC M M') : CSt M' o a l := by
  obtain ⟨hR, h0, ho, h1, h2, h3, ha, hl⟩ := h
  refine ⟨hR.fr hw (scC_all hF) (fun a k _ => hF.p a k), ?_, ?_, ?_, ?_, ?_, ha, hl⟩
  · rw [hF.p, hF.p]; exact h0
  · rw [(scC_rw hF).1]; exact ho
  · rw [hF.p, hF.p, hF.p]; exact h1
  · rw [hF.i (by unfold scC; omega)]; exact h2
  · rw [hF.i (by unfold scC; omega)]; exact h3
theorem at259 {M M' : Mem} (h : FrI (atO 259) M M') : FrI scC M M' := h.mono (fun a k q => Or.inr q)
section PP
variable {g : Ctx}
theorem pp_loop {M0 : Mem} {Q : Mem → Prop} {o m : Nat} {a l p q x5 : Int} {used : Nat} (hC : CSt M0 o a l) (hw : WT M0) (hm : (m : Int) < gI M0 530 2) (hP : PartR q p) (hp0 : 0 ≤ p) (hx5 : x5 = 0 ∨ x5 = 1) (hu : used ≤ (srcT M0 o a l m p).length) :
    ∀ (w k : Nat) (M : Mem) (s : List Int), k + w = used → FrI scC M0 M → okL s → MkIs M 259 s → (∀ M' : Mem, FrI (atO 259) M M' → MkIs M' 259 (s ++ ((if x5 = 0 then (srcT M0 o a l m p).reverse else srcT M0 o a l m p).take used).drop k) → Q M') →
      P_Ev_putPart g 33 56 [(0, vr g 258), (2, vr g (gP M0 (gP M0 0 1 + 1) m)), (3, vi (srcQ q)), (5, vi x5), (6, vi ((srcT M0 o a l m p).length : Nat)), (7, vi (used : Int)), (8, vi (k : Int))] [] M Q := by
  obtain ⟨_, ⟨nm, vm, _⟩, _⟩ := (hC.1.mdom hm).1
  obtain ⟨_, ⟨no, vo, _⟩, _⟩ := (hC.1.mdom hC.2.2.1).1
  have hl7 := srcT_len (a := a) (l := l) (p := p) ⟨_, vo⟩ ⟨_, vm⟩
  have hok := srcT_ok (a := a) (p := p) hp0 hC.2.2.2.2.2.2.2 ⟨_, vo⟩ ⟨_, vm⟩
  have hd := hC.1.dom hm
  have hq : InR (srcQ q) := by unfold srcQ; rcases hP with z | ⟨s, t, f, z⟩ <;> omega
  intro w
  induction w with
  | zero =>
    intro k M s hk hF hs hM h
    refine b_Ev_putPart_56 hd hq (by omega) (by omega) (by omega) (by omega) (bt (by omega) ?_)
    have := h M (FrI.rf M)
    rw [List.drop_of_length_le (by rw [List.length_take]; omega), List.append_nil] at this
    exact this hM
  | succ w ih =>
    intro k M s hk hF hs hM h
    have hC1 := hC.fr hw hF
    have hR1 := scC_rw hF
    have ed : gP M (gP M 0 1 + 1) m = gP M0 (gP M0 0 1 + 1) m := by rw [hF.p, hF.p]
    refine b_Ev_putPart_56 hd hq (by omega) (by omega) (by omega) (by omega) (bf (by omega) ⟨fun c => ?_, fun c => ?_⟩)
    · rw [if_pos c] at h
      have hlt : k < (srcT M0 o a l m p).reverse.length := by simp; omega
      have hx := okL_rev hok _ (List.getElem_mem hlt)
      have hlt2 : k < ((srcT M0 o a l m p).reverse.take used).length := by rw [List.length_take]; omega
      rw [← ed]
      refine k_Ev_fromEndOf (p := p) (x := (srcT M0 o a l m p).reverse[k]) hC1 (by rw [hR1.1]; exact hm) hP (by rw [hR1.src]; exact List.getElem?_eq_getElem hlt) (fun _ _ => k_Nm_putBefore (Or.inr rfl) hx hs hM (fun M1 hF1 hM1 _ => ?_))
      rw [ed]
      refine ih (k + 1) M1 _ (by omega) (hF.tr (at259 hF1)) (okL_app hs (okL_cons hx okL_nil)) hM1 (fun M' hF' hM' => h M' (hF1.tr hF') ?_)
      rw [if_pos c, List.append_assoc, List.singleton_append] at hM'
      rw [List.drop_eq_getElem_cons hlt2, List.getElem_take]
      exact hM'
    · rw [if_neg c] at h
      have hlt : k < (srcT M0 o a l m p).length := by omega
      have hx := hok _ (List.getElem_mem hlt)
      have hlt2 : k < ((srcT M0 o a l m p).take used).length := by rw [List.length_take]; omega
      rw [← ed, show (((srcT M0 o a l m p).length : Nat) : Int) - 1 - (k : Int) = (((srcT M0 o a l m p).length - 1 - k : Nat) : Int) by omega]
      refine k_Ev_fromEndOf (p := p) (x := (srcT M0 o a l m p)[k]) hC1 (by rw [hR1.1]; exact hm) hP (by
        rw [hR1.src, List.getElem?_reverse (by omega), show (srcT M0 o a l m p).length - 1 - ((srcT M0 o a l m p).length - 1 - k) = k by omega]
        exact List.getElem?_eq_getElem hlt) (fun _ _ => k_Nm_putBefore (Or.inr rfl) hx hs hM (fun M1 hF1 hM1 _ => ?_))
      rw [ed]
      refine ih (k + 1) M1 _ (by omega) (hF.tr (at259 hF1)) (okL_app hs (okL_cons hx okL_nil)) hM1 (fun M' hF' hM' => h M' (hF1.tr hF') ?_)
      rw [if_neg c, List.append_assoc, List.singleton_append] at hM'
      rw [List.drop_eq_getElem_cons hlt2, List.getElem_take]
      exact hM'
end PP
