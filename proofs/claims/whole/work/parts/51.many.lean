/-! ===== many, dead ===== -/
def cntA (M : Mem) (o : Nat) (l x : Int) : Nat → Int
  | 0 => 0
  | n + 1 => if (evT M o n l).1 = x then cntA M o l x n + 1 else cntA M o l x n
theorem cntA_bd (M : Mem) (o : Nat) (l x : Int) : ∀ n : Nat, 0 ≤ cntA M o l x n ∧ cntA M o l x n ≤ n
  | 0 => ⟨Int.le_refl _, Int.le_refl _⟩
  | n + 1 => by
    have := cntA_bd M o l x n
    unfold cntA
    split <;> omega
theorem scM_rel {M M' : Mem} (h : FrI scM M M') (hR : Rel M) (hw : WT M) : Rel M' := hR.fr hw (fun a k q => h.i (by unfold scM; unfold dTx dAll dKp dHs at q; omega)) (fun a k _ => h.p a k)
def dedB (M : Mem) (o : Nat) (l : Int) : Nat → Int32
  | 0 => 0
  | n + 1 => if (evT M o n l).2.2.2.1 = o then dedB M o l n ||| (Int32.ofInt 1 <<< (Int32.ofInt (evT M o n l).2.2.2.2 &&& 31)) else dedB M o l n
theorem i32_nor (a b c : Int32) : (a &&& (b ^^^ Int32.ofInt (-1))) &&& (c ^^^ Int32.ofInt (-1)) = a &&& ((b ||| c) ^^^ Int32.ofInt (-1)) := by
  rw [← Int32.toBitVec_inj]
  have e : (Int32.ofInt (-1)).toBitVec = BitVec.allOnes 32 := by decide
  simp only [Int32.toBitVec_and, Int32.toBitVec_or, Int32.toBitVec_xor, e, BitVec.xor_allOnes]
  ext i hi
  simp only [BitVec.getElem_and, BitVec.getElem_or, BitVec.getElem_not]
  generalize a.toBitVec[i] = x
  generalize b.toBitVec[i] = y
  generalize c.toBitVec[i] = z
  cases x <;> cases y <;> cases z <;> rfl
theorem i32_ones (a : Int32) : a &&& Int32.ofInt (-1) = a := by
  rw [← Int32.toBitVec_inj]
  have e : (Int32.ofInt (-1)).toBitVec = BitVec.allOnes 32 := by decide
  simp only [Int32.toBitVec_and, e, BitVec.and_allOnes]
theorem i32_z (a : Int32) : a &&& ((0 : Int32) ^^^ Int32.ofInt (-1)) = a := by
  rw [show ((0 : Int32) ^^^ Int32.ofInt (-1)) = Int32.ofInt (-1) from by decide, i32_ones]
section MN
variable {g : Ctx} {M : Mem}
theorem j_many {p0 p1 p2 : Int} (hR : Rel M) (h0 : InR p0) (h1 : InR p1) (h2 : InR p2) : K_Sr_many g 33 p0 p1 p2 M (fun r M1 => WT M1 → K_Mo_many g p0 p1 p2 M1 (fun r' M2 => WT M2 → r = r' ∧ Rel M2)) := by
  have hn := hR.names
  have hs := hR.size
  have bad : (p0 < 0 ∨ gI M 530 2 ≤ p0 ∨ p1 < 0 ∨ 16 ≤ p1 ∨ p2 < 0 ∨ 5 < p2) → K_Mo_many g p0 p1 p2 M (fun r' M2 => WT M2 → -1 = r' ∧ Rel M2) := fun hb =>
    i_Mo_many (b_Mo_many_0 h0 h1 h2 (k_Mo_isName h0 (by omega) (by omega) (fun _ _ _ _ => bz1 (k_Mo_isIn h1 (by omega) (by omega) (fun _ _ _ _ => bz1 (k_Mo_isIn h2 (by omega) (by omega) (fun _ _ _ _ => by omega) (fun _ _ _ => bnf rfl (fun _ => ⟨rfl, hR⟩)))) (fun _ _ _ => bz0 (fun _ => ⟨rfl, hR⟩)))) (fun _ _ _ => bz0 (fun _ => ⟨rfl, hR⟩))))
  refine i_Sr_many (w_wt (fun hw => b_Sr_many_0 h0 h1 h2 (k_Sr_isKnown h0 hR.pres (fun a0 b0 _ _ => bz1 (k_Sr_isLetter h1 (fun a1 b1 _ _ => bz1 ⟨fun z _ => bad (by omega), fun z => ⟨fun z2 => ?_, fun z2 _ => bad (by omega)⟩⟩) (fun z _ _ => bz0 (fun _ => bad (by omega))))) (fun z _ _ => bz0 (fun _ => bad (by omega))))))
  obtain ⟨o, rfl⟩ : ∃ o : Nat, p0 = o := ⟨p0.toNat, by omega⟩
  have ho : (o : Int) < gI M 530 2 := by omega
  have mo : ∀ (N : Mem) (Q : Int → Mem → Prop), RwE M N → (∀ M' : Mem, FrI scM N M' → Q (cntA M o p1 p2 256) M') → K_Mo_many g o p1 p2 N Q := by
    intro N Q hrw q
    have hwf := hR.wf.fr hrw
    have n2 : gI N 530 2 = gI M 530 2 := hrw.1
    have loop : ∀ (w i : Nat) (M1 : Mem), i + w = 256 → FrI scM N M1 → P_Mo_many g 35 [(0, vr g 530), (1, vi (o : Int)), (2, vi p1), (3, vi p2), (4, vi (cntA M o p1 p2 i)), (5, vi (i : Int))] [] M1 Q := by
      intro w
      induction w with
      | zero =>
        intro i M1 hi hF
        have hb := cntA_bd M o p1 p2 i
        have hi' : i = 256 := by omega
        subst hi'
        exact b_Mo_many_35 h0 h1 h2 (by omega) (by omega) (bt (by omega) (q M1 hF))
      | succ w ih =>
        intro i M1 hi hF
        have hb := cntA_bd M o p1 p2 i
        have hr1 := scM_rw hF
        refine b_Mo_many_35 h0 h1 h2 (by omega) (by omega) (bf (by omega) (k_Mo_goes (hwf.fr hr1) (by rw [hr1.1]; omega) (by omega) (by omega) (fun M2 hF2 _ _ _ _ _ _ => ?_)))
        have := ih (i + 1) M2 (by omega) (hF.tr hF2)
        rw [cntA] at this
        rw [evT_fr hr1, evT_fr hrw, Int.add_zero]
        refine ⟨fun z => ?_, fun z => ?_⟩
        · rw [if_neg z] at this; exact this
        · rw [if_pos z] at this; exact this
    exact i_Mo_many (b_Mo_many_0 h0 h1 h2 (k_Mo_isName h0 (by omega) (by omega) (fun _ _ _ _ => bz1 (k_Mo_isIn h1 (by omega) (by omega) (fun _ _ _ _ => bz1 (k_Mo_isIn h2 (by omega) (by omega) (fun _ _ _ _ => bnt (by decide) (loop 256 0 N (by omega) (FrI.rf N))) (fun _ => by omega))) (fun _ => by omega))) (fun _ => by omega)))
  have loop : ∀ (w i : Nat) (M1 : Mem), i + w = 256 → FrV M M1 → P_Sr_many g 33 32 [(0, vr g 0), (1, vi (o : Int)), (2, vi p1), (3, vi p2), (4, vi (cntA M o p1 p2 i)), (5, vi (i : Int))] [] M1 (fun r M1 => WT M1 → K_Mo_many g o p1 p2 M1 (fun r' M2 => WT M2 → r = r' ∧ Rel M2)) := by
    intro w
    induction w with
    | zero =>
      intro i M1 hi hV
      have hb := cntA_bd M o p1 p2 i
      have hi' : i = 256 := by omega
      subst hi'
      exact b_Sr_many_32 h0 h1 h2 (by omega) (by omega) (bt (by omega) (fun hw1 => mo M1 _ hV.rw (fun M2 hF _ => ⟨rfl, scM_rel hF (hV.rel hR hw) hw1⟩)))
    | succ w ih =>
      intro i M1 hi hV
      have hb := cntA_bd M o p1 p2 i
      have hR1 := hV.rel hR hw
      have n2 := hV.rw.1
      refine b_Sr_many_32 h0 h1 h2 (by omega) (by omega) (bf (by omega) ⟨hR1.pres, k_Ev_evaluate hR1 (by omega) (by omega) (by omega) (fun M2 hV2 _ _ _ _ _ _ _ _ => ?_)⟩)
      have := ih (i + 1) M2 (by omega) (hV.tr hV2)
      rw [cntA] at this
      rw [evT_fr hV.rw]
      refine ⟨fun z => ?_, fun z => ?_⟩
      · rw [if_neg z] at this; exact this
      · rw [if_pos z] at this; exact this
  exact loop 256 0 M (by omega) (FrV.rf M)
theorem j_dead {p0 p1 : Int} (hR : Rel M) (h0 : InR p0) (h1 : InR p1) : K_Sr_dead g 33 p0 p1 M (fun r M1 => WT M1 → K_Mo_dead g p0 p1 M1 (fun r' M2 => WT M2 → r = r' ∧ Rel M2)) := by
  have hn := hR.names
  have hs := hR.size
  have bad : (p0 < 0 ∨ gI M 530 2 ≤ p0 ∨ p1 < 0 ∨ 16 ≤ p1) → K_Mo_dead g p0 p1 M (fun r' M2 => WT M2 → -1 = r' ∧ Rel M2) := fun hb =>
    i_Mo_dead (b_Mo_dead_0 h0 h1 (k_Mo_isName h0 (by omega) (by omega) (fun _ _ _ _ => bz1 (k_Mo_isIn h1 (by omega) (by omega) (fun _ _ _ _ => by omega) (fun _ _ _ => bnf rfl (fun _ => ⟨rfl, hR⟩)))) (fun _ _ _ => bz0 (fun _ => ⟨rfl, hR⟩))))
  refine i_Sr_dead (w_wt (fun hw => b_Sr_dead_0 h0 h1 ⟨hR.pres, ?_⟩))
  rcases hR.kd p0 with hk | ⟨o, ho, rfl⟩
  · exact k_Rc_domainAt hR.pres h0 (by omega) (fun a b => by omega) (fun _ _ _ => bt rfl (fun _ => bad (by omega)))
  have hd := hR.dom ho
  have m5 := (hR.mdom ho).1.2.2.1
  refine k_Rc_domainAt hR.pres h0 (by omega) (fun _ _ _ _ => ?_) (fun a => by omega)
  rw [Int.toNat_natCast]
  refine bf (nDom hd) (k_Sr_isLetter h1 (fun a1 b1 _ _ => bnt (by decide) ?_) (fun z _ _ => bnf rfl (fun _ => bad (by omega))))
  generalize hS : Int32.ofInt (jshl 1 (gI M 533 o) - 1) = S
  have mo : ∀ (N : Mem) (Q : Int → Mem → Prop), RwE M N → (∀ M' : Mem, FrI scM N M' → Q (S &&& (dedB M o p1 256 ^^^ Int32.ofInt (-1))).toInt M') → K_Mo_dead g o p1 N Q := by
    intro N Q hrw q
    have hwf := hR.wf.fr hrw
    have n2 : gI N 530 2 = gI M 530 2 := hrw.1
    have loop : ∀ (w i : Nat) (M1 : Mem), i + w = 256 → FrI scM N M1 → P_Mo_dead g 34 [(0, vr g 530), (1, vi (o : Int)), (2, vi p1), (3, vi (S &&& (dedB M o p1 i ^^^ Int32.ofInt (-1))).toInt), (4, vi (i : Int))] [] M1 Q := by
      intro w
      induction w with
      | zero =>
        intro i M1 hi hF
        have hi' : i = 256 := by omega
        subst hi'
        exact b_Mo_dead_34 h0 h1 (vi_InR _) (by omega) (bt (by omega) (q M1 hF))
      | succ w ih =>
        intro i M1 hi hF
        have hr1 := scM_rw hF
        refine b_Mo_dead_34 h0 h1 (vi_InR _) (by omega) (bf (by omega) (k_Mo_goes (hwf.fr hr1) (by rw [hr1.1]; omega) (by omega) (by omega) (fun M2 hF2 _ _ t41 t42 _ _ => ?_)))
        have := ih (i + 1) M2 (by omega) (hF.tr hF2)
        rw [dedB] at this
        rw [evT_fr hr1, evT_fr hrw] at t41 t42
        rw [t41, t42]
        refine ⟨fun z => ?_, fun z => ?_⟩
        · rw [if_neg z] at this
          unfold jand
          rw [vi_self, i32_ones]
          exact this
        · rw [if_pos z, ← i32_nor] at this
          unfold jand jxor jshl
          rw [vi_self, vi_self, vi_self]
          exact this
    refine i_Mo_dead (b_Mo_dead_0 h0 h1 (k_Mo_isName h0 (by omega) (by omega) (fun _ _ _ _ => bz1 (k_Mo_isIn h1 (by omega) (by omega) (fun _ _ _ _ => bnt (by decide) ⟨by omega, ?_⟩) (fun _ => by omega))) (fun _ => by omega)))
    have := loop 256 0 N (by omega) (FrI.rf N)
    rw [dedB, i32_z, ← hS] at this
    rw [Int.toNat_natCast, hrw.2 533 _ (by omega) (by omega)]
    unfold vi at this ⊢
    rw [vi_self] at this
    exact this
  have loop : ∀ (w i : Nat) (M1 : Mem), i + w = 256 → FrV M M1 → P_Sr_dead g 33 28 [(0, vr g 0), (1, vi (o : Int)), (2, vi p1), (3, vr g (gP M (gP M 0 1 + 1) o)), (4, vi (dedB M o p1 i).toInt), (5, vi (i : Int))] [] M1 (fun r M1 => WT M1 → K_Mo_dead g o p1 M1 (fun r' M2 => WT M2 → r = r' ∧ Rel M2)) := by
    intro w
    induction w with
    | zero =>
      intro i M1 hi hV
      have hi' : i = 256 := by omega
      subst hi'
      refine b_Sr_dead_28 h0 h1 hd (vi_InR _) (by omega) (bt (by omega) (fun hw1 => mo M1 _ hV.rw (fun M2 hF _ => ⟨?_, scM_rel hF (hV.rel hR hw) hw1⟩)))
      have e5 : gI M1 (gP M (gP M 0 1 + 1) o) 5 = gI M 533 o := by
        rw [hV.1 _ _ (by obtain ⟨b, qq, hb, hq, e⟩ := hd; rw [e]; rcases hb with rfl | rfl <;> omega)]
        exact m5
      rw [e5]
      unfold jand jxor
      rw [hS, vi_self, vi_self]
    | succ w ih =>
      intro i M1 hi hV
      have hR1 := hV.rel hR hw
      have n2 := hV.rw.1
      refine b_Sr_dead_28 h0 h1 hd (vi_InR _) (by omega) (bf (by omega) ⟨hR1.pres, k_Ev_evaluate hR1 (by omega) (by omega) (by omega) (fun M2 hV2 _ _ _ _ t7 t8 _ _ => ?_)⟩)
      have := ih (i + 1) M2 (by omega) (hV.tr hV2)
      rw [dedB] at this
      rw [evT_fr hV.rw] at t7 t8
      rw [t7, t8]
      refine ⟨fun z => ?_, fun z => ?_⟩
      · rw [if_neg z] at this; exact this
      · rw [if_pos z] at this
        unfold jor jshl
        rw [vi_self, vi_self]
        exact this
  exact loop 256 0 M (by omega) (FrV.rf M)
end MN
