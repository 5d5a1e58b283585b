/-! ===== resultOf, the induction ===== -/
section RS2
variable {g : Ctx}
theorem kC_find {M0 M : Mem} {Q : Int → Mem → Prop} {o : Nat} {a l v : Int} (hC : CSt M0 o a l) (hw : WT M0) (hF : FrI scC M0 M) (hv : InR v) (h : Q (m1F (noM M0 v)) M) : K_Rc_find g 33 (gP M 258 0) v M Q := by
  have hC1 := hC.fr hw hF
  have hR1 := scC_rw hF
  have h12 := hC1.1.names
  have hz := hC1.1.size
  rw [hC1.2.1]
  refine k_Rc_find hC1.1.pres hv (by omega) (by omega) ?_
  rw [hC1.1.no, show noF (gI M 532) v (gI M 530 2).toNat = noM M0 v from hR1.no v]
  exact h
theorem rs_62 {M0 : Mem} {o : Nat} {a l : Int} (hC : CSt M0 o a l) (hw : WT M0) :
    ∀ (f lev dep x4 m k : Nat) (lk em : Int) (M : Mem) (Q : Int → Mem → Prop), FrI scC M0 M → gI M 258 4 = lk → gI M 258 5 = em → gI M 258 6 = 0 → (m : Int) < gI M0 530 2 → (k : Int) ≤ gI M0 533 m → 9 * (11 - lk) + (9 - (k : Int)) ≤ f → lev + dep = 12 → (dep : Int) ≤ lk → (x4 : Int) ≤ lk → lk ≤ 10 → 0 ≤ em → em ≤ 2 → (dep = 0 → gI M 258 7 = -4 ∧ gI M 258 8 = -4) → (∀ M' : Mem, CEnd M0 M dep (evR M0 o a l f m k lk em) M' → Q (evR M0 o a l f m k lk em).1 M') →
      P_Ev_resultOf g 33 lev 62 [(0, vr g 258), (2, vi (dep : Int)), (3, vi (m : Int)), (4, vi (x4 : Int)), (5, vr g (gP M0 (gP M0 0 1 + 1) m)), (6, vi (k : Int))] [] M Q := by
  have hWf := hC.1.wf
  intro f
  induction f with
  | zero => intro lev dep x4 m k lk em M Q _ _ _ _ hm hk hf _ _ _ hl1; have := (hWf.2 m hm).2.1; omega
  | succ f ih =>
    intro lev dep x4 m k lk em M Q hF h4 h5 h6 hm hk hf hlev hdep hx4 hl1 he0 he1 hdec q
    have hC1 := hC.fr hw hF
    have hR1 := scC_rw hF
    have h12 := hWf.1
    have hd := hC.1.dom hm
    have hj := hWf.2 m hm
    have hm1 : (m : Int) < gI M 530 2 := by rw [hR1.1]; exact hm
    obtain ⟨_, _, y5, _, _, y6, _⟩ := (hC1.1.mdom hm1).1
    rw [show gP M (gP M 0 1 + 1) m = gP M0 (gP M0 0 1 + 1) m by rw [hF.p, hF.p], hR1.2 533 _ (by omega) (by omega)] at y5
    rw [show gP M (gP M 0 1 + 1) m = gP M0 (gP M0 0 1 + 1) m by rw [hF.p, hF.p], hR1.2 534 _ (by omega) (by omega)] at y6
    have dsc : ∀ j, ¬ scC (gP M0 (gP M0 0 1 + 1) m) j := fun j => by
      obtain ⟨b, qq, hb, hq, e⟩ := hd
      rw [e]; unfold scC
      rcases hb with rfl | rfl <;> omega
    -- an error that ends the check, in the memory M1
    have ovr : ∀ (M1 : Mem) (lk' em' : Int), FrI scC M0 M1 → gI M1 258 4 = lk' → gI M1 258 5 = em' → gI M1 258 6 = 1 → (gI M1 258 7 = gI M 258 7 ∧ gI M1 258 8 = gI M 258 8) → (∀ M' : Mem, CEnd M0 M dep (5, lk', em', -4, -4) M' → Q 5 M') → Q 5 M1 := by
      intro M1 lk' em' hF1 t4 t5 t6 t78 qq
      refine qq M1 ⟨hF1, t4, t5, by rw [if_pos rfl]; exact t6, fun z => ?_, fun _ => t78⟩
      rw [t78.1, t78.2]; exact hdec z
    unfold evR at q
    refine b_Ev_resultOf_62 (by omega) (by omega) (by omega) hd (by omega) ⟨fun c => bt h6 ⟨fun c2 => ?_, fun c2 => ?_⟩, fun c => bnf h6 ⟨by omega, ?_⟩⟩
    · rw [y5] at c
      rw [y6] at c2
      rw [if_pos (by omega), if_neg c2] at q
      refine k_Ev_lookUp h4 h6 (by omega) (fun c3 _ _ => ?_) (fun c3 _ _ => bnf rfl ?_)
      · rw [if_neg (by omega)] at q
        generalize hM1 : sI M 258 4 (lk + 1) = M1
        have hF1 : FrI scC M0 M1 := hM1 ▸ hF.tr (FrI.st (Or.inl ⟨rfl, by omega⟩))
        have nx : ∀ b j, ¬ (b = 258 ∧ j = 4) → gI M1 b j = gI M b j := fun b j z => by rw [← hM1, gI_ne _ _ _ _ _ _ z]
        have t4 : gI M1 258 4 = lk + 1 := by rw [← hM1, gI_same]
        have hC2 := hC.fr hw hF1
        have e6 : gI M1 (gP M0 (gP M0 0 1 + 1) m) 6 = gI M0 534 m := by rw [nx _ _ (fun z => dsc 4 (by unfold scC; omega))]; exact y6
        refine bnt (by omega) ⟨by rw [hC2.2.1]; exact hC2.1.pres, ?_⟩
        rw [e6]
        refine kC_find hC hw hF1 (by omega) (fun _ _ => ?_)
        have e44 : ((x4 : Int) + 1) = ((x4 + 1 : Nat) : Int) := by omega
        rw [e44]
        refine rs_15 hC hw hF1 (by omega) (by omega) (fun _ z => by omega) (fun z _ => ?_) (fun n en hn hn0 => ?_)
        · rw [if_pos z] at q
          refine ovr _ (lk + 1) em (hF1.tr (FrI.st (Or.inl ⟨rfl, by omega⟩))) ?_ ?_ (gI_same _ _ _ _) ?_ q
          · rw [gI_ne _ _ _ _ _ _ (by omega)]; exact t4
          · rw [gI_ne _ _ _ _ _ _ (by omega), nx _ _ (by omega)]; exact h5
          · rw [gI_ne _ _ _ _ _ _ (by omega), gI_ne _ _ _ _ _ _ (by omega), nx _ _ (by omega), nx _ _ (by omega)]; exact ⟨rfl, rfl⟩
        · rw [en, if_neg (by rw [bdN_iff, Int.toNat_natCast]; omega), Int.toNat_natCast] at q
          refine ih lev dep (x4 + 1) n 0 (lk + 1) em M1 Q hF1 t4 (by rw [nx _ _ (by omega)]; exact h5) (by rw [nx _ _ (by omega)]; exact h6) hn (hWf.2 n hn).2.1.1 (by omega) hlev (by omega) (by omega) (by omega) he0 he1 (fun z => by rw [nx _ _ (by omega), nx _ _ (by omega)]; exact hdec z) (fun M' hE => q M' ?_)
          obtain ⟨w1, w2, w3, w4, w5, w6⟩ := hE
          rw [nx _ _ (by omega), nx _ _ (by omega)] at w6
          exact ⟨w1, w2, w3, w4, w5, w6⟩
      · rw [if_pos (by omega)] at q
        refine ovr _ (lk + 1) em (hF.tr (FrI.tr (FrI.st (Or.inl ⟨rfl, by omega⟩)) (FrI.st (Or.inl ⟨rfl, by omega⟩)))) ?_ ?_ (gI_same _ _ _ _) ?_ q
        · rw [gI_ne _ _ _ _ _ _ (by omega), gI_same]
        · rw [gI_ne _ _ _ _ _ _ (by omega), gI_ne _ _ _ _ _ _ (by omega)]; exact h5
        · rw [gI_ne _ _ _ _ _ _ (by omega), gI_ne _ _ _ _ _ _ (by omega), gI_ne _ _ _ _ _ _ (by omega), gI_ne _ _ _ _ _ _ (by omega)]; exact ⟨rfl, rfl⟩
    · rw [y5] at c
      rw [y6] at c2
      rw [if_pos (by omega), if_pos c2] at q
      exact q M ⟨hF, h4, h5, by rw [if_neg (by dsimp only; omega)]; exact h6, fun z => hdec z, fun _ => ⟨rfl, rfl⟩⟩
    · rw [y5] at c
      have hk' : (k : Int) < gI M0 533 m := by omega
      rw [if_neg (by omega)] at q
      rw [show gP M (gP M0 (gP M0 0 1 + 1) m + 2) ((k : Int).toNat) = gP M0 (gP M0 (gP M0 0 1 + 1) m + 2) k by rw [hF.p, Int.toNat_natCast]]
      have nxt : ∀ (M1 : Mem) (lk' em' : Int), FrI scC M0 M1 → gI M1 258 4 = lk' → gI M1 258 5 = em' → gI M1 258 6 = 0 → (gI M1 258 7 = gI M 258 7 ∧ gI M1 258 8 = gI M 258 8) → lk ≤ lk' → lk' ≤ 10 → 0 ≤ em' → em' ≤ 2 → (∀ M' : Mem, CEnd M0 M dep (evR M0 o a l f m (k + 1) lk' em') M' → Q (evR M0 o a l f m (k + 1) lk' em').1 M') → P_Ev_resultOf g 33 lev 62 [(0, vr g 258), (2, vi (dep : Int)), (3, vi (m : Int)), (4, vi (x4 : Int)), (5, vr g (gP M0 (gP M0 0 1 + 1) m)), (6, vi ((k : Int) + 1))] [] M1 Q := by
        intro M1 lk' em' hF1 t4 t5 t6 t78 a1 a2 a3 a4 qq
        have e1 : ((k : Int) + 1) = ((k + 1 : Nat) : Int) := by omega
        rw [e1]
        refine ih lev dep x4 m (k + 1) lk' em' M1 Q hF1 t4 t5 t6 hm (by omega) (by omega) hlev (by omega) (by omega) a2 a3 a4 (fun z => by rw [t78.1, t78.2]; exact hdec z) (fun M' hE => qq M' ?_)
        obtain ⟨w1, w2, w3, w4, w5, w6⟩ := hE
        rw [t78.1, t78.2] at w6
        exact ⟨w1, w2, w3, w4, w5, w6⟩
      have ovx : ∀ (M1 : Mem) (lk' em' : Int), FrI scC M0 M1 → gI M1 258 4 = lk' → gI M1 258 5 = em' → gI M1 258 6 = 1 → (gI M1 258 7 = gI M 258 7 ∧ gI M1 258 8 = gI M 258 8) → (∀ M' : Mem, CEnd M0 M dep (5, lk', em', -4, -4) M' → Q 5 M') → P_Ev_resultOf g 33 lev 62 [(0, vr g 258), (2, vi (dep : Int)), (3, vi (m : Int)), (4, vi (x4 : Int)), (5, vr g (gP M0 (gP M0 0 1 + 1) m)), (6, vi ((k : Int) + 1))] [] M1 Q := fun M1 lk' em' f1 t4 t5 t6 t78 qq => rs_over (by omega) (by omega) (by omega) hd (by omega) (by omega) (ovr M1 lk' em' f1 t4 t5 t6 t78 qq)
      have hsg := sgA_rng hWf hm hk'
      have dcd : ∀ (M1 : Mem) (lk' em' : Int), FrI scC M0 M1 → gI M1 258 4 = lk' → gI M1 258 5 = em' → gI M1 258 6 = 0 → (gI M1 258 7 = gI M 258 7 ∧ gI M1 258 8 = gI M 258 8) → (∀ M' : Mem, CEnd M0 M dep (sgA M0 m k, lk', em', (m : Int), (k : Int)) M' → Q (sgA M0 m k) M') → K_Ev_decide g 33 m k dep M1 (fun r24 M25 => InR r24 → WT M25 → Q r24 M25) := by
        intro M1 lk' em' hF1 t4 t5 t6 t78 qq
        refine k_Ev_decide hC hw hm hk' (by omega) hF1 (fun z => qq M1 ⟨hF1, t4, t5, by rw [if_neg (by dsimp only; omega)]; exact t6, fun z' => absurd z' z, fun _ => t78⟩) (fun z => qq _ ⟨hF1.tr (FrI.tr (FrI.st (Or.inl ⟨rfl, by omega⟩)) (FrI.st (Or.inl ⟨rfl, by omega⟩))), ?_, ?_, ?_, fun _ => ⟨?_, ?_⟩, fun z' => absurd z z'⟩)
        · rw [gI_ne _ _ _ _ _ _ (by omega), gI_ne _ _ _ _ _ _ (by omega)]; exact t4
        · rw [gI_ne _ _ _ _ _ _ (by omega), gI_ne _ _ _ _ _ _ (by omega)]; exact t5
        · rw [if_neg (by dsimp only; omega), gI_ne _ _ _ _ _ _ (by omega), gI_ne _ _ _ _ _ _ (by omega)]; exact t6
        · rw [gI_ne _ _ _ _ _ _ (by omega), gI_same]
        · rw [gI_same]
      have hfr := fitK_rng M0 o a l m (rlA M0 m k) ((hj.2.2.2.2.2.2 k hk').2.2.1).1
      refine k_Ev_matches hC hw hm hk' hF h4 h5 h6 (by omega) (by omega) (by omega) (fun ck _ _ => ?_) (fun ck cl _ _ => ?_) (fun ck cl => ?_) (fun ck cl => ?_)
      · rw [if_neg (by omega), if_pos ck] at q
        refine ⟨fun c3 => ?_, fun c3 => ?_⟩
        · rw [if_neg (by omega)] at q
          exact nxt M lk em hF h4 h5 h6 ⟨rfl, rfl⟩ (by omega) (by omega) (by omega) (by omega) q
        · rw [if_pos (by omega)] at q
          exact dcd M lk em hF h4 h5 h6 ⟨rfl, rfl⟩ q
      · have q5 : ∀ M' : Mem, CEnd M0 M dep (5, lk + 1, em, -4, -4) M' → Q 5 M' := by
          by_cases ck2 : gI M0 537 (rlA M0 m k) = 2
          · rw [if_pos ck2, if_pos cl] at q; exact q
          · rw [if_neg ck2, if_neg (by omega), if_pos cl] at q; exact q
        refine bz0 (ovx _ (lk + 1) em ((st4_fr hF).tr (FrI.st (Or.inl ⟨rfl, by omega⟩))) ?_ ?_ (gI_same _ _ _ _) ?_ q5)
        · rw [gI_ne _ _ _ _ _ _ (by omega), gI_same]
        · rw [gI_ne _ _ _ _ _ _ (by omega), gI_ne _ _ _ _ _ _ (by omega)]; exact h5
        · rw [gI_ne _ _ _ _ _ _ (by omega), gI_ne _ _ _ _ _ _ (by omega), gI_ne _ _ _ _ _ _ (by omega), gI_ne _ _ _ _ _ _ (by omega)]; exact ⟨rfl, rfl⟩
      · rw [if_pos ck, if_neg (by omega)] at q
        obtain ⟨lev', rfl⟩ : ∃ lev', lev = lev' + 1 := ⟨lev - 1, by omega⟩
        have hru : isRul (gP M0 (gP M0 (gP M0 0 1 + 1) m + 2) k) := hw.rul hd (by omega)
        obtain ⟨_, _, _, m4⟩ := (hC.1.mdom hm).2.2.1 k hk'
        have e40 : gI M0 (gP M0 (gP M0 (gP M0 0 1 + 1) m + 2) k) 4 = gI M0 540 (rlA M0 m k) ∧ 0 ≤ gI M0 540 (rlA M0 m k) ∧ gI M0 540 (rlA M0 m k) < 410338673 := m4.2.2.2.1 (by show 2 ≤ gI M0 537 (rlA M0 m k); omega) (by show gI M0 537 (rlA M0 m k) ≤ 4; omega)
        generalize hM1 : sI M 258 4 (lk + 1) = M1
        have hF1 : FrI scC M0 M1 := hM1 ▸ st4_fr hF
        have nx : ∀ b j, ¬ (b = 258 ∧ j = 4) → gI M1 b j = gI M b j := fun b j z => by rw [← hM1, gI_ne _ _ _ _ _ _ z]
        have t4 : gI M1 258 4 = lk + 1 := by rw [← hM1, gI_same]
        have t5 : gI M1 258 5 = em := by rw [nx _ _ (by omega)]; exact h5
        have t6 : gI M1 258 6 = 0 := by rw [nx _ _ (by omega)]; exact h6
        have hC2 := hC.fr hw hF1
        have e4 : gI M1 (gP M0 (gP M0 (gP M0 0 1 + 1) m + 2) k) 4 = gI M0 540 (rlA M0 m k) := by rw [hF1.i (rul_sc hru (Or.inl rfl) _)]; exact e40.1
        refine i_Ev_includeMatches (b_Ev_includeMatches_0 hru (by omega) ⟨by rw [hC2.2.1]; exact hC2.1.pres, ?_⟩)
        rw [e4]
        refine kC_find hC hw hF1 (by omega) (fun hir _ => ?_)
        rw [show ((dep : Int) + 1) = ((dep + 1 : Nat) : Int) by omega]
        refine i_Ev_resultOf (b_Ev_resultOf_0 hir (by omega) (bt (by omega) ?_))
        refine rs_15 (x4 := 0) hC hw hF1 (by omega) (by omega) (fun z _ _ _ => ?_) (fun _ z => absurd rfl z) (fun n en hn hn0 => ?_)
        · rw [if_pos z] at q
          refine bnf rfl (fun _ _ => bz0 (ovx _ (lk + 1) em (hF1.tr (FrI.st (Or.inl ⟨rfl, by omega⟩))) ?_ ?_ (gI_same _ _ _ _) ?_ q))
          · rw [gI_ne _ _ _ _ _ _ (by omega)]; exact t4
          · rw [gI_ne _ _ _ _ _ _ (by omega)]; exact t5
          · rw [gI_ne _ _ _ _ _ _ (by omega), gI_ne _ _ _ _ _ _ (by omega), nx _ _ (by omega), nx _ _ (by omega)]; exact ⟨rfl, rfl⟩
        · rw [en, if_neg (by rw [bdN_iff, Int.toNat_natCast]; omega), Int.toNat_natCast] at q
          refine ih lev' (dep + 1) 0 n 0 (lk + 1) em M1 _ hF1 t4 t5 t6 hn (hWf.2 n hn).2.1.1 (by omega) (by omega) (by omega) (by omega) (by omega) he0 he1 (fun z => by omega) (fun M' hE _ _ => ?_)
          obtain ⟨w1, w2, w3, w4, _, w6⟩ := hE
          have w78 := w6 (by omega)
          rw [nx _ _ (by omega), nx _ _ (by omega)] at w78
          have ok := evR_ok hWf o a l f n 0 (lk + 1) em hn (hWf.2 n hn).2.1.1 (by omega) (by omega) he0 he1
          generalize evR M0 o a l f n 0 (lk + 1) em = R at *
          by_cases c5 : R.1 = 5
          · rw [if_pos c5] at q w4
            exact ⟨fun _ => bnt (by omega) (fun _ _ => bz0 (ovx M' R.2.1 R.2.2.1 w1 w2 w3 w4 w78 q)), fun z => by omega⟩
          · rw [if_neg c5] at q w4
            obtain ⟨r1, r2, r3⟩ := ok c5
            refine ⟨fun _ => bnf w4 ⟨fun c2 => ?_, fun c2 => ?_⟩, fun z => by omega⟩
            · rw [if_neg c2] at q
              exact fun _ _ => bz0 (nxt M' R.2.1 R.2.2.1 w1 w2 w3 w4 w78 (by omega) (by omega) (by omega) (by omega) q)
            · rw [if_pos c2] at q
              exact fun _ _ => bz1 (dcd M' R.2.1 R.2.2.1 w1 w2 w3 w4 w78 q)
      · rw [if_neg (by omega), if_neg (by omega), if_neg (by omega)] at q
        have key : ∀ M' : Mem, FrI fEm (sI M 258 4 (lk + 1)) M' → FrI scC M0 M' ∧ gI M' 258 4 = lk + 1 ∧ (gI M' 258 7 = gI M 258 7 ∧ gI M' 258 8 = gI M 258 8) := fun M' f1 => ⟨(st4_fr hF).tr (fEm_sc f1), by rw [f1.i (by unfold fEm; omega), gI_same], by rw [f1.i (by unfold fEm; omega), gI_ne _ _ _ _ _ _ (by omega)], by rw [f1.i (by unfold fEm; omega), gI_ne _ _ _ _ _ _ (by omega)]⟩
        refine ⟨fun c2 M' f1 f2 f3 _ _ => ?_, fun c2 M' f1 f2 f3 _ _ => ?_⟩
        · obtain ⟨w1, w2, w78⟩ := key M' f1
          rw [if_neg c2] at q
          refine ⟨fun c3 => ?_, fun c3 => ?_⟩
          · rw [if_neg (by omega)] at q
            exact nxt M' (lk + 1) em w1 w2 f2 f3 w78 (by omega) (by omega) (by omega) (by omega) q
          · rw [if_pos (by omega)] at q
            exact dcd M' (lk + 1) em w1 w2 f2 f3 w78 q
        · obtain ⟨w1, w2, w78⟩ := key M' f1
          rw [if_pos c2] at q
          by_cases c3 : 2 ≤ em
          · rw [if_pos c3] at q f3
            exact bz0 (ovx M' (lk + 1) (em + 1) w1 w2 f2 f3 w78 q)
          · rw [if_neg c3] at q f3
            exact bz0 (nxt M' (lk + 1) (em + 1) w1 w2 f2 f3 w78 (by omega) (by omega) (by omega) (by omega) q)
end RS2
