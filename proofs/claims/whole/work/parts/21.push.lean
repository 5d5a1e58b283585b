theorem Sh4.eq {h : Int} {a b c d : Nat} (h1 : Sh4 h a b) (h2 : Sh4 h c d) : a = c ∧ b = d := by
  rcases h1 with q | q <;> rcases h2 with r | r <;> omega
theorem Rel.row {M : Mem} (h : Rel M) : ∀ j : Nat, (j : Int) < gI M 530 2 → RowOk (gI M 533 j) j (nowv M) := fun j hj => MRules.ok (h.mdom hj)
theorem Rel.r8 {M : Mem} (h : Rel M) : ∀ j : Nat, (j : Int) < gI M 530 2 → gI M 533 j ≤ 8 := fun j hj => (h.rcnt hj).2
/-- behind a change, on both sides -/
theorem push_rel {M M1 M2 M3 M4 : Mem} {h0 s j p : Nat} {kd nm pl vl : Int} {V : Nat → Int} (hR : Rel M) (hisCh : ∀ i, i < 4 → ∃ x, x < 4 ∧ gP M 271 i = 272 + x) (c1 : MAll M1 (gP M 0 1) V) (cP : PRec M1 (gP M 0 1)) (a1 : ∀ a k, ¬ (gP M 0 1 ≤ a ∧ a < gP M 0 1 + 254) → gI M1 a k = gI M a k) (p1 : ∀ a k, ¬ (gP M 0 1 ≤ a ∧ a < gP M 0 1 + 254) → gP M1 a k = gP M a k)
    (hs : Sh4 (gI M 270 1) h0 s) (hN : NoteR M1 M2 h0 s kd nm pl vl) (hw2 : WT M2) (hK : KeepR M2 M3 h0 s) (hF : FrI (fun a _ => a = 543) M3 M4) (hV : VEq M (nowv M4) V) (hj : (j : Int) < gI M 530 2) (enm : nm = j) (epl : pl = p) (hc : COk (gI M 533 j) kd p j V) (hcv : kd = 0 → 0 ≤ vl ∧ vl ≤ 3) (hinv : VEq M (undoV kd j p vl V) (nowv M)) : Rel M4 := by
  obtain ⟨n1, n2, n3, n4, n5, n6, n7, n8, n9, n10⟩ := hN
  obtain ⟨k1, k2, k3, k4, k5⟩ := hK
  have hb4 : gP M 0 1 = 4 ∨ gP M 0 1 = 276 := hR.pres
  have hh3 : h0 < 4 := by rcases hs with q | q <;> omega
  have ch1 : ∀ a k, (a < 272 ∨ 276 ≤ a) → ¬ (a = 260 ∧ k = 1) → ¬ (a = 270 ∧ k = 1) → ¬ (a = 530 ∧ (k = 16 ∨ k = 34)) → a ≠ 544 → a ≠ 543 → gI M4 a k = gI M1 a k := fun a k x1 x2 x3 x4 x5 x6 => by
    rw [hF.i x6, k1.i (by omega), n3 a k x1 x2 x3]
  have ch : ∀ a k, ¬ (gP M 0 1 ≤ a ∧ a < gP M 0 1 + 254) → (a < 272 ∨ 276 ≤ a) → ¬ (a = 260 ∧ k = 1) → ¬ (a = 270 ∧ k = 1) → ¬ (a = 530 ∧ (k = 16 ∨ k = 34)) → a ≠ 544 → a ≠ 543 → gI M4 a k = gI M a k := fun a k x0 x1 x2 x3 x4 x5 x6 => (ch1 a k x1 x2 x3 x4 x5 x6).trans (a1 a k x0)
  have cp1 : ∀ a k, a ≠ 271 → gP M4 a k = gP M1 a k := fun a k x => by rw [hF.p, k1.p, n4 a k x]
  have cp : ∀ a k, a ≠ 271 → ¬ (gP M 0 1 ≤ a ∧ a < gP M 0 1 + 254) → gP M4 a k = gP M a k := fun a k x y => (cp1 a k x).trans (p1 a k y)
  have cp2 : ∀ a k, gP M4 a k = gP M2 a k := fun a k => by rw [hF.p, k1.p]
  have e2 : gI M4 530 2 = gI M 530 2 := ch _ _ (by omega) (by omega) (by omega) (by omega) (by omega) (by omega) (by omega)
  have e3 : ∀ k, gI M4 533 k = gI M 533 k := fun k => ch _ _ (by omega) (by omega) (by omega) (by omega) (by omega) (by omega) (by omega)
  have hH := hR.2.2.2.2.2
  have hV4 : VEq M4 V (nowv M4) := hV.sy.fr e2 e3
  refine ⟨hR.1.fr (fun a k q => ?_), ⟨?_, ?_, ?_⟩, hR.2.2.1.fr (fun a k q => cp a k (by omega) (by omega)), ?_, ⟨?_, ?_, fun i hi => ?_⟩, ?_⟩
  · unfold dTx at q
    exact ch a k (by omega) (by omega) (by omega) (by omega) (by omega) (by omega) (by omega)
  · rcases hb4 with e | e
    · rw [← e]; exact cP.fr (fun a k q => cp1 a k (by omega))
    · exact hR.2.1.1.fr (fun a k q => cp a k (by omega) (by omega))
  · rcases hb4 with e | e
    · exact hR.2.1.2.1.fr (fun a k q => cp a k (by omega) (by omega))
    · rw [← e]; exact cP.fr (fun a k q => cp1 a k (by omega))
  · refine ⟨fun i i' hi hi' z => ?_, fun i i' hi hi' z => ?_⟩
    · rw [cp _ _ (by omega) (by omega), cp _ _ (by omega) (by omega)] at z
      exact hR.2.1.2.2.1 i i' hi hi' z
    · rw [cp2, cp2] at z
      exact n5 i i' hi hi' z
  · rw [cp 0 1 (by omega) (by omega)]
    refine MAll.veq (v := V) ?_ hV4
    exact c1.fr cP (fun a k q => by unfold dRc at q; exact ch1 a k (by omega) (by omega) (by omega) (by omega) (by omega) (by omega)) (fun a k q => cp1 a k (by omega))
  · rw [hF.i (by omega), k1.i (by omega), n2, hF.i (by omega), k3]
  · rw [hF.i (by omega), k3]; decide
  · rw [hF.i (by omega), k3] at hi; omega
  · have e16 : gI M4 530 16 = h0 + 1 := by rw [hF.i (by omega), k2]
    have h16 : gI M 270 1 = gI M 530 16 := hH.1
    refine ⟨?_, by rw [e16]; omega, fun i hi => ?_⟩
    · rw [hF.i (by omega), k1.i (by omega), n1, hF.i (by omega), k2]
    · rw [e16] at hi
      have eC : ∀ k, gI M4 (gP M4 271 i) k = gI M2 (gP M2 271 i) k := fun k => by
        obtain ⟨z, hz, ez⟩ := hw2.ch (k := i) (by omega)
        rw [cp2, hF.i (by omega), k1.i (by omega)]
      have f43 : ∀ k, gI M3 543 k = gI M 543 k := fun k => by rw [k1.i (by omega), n3 _ _ (by omega) (by omega) (by omega)]; exact a1 _ _ (by omega)
      have f44 : ∀ k, gI M2 544 k = gI M 544 k := fun k => by rw [n3 _ _ (by omega) (by omega) (by omega)]; exact a1 _ _ (by omega)
      have f43b : ∀ k, gI M2 543 k = gI M 543 k := fun k => by rw [n3 _ _ (by omega) (by omega) (by omega)]; exact a1 _ _ (by omega)
      by_cases ei : i < h0
      · have hi2 : ((i + s : Nat) : Int) < gI M 530 16 := by rcases hs with q | q <;> omega
        obtain ⟨g1, g2⟩ := hH.2.2 (i + s) hi2
        have eC2 : ∀ k, gI M4 (gP M4 271 i) k = gI M (gP M 271 (i + s)) k := fun k => by
          rw [eC, n6 i ei k]
          obtain ⟨z, hz, ez⟩ := hw2.ch (k := i) (by omega)
          rw [p1 271 _ (by omega)]
          have : ∃ x, x < 4 ∧ gP M 271 (i + s) = 272 + x := by
            have e0 := n6 i ei
            by_cases w : s = 0
            · subst w
              have hpp := hR.2.1.2.2
              exact hisCh i (by omega)
            · exact hisCh (i + s) (by rcases hs with q | q <;> omega)
          obtain ⟨x, hx, ex⟩ := this
          exact a1 _ _ (by omega)
        have eat : atv M4 (i + 1) = atv M (i + s + 1) := by
          funext k
          unfold atv
          by_cases hk : k < 252
          · rw [if_pos hk, if_pos hk, e16, if_pos (by omega)]
            rw [hF.i (by omega)]
            by_cases w : i + 1 < h0
            · rw [k4 (i + 1) k w hk, if_pos (by rcases hs with q | q <;> omega), f44, show i + s + 1 = i + 1 + s by omega]
            · rw [show i + 1 = h0 by omega, k5 k hk, f43b, if_neg (by rcases hs with q | q <;> omega)]
          · rw [if_neg hk, if_neg hk]
        have ewa : wasv M4 i = wasv M (i + s) := by
          funext k
          unfold wasv
          by_cases hk : k < 252
          · rw [if_pos hk, if_pos hk, hF.i (by omega), k4 i k ei hk, f44]
          · rw [if_neg hk, if_neg hk]
        rw [eat, ewa]
        refine ⟨?_, ?_⟩
        · unfold ChOk at g1 ⊢
          simp only [eC2, e2, e3]
          exact g1
        · have e9 : undoC M4 (gP M4 271 i) (atv M (i + s + 1)) = undoC M (gP M 271 (i + s)) (atv M (i + s + 1)) := by unfold undoC; simp only [eC2]
          rw [e9]
          exact g2.fr e2 e3
      · have eh : i = h0 := by omega
        subst eh
        have c0 : gI M4 (gP M4 271 i) 0 = kd := by rw [eC]; exact n7
        have cc1 : gI M4 (gP M4 271 i) 1 = j := by rw [eC, n8]; exact enm
        have c2 : gI M4 (gP M4 271 i) 2 = p := by rw [eC, n9]; exact epl
        have c3 : gI M4 (gP M4 271 i) 3 = vl := by rw [eC]; exact n10
        have eat : ∀ k, k < 252 → atv M4 (i + 1) k = nowv M4 k := fun k hk => by unfold atv; rw [if_pos hk, e16, if_neg (by omega)]; rfl
        have ewa : ∀ k, k < 252 → nowv M k = wasv M4 i k := fun k hk => by unfold wasv; rw [if_pos hk, hF.i (by omega), k5 k hk, f43b]; rfl
        have hn := hR.names
        have hVo : ∀ j : Nat, (j : Int) < gI M 530 2 → RowOk (gI M 533 j) j V := fun j hj => MRules.ok (M := M1) (by
          have := c1.2.2.2 j (by rw [a1 _ _ (by omega)]; exact hj)
          exact this) |> fun h => by rw [a1 _ _ (by omega)] at h; exact h
        have hA : VEq M (atv M4 (i + 1)) V := VEq.tr (VEq.of252 hn.2 (fun j' hj' => ⟨hR.r8 j' hj', by rw [eat _ (by omega), (hV j' hj').2.1]; exact (hVo j' hj').1.2⟩) eat) hV
        have hcA : COk (gI M 533 j) kd p j (atv M4 (i + 1)) := by
          have e6 : atv M4 (i + 1) (21 * j + 16) = V (21 * j + 16) := (hA j hj).2.1
          unfold COk at hc ⊢
          rw [e6]
          exact hc
        refine ⟨?_, ?_⟩
        · unfold ChOk
          rw [c0, cc1, c2, c3, e2, Int.toNat_natCast, e3]
          rcases hcA with q | q | q | q
          · exact ⟨by omega, by omega, by omega, fun z => ⟨by omega, hcv z⟩, fun z => by omega, fun z => by omega, fun z => by omega⟩
          · exact ⟨by omega, by omega, by omega, fun z => by omega, fun z => by omega, fun z => by omega, fun z => by omega⟩
          · exact ⟨by omega, by omega, by omega, fun z => by omega, fun z => by omega, fun z => by omega, fun z => by omega⟩
          · exact ⟨by omega, by omega, by omega, fun z => by omega, fun z => by omega, fun z => by omega, fun z => by omega⟩
        · have e9 : undoC M4 (gP M4 271 i) (atv M4 (i + 1)) = undoV kd j p vl (atv M4 (i + 1)) := by unfold undoC; rw [c0, cc1, c2, c3, Int.toNat_natCast, Int.toNat_natCast]
          rw [e9]
          refine VEq.fr (M := M) ?_ e2 e3
          have hAo : ∀ j : Nat, (j : Int) < gI M 530 2 → RowOk (gI M 533 j) j (atv M4 (i + 1)) := fun j' hj' => by
            have ho := hVo j' hj'
            have hA' := hA j' hj'
            exact ⟨by rw [hA'.2.1]; exact ho.1, fun z hz => by rw [(hA'.1 z hz).1]; exact ho.2 z hz⟩
          exact (VEq.undo hR.r8 hAo hj hA hcA).tr (hinv.tr (VEq.of252 hn.2 (fun j' hj' => ⟨hR.r8 j' hj', (hR.row j' hj').1.2⟩) ewa))
