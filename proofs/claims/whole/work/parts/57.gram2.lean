/-! ===== the grammar's equations ===== -/
section GE
variable {t : Nat → Int} {L : Nat}
theorem pol_r {f k p : Nat} (h : 0 < k ∧ t p = 114) : polP t (f + 1) k p = (nameP t (p + 1)).map (fun r => (([], r.1), r.2)) := by
  unfold polP
  rw [if_pos h]
  cases nameP t (p + 1) <;> rfl
theorem pol_8 {f k p : Nat} (h : ¬ (0 < k ∧ t p = 114)) (h8 : k = 8) : polP t (f + 1) k p = none := by
  unfold polP
  rw [if_neg h, if_pos h8]
theorem pol_n {f k p : Nat} (h : ¬ (0 < k ∧ t p = 114)) (hn : rulP t p = none) : polP t (f + 1) k p = none := by
  unfold polP
  rw [if_neg h, hn]
  split <;> rfl
theorem pol_c {f k p : Nat} {r : RuP × Nat} (h : ¬ (0 < k ∧ t p = 114)) (h8 : k ≠ 8) (hr : rulP t p = some r) (hc : t r.2 = 44) : polP t (f + 1) k p = (polP t f (k + 1) (r.2 + 1)).map (fun s => ((r.1 :: s.1.1, s.1.2), s.2)) := by
  generalize hX : polP t f (k + 1) (r.2 + 1) = X
  unfold polP
  rw [if_neg h, if_neg h8, hr]
  dsimp only
  rw [if_pos hc, hX]
  cases X <;> rfl
theorem pol_e {f k p : Nat} {r : RuP × Nat} (h : ¬ (0 < k ∧ t p = 114)) (h8 : k ≠ 8) (hr : rulP t p = some r) (hc : t r.2 ≠ 44) : polP t (f + 1) k p = some (([r.1], 0), r.2) := by
  unfold polP
  rw [if_neg h, if_neg h8, hr]
  dsimp only
  rw [if_neg hc]
theorem hst_n {f p : Nat} (h : numP t 255 p = none) : hstP t (f + 1) p = none := by unfold hstP; rw [h]
theorem hst_c {f p : Nat} {r : Int × Nat} (h : numP t 255 p = some r) (hc : t r.2 = 44) : hstP t (f + 1) p = (hstP t f (r.2 + 1)).map (fun s => (r.1 :: s.1, s.2)) := by
  generalize hX : hstP t f (r.2 + 1) = X
  unfold hstP
  rw [h]
  dsimp only
  rw [if_pos hc, hX]
  cases X <;> rfl
theorem hst_e {f p : Nat} {r : Int × Nat} (h : numP t 255 p = some r) (hc : t r.2 ≠ 44) : hstP t (f + 1) p = some ([r.1], r.2) := by
  unfold hstP
  rw [h]
  dsimp only
  rw [if_neg hc]
theorem exc_n {f p : Nat} (h : nameP t p = none) : excP t (f + 1) p = none := by unfold excP; rw [h]
theorem exc_c {f p : Nat} {r : Int × Nat} (h : nameP t p = some r) (hc : t r.2 = 44) : excP t (f + 1) p = (excP t f (r.2 + 1)).map (fun s => (r.1 :: s.1, s.2)) := by
  generalize hX : excP t f (r.2 + 1) = X
  unfold excP
  rw [h]
  dsimp only
  rw [if_pos hc, hX]
  cases X <;> rfl
theorem exc_e {f p : Nat} {r : Int × Nat} (h : nameP t p = some r) (hc : t r.2 ≠ 44) : excP t (f + 1) p = some ([r.1], r.2) := by
  unfold excP
  rw [h]
  dsimp only
  rw [if_neg hc]
theorem rul_n {p : Nat} (h : sgnV (t p) = -4) : rulP t p = none := by unfold rulP; rw [if_pos h]
theorem rul_0 {p : Nat} (hs : sgnV (t p) ≠ -4) (c : t (p + 1) = 97) : rulP t p = some ((sgnV (t p), 0, 0, 0, 0, []), p + 2) := by unfold rulP; rw [if_neg hs, if_pos c]
theorem rul_1n {p : Nat} (hs : sgnV (t p) ≠ -4) (c : t (p + 1) = 112) (h : numP t 255 (p + 2) = none) : rulP t p = none := by unfold rulP; rw [if_neg hs, if_neg (by omega), if_pos c, h]
theorem rul_1s {p : Nat} {s : Int × Nat} (hs : sgnV (t p) ≠ -4) (c : t (p + 1) = 112) (h : numP t 255 (p + 2) = some s) (hc : t s.2 ≠ 47) : rulP t p = none := by
  unfold rulP; rw [if_neg hs, if_neg (by omega), if_pos c, h]; dsimp only; rw [if_neg hc]
theorem rul_1m {p : Nat} {s : Int × Nat} (hs : sgnV (t p) ≠ -4) (c : t (p + 1) = 112) (h : numP t 255 (p + 2) = some s) (hc : t s.2 = 47) : rulP t p = (numP t 8 (s.2 + 1)).map (fun s2 => ((sgnV (t p), 1, s.1, s2.1, 0, []), s2.2)) := by
  unfold rulP; rw [if_neg hs, if_neg (by omega), if_pos c, h]; dsimp only; rw [if_pos hc]
  cases numP t 8 (s.2 + 1) <;> rfl
theorem rul_5n {p : Nat} (hs : sgnV (t p) ≠ -4) (c : t (p + 1) = 101) (h : macP t 8 (p + 2) = none) : rulP t p = none := by unfold rulP; rw [if_neg hs, if_neg (by omega), if_neg (by omega), if_pos c, h]
theorem rul_5z {p : Nat} {s : List Int × Nat} (hs : sgnV (t p) ≠ -4) (c : t (p + 1) = 101) (h : macP t 8 (p + 2) = some s) (hz : s.1 = []) : rulP t p = none := by
  unfold rulP; rw [if_neg hs, if_neg (by omega), if_neg (by omega), if_pos c, h]; dsimp only; rw [if_pos hz]
theorem rul_5m {p : Nat} {s : List Int × Nat} (hs : sgnV (t p) ≠ -4) (c : t (p + 1) = 101) (h : macP t 8 (p + 2) = some s) (hz : s.1 ≠ []) : rulP t p = some ((sgnV (t p), 5, 0, 0, 0, s.1), s.2) := by
  unfold rulP; rw [if_neg hs, if_neg (by omega), if_neg (by omega), if_pos c, h]; dsimp only; rw [if_neg hz]
def kdV (x : Int) : Int := if x = 105 then 2 else if x = 104 then 3 else 4
theorem rul_k {p : Nat} (hs : sgnV (t p) ≠ -4) (c : t (p + 1) = 105 ∨ t (p + 1) = 104 ∨ t (p + 1) = 109) : rulP t p = (nameP t (p + 2)).map (fun s => ((sgnV (t p), kdV (t (p + 1)), 0, 0, s.1, []), s.2)) := by
  unfold rulP; rw [if_neg hs, if_neg (by omega), if_neg (by omega), if_neg (by omega), if_pos c]
  cases nameP t (p + 2) <;> rfl
theorem rul_x {p : Nat} (hs : sgnV (t p) ≠ -4) (c : t (p + 1) ≠ 97 ∧ t (p + 1) ≠ 112 ∧ t (p + 1) ≠ 101 ∧ t (p + 1) ≠ 105 ∧ t (p + 1) ≠ 104 ∧ t (p + 1) ≠ 109) : rulP t p = none := by
  unfold rulP; rw [if_neg hs, if_neg c.1, if_neg c.2.1, if_neg c.2.2.1, if_neg (by omega)]
/-- a part, as both sides number it -/
def okPa (p : Int) : Prop := (0 ≤ p ∧ p < 16) ∨ ∃ s u f : Int, (0 ≤ s ∧ s ≤ 3) ∧ (u = 0 ∨ u = 1) ∧ (0 ≤ f ∧ f ≤ 7) ∧ p = 16 + s + 4 * u + 8 * f
def okC (c : Int) : Prop := ∃ n, vcode c n
def okRu (R : RuP) : Prop := (0 ≤ R.1 ∧ R.1 ≤ 3) ∧ (0 ≤ R.2.1 ∧ R.2.1 ≤ 5) ∧ (R.2.1 = 1 → (0 ≤ R.2.2.1 ∧ R.2.2.1 ≤ 255) ∧ (0 ≤ R.2.2.2.1 ∧ R.2.2.2.1 ≤ 8)) ∧ (2 ≤ R.2.1 → R.2.1 ≤ 4 → okC R.2.2.2.2.1) ∧ (R.2.1 = 5 → 1 ≤ R.2.2.2.2.2.length ∧ R.2.2.2.2.2.length ≤ 8)
theorem macP_ok (hT : TxT t L) : ∀ (f p : Nat) (s : List Int × Nat), p ≤ L → macP t f p = some s → s.1.length ≤ f ∧ s.2 ≤ L ∧ p ≤ s.2 ∧ sepT (t s.2) := by
  intro f
  induction f with
  | zero =>
    intro p s hp h
    unfold macP at h
    by_cases c : sepT (t p)
    · rw [if_pos c] at h; cases h; exact ⟨Nat.le_refl _, hp, Nat.le_refl _, c⟩
    · rw [if_neg c] at h; cases h
  | succ f ih =>
    intro p s hp h
    unfold macP at h
    by_cases c : sepT (t p)
    · rw [if_pos c] at h; cases h; exact ⟨Nat.zero_le _, hp, Nat.le_refl _, c⟩
    · rw [if_neg c] at h
      cases hq : prtP t p with
      | none => rw [hq] at h; cases h
      | some r =>
        rw [hq] at h
        have o := prtP_ok hT hq
        dsimp only at h
        cases hm : macP t f r.2 with
        | none => rw [hm] at h; cases h
        | some s2 =>
          rw [hm] at h
          cases h
          obtain ⟨i1, i2, i3, i4⟩ := ih r.2 s2 o.2.1 hm
          exact ⟨by simp; omega, i2, by show p ≤ s2.2; omega, i4⟩
theorem rulP_ok (hT : TxT t L) {p : Nat} {r : RuP × Nat} (h : rulP t p = some r) : okRu r.1 ∧ r.2 ≤ L ∧ p < r.2 := by
  have sr := sgnV_rng (t p)
  by_cases hs : sgnV (t p) = -4
  · rw [rul_n hs] at h; cases h
  have hp := hT.in (p := p) (fun z => hs (by rw [z]; rfl))
  by_cases c0 : t (p + 1) = 97
  · rw [rul_0 hs c0] at h
    cases h
    have := hT.in (p := p + 1) (by omega)
    refine ⟨⟨by dsimp only; omega, by dsimp only; omega, fun z => ?_, fun z => ?_, fun z => ?_⟩, by show p + 2 ≤ L; omega, by show p < p + 2; omega⟩ <;> (dsimp only at z; omega)
  by_cases c1 : t (p + 1) = 112
  · have := hT.in (p := p + 1) (by omega)
    cases hn : numP t 255 (p + 2) with
    | none => rw [rul_1n hs c1 hn] at h; cases h
    | some s =>
      by_cases hc : t s.2 = 47
      · rw [rul_1m hs c1 hn hc] at h
        cases hm : numP t 8 (s.2 + 1) with
        | none => rw [hm] at h; cases h
        | some s2 =>
          rw [hm] at h
          cases h
          have o1 := numP_ok hT hn
          have o2 := numP_ok hT hm
          refine ⟨⟨by dsimp only; omega, by dsimp only; omega, fun _ => by dsimp only; omega, fun z => ?_, fun z => ?_⟩, by dsimp only; omega, by dsimp only; omega⟩ <;> (dsimp only at z; omega)
      · rw [rul_1s hs c1 hn hc] at h; cases h
  by_cases c5 : t (p + 1) = 101
  · have := hT.in (p := p + 1) (by omega)
    cases hn : macP t 8 (p + 2) with
    | none => rw [rul_5n hs c5 hn] at h; cases h
    | some s =>
      by_cases hz : s.1 = []
      · rw [rul_5z hs c5 hn hz] at h; cases h
      · rw [rul_5m hs c5 hn hz] at h
        cases h
        have o1 := macP_ok hT 8 (p + 2) s (by omega) hn
        have : s.1.length ≠ 0 := fun z => hz (List.length_eq_zero_iff.mp z)
        refine ⟨⟨by dsimp only; omega, by dsimp only; omega, fun z => ?_, fun z => ?_, fun _ => by dsimp only; omega⟩, by dsimp only; omega, by dsimp only; omega⟩ <;> (dsimp only at z ⊢; omega)
  by_cases ck : t (p + 1) = 105 ∨ t (p + 1) = 104 ∨ t (p + 1) = 109
  · rw [rul_k hs ck] at h
    cases hn : nameP t (p + 2) with
    | none => rw [hn] at h; cases h
    | some s =>
      rw [hn] at h
      cases h
      have o := nameP_ok hT hn
      have kb : 2 ≤ kdV (t (p + 1)) ∧ kdV (t (p + 1)) ≤ 4 := by unfold kdV; split; omega; split <;> omega
      refine ⟨⟨by dsimp only; omega, by dsimp only; omega, fun z => ?_, fun _ _ => o.1, fun z => ?_⟩, by dsimp only; omega, by dsimp only; omega⟩ <;> (dsimp only at z; omega)
  · rw [rul_x hs (by omega)] at h; cases h
theorem polP_ok (hT : TxT t L) : ∀ (f k p : Nat) (s : (List RuP × Int) × Nat), f + k = 9 → polP t f k p = some s → (s.1.1.length + k ≤ 8 ∧ (∀ x ∈ s.1.1, okRu x) ∧ (k = 0 → s.1.1 ≠ [])) ∧ (s.1.2 = 0 ∨ okC s.1.2) ∧ s.2 ≤ L ∧ p < s.2 := by
  intro f
  induction f with
  | zero => intro k p s hf h; cases h
  | succ f ih =>
    intro k p s hf h
    by_cases c : 0 < k ∧ t p = 114
    · rw [pol_r c] at h
      cases hn : nameP t (p + 1) with
      | none => rw [hn] at h; cases h
      | some r =>
        rw [hn] at h
        cases h
        have o := nameP_ok hT hn
        exact ⟨⟨by simp; omega, fun x hx => (by cases hx), fun z => by omega⟩, Or.inr o.1, o.2.1, by dsimp only; omega⟩
    · by_cases c8 : k = 8
      · rw [pol_8 c c8] at h; cases h
      · cases hr : rulP t p with
        | none => rw [pol_n c hr] at h; cases h
        | some r =>
          have o := rulP_ok hT hr
          by_cases hc : t r.2 = 44
          · rw [pol_c c c8 hr hc] at h
            cases hm : polP t f (k + 1) (r.2 + 1) with
            | none => rw [hm] at h; cases h
            | some s2 =>
              rw [hm] at h
              cases h
              obtain ⟨⟨i1, i2, _⟩, i4, i5, i6⟩ := ih (k + 1) (r.2 + 1) s2 (by omega) hm
              refine ⟨⟨by simp; omega, fun x hx => ?_, fun _ z => by cases z⟩, i4, i5, by dsimp only; omega⟩
              rcases List.mem_cons.mp hx with rfl | hx
              · exact o.1
              · exact i2 x hx
          · rw [pol_e c c8 hr hc] at h
            cases h
            refine ⟨⟨by simp; omega, fun x hx => ?_, fun _ z => by cases z⟩, Or.inl rfl, o.2.1, o.2.2⟩
            rcases List.mem_cons.mp hx with rfl | hx
            · exact o.1
            · cases hx
theorem hstP_ok (hT : TxT t L) : ∀ (f p : Nat) (s : List Int × Nat), hstP t f p = some s → s.1.length ≤ f ∧ s.2 ≤ L ∧ p < s.2 := by
  intro f
  induction f with
  | zero => intro p s h; cases h
  | succ f ih =>
    intro p s h
    cases hn : numP t 255 p with
    | none => rw [hst_n hn] at h; cases h
    | some r =>
      have o := numP_ok hT hn
      by_cases hc : t r.2 = 44
      · rw [hst_c hn hc] at h
        cases hm : hstP t f (r.2 + 1) with
        | none => rw [hm] at h; cases h
        | some s2 =>
          rw [hm] at h
          cases h
          have := ih (r.2 + 1) s2 hm
          exact ⟨by simp; omega, this.2.1, by dsimp only; omega⟩
      · rw [hst_e hn hc] at h
        cases h
        exact ⟨by simp, o.2.2.2.1, o.2.2.2.2⟩
theorem excP_ok (hT : TxT t L) : ∀ (f p : Nat) (s : List Int × Nat), excP t f p = some s → s.1.length ≤ f ∧ (∀ x ∈ s.1, okC x) ∧ s.2 ≤ L ∧ p < s.2 := by
  intro f
  induction f with
  | zero => intro p s h; cases h
  | succ f ih =>
    intro p s h
    cases hn : nameP t p with
    | none => rw [exc_n hn] at h; cases h
    | some r =>
      have o := nameP_ok hT hn
      by_cases hc : t r.2 = 44
      · rw [exc_c hn hc] at h
        cases hm : excP t f (r.2 + 1) with
        | none => rw [hm] at h; cases h
        | some s2 =>
          rw [hm] at h
          cases h
          have := ih (r.2 + 1) s2 hm
          refine ⟨by simp; omega, fun x hx => ?_, this.2.2.1, by dsimp only; omega⟩
          rcases List.mem_cons.mp hx with rfl | hx
          · exact o.1
          · exact this.2.1 x hx
      · rw [exc_e hn hc] at h
        cases h
        refine ⟨by simp, fun x hx => ?_, o.2.1, o.2.2.1⟩
        rcases List.mem_cons.mp hx with rfl | hx
        · exact o.1
        · cases hx
def okRe (R : ReP) : Prop := (R.1.length ≤ 8 ∧ ∀ x ∈ R.1, okRu x) ∧ (R.2.1 = 0 ∨ okC R.2.1) ∧ R.2.2.1.length ≤ 4 ∧ R.2.2.2.length ≤ 3 ∧ ∀ x ∈ R.2.2.2, okC x
theorem empR_ok : okRe empR := ⟨⟨Nat.zero_le _, fun x hx => by cases hx⟩, Or.inl rfl, Nat.zero_le _, Nat.zero_le _, fun x hx => by cases hx⟩
theorem itmB_ok (hT : TxT t L) {x : Int} {p : Nat} {u : (ReP → ReP) × Nat} (h : itmB t x p = some u) : (∀ R, okRe R → okRe (u.1 R)) ∧ u.2 ≤ L ∧ p < u.2 := by
  unfold itmB at h
  by_cases c : x = 110
  · rw [if_pos c] at h
    cases hn : polP t 9 0 p with
    | none => rw [hn] at h; cases h
    | some r =>
      rw [hn] at h
      cases h
      obtain ⟨⟨a1, a2, _⟩, a3, a4, a5⟩ := polP_ok hT 9 0 p r rfl hn
      exact ⟨fun R hR => ⟨⟨by dsimp only; omega, a2⟩, a3, hR.2.2⟩, a4, a5⟩
  · rw [if_neg c] at h
    by_cases c2 : x = 97
    · rw [if_pos c2] at h
      cases hn : hstP t 4 p with
      | none => rw [hn] at h; cases h
      | some r =>
        rw [hn] at h
        cases h
        obtain ⟨a1, a4, a5⟩ := hstP_ok hT 4 p r hn
        exact ⟨fun R hR => ⟨hR.1, hR.2.1, a1, hR.2.2.2⟩, a4, a5⟩
    · rw [if_neg c2] at h
      by_cases c3 : x = 120
      · rw [if_pos c3] at h
        cases hn : excP t 3 p with
        | none => rw [hn] at h; cases h
        | some r =>
          rw [hn] at h
          cases h
          obtain ⟨a1, a2, a4, a5⟩ := excP_ok hT 3 p r hn
          exact ⟨fun R hR => ⟨hR.1, hR.2.1, hR.2.2.1, a1, a2⟩, a4, a5⟩
      · rw [if_neg c3] at h; cases h
end GE
