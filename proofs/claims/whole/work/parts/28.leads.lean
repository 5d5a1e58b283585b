section LD
variable {g : Ctx} {n : Nat} {M : Mem}
/-- the set of the name with this number, if it has rules -/
def nbS (M : Mem) (v : Int) : Nat := if noF (gI M 532) v (gI M 530 2).toNat = -4 ∨ gI M 533 (noF (gI M 532) v (gI M 530 2).toNat).toNat = 0 then 0 else 2 ^ (noF (gI M 532) v (gI M 530 2).toNat).toNat
def ldA (M : Mem) (m : Nat) (p : Nat → Nat) : Nat → Nat
  | 0 => nbS M (gI M 534 m)
  | k + 1 => ldA M m p k ||| (if gI M 537 (8 * m + p k) = 2 then nbS M (gI M 540 (8 * m + p k)) else 0)
def ldS (M : Mem) (m : Nat) : Nat := if (m : Int) < gI M 530 2 then ldA M m (fun k => k) (gI M 533 m).toNat else 0
theorem noN {M : Mem} (hn : gI M 530 2 ≤ 12) (v : Int) : noF (gI M 532) v (gI M 530 2).toNat = -4 ∨ ∃ r : Nat, r < 12 ∧ (r : Int) < gI M 530 2 ∧ noF (gI M 532) v (gI M 530 2).toNat = r := by
  rcases noF_cases (gI M 532) v (gI M 530 2).toNat with ⟨e, -⟩ | ⟨i, h1, h2, -⟩
  · exact Or.inl e
  · exact Or.inr ⟨i, by omega, by omega, h2⟩
theorem nbS_lt {M : Mem} (hn : gI M 530 2 ≤ 12) (v : Int) : nbS M v < 4096 := by
  unfold nbS
  split
  · decide
  · rename_i q
    rcases noN hn v with e | ⟨r, h1, -, e⟩
    · exact absurd (Or.inl e) q
    · rw [e, Int.toNat_natCast]; exact pow12 h1
theorem or12 {a b : Nat} (ha : a < 4096) (hb : b < 4096) : a ||| b < 4096 := by
  have := Nat.or_lt_two_pow (n := 12) (show a < 2 ^ 12 by omega) (show b < 2 ^ 12 by omega)
  omega
theorem ldA_lt {M : Mem} (hn : gI M 530 2 ≤ 12) (m : Nat) (p : Nat → Nat) : ∀ k, ldA M m p k < 4096
  | 0 => nbS_lt hn _
  | k + 1 => or12 (ldA_lt hn m p k) (by split; exact nbS_lt hn _; decide)
theorem ldS_lt {M : Mem} (hn : gI M 530 2 ≤ 12) (m : Nat) : ldS M m < 4096 := by
  unfold ldS
  split
  · exact ldA_lt hn m _ _
  · decide
theorem ldA_tb (M : Mem) (m : Nat) (p : Nat → Nat) : ∀ (k t : Nat), (ldA M m p k).testBit t = true ↔ ((nbS M (gI M 534 m)).testBit t = true ∨ ∃ i, i < k ∧ gI M 537 (8 * m + p i) = 2 ∧ (nbS M (gI M 540 (8 * m + p i))).testBit t = true)
  | 0, t => by simp [ldA]
  | k + 1, t => by
    rw [ldA, Nat.testBit_or, Bool.or_eq_true, ldA_tb M m p k t]
    constructor
    · rintro ((h | ⟨i, h1, h2⟩) | h)
      · exact Or.inl h
      · exact Or.inr ⟨i, by omega, h2⟩
      · by_cases q : gI M 537 (8 * m + p k) = 2
        · rw [if_pos q] at h; exact Or.inr ⟨k, by omega, q, h⟩
        · rw [if_neg q] at h; simp at h
    · rintro (h | ⟨i, h1, h2, h3⟩)
      · exact Or.inl (Or.inl h)
      · by_cases e : i = k
        · subst e; rw [if_pos h2]; exact Or.inr h3
        · exact Or.inl (Or.inr ⟨i, by omega, h2, h3⟩)
theorem ldA_perm {M : Mem} {m k : Nat} {p : Nat → Nat} (h1 : ∀ i, i < k → p i < k) (h2 : ∀ i j, i < k → j < k → p i = p j → i = j) : ldA M m p k = ldA M m (fun i => i) k := by
  apply Nat.eq_of_testBit_eq
  intro t
  have e : (ldA M m p k).testBit t = true ↔ (ldA M m (fun i => i) k).testBit t = true := by
    rw [ldA_tb, ldA_tb]
    constructor
    · rintro (h | ⟨i, a, b, c⟩)
      · exact Or.inl h
      · exact Or.inr ⟨p i, h1 i a, b, c⟩
    · rintro (h | ⟨i, a, b, c⟩)
      · exact Or.inl h
      · obtain ⟨j, hj, ej⟩ := surj_of h1 h2 i a
        exact Or.inr ⟨j, hj, by rw [ej]; exact b, by rw [ej]; exact c⟩
  cases a : (ldA M m p k).testBit t <;> cases b : (ldA M m (fun i => i) k).testBit t
  · rfl
  · exact absurd (e.mpr b) (by rw [a]; decide)
  · exact absurd (e.mp a) (by rw [b]; decide)
  · rfl
theorem k_Mo_leadsOf {Q : Int → Mem → Prop} {m : Nat} (hR : Rel M) (hm : (m : Int) < gI M 530 2) (h : Q (ldS M m : Int) M) : K_Mo_leadsOf g m M Q := by
  have hn := hR.names
  have hmd := (hR.mdom hm).1
  have h8 := hR.rcnt hm
  rw [ldS, if_pos hm] at h
  have loop : ∀ (w k : Nat), (k : Int) + w = gI M 533 m → P_Mo_leadsOf g 55 [(0, vr g 530), (1, vi (m : Int)), (2, vi ((ldA M m (fun k => k) k : Nat) : Int)), (4, vi (k : Int))] [] M Q := by
    intro w
    induction w with
    | zero =>
      intro k hk
      have hl := ldA_lt hn.2 m (fun k => k) k
      refine b_Mo_leadsOf_55 (by omega) (by omega) (by omega) ⟨by omega, ?_⟩
      rw [Int.toNat_natCast]
      rw [show (gI M 533 m).toNat = k by omega] at h
      exact bt (by omega) h
    | succ w ih =>
      intro k hk
      have hl := ldA_lt hn.2 m (fun k => k) k
      have ih1 := ih (k + 1) (by omega)
      rw [ldA] at ih1
      refine b_Mo_leadsOf_55 (by omega) (by omega) (by omega) ⟨by omega, ?_⟩
      rw [Int.toNat_natCast, show ((8 * (m : Int)) + (k : Int)).toNat = 8 * m + k by omega, jor_0 hl]
      refine bf (by omega) ⟨by omega, fun c => ?_, fun c => ?_⟩
      · rw [if_neg c, Nat.or_zero] at ih1; exact ih1
      · rw [if_pos c] at ih1
        refine k_Mo_numberOf ?_ (by omega) (by omega) (fun _ _ => ?_)
        · -- the rule's name is in range
          have hperm := (hR.mdom hm).2.2
          obtain ⟨i, hi, ei⟩ := surj_of (m := (gI M 533 m).toNat) (f := fun i => (nowv M (21 * m + i)).toNat) (fun i hi => by have := (hperm.1 i (by omega)).1; omega) (fun i j hi hj e => hperm.2 i j (by omega) (by omega) (by have a := (hperm.1 i (by omega)).1; have b := (hperm.1 j (by omega)).1; omega)) k (by omega)
          have hr := (hperm.1 i (by omega)).2.2.2
          rw [ei] at hr
          have := hr.2.2.2.1 (by omega) (by omega)
          omega
        · rcases noN hn.2 (gI M 540 (8 * m + k)) with e | ⟨r, r1, r2, e⟩
          · unfold nbS at ih1
            rw [if_pos (Or.inl e), Nat.or_zero] at ih1
            rw [e]
            exact bt rfl ih1
          · rw [e]
            refine bf (by omega) ⟨by omega, ?_⟩
            rw [Int.toNat_natCast, jshl_1 r1, jor_n hl (pow12 r1)]
            unfold nbS at ih1
            rw [e, Int.toNat_natCast] at ih1
            refine ⟨fun z => ?_, fun z => ?_⟩
            · rw [if_neg (by omega)] at ih1; exact ih1
            · rw [if_pos (Or.inr z), Nat.or_zero] at ih1; exact ih1
  have l0 := loop (gI M 533 m).toNat 0 (by omega)
  rw [ldA] at l0
  have j00 : jor 0 0 = 0 := jor_0 (a := 0) (by decide)
  refine i_Mo_leadsOf (b_Mo_leadsOf_0 (by omega) ⟨by omega, ?_⟩)
  rw [Int.toNat_natCast, j00]
  refine ⟨fun z => k_Mo_numberOf (by have := hmd.2.2.2.2.2.2.1; omega) (by omega) (by omega) (fun _ _ => ?_), fun z => ?_⟩
  · rcases noN hn.2 (gI M 534 m) with e | ⟨r, r1, r2, e⟩
    · unfold nbS at l0
      rw [if_pos (Or.inl e)] at l0
      rw [e]
      exact bt rfl l0
    · rw [e]
      refine bf (by omega) ⟨by omega, ?_⟩
      have j0 : jor 0 (((2 ^ r : Nat)) : Int) = ((2 ^ r : Nat) : Int) := by
        have := jor_n (a := 0) (b := 2 ^ r) (by decide) (pow12 r1)
        rw [Nat.zero_or] at this
        exact this
      rw [Int.toNat_natCast, jshl_1 r1, j0]
      unfold nbS at l0
      rw [e, Int.toNat_natCast] at l0
      refine ⟨fun z => ?_, fun z => ?_⟩
      · rw [if_neg (by omega)] at l0; exact l0
      · rw [if_pos (Or.inr z)] at l0; exact l0
  · unfold nbS at l0
    rw [z, noF_0 hR, if_pos (Or.inl rfl)] at l0
    exact l0
theorem k_Rc_bitIfPolicy {Q : Int → Mem → Prop} {v : Int} (hR : Rel M) (hv : InR v) (h : Q (nbS M v : Int) M) : K_Rc_bitIfPolicy g n (gP M 0 1) v M Q := by
  have hn := hR.names
  have hs := hR.size
  refine i_Rc_bitIfPolicy (b_Rc_bitIfPolicy_0 hR.pres hv (k_Rc_find hR.pres hv (by omega) (by omega) (fun _ _ => ?_)))
  rw [hR.no]
  unfold nbS at h
  rcases noN hn.2 v with e | ⟨r, r1, r2, e⟩
  · rw [if_pos (Or.inl e)] at h
    rw [e]
    exact bt rfl h
  · rw [e, Int.toNat_natCast] at h
    rw [e, m1F, if_neg (by omega)]
    refine bf (by omega) ⟨by omega, ?_⟩
    rw [Int.toNat_natCast, (hR.mdom r2).1.2.2.2.2.1, jshl_1 r1]
    by_cases z : gI M 533 r = 0
    · rw [if_pos (Or.inr z)] at h
      rw [if_pos z]
      exact bt rfl h
    · rw [if_neg (by omega)] at h
      rw [if_neg z]
      exact bf (by decide) h
theorem k_Rc_directlyLedTo {Q : Int → Mem → Prop} {m : Nat} (hR : Rel M) (hm : (m : Int) < gI M 530 2) (h : Q (ldS M m : Int) M) : K_Rc_directlyLedTo g n (gP M 0 1) m M Q := by
  have hn := hR.names
  have hs := hR.size
  have hmd := hR.mdom hm
  have h8 := hR.rcnt hm
  have hd := hR.dom hm
  have m5 := hmd.1.2.2.1
  have hperm := hmd.2.2
  rw [ldS, if_pos hm, ← ldA_perm (p := fun i => (nowv M (21 * m + i)).toNat) (fun i hi => by have := (hperm.1 i (by omega)).1; omega) (fun i j hi hj e => hperm.2 i j (by omega) (by omega) (by have a := (hperm.1 i (by omega)).1; have b := (hperm.1 j (by omega)).1; omega))] at h
  have loop : ∀ (w k : Nat), (k : Int) + w = gI M 533 m → P_Rc_directlyLedTo g n 24 [(0, vr g (gP M 0 1)), (2, vr g (gP M (gP M 0 1 + 1) m)), (3, vi ((ldA M m (fun i => (nowv M (21 * m + i)).toNat) k : Nat) : Int)), (4, vi (k : Int))] [] M Q := by
    intro w
    induction w with
    | zero =>
      intro k hk
      have hl := ldA_lt hn.2 m (fun i => (nowv M (21 * m + i)).toNat) k
      refine b_Rc_directlyLedTo_24 hR.pres hd (by omega) (by omega) (bt (by omega) ?_)
      rw [show (gI M 533 m).toNat = k by omega] at h
      exact h
    | succ w ih =>
      intro k hk
      have hl := ldA_lt hn.2 m (fun i => (nowv M (21 * m + i)).toNat) k
      have ih1 := ih (k + 1) (by omega)
      rw [ldA] at ih1
      obtain ⟨-, -, -, hr⟩ := hperm.1 k (by omega)
      refine b_Rc_directlyLedTo_24 hR.pres hd (by omega) (by omega) (bf (by omega) ⟨by omega, ?_⟩)
      rw [Int.toNat_natCast, hr.1]
      refine ⟨fun c => ?_, fun c => ?_⟩
      · rw [if_neg c, Nat.or_zero] at ih1; exact ih1
      · rw [if_pos c] at ih1
        have ht := hr.2.2.2.1 (by omega) (by omega)
        rw [ht.1]
        refine k_Rc_bitIfPolicy hR (by omega) (fun _ _ => ?_)
        rw [jor_n hl (nbS_lt hn.2 _)]
        exact ih1
  refine i_Rc_directlyLedTo (b_Rc_directlyLedTo_0 hR.pres (by omega) (k_Rc_domainAt hR.pres (by omega) (by omega) (fun _ _ _ _ => ?_) (fun z => by omega)))
  rw [Int.toNat_natCast]
  refine bnt (nDom hd) ?_
  rw [hmd.1.2.2.2.2.2.1]
  exact k_Rc_bitIfPolicy hR (by have := hmd.1.2.2.2.2.2.2.1; omega) (fun _ _ => loop (gI M 533 m).toNat 0 (by omega))
theorem j_leads {p0 : Int} (hR : Rel M) (h0 : InR p0) : K_Sr_leads g 33 p0 M (fun r M1 => WT M1 → K_Mo_leads g p0 M1 (fun r' M2 => WT M2 → r = r' ∧ Rel M2)) := by
  have hn := hR.names
  have hs := hR.size
  have hL : ∀ k, ldS M k < 4096 := fun k => ldS_lt hn.2 k
  refine i_Sr_leads (b_Sr_leads_0 h0 (k_Sr_isKnown h0 hR.pres (fun a b _ _ => bnt (by decide) ⟨hR.pres, ?_⟩) (fun z _ _ => bnf rfl (fun _ => i_Mo_leads (b_Mo_leads_0 h0 (k_Mo_isName h0 (by omega) (by omega) (fun a b => by omega) (fun _ _ _ => bnf rfl (fun _ => ⟨rfl, hR⟩))))))))
  obtain ⟨m, rfl⟩ := Int.eq_ofNat_of_zero_le a
  have hm : (m : Int) < gI M 530 2 := by omega
  obtain ⟨N, hN⟩ := Int.eq_ofNat_of_zero_le (show 0 ≤ gI M 530 2 by omega)
  -- the model
  have em : ∀ Q : Int → Mem → Prop, Q ((itS (ldS M) N (ldS M m) 11 : Nat) : Int) M → K_Mo_leads g (m : Int) M Q := by
    intro Q hq
    refine i_Mo_leads (b_Mo_leads_0 h0 (k_Mo_isName h0 (by omega) (by omega) (fun _ _ _ _ => bnt (by decide) (k_Mo_leadsOf hR hm (fun _ _ => ?_))) (fun z => by omega)))
    have inner : ∀ (s : Nat), s < 4096 → P_Mo_leads g 18 [(0, vr g 530), (2, vi ((fkS (ldS M) s N : Nat) : Int)), (3, vi (s : Int))] [] M Q → ∀ (w k : Nat), k + w = N → P_Mo_leads g 28 [(0, vr g 530), (2, vi ((fkS (ldS M) s k : Nat) : Int)), (3, vi (s : Int)), (4, vi (k : Int))] [] M Q := by
      intro s hs4 hk w
      induction w with
      | zero =>
        intro k hk2
        have hl := fkS_lt hs4 hL k
        refine b_Mo_leads_28 (by omega) (by omega) (by omega) (bt (by omega) ?_)
        rw [show k = N by omega]
        exact hk
      | succ w ih =>
        intro k hk2
        have hl := fkS_lt hs4 hL k
        have ih1 := ih (k + 1) (by omega)
        rw [fkS] at ih1
        refine b_Mo_leads_28 (by omega) (by omega) (by omega) (bf (by omega) ⟨fun z => ?_, fun z => ?_⟩)
        · rw [jor_0 hl]
          rw [if_neg (fun q => z ((jshr_b hs4 (by omega)).mpr q))] at ih1
          exact ih1
        · rw [if_pos ((jshr_b hs4 (by omega)).mp z)] at ih1
          refine k_Mo_leadsOf hR (by omega) (fun _ _ => ?_)
          rw [jor_n hl (hL k)]
          exact ih1
    have outer : ∀ (w i : Nat), i + w = 12 → (∀ j, j < i → itS (ldS M) N (ldS M m) (j + 1) ≠ itS (ldS M) N (ldS M m) j) → ldS M m ≠ 0 → P_Mo_leads g 28 [(0, vr g 530), (2, vi ((itS (ldS M) N (ldS M m) i : Nat) : Int)), (3, vi ((itS (ldS M) N (ldS M m) i : Nat) : Int)), (4, vi 0)] [] M Q := by
      intro w
      induction w with
      | zero =>
        intro i hi hne hz
        have h1 := itS_cnt (hL m) hL hz i hne
        have h2 := cnS_le (itS (ldS M) N (ldS M m) i) 12
        omega
      | succ w ih =>
        intro i hi hne hz
        have hl := itS_lt (hL m) hL (n := N) i
        have hl1 := itS_lt (hL m) hL (n := N) (i + 1)
        refine inner (itS (ldS M) N (ldS M m) i) hl ?_ N 0 (by omega)
        refine b_Mo_leads_18 (x2 := ((itS (ldS M) N (ldS M m) (i + 1) : Nat) : Int)) (by omega) (by omega) ⟨fun z => ?_, fun z => ?_⟩
        · have e : itS (ldS M) N (ldS M m) (i + 1) = itS (ldS M) N (ldS M m) i := by omega
          have e11 := itS_stay e (11 - i)
          rw [show i + (11 - i) = 11 by omega] at e11
          rw [e, ← e11]
          exact hq
        · exact ih (i + 1) (by omega) (fun j hj => by
            by_cases q : j = i
            · subst q; omega
            · exact hne j (by omega)) hz
    have hl0 := hL m
    refine b_Mo_leads_18 (by omega) (by omega) ⟨fun z => ?_, fun z => outer 12 0 rfl (fun j hj => by omega) (by omega)⟩
    have e0 : ldS M m = 0 := by omega
    have fz : ∀ k, fkS (ldS M) 0 k = 0 := fun k => by
      induction k with
      | zero => rfl
      | succ k ih => rw [fkS, if_neg (by simp)]; exact ih
    have e1 : itS (ldS M) N (ldS M m) 1 = itS (ldS M) N (ldS M m) 0 := by
      show fkS (ldS M) (ldS M m) N = ldS M m
      rw [e0]; exact fz N
    have e11 := itS_stay e1 11
    rw [Nat.zero_add] at e11
    rw [e11] at hq
    exact hq
  -- the class
  refine k_Rc_directlyLedTo hR hm (fun _ _ => ?_)
  have inner : ∀ (s x : Nat), s < 4096 → x < 12 → P_Sr_leads g 33 21 [(0, vr g 0), (2, vi ((fkS (ldS M) s N : Nat) : Int)), (3, vi ((x : Int) + 1))] [] M (fun r M1 => WT M1 → K_Mo_leads g (m : Int) M1 (fun r' M2 => WT M2 → r = r' ∧ Rel M2)) → ∀ (w k : Nat), k + w = N → P_Sr_leads g 33 33 [(0, vr g 0), (2, vi (s : Int)), (3, vi (x : Int)), (4, vi ((fkS (ldS M) s k : Nat) : Int)), (5, vi (k : Int))] [] M (fun r M1 => WT M1 → K_Mo_leads g (m : Int) M1 (fun r' M2 => WT M2 → r = r' ∧ Rel M2)) := by
    intro s x hs4 hx hk w
    induction w with
    | zero =>
      intro k hk2
      have hl := fkS_lt hs4 hL k
      refine b_Sr_leads_33 (by omega) (by omega) (by omega) (by omega) ⟨hR.pres, bt (by omega) ?_⟩
      rw [show k = N by omega]
      exact hk
    | succ w ih =>
      intro k hk2
      have hl := fkS_lt hs4 hL k
      have ih1 := ih (k + 1) (by omega)
      rw [fkS] at ih1
      refine b_Sr_leads_33 (by omega) (by omega) (by omega) (by omega) ⟨hR.pres, bf (by omega) ⟨fun z => ?_, fun z => ?_⟩⟩
      · rw [if_neg (by rw [(jand_b hs4 (by omega)).mp z]; decide)] at ih1
        exact ih1
      · have z2 : s.testBit k = true := by
          cases e : s.testBit k with
          | true => rfl
          | false => exact absurd ((jand_b hs4 (by omega)).mpr e) z
        rw [if_pos z2] at ih1
        refine k_Rc_directlyLedTo hR (by omega) (fun _ _ => ?_)
        rw [jor_n hl (hL k)]
        exact ih1
  have outer : ∀ (w i : Nat), i + w = 11 → P_Sr_leads g 33 21 [(0, vr g 0), (2, vi ((itS (ldS M) N (ldS M m) i : Nat) : Int)), (3, vi ((i : Int) + 1))] [] M (fun r M1 => WT M1 → K_Mo_leads g (m : Int) M1 (fun r' M2 => WT M2 → r = r' ∧ Rel M2)) := by
    intro w
    induction w with
    | zero =>
      intro i hi
      have hl := itS_lt (hL m) hL (n := N) i
      refine b_Sr_leads_21 (by omega) (by omega) (bt (by omega) (fun _ => ?_))
      rw [show i = 11 by omega]
      exact em _ (fun _ => ⟨rfl, hR⟩)
    | succ w ih =>
      intro i hi
      have hl := itS_lt (hL m) hL (n := N) i
      refine b_Sr_leads_21 (by omega) (by omega) (bf (by omega) ?_)
      exact inner (itS (ldS M) N (ldS M m) i) (i + 1) hl (by omega) (ih (i + 1) (by omega)) N 0 (by omega)
  exact outer 11 0 rfl
end LD
