section RO
variable {g : Ctx} {M : Mem}
theorem j_letter {p0 p1 : Int} (hR : Rel M) (h0 : InR p0) (h1 : InR p1) : K_Sr_letter g 33 p0 p1 M (fun r M1 => WT M1 → K_Mo_letter g p0 p1 M1 (fun r' M2 => WT M2 → r = r' ∧ Rel M2)) := by
  have hn := hR.names
  have hs := hR.size
  refine i_Sr_letter (b_Sr_letter_0 h0 h1 ⟨hR.pres, ?_⟩)
  rcases hR.kd p0 with hk | ⟨j, hj, rfl⟩
  · refine k_Rc_domainAt hR.pres h0 (by omega) (fun a b => by omega) (fun _ _ _ => bt rfl (fun _ => ?_))
    exact i_Mo_letter (b_Mo_letter_0 h0 h1 (k_Mo_isName h0 (by omega) (by omega) (fun a b => by omega) (fun _ _ _ => bz0 (fun _ => ⟨rfl, hR⟩))))
  · have hd := hR.dom hj
    obtain ⟨hm0, ⟨k, hv, hl, hf⟩, -⟩ := (hR.mdom hj).1
    refine k_Rc_domainAt hR.pres h0 (by omega) (fun _ _ _ _ => ?_) (fun a => by omega)
    rw [Int.toNat_natCast]
    have hk7 := hv.2.2.2.1
    have em : ∀ Q : Int → Mem → Prop, ((p1 < 0 → Q (-1) M) ∧ (¬ p1 < 0 → ((k : Int) ≤ p1 → Q (-4) M) ∧ (¬ (k : Int) ≤ p1 → Q (dg (gI M 532 j) (k - 1 - p1.toNat) - 1) M))) → K_Mo_letter g (j : Int) p1 M Q := by
      intro Q h
      refine i_Mo_letter (b_Mo_letter_0 h0 h1 (k_Mo_isName h0 (by omega) (by omega) (fun _ _ _ _ => bz1 ⟨fun c => ⟨by omega, ?_⟩, fun c => h.1 (by omega)⟩) (fun a => by omega)))
      rw [Int.toNat_natCast]
      refine k_Mo_lettersOf hv.1 hv.2.1 (fun _ _ => ?_)
      rw [lenF_of hv]
      obtain ⟨ha, hb⟩ := h.2 (by omega)
      refine ⟨ha, fun q => ?_⟩
      rw [show ((k : Int) - 1 - p1) = ((k - 1 - p1.toNat : Nat) : Int) by omega]
      exact k_Mo_fromLast hv.1 hv.2.1 (by omega) (fun _ _ => hb q)
    refine bf (nDom hd) ⟨fun c => ⟨fun q => fun _ => ?_, fun q => ⟨?_, fun _ => ?_⟩⟩, fun c => fun _ => ?_⟩
    · rw [hl] at q
      exact em _ ⟨fun z => by omega, fun _ => ⟨fun _ _ => ⟨rfl, hR⟩, fun z => absurd q z⟩⟩
    · rw [hl] at q ⊢
      omega
    · rw [hl] at q ⊢
      refine em _ ⟨fun z => by omega, fun _ => ⟨fun z => absurd z q, fun _ _ => ⟨?_, hR⟩⟩⟩
      rw [show ((k : Int) - 1 - p1).toNat = k - 1 - p1.toNat by omega]
      exact hf _ (by omega)
    · exact em _ ⟨fun _ _ => ⟨rfl, hR⟩, fun z => by omega⟩
theorem noF_0 {M : Mem} (hR : Rel M) : noF (gI M 532) 0 (gI M 530 2).toNat = -4 := by
  refine noF_none (fun i hi => ?_)
  obtain ⟨-, ⟨k, hv, -⟩, -⟩ := (hR.mdom (j := i) (by omega)).1
  exact vcode_pos hv
theorem j_name {p0 p1 : Int} (hR : Rel M) (h0 : InR p0) (h1 : InR p1) : K_Sr_name g 33 p0 p1 M (fun r M1 => WT M1 → K_Mo_name g p0 p1 M1 (fun r' M2 => WT M2 → r = r' ∧ Rel M2)) := by
  have hn := hR.names
  have hs := hR.size
  refine i_Sr_name (b_Sr_name_0 h0 h1 ⟨hR.pres, ?_⟩)
  rcases hR.kd p0 with hk | ⟨j, hj, rfl⟩
  · refine k_Rc_domainAt hR.pres h0 (by omega) (fun a b => by omega) (fun _ _ _ => bnf rfl (fun _ => ?_))
    exact i_Mo_name (b_Mo_name_0 h0 h1 (k_Mo_isName h0 (by omega) (by omega) (fun a b => by omega) (fun _ _ _ => bz0 (fun _ => ⟨rfl, hR⟩))))
  · have hd := hR.dom hj
    obtain ⟨hm0, ⟨k, hv, hl, hf⟩, m5, m5b, m3, m6, m6b, m10, m10b, -⟩ := (hR.mdom hj).1
    have m8 := (hR.mdom hj).2.1.1
    have e16 : ((21 * (j : Int)) + 16).toNat = 21 * j + 16 := by omega
    refine k_Rc_domainAt hR.pres h0 (by omega) (fun _ _ _ _ => ?_) (fun a => by omega)
    rw [Int.toNat_natCast]
    have em : ∀ Q : Int → Mem → Prop, ((p1 < 0 ∨ 5 < p1) → Q (-1) M) → (p1 = 0 → Q (k : Int) M) → (p1 = 1 → Q (gI M 533 j) M) → (p1 = 2 → Q (mnow M j 16) M) → (p1 = 3 → Q (gI M 535 j) M) → (p1 = 4 → Q (noF (gI M 532) (gI M 534 j) (gI M 530 2).toNat) M) → (p1 = 5 → Q (if gI M 533 j = 0 then 0 else 1) M) → K_Mo_name g (j : Int) p1 M Q := by
      intro Q hb q0 q1 q2 q3 q4 q5
      refine i_Mo_name (b_Mo_name_0 h0 h1 (k_Mo_isName h0 (by omega) (by omega) (fun _ _ _ _ => bz1 (k_Mo_isIn h1 (by omega) (by omega) (fun a b _ _ => bnt (by decide) ?_) (fun a _ _ => bnf rfl (hb (by omega))))) (fun a => by omega)))
      rw [Int.toNat_natCast, e16]
      refine ⟨fun c => ⟨by omega, k_Mo_lettersOf hv.1 hv.2.1 (fun _ _ => by rw [lenF_of hv]; exact q0 c)⟩, fun c0 => ⟨fun c => ⟨by omega, q1 c⟩, fun c1 => ⟨fun c => ⟨by omega, q2 c⟩, fun c2 => ⟨fun c => ⟨by omega, q3 c⟩, fun c3 => ⟨fun c => ⟨by omega, fun z => ?_, fun z => ?_⟩, fun c4 => ⟨by omega, fun z => ?_, fun z => ?_⟩⟩⟩⟩⟩⟩
      · exact k_Mo_numberOf (by omega) (by omega) (by omega) (fun _ _ => q4 c)
      · have q := q4 c
        rw [z, noF_0 hR] at q
        exact q
      · have q := q5 (by omega)
        rw [if_pos (by omega)] at q
        exact q
      · have q := q5 (by omega)
        rw [if_neg (by omega)] at q
        exact q
    refine bnt (nDom hd) ⟨fun c _ => ?_, fun c0 => ⟨fun c _ => ?_, fun c1 => ⟨fun c _ => ?_, fun c2 => ⟨fun c _ => ?_, fun c3 => ⟨fun c => ?_, fun c4 => ⟨fun c => ?_, fun c5 _ => ?_⟩⟩⟩⟩⟩⟩
    · subst c; exact em _ (fun z => by omega) (fun _ _ => ⟨hl, hR⟩) (fun z => by omega) (fun z => by omega) (fun z => by omega) (fun z => by omega) (fun z => by omega)
    · subst c; exact em _ (fun z => by omega) (fun z => by omega) (fun _ _ => ⟨m5, hR⟩) (fun z => by omega) (fun z => by omega) (fun z => by omega) (fun z => by omega)
    · subst c; exact em _ (fun z => by omega) (fun z => by omega) (fun z => by omega) (fun _ _ => ⟨m8, hR⟩) (fun z => by omega) (fun z => by omega) (fun z => by omega)
    · subst c; exact em _ (fun z => by omega) (fun z => by omega) (fun z => by omega) (fun z => by omega) (fun _ _ => ⟨m10, hR⟩) (fun z => by omega) (fun z => by omega)
    · subst c
      refine k_Sr_numberOrNone (by omega) hR.pres (by omega) (by omega) (fun _ _ _ => em _ (fun z => by omega) (fun z => by omega) (fun z => by omega) (fun z => by omega) (fun z => by omega) (fun _ _ => ⟨?_, hR⟩) (fun z => by omega))
      rw [hR.no, m6]
    · subst c
      refine ⟨fun z _ => em _ (fun z => by omega) (fun z => by omega) (fun z => by omega) (fun z => by omega) (fun z => by omega) (fun z => by omega) (fun _ _ => ⟨?_, hR⟩), fun z _ => em _ (fun z => by omega) (fun z => by omega) (fun z => by omega) (fun z => by omega) (fun z => by omega) (fun z => by omega) (fun _ _ => ⟨?_, hR⟩)⟩
      · rw [← m3, z]
      · rw [← m3]
        rw [m3] at z ⊢
        split
        · rename_i q; rw [if_pos q] at z; exact absurd rfl z
        · rfl
    · exact em _ (fun _ _ => ⟨rfl, hR⟩) (fun z => by omega) (fun z => by omega) (fun z => by omega) (fun z => by omega) (fun z => by omega) (fun z => by omega)
theorem k_Sr_ruleAt {Q : Nat → Mem → Prop} {p0 p1 : Int} (hR : Rel M) (h0 : InR p0) (h1 : InR p1) (hs : ∀ j i : Nat, (j : Int) < gI M 530 2 → p0 = j → (i : Int) < gI M 533 j → p1 = i → Q (gP M (gP M (gP M 0 1 + 1) j + 2) i) M) (hz : ((p0 < 0 ∨ gI M 530 2 ≤ p0) ∨ ∃ j : Nat, (j : Int) < gI M 530 2 ∧ p0 = j ∧ (p1 < 0 ∨ gI M 533 j ≤ p1)) → Q 0 M) : K_Sr_ruleAt g 33 p0 p1 M Q := by
  have hn := hR.names
  have hsz := hR.size
  refine i_Sr_ruleAt (b_Sr_ruleAt_0 h0 h1 ⟨hR.pres, ?_⟩)
  rcases hR.kd p0 with hk | ⟨j, hj, rfl⟩
  · exact k_Rc_domainAt hR.pres h0 (by omega) (fun a b => by omega) (fun _ _ _ => bnf rfl (hz (Or.inl hk)))
  · have hd := hR.dom hj
    have m5 := (hR.mdom hj).1.2.2.1
    have m5b := hR.rcnt hj
    refine k_Rc_domainAt hR.pres h0 (by omega) (fun _ _ _ _ => ?_) (fun a => by omega)
    rw [Int.toNat_natCast]
    refine bnt (nDom hd) (k_Dm_ruleAt hd h1 (by omega) (fun a b _ _ => ?_) (fun a _ _ => hz (Or.inr ⟨j, hj, rfl, by omega⟩)))
    exact hs j p1.toNat hj rfl (by omega) (by omega)
theorem j_rule {p0 p1 p2 : Int} (hR : Rel M) (h0 : InR p0) (h1 : InR p1) (h2 : InR p2) : K_Sr_rule g 33 p0 p1 p2 M (fun r M1 => WT M1 → K_Mo_rule g p0 p1 p2 M1 (fun r' M2 => WT M2 → r = r' ∧ Rel M2)) := by
  have hn := hR.names
  have hrc : ∀ j : Nat, (j : Int) < gI M 530 2 → 0 ≤ gI M 533 j ∧ gI M 533 j ≤ 8 := fun j hj => hR.rcnt hj
  refine i_Sr_rule (b_Sr_rule_0 h0 h1 h2 (k_Sr_ruleAt hR h0 h1 (fun j i hj ej hi ei hq hw => ?_) (fun hz _ _ => bnf rfl (fun _ => ?_))))
  · subst ej
    subst ei
    have hcj := hR.rcnt hj
    obtain ⟨⟨hv0, hv1⟩, ⟨s0, s3⟩, hsg, hk, hkb, hpre, htg, htg0, -⟩ := (hR.mdom hj).2.2.1 i hi
    have hrul : isRul (gP M (gP M (gP M 0 1 + 1) j + 2) i) := hw.rul (hR.dom hj) (by omega)
    generalize hr : gP M (gP M (gP M 0 1 + 1) j + 2) i = r at *
    generalize ha : 8 * j + (nowv M (21 * j + i)).toNat = a at *
    have hmn : mnow M j i = nowv M (21 * j + i) := rfl
    have ea : (8 * (j : Int) + mnow M j i) = (a : Int) := by rw [hmn]; omega
    have em : ∀ Q : Int → Mem → Prop, ((p2 < 0 ∨ 4 < p2) → Q (-1) M) → (p2 = 0 → Q (nowv M (21 * j + (8 + (nowv M (21 * j + i)).toNat))) M) → (p2 = 1 → Q (gI M 537 a) M) → (p2 = 2 → Q (if gI M 537 a = 1 then gI M 538 a else -4) M) → (p2 = 3 → Q (if gI M 537 a = 1 then gI M 539 a else -4) M) → (p2 = 4 → Q (if 2 ≤ gI M 537 a ∧ gI M 537 a ≤ 4 then noF (gI M 532) (gI M 540 a) (gI M 530 2).toNat else -4) M) → K_Mo_rule g (j : Int) (i : Int) p2 M Q := by
      intro Q hb q0 q1 q2 q3 q4
      refine i_Mo_rule (b_Mo_rule_0 h0 h1 h2 (k_Mo_isRule h0 h1 (by omega) (by omega) hrc (fun _ _ _ _ _ _ => bz1 (k_Mo_isIn h2 (by omega) (by omega) (fun a b _ _ => bnt (by decide) ?_) (fun a _ _ => bnf rfl (hb (by omega))))) (fun z => by rw [Int.toNat_natCast] at z; omega)))
      refine k_Mo_ruleAt (by omega) (by omega) (by rw [hmn]; omega) (fun _ _ => ?_)
      rw [ea, Int.toNat_natCast]
      refine ⟨fun c => k_Mo_signAt (by omega) (by omega) (by rw [hmn]; omega) (fun _ _ => q0 c), fun c0 => ⟨fun c => ⟨by omega, q1 c⟩, fun c1 => ⟨fun c => ⟨by omega, fun z => ?_, fun z => ?_⟩, fun c2 => ⟨fun c => ⟨by omega, fun z => ?_, fun z => ?_⟩, fun c3 => ⟨by omega, ?_⟩⟩⟩⟩⟩
      · have q := q2 c; rw [if_neg z] at q; exact q
      · have q := q2 c; rw [if_pos z] at q; exact q
      · have q := q3 c; rw [if_neg z] at q; exact q
      · have q := q3 c; rw [if_pos z] at q; exact q
      · have q := q4 (by omega)
        refine k_Mo_isIn (by omega) (by omega) (by omega) (fun a b _ _ => bz1 ?_) (fun a _ _ => bz0 ?_)
        · rw [if_pos ⟨a, b⟩] at q
          exact k_Mo_numberOf (by have := htg a b; omega) (by omega) (by omega) (fun _ _ => q)
        · rw [if_neg (by omega)] at q
          exact q
    refine bnt (nRul hrul) ⟨fun c _ => ?_, fun c0 => ⟨fun c _ => ?_, fun c1 => ⟨fun c => ?_, fun c2 => ⟨fun c => ?_, fun c3 => ⟨fun c => ?_, fun c4 _ => ?_⟩⟩⟩⟩⟩
    · subst c; exact em _ (fun z => by omega) (fun _ _ => ⟨hsg, hR⟩) (fun z => by omega) (fun z => by omega) (fun z => by omega) (fun z => by omega)
    · subst c; exact em _ (fun z => by omega) (fun z => by omega) (fun _ _ => ⟨hk, hR⟩) (fun z => by omega) (fun z => by omega) (fun z => by omega)
    · subst c
      refine ⟨fun z _ => em _ (fun z => by omega) (fun z => by omega) (fun z => by omega) (fun _ _ => ⟨?_, hR⟩) (fun z => by omega) (fun z => by omega), fun z _ => em _ (fun z => by omega) (fun z => by omega) (fun z => by omega) (fun _ _ => ⟨?_, hR⟩) (fun z => by omega) (fun z => by omega)⟩
      · rw [hk] at z; rw [if_neg z]
      · rw [hk] at z; rw [if_pos z]; exact (hpre z).1
    · subst c
      refine ⟨fun z _ => em _ (fun z => by omega) (fun z => by omega) (fun z => by omega) (fun z => by omega) (fun _ _ => ⟨?_, hR⟩) (fun z => by omega), fun z _ => em _ (fun z => by omega) (fun z => by omega) (fun z => by omega) (fun z => by omega) (fun _ _ => ⟨?_, hR⟩) (fun z => by omega)⟩
      · rw [hk] at z; rw [if_neg z]
      · rw [hk] at z; rw [if_pos z]; exact (hpre z).2.1
    · subst c
      have hs := hR.size
      by_cases q : 2 ≤ gI M 537 a ∧ gI M 537 a ≤ 4
      · have t := htg q.1 q.2
        refine k_Sr_numberOrNone (by omega) hR.pres (by omega) (by omega) (fun _ _ _ => em _ (fun z => by omega) (fun z => by omega) (fun z => by omega) (fun z => by omega) (fun z => by omega) (fun _ _ => ⟨?_, hR⟩))
        rw [hR.no, if_pos q, t.1]
      · have t := htg0 (by omega)
        refine k_Sr_numberOrNone (by omega) hR.pres (by omega) (by omega) (fun _ _ _ => em _ (fun z => by omega) (fun z => by omega) (fun z => by omega) (fun z => by omega) (fun z => by omega) (fun _ _ => ⟨?_, hR⟩))
        rw [hR.no, if_neg q, t, noF_0 hR]
    · exact em _ (fun _ _ => ⟨rfl, hR⟩) (fun z => by omega) (fun z => by omega) (fun z => by omega) (fun z => by omega) (fun z => by omega)
  · refine i_Mo_rule (b_Mo_rule_0 h0 h1 h2 (k_Mo_isRule h0 h1 (by omega) (by omega) hrc (fun a b c d => ?_) (fun _ _ _ => bz0 (fun _ => ⟨rfl, hR⟩))))
    rcases hz with z | ⟨j, hj, rfl, z⟩
    · omega
    · rw [Int.toNat_natCast] at d; omega
theorem j_kept {p0 p1 : Int} (hR : Rel M) (h0 : InR p0) (h1 : InR p1) : K_Sr_kept g 33 p0 p1 M (fun r M1 => WT M1 → K_Mo_kept g p0 p1 M1 (fun r' M2 => WT M2 → r = r' ∧ Rel M2)) := by
  obtain ⟨k0, k1, k2⟩ := hR.2.2.2.2.1
  have em : ∀ Q : Int → Mem → Prop, ((p0 < 0 ∨ p1 < 0 ∨ 7 < p1) → Q (-1) M) → (0 ≤ p0 → 0 ≤ p1 → p1 ≤ 7 → gI M 530 34 ≤ p0 → Q (-4) M) → (0 ≤ p0 → 0 ≤ p1 → p1 ≤ 7 → p0 < gI M 530 34 → Q (gI M 559 (8 * p0.toNat + p1.toNat)) M) → K_Mo_kept g p0 p1 M Q := by
    intro Q hb q0 q1
    refine i_Mo_kept (b_Mo_kept_0 h0 h1 ⟨fun c => hb (Or.inl c), fun c => k_Mo_isIn h1 (by omega) (by omega) (fun a b _ _ => bnt (by decide) ⟨fun z => q0 (by omega) a b z, fun z => ⟨by omega, ?_⟩⟩) (fun a _ _ => bnf rfl (hb (by omega)))⟩)
    rw [show (8 * p0 + p1).toNat = 8 * p0.toNat + p1.toNat by omega]
    exact q1 (by omega) a b (by omega)
  refine i_Sr_kept (b_Sr_kept_0 h0 h1 ⟨fun c _ => em _ (fun _ _ => ⟨rfl, hR⟩) (fun z => by omega) (fun z => by omega), fun c => ⟨fun d _ => em _ (fun _ _ => ⟨rfl, hR⟩) (fun _ z => by omega) (fun _ z => by omega), fun d => ⟨fun e => ?_, fun e _ => em _ (fun _ _ => ⟨rfl, hR⟩) (fun _ _ z => by omega) (fun _ _ z => by omega)⟩⟩⟩)
  refine i_Ks_valueOf (b_Ks_valueOf_0 h0 h1 (bf (by omega) ⟨fun z _ _ _ => em _ (fun z => by omega) (fun _ _ _ _ _ => ⟨rfl, hR⟩) (fun _ _ _ z => by omega), fun z => bf (by omega) (bf (by omega) ⟨by omega, by omega, fun _ _ _ => em _ (fun z => by omega) (fun _ _ _ z => by omega) (fun _ _ _ _ _ => ⟨?_, hR⟩)⟩)⟩))
  exact k2 p0.toNat (by omega) p1.toNat (by omega)
theorem j_count {p0 : Int} (hR : Rel M) (h0 : InR p0) : K_Sr_count g 33 p0 M (fun r M1 => WT M1 → K_Mo_count g p0 M1 (fun r' M2 => WT M2 → r = r' ∧ Rel M2)) := by
  have hn := hR.names
  have hs := hR.size
  have em : ∀ Q : Int → Mem → Prop, ((p0 < 0 ∨ 6 < p0) → Q (-1) M) → (p0 = 0 → Q (gI M 530 2) M) → (p0 = 1 → Q (sumF (fun j => if gI M 533 j = 0 then 0 else 1) (gI M 530 2).toNat) M) → (p0 = 2 → Q (sumF (fun j => gI M 533 j) (gI M 530 2).toNat) M) → (p0 = 3 → Q (sumF (fun j => mnow M j 16) (gI M 530 2).toNat) M) → (p0 = 4 → Q (gI M 530 34) M) → (p0 = 5 → Q (gI M 530 16) M) → (p0 = 6 → Q (gI M 530 0) M) → K_Mo_count g p0 M Q := by
    intro Q hb q0 q1 q2 q3 q4 q5 q6
    refine i_Mo_count (b_Mo_count_0 h0 ?_)
    have loop : ∀ (m i : Nat), (i : Int) + m = gI M 530 2 → P_Mo_count g 10 [(0, vr g 530), (1, vi p0), (2, vi (sumF (fun j => if gI M 533 j = 0 then 0 else 1) i)), (3, vi (sumF (fun j => gI M 533 j) i)), (4, vi (sumF (fun j => mnow M j 16) i)), (5, vi (i : Int))] [] M Q := by
      intro m
      induction m with
      | zero =>
        intro i hi
        have b1 := sumF_bd (f := fun j => if gI M 533 j = 0 then 0 else 1) (B := 1) (by decide) (n := i) (fun j _ => by split <;> omega)
        have b2 := sumF_bd (f := fun j => gI M 533 j) (B := 8) (by decide) (n := i) (fun j hj => hR.rcnt (by omega))
        have b3 := sumF_bd (f := fun j => mnow M j 16) (B := 4) (by decide) (n := i) (fun j hj => (hR.mdom (j := j) (by omega)).2.1.2.1)
        have ei : (gI M 530 2).toNat = i := by omega
        rw [ei] at q1 q2 q3
        exact b_Mo_count_10 h0 (by omega) (by omega) (by omega) (by omega) (bt (by omega) ⟨q0, fun c0 => ⟨q1, fun c1 => ⟨q2, fun c2 => ⟨q3, fun c3 => ⟨q4, fun c4 => ⟨q5, fun c5 => ⟨q6, fun c6 => hb (by omega)⟩⟩⟩⟩⟩⟩⟩)
      | succ m ih =>
        intro i hi
        have b1 := sumF_bd (f := fun j => if gI M 533 j = 0 then 0 else 1) (B := 1) (by decide) (n := i) (fun j _ => by split <;> omega)
        have b2 := sumF_bd (f := fun j => gI M 533 j) (B := 8) (by decide) (n := i) (fun j hj => hR.rcnt (by omega))
        have b3 := sumF_bd (f := fun j => mnow M j 16) (B := 4) (by decide) (n := i) (fun j hj => (hR.mdom (j := j) (by omega)).2.1.2.1)
        have e16 : ((21 * (i : Int)) + 16).toNat = 21 * i + 16 := by omega
        have ih1 := ih (i + 1) (by omega)
        have hc := hR.rcnt (j := i) (by omega)
        rw [sumF, sumF, sumF] at ih1
        refine b_Mo_count_10 h0 (by omega) (by omega) (by omega) (by omega) (bf (by omega) ⟨by omega, fun z => ⟨by omega, ?_⟩, fun z => ⟨by omega, ?_⟩⟩)
        · rw [Int.toNat_natCast] at z ⊢
          rw [e16]
          rw [if_pos (by omega)] at ih1
          exact ih1
        · rw [Int.toNat_natCast] at z ⊢
          rw [e16]
          rw [if_neg (by omega)] at ih1
          exact ih1
    exact loop (gI M 530 2).toNat 0 (by omega)
  have b5 : ∀ j : Nat, (j : Int) < gI M (gP M 0 1) 1 → 0 ≤ gI M (gP M (gP M 0 1 + 1) j) 5 ∧ gI M (gP M (gP M 0 1 + 1) j) 5 ≤ 8 := fun j hj => by
    have := (hR.mdom (j := j) (by omega)).1.2.2.1
    have := hR.rcnt (j := j) (by omega)
    omega
  have b8 : ∀ j : Nat, (j : Int) < gI M (gP M 0 1) 1 → 0 ≤ gI M (gP M (gP M 0 1 + 1) j) 8 ∧ gI M (gP M (gP M 0 1 + 1) j) 8 ≤ 4 := fun j hj => by
    have h := (hR.mdom (j := j) (by omega)).2.1
    rw [h.1]
    exact h.2.1
  refine i_Sr_count (b_Sr_count_0 h0 ⟨fun c => ⟨hR.pres, fun _ => ?_⟩, fun c0 => ⟨fun c => ⟨hR.pres, ?_⟩, fun c1 => ⟨fun c => ⟨hR.pres, ?_⟩, fun c2 => ⟨fun c => ⟨hR.pres, ?_⟩, fun c3 => ⟨fun c _ => ?_, fun c4 => ⟨fun c _ => ?_, fun c5 => ⟨fun c _ => ?_, fun c6 _ => ?_⟩⟩⟩⟩⟩⟩⟩)
  · subst c; exact em _ (fun z => by omega) (fun _ _ => ⟨hs, hR⟩) (fun z => by omega) (fun z => by omega) (fun z => by omega) (fun z => by omega) (fun z => by omega) (fun z => by omega)
  · subst c
    refine k_Rc_policies hR.pres (by omega) (by omega) (fun _ _ _ => em _ (fun z => by omega) (fun z => by omega) (fun _ _ => ⟨?_, hR⟩) (fun z => by omega) (fun z => by omega) (fun z => by omega) (fun z => by omega) (fun z => by omega))
    rw [hs]
    refine sumF_congr (fun i hi => ?_)
    have h3 := (hR.mdom (j := i) (by omega)).1.2.2.2.2.1
    rw [h3]
    by_cases q : gI M 533 i = 0
    · rw [if_pos q, if_pos rfl]
    · rw [if_neg q, if_neg (by decide)]
  · subst c
    refine k_Rc_rules hR.pres (by omega) (by omega) b5 (fun _ _ _ => em _ (fun z => by omega) (fun z => by omega) (fun z => by omega) (fun _ _ => ⟨?_, hR⟩) (fun z => by omega) (fun z => by omega) (fun z => by omega) (fun z => by omega))
    rw [hs]
    exact sumF_congr (fun i hi => (hR.mdom (j := i) (by omega)).1.2.2.1)
  · subst c
    refine k_Rc_hosts hR.pres (by omega) (by omega) b8 (fun _ _ _ => em _ (fun z => by omega) (fun z => by omega) (fun z => by omega) (fun z => by omega) (fun _ _ => ⟨?_, hR⟩) (fun z => by omega) (fun z => by omega) (fun z => by omega))
    rw [hs]
    exact sumF_congr (fun i hi => (hR.mdom (j := i) (by omega)).2.1.1)
  · subst c; exact em _ (fun z => by omega) (fun z => by omega) (fun z => by omega) (fun z => by omega) (fun z => by omega) (fun _ _ => ⟨hR.2.2.2.2.1.1, hR⟩) (fun z => by omega) (fun z => by omega)
  · subst c; exact em _ (fun z => by omega) (fun z => by omega) (fun z => by omega) (fun z => by omega) (fun z => by omega) (fun z => by omega) (fun _ _ => ⟨hR.2.2.2.2.2.1, hR⟩) (fun z => by omega)
  · subst c; exact em _ (fun z => by omega) (fun z => by omega) (fun z => by omega) (fun z => by omega) (fun z => by omega) (fun z => by omega) (fun z => by omega) (fun _ _ => ⟨hR.1.1, hR⟩)
  · exact em _ (fun _ _ => ⟨rfl, hR⟩) (fun z => by omega) (fun z => by omega) (fun z => by omega) (fun z => by omega) (fun z => by omega) (fun z => by omega) (fun z => by omega)
end RO
