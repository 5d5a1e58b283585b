/-! ===== contracts of the class's small methods ===== -/
/-- between two memories only ints in S differ -/
def FrI (S : Nat → Nat → Prop) (M M' : Mem) : Prop := M'.2 = M.2 ∧ ∀ a k, ¬ S a k → gI M' a k = gI M a k
theorem FrI.rf {S : Nat → Nat → Prop} (M : Mem) : FrI S M M := ⟨rfl, fun _ _ _ => rfl⟩
theorem FrI.tr {S : Nat → Nat → Prop} {M M1 M2 : Mem} (h1 : FrI S M M1) (h2 : FrI S M1 M2) : FrI S M M2 := ⟨h2.1.trans h1.1, fun a k h => (h2.2 a k h).trans (h1.2 a k h)⟩
theorem FrI.mono {S S' : Nat → Nat → Prop} {M M' : Mem} (h : FrI S M M') (hs : ∀ a k, S a k → S' a k) : FrI S' M M' := ⟨h.1, fun a k q => h.2 a k (fun z => q (hs a k z))⟩
theorem FrI.st {S : Nat → Nat → Prop} {M : Mem} {a k : Nat} {v : Int} (h : S a k) : FrI S M (sI M a k v) := ⟨rfl, fun b j q => gI_ne M a k v b j (fun z => q (by rw [z.1, z.2]; exact h))⟩
theorem FrI.p {S : Nat → Nat → Prop} {M M' : Mem} (h : FrI S M M') (a k : Nat) : gP M' a k = gP M a k := by unfold gP; rw [h.1]
theorem FrI.i {S : Nat → Nat → Prop} {M M' : Mem} (h : FrI S M M') {a k : Nat} (q : ¬ S a k) : gI M' a k = gI M a k := h.2 a k q
/-- the keys of a Records, in their order -/
def kyF (M : Mem) (b : Nat) : Nat → Int := fun j => gI M (gP M (b + 1) j) 0
def sumF (f : Nat → Int) : Nat → Int
  | 0 => 0
  | n + 1 => sumF f n + f n
theorem sumF_congr {f f' : Nat → Int} : ∀ {n : Nat}, (∀ i, i < n → f i = f' i) → sumF f n = sumF f' n
  | 0, _ => rfl
  | n + 1, h => by rw [sumF, sumF, sumF_congr (fun i hi => h i (by omega)), h n (by omega)]
theorem sumF_bd {f : Nat → Int} {B : Int} (hB : 0 ≤ B) : ∀ {n : Nat}, (∀ i, i < n → 0 ≤ f i ∧ f i ≤ B) → 0 ≤ sumF f n ∧ sumF f n ≤ n * B
  | 0, _ => by simp [sumF]
  | n + 1, h => by
    have h1 := sumF_bd hB (n := n) (fun i hi => h i (by omega))
    have h2 := h n (by omega)
    rw [sumF, show ((n + 1 : Nat) : Int) * B = n * B + B by rw [Int.natCast_succ, Int.add_mul, Int.one_mul]]
    omega
def m1F (x : Int) : Int := if x = -4 then -1 else x
section LC
variable {g : Ctx} {n : Nat} {M : Mem}
theorem k_Rc_find {Q : Int → Mem → Prop} {b : Nat} {v : Int} (ho : isRec b) (hv : InR v) (h0 : 0 ≤ gI M b 1) (h12 : gI M b 1 ≤ 12) (h : Q (m1F (noF (kyF M b) v (gI M b 1).toNat)) M) : K_Rc_find g n b v M Q := by
  refine i_Rc_find (b_Rc_find_0 ho hv ?_)
  have loop : ∀ (m i : Nat), (i : Int) + m = gI M b 1 → (∀ j, j < i → kyF M b j ≠ v) → P_Rc_find g n 2 [(0, vr g b), (1, vi v), (2, vi (i : Int))] [] M Q := by
    intro m
    induction m with
    | zero =>
      intro i hi hj
      refine b_Rc_find_2 ho hv (by omega) (bt (by omega) ?_)
      rw [noF_none (fun j hj2 => hj j (by omega))] at h
      exact h
    | succ m ih =>
      intro i hi hj
      refine b_Rc_find_2 ho hv (by omega) (bf (by omega) ⟨by omega, fun e => ?_, fun e => ?_⟩)
      · exact ih (i + 1) (by omega) (fun j hj2 => by
          by_cases q : j = i
          · subst q; exact e
          · exact hj j (by omega))
      · rw [noF_at (i := i) (by omega) e hj, m1F, if_neg (by omega)] at h
        exact h
  exact loop (gI M b 1).toNat 0 (by omega) (fun j hj => by omega)
theorem k_Rc_domainAt {Q : Nat → Mem → Prop} {b : Nat} {v : Int} (ho : isRec b) (hv : InR v) (h12 : gI M b 1 ≤ 12) (h1 : 0 ≤ v → v < gI M b 1 → Q (gP M (b + 1) v.toNat) M) (h0 : (v < 0 ∨ gI M b 1 ≤ v) → Q 0 M) : K_Rc_domainAt g n b v M Q :=
  i_Rc_domainAt (b_Rc_domainAt_0 ho hv ⟨fun c => h0 (Or.inl c), fun c => ⟨fun d => h0 (Or.inr d), fun d => ⟨by omega, h1 (by omega) (by omega)⟩⟩⟩)
theorem k_Rc_domainOf {Q : Nat → Mem → Prop} {b : Nat} {v : Int} (ho : isRec b) (hv : InR v) (h0 : 0 ≤ gI M b 1) (h12 : gI M b 1 ≤ 12) (hs : ∀ i : Nat, (i : Int) < gI M b 1 → noF (kyF M b) v (gI M b 1).toNat = i → Q (gP M (b + 1) i) M) (hn : noF (kyF M b) v (gI M b 1).toNat = -4 → Q 0 M) : K_Rc_domainOf g n b v M Q := by
  refine i_Rc_domainOf (b_Rc_domainOf_0 ho hv (k_Rc_find ho hv h0 h12 (fun hr _ => ?_)))
  rcases noF_cases (kyF M b) v (gI M b 1).toNat with ⟨e, _⟩ | ⟨i, hi, e, _⟩
  · rw [e] at hr ⊢
    exact k_Rc_domainAt ho hr h12 (fun a _ => absurd a (by decide)) (fun _ _ _ => hn e)
  · rw [e] at hr ⊢
    rw [m1F, if_neg (by omega)] at hr ⊢
    refine k_Rc_domainAt ho hr h12 (fun _ a _ _ => ?_) (fun a _ _ => by omega)
    rw [Int.toNat_natCast]
    exact hs i (by omega) e
theorem k_Rc_firstNotBefore {Q : Int → Mem → Prop} {b : Nat} {v : Int} (ho : isRec b) (hv : InR v) (h0 : 0 ≤ gI M b 1) (h12 : gI M b 1 ≤ 12) (h : ∀ p : Nat, (p : Int) ≤ gI M b 1 → (∀ j, j < p → kyF M b j < v) → ((p : Int) < gI M b 1 → v ≤ kyF M b p) → Q p M) : K_Rc_firstNotBefore g n b v M Q := by
  refine i_Rc_firstNotBefore (b_Rc_firstNotBefore_0 ho hv ?_)
  have loop : ∀ (m i : Nat), (i : Int) + m = gI M b 1 → (∀ j, j < i → kyF M b j < v) → P_Rc_firstNotBefore g n 2 [(0, vr g b), (1, vi v), (2, vi (i : Int))] [] M Q := by
    intro m
    induction m with
    | zero =>
      intro i hi hj
      exact b_Rc_firstNotBefore_2 ho hv (by omega) (bt (by omega) (h i (by omega) hj (fun q => by omega)))
    | succ m ih =>
      intro i hi hj
      refine b_Rc_firstNotBefore_2 ho hv (by omega) (bf (by omega) ⟨by omega, fun e => ?_, fun e => ?_⟩)
      · exact h i (by omega) hj (fun _ => e)
      · exact ih (i + 1) (by omega) (fun j hj2 => by
          by_cases q : j = i
          · subst q
            have e1 : ¬ v ≤ kyF M b j := e
            omega
          · exact hj j (by omega))
  exact loop (gI M b 1).toNat 0 (by omega) (fun j hj => by omega)
theorem k_Rc_policies {Q : Int → Mem → Prop} {b : Nat} (ho : isRec b) (h0 : 0 ≤ gI M b 1) (h12 : gI M b 1 ≤ 12) (h : Q (sumF (fun j => if gI M (gP M (b + 1) j) 3 = 0 then 0 else 1) (gI M b 1).toNat) M) : K_Rc_policies g n b M Q := by
  refine i_Rc_policies (b_Rc_policies_0 ho ?_)
  have loop : ∀ (m i : Nat), (i : Int) + m = gI M b 1 → P_Rc_policies g n 4 [(0, vr g b), (1, vi (sumF (fun j => if gI M (gP M (b + 1) j) 3 = 0 then 0 else 1) i)), (2, vi (i : Int))] [] M Q := by
    intro m
    induction m with
    | zero =>
      intro i hi
      have hb := sumF_bd (f := fun j => if gI M (gP M (b + 1) j) 3 = 0 then 0 else 1) (B := 1) (by decide) (n := i) (fun j _ => by split <;> omega)
      refine b_Rc_policies_4 ho (by omega) (by omega) (bt (by omega) ?_)
      rw [show (gI M b 1).toNat = i by omega] at h
      exact h
    | succ m ih =>
      intro i hi
      have hb := sumF_bd (f := fun j => if gI M (gP M (b + 1) j) 3 = 0 then 0 else 1) (B := 1) (by decide) (n := i) (fun j _ => by split <;> omega)
      have ih1 := ih (i + 1) (by omega)
      rw [sumF] at ih1
      refine b_Rc_policies_4 ho (by omega) (by omega) (bf (by omega) ⟨by omega, fun e => ?_, fun e => ?_⟩)
      · rw [Int.toNat_natCast] at e
        rw [if_pos e] at ih1
        exact ih1
      · rw [Int.toNat_natCast] at e
        rw [if_neg e] at ih1
        exact ih1
  exact loop (gI M b 1).toNat 0 (by omega)
theorem k_Rc_rules {Q : Int → Mem → Prop} {b : Nat} (ho : isRec b) (h0 : 0 ≤ gI M b 1) (h12 : gI M b 1 ≤ 12) (hc : ∀ j : Nat, (j : Int) < gI M b 1 → 0 ≤ gI M (gP M (b + 1) j) 5 ∧ gI M (gP M (b + 1) j) 5 ≤ 8) (h : Q (sumF (fun j => gI M (gP M (b + 1) j) 5) (gI M b 1).toNat) M) : K_Rc_rules g n b M Q := by
  refine i_Rc_rules (b_Rc_rules_0 ho ?_)
  have loop : ∀ (m i : Nat), (i : Int) + m = gI M b 1 → P_Rc_rules g n 4 [(0, vr g b), (1, vi (sumF (fun j => gI M (gP M (b + 1) j) 5) i)), (2, vi (i : Int))] [] M Q := by
    intro m
    induction m with
    | zero =>
      intro i hi
      have hb := sumF_bd (f := fun j => gI M (gP M (b + 1) j) 5) (B := 8) (by decide) (n := i) (fun j _ => hc j (by omega))
      refine b_Rc_rules_4 ho (by omega) (by omega) (bt (by omega) ?_)
      rw [show (gI M b 1).toNat = i by omega] at h
      exact h
    | succ m ih =>
      intro i hi
      have hb := sumF_bd (f := fun j => gI M (gP M (b + 1) j) 5) (B := 8) (by decide) (n := i) (fun j _ => hc j (by omega))
      exact b_Rc_rules_4 ho (by omega) (by omega) (bf (by omega) ⟨by omega, ih (i + 1) (by omega)⟩)
  exact loop (gI M b 1).toNat 0 (by omega)
theorem k_Rc_hosts {Q : Int → Mem → Prop} {b : Nat} (ho : isRec b) (h0 : 0 ≤ gI M b 1) (h12 : gI M b 1 ≤ 12) (hc : ∀ j : Nat, (j : Int) < gI M b 1 → 0 ≤ gI M (gP M (b + 1) j) 8 ∧ gI M (gP M (b + 1) j) 8 ≤ 4) (h : Q (sumF (fun j => gI M (gP M (b + 1) j) 8) (gI M b 1).toNat) M) : K_Rc_hosts g n b M Q := by
  refine i_Rc_hosts (b_Rc_hosts_0 ho ?_)
  have loop : ∀ (m i : Nat), (i : Int) + m = gI M b 1 → P_Rc_hosts g n 4 [(0, vr g b), (1, vi (sumF (fun j => gI M (gP M (b + 1) j) 8) i)), (2, vi (i : Int))] [] M Q := by
    intro m
    induction m with
    | zero =>
      intro i hi
      have hb := sumF_bd (f := fun j => gI M (gP M (b + 1) j) 8) (B := 4) (by decide) (n := i) (fun j _ => hc j (by omega))
      refine b_Rc_hosts_4 ho (by omega) (by omega) (bt (by omega) ?_)
      rw [show (gI M b 1).toNat = i by omega] at h
      exact h
    | succ m ih =>
      intro i hi
      have hb := sumF_bd (f := fun j => gI M (gP M (b + 1) j) 8) (B := 4) (by decide) (n := i) (fun j _ => hc j (by omega))
      exact b_Rc_hosts_4 ho (by omega) (by omega) (bf (by omega) ⟨by omega, ih (i + 1) (by omega)⟩)
  exact loop (gI M b 1).toNat 0 (by omega)
theorem k_Dm_placeOfHost {Q : Int → Mem → Prop} {d : Nat} {v : Int} (ho : isDom d) (hv : InR v) (h0 : 0 ≤ gI M d 8) (h4 : gI M d 8 ≤ 4) (h : Q (m1F (noF (gI M (d + 3)) v (gI M d 8).toNat)) M) : K_Dm_placeOfHost g n d v M Q := by
  refine i_Dm_placeOfHost (b_Dm_placeOfHost_0 ho hv ?_)
  have loop : ∀ (m i : Nat), (i : Int) + m = gI M d 8 → (∀ j, j < i → gI M (d + 3) j ≠ v) → P_Dm_placeOfHost g n 2 [(0, vr g d), (1, vi v), (2, vi (i : Int))] [] M Q := by
    intro m
    induction m with
    | zero =>
      intro i hi hj
      refine b_Dm_placeOfHost_2 ho hv (by omega) (bt (by omega) ?_)
      rw [noF_none (fun j hj2 => hj j (by omega))] at h
      exact h
    | succ m ih =>
      intro i hi hj
      refine b_Dm_placeOfHost_2 ho hv (by omega) (bf (by omega) ⟨by omega, fun e => ?_, fun e => ?_⟩)
      · exact ih (i + 1) (by omega) (fun j hj2 => by
          by_cases q : j = i
          · subst q; exact e
          · exact hj j (by omega))
      · rw [noF_at (i := i) (by omega) e hj, m1F, if_neg (by omega)] at h
        exact h
  exact loop (gI M d 8).toNat 0 (by omega) (fun j hj => by omega)
theorem k_Dm_ruleAt {Q : Nat → Mem → Prop} {d : Nat} {v : Int} (ho : isDom d) (hv : InR v) (h8 : gI M d 5 ≤ 8) (h1 : 0 ≤ v → v < gI M d 5 → Q (gP M (d + 2) v.toNat) M) (h0 : (v < 0 ∨ gI M d 5 ≤ v) → Q 0 M) : K_Dm_ruleAt g n d v M Q :=
  i_Dm_ruleAt (b_Dm_ruleAt_0 ho hv ⟨fun c => h0 (Or.inl c), fun c => ⟨fun d => h0 (Or.inr d), fun d => ⟨by omega, h1 (by omega) (by omega)⟩⟩⟩)
/-- hosts: one put in at place p -/
def insF (f : Nat → Int) (p : Nat) (a : Int) : Nat → Int := fun k => if k < p then f k else if k = p then a else f (k - 1)
def delF (f : Nat → Int) (p : Nat) : Nat → Int := fun k => if k < p then f k else f (k + 1)
theorem k_Dm_insertHost {Q : Int → Mem → Prop} {d p : Nat} {a : Int} (ho : isDom d) (ha : InR a) (h0 : 0 ≤ gI M d 8) (h4 : gI M d 8 ≤ 4) (hp : (p : Int) ≤ gI M d 8) (hful : gI M d 8 = 4 → Q 0 M) (h : ∀ M' : Mem, gI M d 8 < 4 → FrI (fun b k => b = d + 3 ∨ (b = d ∧ k = 8)) M M' → gI M' d 8 = gI M d 8 + 1 → (∀ k : Nat, (k : Int) ≤ gI M d 8 → gI M' (d + 3) k = insF (gI M (d + 3)) p a k) → Q 1 M') : K_Dm_insertHost g n d p a M Q := by
  refine i_Dm_insertHost (b_Dm_insertHost_0 ho (by omega) ha ⟨fun c => hful (by omega), fun c => ⟨fun e => by omega, fun e => ⟨fun f => ?_, fun f => by omega⟩⟩⟩)
  obtain ⟨cnt, hcnt⟩ := Int.eq_ofNat_of_zero_le h0
  have loop : ∀ (m : Nat) (M1 : Mem) (i : Nat), i = p + m → i ≤ cnt → FrI (fun b k => b = d + 3 ∨ (b = d ∧ k = 8)) M M1 → gI M1 d 8 = cnt → (∀ k, k < i → gI M1 (d + 3) k = gI M (d + 3) k) → (∀ k, i < k → k ≤ cnt → gI M1 (d + 3) k = gI M (d + 3) (k - 1)) → P_Dm_insertHost g n 27 [(0, vr g d), (1, vi (p : Int)), (2, vi a), (3, vi (i : Int))] [] M1 Q := by
    intro m
    induction m with
    | zero =>
      intro M1 i hi hic hF hc1 hlo hhi
      refine b_Dm_insertHost_27 ho (by omega) ha (by omega) (bt (by omega) ⟨by omega, by omega, ?_⟩)
      refine h _ (by omega) (hF.tr ((FrI.st (Or.inl rfl)).tr (FrI.st (Or.inr ⟨rfl, rfl⟩)))) ?_ ?_
      · rw [gI_same]; omega
      · intro k hk
        rw [gI_ne _ _ _ _ _ _ (by omega), gI_sI, Int.toNat_natCast]
        unfold insF
        by_cases q : k = p
        · rw [if_pos ⟨rfl, q⟩, if_neg (by omega), if_pos q]
        · rw [if_neg (fun z => q z.2)]
          by_cases q2 : k < p
          · rw [if_pos q2]; exact hlo k (by omega)
          · rw [if_neg q2, if_neg q]; exact hhi k (by omega) (by omega)
    | succ m ih =>
      intro M1 i hi hic hF hc1 hlo hhi
      refine b_Dm_insertHost_27 ho (by omega) ha (by omega) (bf (by omega) ⟨by omega, by omega, ?_⟩)
      have e1 : ((i : Int) - 1).toNat = i - 1 := by omega
      rw [Int.toNat_natCast, e1, show (i : Int) + (-1) = ((i - 1 : Nat) : Int) by omega]
      refine ih _ (i - 1) (by omega) (by omega) (hF.tr (FrI.st (Or.inl rfl))) ?_ ?_ ?_
      · rw [gI_ne _ _ _ _ _ _ (by omega)]; exact hc1
      · intro k hk
        rw [gI_ne _ _ _ _ _ _ (by omega)]; exact hlo k (by omega)
      · intro k hk hk2
        by_cases q : k = i
        · subst q
          rw [gI_same]; exact hlo (k - 1) (by omega)
        · rw [gI_ne _ _ _ _ _ _ (by omega)]; exact hhi k (by omega) hk2
  have l0 := loop (cnt - p) M cnt (by omega) (Nat.le_refl _) (FrI.rf M) hcnt (fun k _ => rfl) (fun k a b => by omega)
  rw [hcnt]
  exact l0
theorem k_Dm_removeHost {Q : Mem → Prop} {d p : Nat} (ho : isDom d) (h4 : gI M d 8 ≤ 4) (hp : (p : Int) < gI M d 8) (h : ∀ M' : Mem, FrI (fun b k => b = d + 3 ∨ (b = d ∧ k = 8)) M M' → gI M' d 8 = gI M d 8 - 1 → (∀ k : Nat, (k : Int) < gI M d 8 - 1 → gI M' (d + 3) k = delF (gI M (d + 3)) p k) → Q M') : K_Dm_removeHost g n d p M Q := by
  refine i_Dm_removeHost (b_Dm_removeHost_0 ho (by omega) ⟨fun c => by omega, fun c => ⟨fun e => ?_, fun e => by omega⟩⟩)
  obtain ⟨cnt, hcnt⟩ := Int.eq_ofNat_of_zero_le (show 0 ≤ gI M d 8 by omega)
  have loop : ∀ (m : Nat) (M1 : Mem) (i : Nat), i + m + 1 = cnt → p ≤ i → FrI (fun b k => b = d + 3 ∨ (b = d ∧ k = 8)) M M1 → gI M1 d 8 = cnt → (∀ k, k < i → gI M1 (d + 3) k = delF (gI M (d + 3)) p k) → (∀ k, i ≤ k → gI M1 (d + 3) k = gI M (d + 3) k) → P_Dm_removeHost g n 15 [(0, vr g d), (2, vi (i : Int))] [] M1 Q := by
    intro m
    induction m with
    | zero =>
      intro M1 i hi hpi hF hc1 hlo hhi
      refine b_Dm_removeHost_15 ho (by omega) ⟨by omega, bt (by omega) ?_⟩
      refine h _ (hF.tr (FrI.st (Or.inr ⟨rfl, rfl⟩))) ?_ ?_
      · rw [gI_same]; omega
      · intro k hk
        rw [gI_ne _ _ _ _ _ _ (by omega)]
        exact hlo k (by omega)
    | succ m ih =>
      intro M1 i hi hpi hF hc1 hlo hhi
      refine b_Dm_removeHost_15 ho (by omega) ⟨by omega, bf (by omega) ⟨by omega, by omega, ?_⟩⟩
      rw [Int.toNat_natCast, show ((i : Int) + 1).toNat = i + 1 by omega]
      refine ih _ (i + 1) (by omega) (by omega) (hF.tr (FrI.st (Or.inl rfl))) ?_ ?_ ?_
      · rw [gI_ne _ _ _ _ _ _ (by omega)]; exact hc1
      · intro k hk
        by_cases q : k = i
        · subst q
          rw [gI_same, hhi (k + 1) (by omega), delF, if_neg (by omega)]
        · rw [gI_ne _ _ _ _ _ _ (by omega)]; exact hlo k (by omega)
      · intro k hk
        rw [gI_ne _ _ _ _ _ _ (by omega)]; exact hhi k (by omega)
  exact loop (cnt - 1 - p) M p (by omega) (Nat.le_refl _) (FrI.rf M) hcnt (fun k hk => by rw [delF, if_pos hk]) (fun k _ => rfl)
theorem k_Nm_finished {Q : Int → Mem → Prop} {o j : Nat} {c : Int} (ho : isMk o) (hc : gI M o 0 = c) (hj : gI M o 1 = j) (h7 : j ≤ 7) (h0 : 0 ≤ c) (hb : c * 17 ^ (7 - j) < 410338673) (h : Q (c * 17 ^ (7 - j)) M) : K_Nm_finished g n o M Q := by
  refine i_Nm_finished (b_Nm_finished_0 ho ?_)
  rw [hc, hj]
  have loop : ∀ (m i : Nat) (x : Int), i + m = 7 → 0 ≤ x → x * 17 ^ m < 410338673 → Q (x * 17 ^ m) M → P_Nm_finished g n 10 [(1, vi x), (2, vi (i : Int))] [] M Q := by
    intro m
    induction m with
    | zero =>
      intro i x hi hx hb hq
      rw [Int.pow_zero, Int.mul_one] at hb hq
      exact b_Nm_finished_10 (by omega) (by omega) (bt (by omega) hq)
    | succ m ih =>
      intro i x hi hx hb hq
      have e : x * 17 ^ (m + 1) = x * 17 * 17 ^ m := by rw [Int.pow_succ, Int.mul_comm (17 ^ m) 17, Int.mul_assoc]
      rw [e] at hb hq
      have hp := pow17_pos m
      have hx17 : x * 17 ≤ x * 17 * 17 ^ m := by
        have h1 : x * 17 * 1 ≤ x * 17 * 17 ^ m := Int.mul_le_mul_of_nonneg_left (by omega) (by omega)
        omega
      exact b_Nm_finished_10 (by omega) (by omega) (bf (by omega) (ih (i + 1) (x * 17) (by omega) (by omega) hb hq))
  exact loop (7 - j) j c (by omega) h0 hb h
theorem k_Sr_isAddress {Q : Int → Mem → Prop} {v : Int} (hv : InR v) (h1 : 0 ≤ v → v < 256 → Q 1 M) (h0 : (v < 0 ∨ 256 ≤ v) → Q 0 M) : K_Sr_isAddress g n v M Q :=
  i_Sr_isAddress (b_Sr_isAddress_0 hv ⟨fun c => h0 (Or.inl c), fun c => ⟨fun d => h0 (Or.inr d), fun d => h1 (by omega) (by omega)⟩⟩)
theorem k_Sr_isLetter {Q : Int → Mem → Prop} {v : Int} (hv : InR v) (h1 : 0 ≤ v → v < 16 → Q 1 M) (h0 : (v < 0 ∨ 16 ≤ v) → Q 0 M) : K_Sr_isLetter g n v M Q :=
  i_Sr_isLetter (b_Sr_isLetter_0 hv ⟨fun c => h0 (Or.inl c), fun c => ⟨fun d => h0 (Or.inr d), fun d => h1 (by omega) (by omega)⟩⟩)
theorem k_Sr_isKnown {Q : Int → Mem → Prop} {v : Int} (hv : InR v) (hb : isRec (gP M 0 1)) (h1 : 0 ≤ v → v < gI M (gP M 0 1) 1 → Q 1 M) (h0 : (v < 0 ∨ gI M (gP M 0 1) 1 ≤ v) → Q 0 M) : K_Sr_isKnown g n v M Q :=
  i_Sr_isKnown (b_Sr_isKnown_0 hv ⟨fun c => h0 (Or.inl c), fun c => ⟨hb, ⟨fun d => h0 (Or.inr d), fun d => h1 (by omega) (by omega)⟩⟩⟩)
theorem k_Sr_numberOrNone {Q : Int → Mem → Prop} {v : Int} (hv : InR v) (hb : isRec (gP M 0 1)) (h0 : 0 ≤ gI M (gP M 0 1) 1) (h12 : gI M (gP M 0 1) 1 ≤ 12) (h : Q (noF (kyF M (gP M 0 1)) v (gI M (gP M 0 1) 1).toNat) M) : K_Sr_numberOrNone g n v M Q := by
  refine i_Sr_numberOrNone (b_Sr_numberOrNone_0 hv ?_)
  refine ⟨hb, k_Rc_find hb hv h0 h12 (fun hr _ => ?_)⟩
  rcases noF_cases (kyF M (gP M 0 1)) v (gI M (gP M 0 1) 1).toNat with ⟨e, _⟩ | ⟨i, hi, e, _⟩
  · rw [e] at h ⊢
    exact bnf rfl h
  · rw [e] at h ⊢
    rw [m1F, if_neg (by omega)]
    exact bnt (by omega) h
end LC
