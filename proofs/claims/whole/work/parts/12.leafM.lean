/-! ===== contracts of the model's small methods ===== -/
theorem bz1 {A B : Prop} (h : B) : ((1 : Int) = 0 → A) ∧ (¬ ((1 : Int) = 0) → B) := ⟨fun e => absurd e (by decide), fun _ => h⟩
theorem bz0 {A B : Prop} (h : A) : ((0 : Int) = 0 → A) ∧ (¬ ((0 : Int) = 0) → B) := ⟨fun _ => h, fun e => absurd rfl e⟩
theorem bt {c A B : Prop} (hc : c) (h : A) : (c → A) ∧ (¬ c → B) := ⟨fun _ => h, fun e => absurd hc e⟩
theorem bf {c A B : Prop} (hc : ¬ c) (h : B) : (c → A) ∧ (¬ c → B) := ⟨fun e => absurd e hc, fun _ => h⟩
theorem bnt {c A B : Prop} (hc : ¬ c) (h : A) : (¬ c → A) ∧ (c → B) := ⟨fun _ => h, fun e => absurd e hc⟩
theorem bnf {c A B : Prop} (hc : c) (h : B) : (¬ c → A) ∧ (c → B) := ⟨fun e => absurd hc e, fun _ => h⟩
theorem sI_self (M : Mem) (a k : Nat) : sI M a k (gI M a k) = M := by
  refine Prod.ext ?_ rfl
  funext b j
  show (if b = a ∧ j = k then M.1 a k else M.1 b j) = M.1 b j
  split
  · rename_i q; rw [q.1, q.2]
  · rfl
theorem sP_self (M : Mem) (a k : Nat) : sP M a k (gP M a k) = M := by
  refine Prod.ext rfl ?_
  funext b j
  show (if b = a ∧ j = k then M.2 a k else M.2 b j) = M.2 b j
  split
  · rename_i q; rw [q.1, q.2]
  · rfl
/-- the first place below n with the value, or -4 -/
def noF (f : Nat → Int) (v : Int) : Nat → Int
  | 0 => -4
  | n + 1 => if noF f v n = -4 then (if f n = v then (n : Int) else -4) else noF f v n
theorem noF_none {f : Nat → Int} {v : Int} : ∀ {n : Nat}, (∀ i, i < n → f i ≠ v) → noF f v n = -4
  | 0, _ => rfl
  | n + 1, h => by
    rw [noF, if_pos (noF_none (fun i hi => h i (by omega))), if_neg (h n (by omega))]
theorem noF_at {f : Nat → Int} {v : Int} {i : Nat} : ∀ {n : Nat}, i < n → f i = v → (∀ j, j < i → f j ≠ v) → noF f v n = i
  | 0, h, _, _ => by omega
  | n + 1, h, h1, h2 => by
    by_cases hi : i < n
    · rw [noF, noF_at hi h1 h2, if_neg (by omega)]
    · have e : i = n := by omega
      subst e
      rw [noF, if_pos (noF_none h2), if_pos h1]
theorem noF_cases (f : Nat → Int) (v : Int) : ∀ n : Nat, (noF f v n = -4 ∧ ∀ i, i < n → f i ≠ v) ∨ ∃ i : Nat, i < n ∧ noF f v n = i ∧ f i = v ∧ ∀ j, j < i → f j ≠ v
  | 0 => Or.inl ⟨rfl, fun i hi => by omega⟩
  | n + 1 => by
    rcases noF_cases f v n with ⟨h1, h2⟩ | ⟨i, h1, h2, h3, h4⟩
    · by_cases hn : f n = v
      · exact Or.inr ⟨n, by omega, by rw [noF, if_pos h1, if_pos hn], hn, h2⟩
      · refine Or.inl ⟨by rw [noF, if_pos h1, if_neg hn], fun i hi => ?_⟩
        by_cases e : i = n
        · rw [e]; exact hn
        · exact h2 i (by omega)
    · exact Or.inr ⟨i, by omega, by rw [noF, h2, if_neg (by omega)], h3, h4⟩
theorem noF_congr {f f' : Nat → Int} {v : Int} : ∀ {n : Nat}, (∀ i, i < n → f i = f' i) → noF f v n = noF f' v n
  | 0, _ => rfl
  | n + 1, h => by
    have e := noF_congr (v := v) (n := n) (fun i hi => h i (by omega))
    rw [noF, noF, e, h n (by omega)]
section LM
variable {g : Ctx} {M : Mem}
theorem k_Mo_isIn {Q : Int → Mem → Prop} {v l h : Int} (hv : InR v) (hl : InR l) (hh : InR h) (h1 : l ≤ v → v ≤ h → Q 1 M) (h0 : (v < l ∨ h < v) → Q 0 M) : K_Mo_isIn g v l h M Q :=
  i_Mo_isIn (b_Mo_isIn_0 hv hl hh ⟨fun c => h0 (Or.inl c), fun c => ⟨fun d => h0 (Or.inr d), fun d => h1 (by omega) (by omega)⟩⟩)
/-- the sign that comes next in the model's text -/
def mnx (M : Mem) : Int := if gI M 530 32 < gI M 530 0 then gI M 531 (gI M 530 32).toNat else 0
theorem k_Mo_next {Q : Int → Mem → Prop} (ha : 0 ≤ gI M 530 32) (hL : gI M 530 0 ≤ 240) (h : Q (mnx M) M) : K_Mo_next g M Q := by
  refine i_Mo_next (b_Mo_next_0 ⟨fun c => ?_, fun c => ⟨⟨ha, by omega⟩, ?_⟩⟩)
  · rw [mnx, if_neg (by omega)] at h; exact h
  · rw [mnx, if_pos (by omega)] at h; exact h
theorem k_Mo_comes {Q : Int → Mem → Prop} {c : Int} (hc : InR c) (ha : 0 ≤ gI M 530 32) (ha2 : gI M 530 32 ≤ 1000000) (hL : gI M 530 0 ≤ 240) (h1 : mnx M = c → Q 1 (sI M 530 32 (gI M 530 32 + 1))) (h0 : mnx M ≠ c → Q 0 M) : K_Mo_comes g c M Q := by
  refine i_Mo_comes (b_Mo_comes_0 hc (k_Mo_next ha hL (fun _ _ => ⟨fun e => ⟨by omega, ?_⟩, fun e => ⟨by omega, h1 e⟩⟩)))
  rw [Int.add_zero, sI_self]
  exact h0 e
theorem k_Mo_longer {Q : Int → Mem → Prop} {c x : Int} (h0 : 0 ≤ c) (hc : c < 410338673) (hx : 0 ≤ x) (hx2 : x ≤ 15) (h : Q ((x + 1) * 24137569 + c / 17) M) : K_Mo_longer g c x M Q :=
  i_Mo_longer (b_Mo_longer_0 (by omega) (by omega) ⟨h0, by omega, h⟩)
theorem k_Mo_numberOf {Q : Int → Mem → Prop} {v : Int} (hv : InR v) (hn0 : 0 ≤ gI M 530 2) (hn : gI M 530 2 ≤ 12) (h : Q (noF (gI M 532) v (gI M 530 2).toNat) M) : K_Mo_numberOf g v M Q := by
  refine i_Mo_numberOf (b_Mo_numberOf_0 hv ?_)
  have loop : ∀ (m i : Nat), (i : Int) + m = gI M 530 2 → (∀ j, j < i → gI M 532 j ≠ v) → P_Mo_numberOf g 2 [(0, vr g 530), (1, vi v), (2, vi (i : Int))] [] M Q := by
    intro m
    induction m with
    | zero =>
      intro i hi hj
      refine b_Mo_numberOf_2 hv (by omega) (bt (by omega) ?_)
      rw [noF_none (fun j hj2 => hj j (by omega))] at h
      exact h
    | succ m ih =>
      intro i hi hj
      refine b_Mo_numberOf_2 hv (by omega) (bf (by omega) ⟨by omega, fun e => ?_, fun e => ?_⟩)
      · exact ih (i + 1) (by omega) (fun j hj2 => by
          by_cases q : j = i
          · subst q; exact e
          · exact hj j (by omega))
      · rw [noF_at (i := i) (by omega) e hj] at h
        exact h
  exact loop (gI M 530 2).toNat 0 (by omega) (fun j hj => by omega)
theorem k_Mo_isName {Q : Int → Mem → Prop} {v : Int} (hv : InR v) (hn0 : 0 ≤ gI M 530 2) (hn : gI M 530 2 ≤ 12) (h1 : 0 ≤ v → v < gI M 530 2 → Q 1 M) (h0 : (v < 0 ∨ gI M 530 2 ≤ v) → Q 0 M) : K_Mo_isName g v M Q :=
  i_Mo_isName (b_Mo_isName_0 hv (k_Mo_isIn hv (by omega) (by omega) (fun a b _ _ => h1 a (by omega)) (fun a _ _ => h0 (by omega))))
theorem k_Mo_isRule {Q : Int → Mem → Prop} {v r : Int} (hv : InR v) (hr : InR r) (hn0 : 0 ≤ gI M 530 2) (hn : gI M 530 2 ≤ 12) (hR : ∀ j : Nat, (j : Int) < gI M 530 2 → 0 ≤ gI M 533 j ∧ gI M 533 j ≤ 8) (h1 : 0 ≤ v → v < gI M 530 2 → 0 ≤ r → r < gI M 533 v.toNat → Q 1 M) (h0 : (v < 0 ∨ gI M 530 2 ≤ v ∨ (0 ≤ v ∧ v < gI M 530 2 ∧ (r < 0 ∨ gI M 533 v.toNat ≤ r))) → Q 0 M) : K_Mo_isRule g v r M Q := by
  refine i_Mo_isRule (b_Mo_isRule_0 hv hr (k_Mo_isName hv hn0 hn (fun a b _ _ => bz1 ⟨by omega, ?_⟩) (fun a _ _ => bz0 (h0 (by omega)))))
  have h8 := hR v.toNat (by omega)
  exact k_Mo_isIn hr (by omega) (by omega) (fun c d _ _ => bz1 (h1 a b c (by omega))) (fun c _ _ => bz0 (h0 (by omega)))
theorem k_Mo_looks {Q : Int → Mem → Prop} (hb : gI M 530 39 ≤ 1000) (hb0 : 0 ≤ gI M 530 39) (h0 : 11 ≤ gI M 530 39 + 1 → Q 0 (sI M 530 39 (gI M 530 39 + 1))) (h1 : gI M 530 39 + 1 < 11 → Q 1 (sI M 530 39 (gI M 530 39 + 1))) : K_Mo_looks g M Q :=
  i_Mo_looks (b_Mo_looks_0 ⟨by omega, fun c => h0 c, fun c => h1 (by omega)⟩)
theorem k_Mo_isEmpty {Q : Int → Mem → Prop} (hb : gI M 530 40 ≤ 1000) (hb0 : 0 ≤ gI M 530 40) (h0 : 3 ≤ gI M 530 40 + 1 → Q 0 (sI M 530 40 (gI M 530 40 + 1))) (h1 : gI M 530 40 + 1 < 3 → Q 1 (sI M 530 40 (gI M 530 40 + 1))) : K_Mo_isEmpty g M Q :=
  i_Mo_isEmpty (b_Mo_isEmpty_0 ⟨by omega, fun c => h0 c, fun c => h1 (by omega)⟩)
/-- the model's tables of a name n: places in now -/
def mnow (M : Mem) (n k : Nat) : Int := gI M 543 (21 * n + k)
theorem k_Mo_ruleAt {Q : Int → Mem → Prop} {n k : Nat} (hn : n < 12) (hk : k < 8) (hp : 0 ≤ mnow M n k ∧ mnow M n k < 8) (h : Q (8 * (n : Int) + mnow M n k) M) : K_Mo_ruleAt g n k M Q := by
  have e : ((21 * (n : Int)) + (k : Int)).toNat = 21 * n + k := by omega
  refine i_Mo_ruleAt (b_Mo_ruleAt_0 (by omega) (by omega) ⟨by omega, ?_⟩)
  rw [e]
  unfold mnow at hp h
  exact ⟨by omega, h⟩
theorem k_Mo_signAt {Q : Int → Mem → Prop} {n k : Nat} (hn : n < 12) (hk : k < 8) (hp : 0 ≤ mnow M n k ∧ mnow M n k < 8) (h : Q (mnow M n (8 + (mnow M n k).toNat)) M) : K_Mo_signAt g n k M Q := by
  have e : ((21 * (n : Int)) + (k : Int)).toNat = 21 * n + k := by omega
  refine i_Mo_signAt (b_Mo_signAt_0 (by omega) (by omega) ⟨by omega, ?_⟩)
  rw [e]
  unfold mnow at hp h
  refine ⟨by omega, ?_⟩
  have e2 : ((21 * (n : Int) + 8) + gI M 543 (21 * n + k)).toNat = 21 * n + (8 + (gI M 543 (21 * n + k)).toNat) := by omega
  rw [e2]
  exact h
def ansF (s : Int) : Int := if s = 0 then 2 else if s = 3 then 1 else s + 2
theorem k_Mo_answerOf {Q : Int → Mem → Prop} {s : Int} (hs : 0 ≤ s ∧ s ≤ 3) (h : Q (ansF s) M) : K_Mo_answerOf g s M Q := by
  unfold ansF at h
  refine i_Mo_answerOf (b_Mo_answerOf_0 (by omega) ⟨fun c => ⟨fun d => ⟨by omega, ?_⟩, fun d => ?_⟩, fun c => ?_⟩)
  · rw [if_neg c, if_neg d] at h; exact h
  · rw [if_neg c, if_pos d] at h; exact h
  · rw [if_pos c] at h; exact h
theorem k_Mo_hostMany {Q : Int → Mem → Prop} {v : Int} (hv : v = -4 ∨ (0 ≤ v ∧ v < 12)) (h : Q (if v = -4 then 0 else mnow M v.toNat 16) M) : K_Mo_hostMany g v M Q := by
  refine i_Mo_hostMany (b_Mo_hostMany_0 (by omega) ⟨fun c => ⟨by omega, ?_⟩, fun c => ?_⟩)
  · rw [if_neg c] at h
    have e : ((21 * v) + 16).toNat = 21 * v.toNat + 16 := by omega
    rw [e]
    exact h
  · rw [if_pos c] at h; exact h
/-- whether one of the first c values is a -/
def hasF (f : Nat → Int) (a : Int) : Nat → Bool
  | 0 => false
  | c + 1 => hasF f a c || decide (f c = a)
theorem hasF_iff (f : Nat → Int) (a : Int) : ∀ c : Nat, hasF f a c = true ↔ ∃ i, i < c ∧ f i = a
  | 0 => by simp [hasF]
  | c + 1 => by
    rw [hasF, Bool.or_eq_true, hasF_iff f a c, decide_eq_true_eq]
    constructor
    · rintro (⟨i, h1, h2⟩ | h)
      · exact ⟨i, by omega, h2⟩
      · exact ⟨c, by omega, h⟩
    · rintro ⟨i, h1, h2⟩
      by_cases e : i = c
      · subst e; exact Or.inr h2
      · exact Or.inl ⟨i, by omega, h2⟩
theorem k_Mo_hasHost {Q : Int → Mem → Prop} {v a : Int} (hv : v = -4 ∨ (0 ≤ v ∧ v < 12)) (ha : InR a) (hc : ∀ n : Nat, v = n → 0 ≤ mnow M n 16 ∧ mnow M n 16 ≤ 4) (h1 : ∀ n : Nat, v = n → n < 12 → hasF (fun k => mnow M n (17 + k)) a (mnow M n 16).toNat = true → Q 1 M) (h0 : (v = -4 ∨ ∃ n : Nat, v = n ∧ n < 12 ∧ hasF (fun k => mnow M n (17 + k)) a (mnow M n 16).toNat = false) → Q 0 M) : K_Mo_hasHost g v a M Q := by
  refine i_Mo_hasHost (b_Mo_hasHost_0 (by omega) ha ?_)
  rcases hv with rfl | ⟨hv0, hv1⟩
  · exact b_Mo_hasHost_5 (by omega) ha (by omega) (by omega) (bt rfl ⟨by omega, h0 (Or.inl rfl)⟩)
  · obtain ⟨n, rfl⟩ := Int.eq_ofNat_of_zero_le hv0
    have hn : n < 12 := by omega
    have hc := hc n rfl
    have loop : ∀ (m i : Nat), (i : Int) + m = mnow M n 16 → P_Mo_hasHost g 5 [(0, vr g 530), (1, vi (n : Int)), (2, vi a), (3, vi (if hasF (fun k => mnow M n (17 + k)) a i = true then 1 else 0)), (4, vi (i : Int))] [] M Q := by
      intro m
      induction m with
      | zero =>
        intro i hi
        have e0 : ((21 * (n : Int)) + 16).toNat = 21 * n + 16 := by omega
        refine b_Mo_hasHost_5 (by omega) ha (by split <;> omega) (by omega) (bf (by omega) ⟨by omega, bt (by rw [e0]; unfold mnow at hi; omega) ⟨by split <;> omega, ?_⟩⟩)
        have e1 : i = (mnow M n 16).toNat := by omega
        subst e1
        by_cases q : hasF (fun k => mnow M n (17 + k)) a (mnow M n 16).toNat = true
        · rw [if_pos q]; exact h1 n rfl hn q
        · rw [if_neg q]; exact h0 (Or.inr ⟨n, rfl, hn, by simpa using q⟩)
      | succ m ih =>
        intro i hi
        have e0 : ((21 * (n : Int)) + 16).toNat = 21 * n + 16 := by omega
        have e2 : (((21 * (n : Int)) + 17) + (i : Int)).toNat = 21 * n + (17 + i) := by omega
        have ih1 := ih (i + 1) (by omega)
        rw [Int.natCast_succ] at ih1
        refine b_Mo_hasHost_5 (by omega) ha (by split <;> omega) (by omega) (bf (by omega) ⟨by omega, bf (by rw [e0]; unfold mnow at hi; omega) ⟨fun c => ?_, fun c => ⟨by omega, fun d => ?_, fun d => ?_⟩⟩⟩)
        · have q : hasF (fun k => mnow M n (17 + k)) a i = true := by
            by_cases q : hasF (fun k => mnow M n (17 + k)) a i = true
            · exact q
            · rw [if_neg q] at c; exact absurd rfl c
          rw [show hasF (fun k => mnow M n (17 + k)) a (i + 1) = true by rw [hasF, q]; rfl, if_pos rfl] at ih1
          exact ih1
        · have q : hasF (fun k => mnow M n (17 + k)) a i = false := by
            by_cases q : hasF (fun k => mnow M n (17 + k)) a i = true
            · rw [if_pos q] at c; exact absurd c (by decide)
            · simpa using q
          rw [e2] at d
          rw [show hasF (fun k => mnow M n (17 + k)) a (i + 1) = false by rw [hasF, q]; simp [mnow, d], if_neg (by decide)] at ih1
          exact ih1
        · rw [e2] at d
          rw [show hasF (fun k => mnow M n (17 + k)) a (i + 1) = true by rw [hasF]; simp [mnow, d], if_pos rfl] at ih1
          exact ih1
    have l0 := loop (mnow M n 16).toNat 0 (by omega)
    rw [show hasF (fun k => mnow M n (17 + k)) a 0 = false from rfl, if_neg (by decide)] at l0
    exact l0
theorem k_Mo_error {Q : Int → Mem → Prop} (h : Q 5 (sI (sI M 530 41 (-4)) 530 42 (-4))) : K_Mo_error g M Q := i_Mo_error (b_Mo_error_0 h)
end LM
