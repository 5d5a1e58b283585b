/-! ===== macros: the text of a part, and the model's way to it ===== -/
/-- the letters of a name's number, the last one first -/
def revl (c : Int) : List Int := (List.range (lenF c)).map (fun k => dg c k - 1)
theorem revl_len (c : Int) : (revl c).length = lenF c := by simp [revl]
theorem revl_at {c : Int} {k : Nat} (hk : k < lenF c) : (revl c)[k]? = some (dg c k - 1) := by simp [revl, hk]
theorem revl_ok {c : Int} {n : Nat} (h : vcode c n) : okL (revl c) := by
  intro x hx
  obtain ⟨k, hk, e⟩ := List.mem_map.mp hx
  rw [List.mem_range, lenF_of h] at hk
  have h1 := h.2.2.2.2.1 k hk
  have h2 := dg_bd c k
  omega
/-- a part's own text: in the order of writing; o the name of the check, a its address, l its letter, m the name whose rules are tried -/
def srcT (M : Mem) (o : Nat) (a l : Int) (m : Nat) (p : Int) : List Int :=
  if p < 16 then [p] else if p % 4 = 0 then (revl (gI M 532 m)).reverse else if p % 4 = 1 then (revl (gI M 532 o)).reverse else if p % 4 = 2 then [a / 64 % 4, a / 16 % 4, a / 4 % 4, a % 4] else [l]
def isTu (p : Int) : Bool := decide (16 ≤ p ∧ p / 4 % 2 = 1)
def figN (p : Int) : Nat := if 16 ≤ p then ((p - 16) / 8).toNat else 0
def turnT (p : Int) (t : List Int) : List Int := if isTu p = true then t.reverse else t
def dropN (p : Int) (len : Nat) : Nat := if 0 < figN p ∧ figN p < len then len - figN p else 0
def prtT (M : Mem) (o : Nat) (a l : Int) (m : Nat) (p : Int) : List Int := (turnT p (srcT M o a l m p)).drop (dropN p (srcT M o a l m p).length)
/-- the text of the first k parts of rule r -/
def macT (M : Mem) (o : Nat) (a l : Int) (m r : Nat) : Nat → List Int
  | 0 => []
  | k + 1 => macT M o a l m r k ++ prtT M o a l m (gI M 542 (8 * r + k))
/-- the model's letters are this text -/
def LtIs (M : Mem) (t : List Int) : Prop := gI M 530 47 = t.length ∧ ∀ (i : Nat) (x : Int), t[i]? = some x → gI M 562 i = x
def mLt (a k : Nat) : Prop := (a = 530 ∧ k = 47) ∨ a = 562
theorem jand3 {x : Int} (h0 : 0 ≤ x) (h1 : x < 65536) : jand x 3 = x % 4 := by
  obtain ⟨n, rfl⟩ := Int.eq_ofNat_of_zero_le h0
  unfold jand
  rw [vi_nI, show Int32.ofInt 3 = nI 3 from rfl, nand, show (3 : Nat) = 2 ^ 2 - 1 from rfl, Nat.and_two_pow_sub_one_eq_mod, nI_toInt (by omega)]
  omega
theorem jand1 {x : Int} (h0 : 0 ≤ x) (h1 : x < 65536) : jand x 1 = x % 2 := by
  obtain ⟨n, rfl⟩ := Int.eq_ofNat_of_zero_le h0
  unfold jand
  rw [vi_nI, show Int32.ofInt 1 = nI 1 from rfl, nand, Nat.and_one_is_mod, nI_toInt (by omega)]
  omega
theorem jshrN {x : Int} {k : Nat} (h0 : 0 ≤ x) (h1 : x < 65536) (hk : k < 32) : jshr x k = x / 2 ^ k := by
  obtain ⟨n, rfl⟩ := Int.eq_ofNat_of_zero_le h0
  have hd : n / 2 ^ k ≤ n := Nat.div_le_self _ _
  unfold jshr
  rw [vi_nI, vi_nI, pk_shrN (n := n) (by omega) (nI k &&& 31) k (sl32 k hk), nI_toInt (by omega)]
  simp
section MC
variable {g : Ctx} {M : Mem}
theorem k_Mo_spells {Q : Mem → Prop} {c : Int} {n : Nat} (hc : vcode c n) (h : ∀ M' : Mem, FrI mLt M M' → LtIs M' (revl c).reverse → Q M') : K_Mo_spells g c M Q := by
  have hl := lenF_of hc
  have h7 := hc.2.2.2.1
  have hb := hc.2.1
  have hb0 := hc.1
  refine i_Mo_spells (b_Mo_spells_0 (by omega) (k_Mo_lettersOf hb0 hb (fun _ _ => ?_)))
  rw [hl]
  have loop : ∀ (w i : Nat) (M1 : Mem), i + w = n → FrI mLt M M1 → gI M1 530 47 = n → (∀ k, k < i → gI M1 562 k = dg c (n - 1 - k) - 1) → P_Mo_spells g 10 [(0, vr g 530), (1, vi c), (2, vi (i : Int))] [] M1 Q := by
    intro w
    induction w with
    | zero =>
      intro i M1 hi hF e1 e2
      refine b_Mo_spells_10 (by omega) (by omega) (bt (by omega) (h M1 hF ⟨by rw [List.length_reverse, revl_len, hl]; exact e1, fun k x hx => ?_⟩))
      have hk : k < n := by
        have := (List.getElem?_eq_some_iff.mp hx).1
        rw [List.length_reverse, revl_len, hl] at this
        exact this
      rw [List.getElem?_reverse (by rw [revl_len, hl]; exact hk), revl_len, hl, revl_at (by omega)] at hx
      cases hx
      exact e2 k (by omega)
    | succ w ih =>
      intro i M1 hi hF e1 e2
      refine b_Mo_spells_10 (by omega) (by omega) (bf (by omega) ?_)
      rw [e1, show ((n : Int) - 1 - (i : Int)) = ((n - 1 - i : Nat) : Int) by omega]
      refine k_Mo_fromLast hb0 hb (by omega) (fun _ _ => ⟨by omega, ?_⟩)
      rw [Int.toNat_natCast]
      refine ih (i + 1) _ (by omega) (hF.tr (FrI.st (Or.inr rfl))) (by rw [gI_ne _ _ _ _ _ _ (by omega)]; exact e1) (fun k hk => ?_)
      by_cases q : k = i
      · subst q; rw [gI_same]
      · rw [gI_ne _ _ _ _ _ _ (by omega)]; exact e2 k (by omega)
  exact loop n 0 _ (by omega) (FrI.st (Or.inl ⟨rfl, rfl⟩)) (gI_same _ _ _ _) (fun k hk => by omega)
theorem k_Mo_spellsPart {Q : Mem → Prop} {o m : Nat} {a l p : Int} (hp0 : 0 ≤ p) (hp : p < 256) (ha : 0 ≤ a ∧ a < 256) (eo : gI M 530 36 = o) (ea : gI M 530 37 = a) (el : gI M 530 38 = l) (hd : 1 ≤ gI M 530 45 ∧ gI M 530 45 ≤ 12) (em : gI M 560 (gI M 530 45 - 1).toNat = m) (ho : o < 12) (hm : m < 12) (vo : ∃ n, vcode (gI M 532 o) n) (vm : ∃ n, vcode (gI M 532 m) n) (h : ∀ M' : Mem, FrI mLt M M' → LtIs M' (srcT M o a l m p) → Q M') : K_Mo_spellsPart g p M Q := by
  refine i_Mo_spellsPart (w_wt (fun hw => b_Mo_spellsPart_0 (by omega) ⟨hp0, fun c => ⟨by omega, fun c2 => ⟨fun c3 => ?_, fun c3 => ?_⟩, fun c2 => ⟨fun c3 => ⟨by omega, ?_⟩, fun c3 => ⟨by omega, by omega, ?_⟩⟩⟩, fun c => ?_⟩))
  · refine h _ (FrI.tr (S := mLt) (FrI.st (Or.inl ⟨rfl, rfl⟩)) (FrI.st (Or.inr rfl))) ?_
    rw [srcT, if_neg (by omega), if_neg (by omega), if_neg (by omega), if_neg c3]
    refine ⟨by rw [gI_ne _ _ _ _ _ _ (by omega), gI_same]; rfl, fun i x hx => ?_⟩
    match i, hx with
    | 0, hx => cases hx; rw [gI_same]; exact el
    | i + 1, hx => simp at hx
  · have loop : ∀ (w i : Nat) (M1 : Mem), i + w = 4 → FrI mLt M M1 → gI M1 530 47 = 4 → (∀ k, k < i → gI M1 562 k = a / 2 ^ (6 - 2 * k) % 4) → P_Mo_spellsPart g 76 [(0, vr g 530), (3, vi (i : Int))] [] M1 Q := by
      intro w
      induction w with
      | zero =>
        intro i M1 hi hF e1 e2
        refine b_Mo_spellsPart_76 (by omega) (bt (by omega) (h M1 hF ?_))
        rw [srcT, if_neg (by omega), if_neg (by omega), if_neg (by omega), if_pos c3]
        refine ⟨e1, fun k x hx => ?_⟩
        match k, hx with
        | 0, hx => cases hx; exact e2 0 (by omega)
        | 1, hx => cases hx; exact e2 1 (by omega)
        | 2, hx => cases hx; exact e2 2 (by omega)
        | 3, hx => cases hx; rw [e2 3 (by omega)]; simp
        | k + 4, hx => simp at hx
      | succ w ih =>
        intro i M1 hi hF e1 e2
        refine b_Mo_spellsPart_76 (by omega) (bf (by omega) ⟨by omega, ?_⟩)
        have e37 : gI M1 530 37 = a := by rw [hF.i (by unfold mLt; omega)]; exact ea
        have hq : 0 ≤ a / 2 ^ (6 - 2 * i) ∧ a / 2 ^ (6 - 2 * i) ≤ a := ⟨Int.ediv_nonneg ha.1 (Int.le_of_lt (Int.pow_pos (by decide))), Int.ediv_le_self _ ha.1⟩
        rw [Int.toNat_natCast, e37, show (6 - 2 * (i : Int)) = ((6 - 2 * i : Nat) : Int) by omega, jshrN ha.1 (by omega) (by omega), jand3 hq.1 (by omega)]
        refine ih (i + 1) _ (by omega) (hF.tr (FrI.st (Or.inr rfl))) (by rw [gI_ne _ _ _ _ _ _ (by omega)]; exact e1) (fun k hk => ?_)
        by_cases q : k = i
        · subst q; rw [gI_same]
        · rw [gI_ne _ _ _ _ _ _ (by omega)]; exact e2 k (by omega)
    exact loop 4 0 _ rfl (FrI.st (Or.inl ⟨rfl, rfl⟩)) (gI_same _ _ _ _) (fun k hk => by omega)
  · obtain ⟨n, hn⟩ := vo
    rw [eo, Int.toNat_natCast]
    refine k_Mo_spells hn (fun M' hF hL _ => h M' hF ?_)
    rw [srcT, if_neg (by omega), if_neg c3, if_pos (by omega)]
    exact hL
  · obtain ⟨n, hn⟩ := vm
    rw [em, Int.toNat_natCast]
    refine k_Mo_spells hn (fun M' hF hL _ => h M' hF ?_)
    rw [srcT, if_neg (by omega), if_pos c3]
    exact hL
  · refine h _ (FrI.tr (S := mLt) (FrI.st (Or.inl ⟨rfl, rfl⟩)) (FrI.st (Or.inr rfl))) ?_
    rw [srcT, if_pos (by omega)]
    refine ⟨by rw [gI_ne _ _ _ _ _ _ (by omega), gI_same]; rfl, fun i x hx => ?_⟩
    match i, hx with
    | 0, hx => cases hx; rw [gI_same]
    | i + 1, hx => simp at hx
end MC
