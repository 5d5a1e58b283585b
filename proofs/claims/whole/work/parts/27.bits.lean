/-! ===== sets as numbers ===== -/
theorem vi_nI (n : Nat) : Int32.ofInt (n : Int) = nI n := Int32.ofInt_eq_ofNat
theorem sl32 : ∀ k, k < 32 → ((nI k &&& 31).toBitVec.smod 32).toNat = k := by decide +kernel
theorem nor (a b : Nat) : nI a ||| nI b = nI (a ||| b) := by
  apply Int32.toBitVec_inj.1
  show BitVec.ofNat 32 a ||| BitVec.ofNat 32 b = BitVec.ofNat 32 (a ||| b)
  apply BitVec.eq_of_getLsbD_eq
  intro i hi
  simp [hi]
theorem nand (a b : Nat) : nI a &&& nI b = nI (a &&& b) := by
  apply Int32.toBitVec_inj.1
  show BitVec.ofNat 32 a &&& BitVec.ofNat 32 b = BitVec.ofNat 32 (a &&& b)
  apply BitVec.eq_of_getLsbD_eq
  intro i hi
  simp [hi]
theorem jor_n {a b : Nat} (ha : a < 4096) (hb : b < 4096) : jor (a : Int) (b : Int) = ((a ||| b : Nat) : Int) := by
  have h : a ||| b < 2 ^ 12 := Nat.or_lt_two_pow (by omega) (by omega)
  unfold jor
  rw [vi_nI, vi_nI, nor, nI_toInt (by omega)]
theorem jor_0 {a : Nat} (ha : a < 4096) : jor (a : Int) 0 = (a : Int) := by
  have := jor_n ha (b := 0) (by decide)
  rw [Nat.or_zero] at this
  exact this
theorem pow12 {k : Nat} (hk : k < 12) : 2 ^ k < 4096 := by
  have : 2 ^ k < 2 ^ 12 := Nat.pow_lt_pow_right (by decide) hk
  omega
theorem jshl_1 {k : Nat} (hk : k < 12) : jshl 1 (k : Int) = ((2 ^ k : Nat) : Int) := by
  have h := pow12 hk
  unfold jshl
  rw [vi_nI, show Int32.ofInt 1 = nI 1 from rfl, pk_shlN (n := 1) (nI k &&& 31) k (sl32 k (by omega)) (by omega), Nat.one_mul, nI_toInt (by omega)]
theorem jand_b {a k : Nat} (ha : a < 4096) (hk : k < 12) : jand (a : Int) (jshl 1 (k : Int)) = 0 ↔ a.testBit k = false := by
  have h := pow12 hk
  rw [jshl_1 hk]
  unfold jand
  have hle : a &&& 2 ^ k ≤ 2 ^ k := Nat.and_le_right
  rw [vi_nI, vi_nI, nand, nI_toInt (by omega)]
  constructor
  · intro e
    have e0 : a &&& 2 ^ k = 0 := by omega
    have e1 : (a &&& 2 ^ k).testBit k = false := by rw [e0]; simp
    rw [Nat.testBit_and, Nat.testBit_two_pow_self, Bool.and_true] at e1
    exact e1
  · intro e
    have e0 : a &&& 2 ^ k = 0 := by
      apply Nat.eq_of_testBit_eq
      intro i
      rw [Nat.testBit_and, Nat.zero_testBit]
      by_cases q : k = i
      · subst q; rw [e]; rfl
      · rw [Nat.testBit_two_pow_of_ne q, Bool.and_false]
    omega
theorem jshr_b {a k : Nat} (ha : a < 4096) (hk : k < 12) : jand (jshr (a : Int) (k : Int)) 1 = 1 ↔ a.testBit k = true := by
  have hd : a / 2 ^ k ≤ a := Nat.div_le_self _ _
  have e1 : jshr (a : Int) (k : Int) = ((a / 2 ^ k : Nat) : Int) := by
    unfold jshr
    rw [vi_nI, vi_nI, pk_shrN (n := a) (by omega) (nI k &&& 31) k (sl32 k (by omega)), nI_toInt (by omega)]
  rw [e1]
  unfold jand
  rw [vi_nI, show Int32.ofInt 1 = nI 1 from rfl, nand, Nat.and_one_is_mod, nI_toInt (by omega), Nat.testBit_eq_decide_div_mod_eq, decide_eq_true_eq]
  omega
/-- the set that holds the number v, if v isn't -4 -/
theorem tb_pow {r t : Nat} : (2 ^ r).testBit t = true ↔ r = t := by rw [Nat.testBit_two_pow, decide_eq_true_eq]
/-- what a set grows by, round by round -/
def fkS (L : Nat → Nat) (s : Nat) : Nat → Nat
  | 0 => s
  | k + 1 => if s.testBit k = true then fkS L s k ||| L k else fkS L s k
theorem fkS_tb (L : Nat → Nat) (s : Nat) : ∀ (k t : Nat), (fkS L s k).testBit t = true ↔ (s.testBit t = true ∨ ∃ i, i < k ∧ s.testBit i = true ∧ (L i).testBit t = true)
  | 0, t => by simp [fkS]
  | k + 1, t => by
    have ih := fkS_tb L s k t
    rw [fkS]
    by_cases q : s.testBit k = true
    · rw [if_pos q, Nat.testBit_or, Bool.or_eq_true, ih]
      constructor
      · rintro ((h | ⟨i, h1, h2⟩) | h)
        · exact Or.inl h
        · exact Or.inr ⟨i, by omega, h2⟩
        · exact Or.inr ⟨k, by omega, q, h⟩
      · rintro (h | ⟨i, h1, h2, h3⟩)
        · exact Or.inl (Or.inl h)
        · by_cases e : i = k
          · subst e; exact Or.inr h3
          · exact Or.inl (Or.inr ⟨i, by omega, h2, h3⟩)
    · rw [if_neg q, ih]
      constructor
      · rintro (h | ⟨i, h1, h2⟩)
        · exact Or.inl h
        · exact Or.inr ⟨i, by omega, h2⟩
      · rintro (h | ⟨i, h1, h2, h3⟩)
        · exact Or.inl h
        · by_cases e : i = k
          · subst e; exact absurd h2 q
          · exact Or.inr ⟨i, by omega, h2, h3⟩
theorem fkS_lt {L : Nat → Nat} {s : Nat} (hs : s < 4096) (hL : ∀ k, L k < 4096) : ∀ k, fkS L s k < 4096
  | 0 => hs
  | k + 1 => by
    have ih := fkS_lt hs hL k
    rw [fkS]
    split
    · have := Nat.or_lt_two_pow (n := 12) (show fkS L s k < 2 ^ 12 by omega) (show L k < 2 ^ 12 by have := hL k; omega)
      omega
    · exact ih
def itS (L : Nat → Nat) (n s : Nat) : Nat → Nat
  | 0 => s
  | i + 1 => fkS L (itS L n s i) n
/-- how many of the first 12 -/
def cnS (s : Nat) : Nat → Nat
  | 0 => 0
  | t + 1 => cnS s t + if s.testBit t = true then 1 else 0
theorem cnS_le (s : Nat) : ∀ t, cnS s t ≤ t
  | 0 => Nat.le_refl _
  | t + 1 => by have := cnS_le s t; rw [cnS]; split <;> omega
theorem cnS_mono {s s' : Nat} (h : ∀ t, s.testBit t = true → s'.testBit t = true) : ∀ t, cnS s t ≤ cnS s' t
  | 0 => Nat.le_refl _
  | t + 1 => by
    have := cnS_mono h t
    rw [cnS, cnS]
    by_cases q : s.testBit t = true
    · rw [if_pos q, if_pos (h t q)]; omega
    · rw [if_neg q]; split <;> omega
theorem cnS_lt {s s' : Nat} (h : ∀ t, s.testBit t = true → s'.testBit t = true) {u : Nat} (hu1 : s.testBit u = false) (hu2 : s'.testBit u = true) : ∀ t, u < t → cnS s t < cnS s' t
  | 0, hu => by omega
  | t + 1, hu => by
    rw [cnS, cnS]
    by_cases e : u = t
    · subst e
      have := cnS_mono h u
      rw [if_neg (by rw [hu1]; decide), if_pos hu2]; omega
    · have := cnS_lt h hu1 hu2 t (by omega)
      by_cases q : s.testBit t = true
      · rw [if_pos q, if_pos (h t q)]; omega
      · rw [if_neg q]; split <;> omega
theorem ne_bit {s s' : Nat} (hs : s < 4096) (hs' : s' < 4096) (h : ∀ t, s.testBit t = true → s'.testBit t = true) (hne : s ≠ s') : cnS s 12 < cnS s' 12 := by
  have hb : ∀ x t, x < 4096 → 12 ≤ t → x.testBit t = false := fun x t hx ht => Nat.testBit_lt_two_pow (Nat.lt_of_lt_of_le (show x < 2 ^ 12 by omega) (Nat.pow_le_pow_right (by decide) ht))
  have : ∃ u, u < 12 ∧ s.testBit u = false ∧ s'.testBit u = true := by
    apply Classical.byContradiction
    intro hno
    apply hne
    apply Nat.eq_of_testBit_eq
    intro i
    by_cases hi : i < 12
    · cases e : s.testBit i with
      | true => rw [h i e]
      | false =>
        cases e2 : s'.testBit i with
        | false => rfl
        | true => exact absurd ⟨i, hi, e, e2⟩ hno
    · rw [hb s i hs (by omega), hb s' i hs' (by omega)]
  obtain ⟨u, h1, h2, h3⟩ := this
  exact cnS_lt h h2 h3 12 h1
theorem itS_grow (L : Nat → Nat) (n s i t : Nat) (h : (itS L n s i).testBit t = true) : (itS L n s (i + 1)).testBit t = true := (fkS_tb L _ n t).mpr (Or.inl h)
theorem itS_lt {L : Nat → Nat} {n s : Nat} (hs : s < 4096) (hL : ∀ k, L k < 4096) : ∀ i, itS L n s i < 4096
  | 0 => hs
  | i + 1 => fkS_lt (itS_lt hs hL i) hL n
theorem itS_stay {L : Nat → Nat} {n s i : Nat} (h : itS L n s (i + 1) = itS L n s i) : ∀ j, itS L n s (i + j) = itS L n s i
  | 0 => rfl
  | j + 1 => by
    have ih := itS_stay h j
    show fkS L (itS L n s (i + j)) n = _
    rw [ih]
    exact h
/-- as long as it grows it has more than i -/
theorem itS_cnt {L : Nat → Nat} {n s : Nat} (hs : s < 4096) (hL : ∀ k, L k < 4096) (h0 : s ≠ 0) : ∀ i, (∀ j, j < i → itS L n s (j + 1) ≠ itS L n s j) → i + 1 ≤ cnS (itS L n s i) 12
  | 0, _ => by
    have := ne_bit (s := 0) (s' := s) (by decide) hs (fun t ht => by simp at ht) (Ne.symm h0)
    show 1 ≤ cnS s 12
    omega
  | i + 1, h => by
    have ih := itS_cnt hs hL h0 i (fun j hj => h j (by omega))
    have := ne_bit (itS_lt hs hL i) (itS_lt hs hL (i + 1)) (itS_grow L n s i) (Ne.symm (h i (by omega)))
    omega
/-- an injection of the first m numbers into themselves meets each -/
theorem surj_of {m : Nat} : ∀ {f : Nat → Nat}, (∀ i, i < m → f i < m) → (∀ i j, i < m → j < m → f i = f j → i = j) → ∀ y, y < m → ∃ i, i < m ∧ f i = y := by
  induction m with
  | zero => intro f _ _ y hy; omega
  | succ m ih =>
    intro f h1 h2 y hy
    have key := ih (f := fun i => if f i = m then f m else f i) (fun i hi => by
      by_cases q : f i = m
      · rw [if_pos q]
        have a := h1 m (by omega)
        have b : f m ≠ m := fun z => by have := h2 i m (by omega) (by omega) (by rw [q, z]); omega
        omega
      · rw [if_neg q]
        have a := h1 i (by omega)
        omega) (fun i j hi hj e => by
      by_cases q : f i = m
      · rw [if_pos q] at e
        by_cases r : f j = m
        · exact h2 i j (by omega) (by omega) (by rw [q, r])
        · rw [if_neg r] at e
          have := h2 m j (by omega) (by omega) e
          omega
      · rw [if_neg q] at e
        by_cases r : f j = m
        · rw [if_pos r] at e
          have := h2 i m (by omega) (by omega) e
          omega
        · rw [if_neg r] at e
          exact h2 i j (by omega) (by omega) e)
    by_cases ya : y = f m
    · exact ⟨m, by omega, ya.symm⟩
    · by_cases ym : y = m
      · subst ym
        have a := h1 y (by omega)
        obtain ⟨i, hi, e⟩ := key (f y) (by omega)
        by_cases q : f i = y
        · exact ⟨i, by omega, q⟩
        · rw [if_neg q] at e
          have := h2 i y (by omega) (by omega) e
          omega
      · obtain ⟨i, hi, e⟩ := key y (by omega)
        by_cases q : f i = m
        · rw [if_pos q] at e; exact absurd e.symm ya
        · rw [if_neg q] at e; exact ⟨i, by omega, e⟩
