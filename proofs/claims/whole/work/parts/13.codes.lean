/-! ===== names as numbers: digits of base 17, the last letter first ===== -/
/-- the number of the letters s (from the last one on), n of them at most -/
def enc7 : Nat → List Int → Int
  | 0, _ => 0
  | _ + 1, [] => 0
  | n + 1, x :: xs => (x + 1) * 17 ^ n + enc7 n xs
def okL (s : List Int) : Prop := ∀ x ∈ s, 0 ≤ x ∧ x ≤ 15
theorem okL_cons {x : Int} {s : List Int} (hx : 0 ≤ x ∧ x ≤ 15) (h : okL s) : okL (x :: s) := fun y hy => by
  rcases List.mem_cons.mp hy with rfl | hy
  · exact hx
  · exact h y hy
theorem okL_nil : okL [] := fun y hy => by cases hy
theorem okL_tail {x : Int} {s : List Int} (h : okL (x :: s)) : okL s := fun y hy => h y (List.mem_cons_of_mem _ hy)
theorem okL_head {x : Int} {s : List Int} (h : okL (x :: s)) : 0 ≤ x ∧ x ≤ 15 := h x List.mem_cons_self
theorem okL_app {s t : List Int} (hs : okL s) (ht : okL t) : okL (s ++ t) := fun y hy => (List.mem_append.mp hy).elim (hs y) (ht y)
theorem pow17_pos (n : Nat) : (0 : Int) < 17 ^ n := Int.pow_pos (by decide)
theorem enc7_bd : ∀ (n : Nat) (s : List Int), okL s → 0 ≤ enc7 n s ∧ enc7 n s < 17 ^ n
  | 0, _, _ => by simp [enc7]
  | n + 1, [], _ => ⟨Int.le_refl _, pow17_pos _⟩
  | n + 1, x :: xs, h => by
    obtain ⟨a, b⟩ := enc7_bd n xs (okL_tail h)
    obtain ⟨c, d⟩ := okL_head h
    have e := pow17_pos n
    rw [enc7, Int.pow_succ]
    generalize (17 : Int) ^ n = P at *
    have h1 : 0 ≤ (x + 1) * P := Int.mul_nonneg (by omega) (by omega)
    have h2 : (x + 1) * P ≤ 16 * P := Int.mul_le_mul_of_nonneg_right (by omega) (by omega)
    omega
theorem enc7_div : ∀ (n : Nat) (s : List Int), okL s → enc7 (n + 1) s / 17 = enc7 n s
  | n, [], _ => by cases n <;> simp [enc7]
  | 0, x :: xs, h => by
    obtain ⟨c, d⟩ := okL_head h
    simp only [enc7, Int.pow_zero, Int.mul_one, Int.add_zero]
    omega
  | n + 1, x :: xs, h => by
    have ih := enc7_div n xs (okL_tail h)
    rw [enc7, enc7, ← ih, Int.pow_succ]
    generalize (17 : Int) ^ n = P
    rw [← Int.mul_assoc, Int.add_comm, Int.add_mul_ediv_right _ _ (by decide), Int.add_comm]
theorem enc7_shift (x : Int) (s : List Int) (h : okL s) : (x + 1) * 24137569 + enc7 7 s / 17 = enc7 7 (x :: s) := by
  rw [enc7_div 6 s h]
  show _ = (x + 1) * 17 ^ 6 + enc7 6 s
  rw [show (17 : Int) ^ 6 = 24137569 from by decide]
theorem enc7_snoc : ∀ (n : Nat) (s : List Int) (x : Int), s.length < n → enc7 n (s ++ [x]) = enc7 n s + (x + 1) * 17 ^ (n - 1 - s.length)
  | 0, s, x, h => by omega
  | n + 1, [], x, _ => by
    simp only [List.nil_append, enc7, List.length_nil, Nat.add_sub_cancel, Nat.sub_zero]
    cases n <;> simp [enc7]
  | n + 1, y :: ys, x, h => by
    have h' : ys.length < n := by simp at h; omega
    have ih := enc7_snoc n ys x h'
    rw [List.cons_append, enc7, enc7, ih]
    have e : n + 1 - 1 - (y :: ys).length = n - 1 - ys.length := by simp; omega
    rw [e, Int.add_assoc]
theorem enc7_full : ∀ (n : Nat) (s t : List Int), s.length = n → enc7 n (s ++ t) = enc7 n s
  | 0, s, t, _ => by cases s <;> cases t <;> simp [enc7]
  | n + 1, [], t, h => by simp at h
  | n + 1, x :: xs, t, h => by
    rw [List.cons_append, enc7, enc7, enc7_full n xs t (by simpa using h)]
/-- the k-th digit, the last letter's first -/
def dg (c : Int) (k : Nat) : Int := c / 17 ^ (6 - k) % 17
theorem enc7_divs : ∀ (j n : Nat) (s : List Int), okL s → enc7 (n + j) s / 17 ^ j = enc7 n s
  | 0, n, s, _ => by simp
  | j + 1, n, s, h => by
    rw [Int.pow_succ, Int.mul_comm, ← Int.ediv_ediv_of_nonneg (by decide), show n + (j + 1) = (n + j) + 1 by omega, enc7_div _ s h, enc7_divs j n s h]
theorem enc7_mod : ∀ (n : Nat) (s : List Int), okL s → enc7 (n + 1) s % 17 = match s[n]? with | some x => x + 1 | none => 0
  | 0, [], _ => by simp [enc7]
  | 0, x :: xs, h => by
    obtain ⟨c, d⟩ := okL_head h
    simp only [enc7, Int.pow_zero, Int.mul_one, Int.add_zero, List.getElem?_cons_zero]
    show (x + 1) % 17 = x + 1
    omega
  | n + 1, [], _ => by simp [enc7]
  | n + 1, x :: xs, h => by
    have ih := enc7_mod n xs (okL_tail h)
    rw [enc7, Int.pow_succ, ← Int.mul_assoc, Int.add_comm, Int.add_mul_emod_self_right, ih, List.getElem?_cons_succ]
theorem dg_enc (s : List Int) (h : okL s) {k : Nat} (hk : k < 7) : dg (enc7 7 s) k = match s[k]? with | some x => x + 1 | none => 0 := by
  unfold dg
  rw [show (7 : Nat) = (k + 1) + (6 - k) by omega, enc7_divs (6 - k) (k + 1) s h, enc7_mod k s h]
/-- how many letters: the digits ahead of the first 0 -/
def lenA (c : Int) : Nat → Nat → Nat
  | 0, i => i
  | m + 1, i => if dg c i ≤ 0 then i else lenA c m (i + 1)
def lenF (c : Int) : Nat := lenA c 7 0
/-- a name's number: n letters -/
def vcode (c : Int) (n : Nat) : Prop := 0 ≤ c ∧ c < 410338673 ∧ 1 ≤ n ∧ n ≤ 7 ∧ (∀ k, k < n → 1 ≤ dg c k) ∧ ∀ k, n ≤ k → k < 7 → dg c k = 0
theorem lenA_of {c : Int} {n : Nat} (h1 : ∀ k, k < n → 1 ≤ dg c k) (h2 : n < 7 → dg c n = 0) : ∀ (m i : Nat), i + m = 7 → i ≤ n → n ≤ 7 → lenA c m i = n
  | 0, i, hi, hn, h7 => by rw [lenA]; omega
  | m + 1, i, hi, hn, h7 => by
    rw [lenA]
    by_cases e : i = n
    · subst e
      rw [if_pos (by rw [h2 (by omega)]; decide)]
    · have := h1 i (by omega)
      rw [if_neg (by omega)]
      exact lenA_of h1 h2 m (i + 1) (by omega) (by omega) h7
theorem lenF_of {c : Int} {n : Nat} (h : vcode c n) : lenF c = n := lenA_of h.2.2.2.2.1 (fun h7 => h.2.2.2.2.2 n (Nat.le_refl _) h7) 7 0 rfl (Nat.zero_le _) h.2.2.2.1
theorem dg_bd (c : Int) (k : Nat) : 0 ≤ dg c k ∧ dg c k ≤ 16 := by unfold dg; omega
theorem vcode_enc {s : List Int} (h : okL s) (h1 : 1 ≤ s.length) (h2 : s.length ≤ 7) : vcode (enc7 7 s) s.length := by
  obtain ⟨a, b⟩ := enc7_bd 7 s h
  refine ⟨a, by simpa using b, h1, h2, fun k hk => ?_, fun k hk hk7 => ?_⟩
  · rw [dg_enc s h (by omega), List.getElem?_eq_getElem hk]
    have := h s[k] (List.getElem_mem hk)
    simp only
    omega
  · rw [dg_enc s h hk7, List.getElem?_eq_none hk]
theorem vcode_pos {c : Int} {n : Nat} (h : vcode c n) : c ≠ 0 := by
  intro e
  subst e
  have := h.2.2.2.2.1 0 (by have := h.2.2.1; omega)
  simp [dg] at this
section LM
variable {g : Ctx} {M : Mem}
theorem k_Mo_lettersOf {Q : Int → Mem → Prop} {c : Int} (h0 : 0 ≤ c) (hc : c < 410338673) (h : Q (lenF c : Int) M) : K_Mo_lettersOf g c M Q := by
  refine i_Mo_lettersOf (b_Mo_lettersOf_0 (by omega) ?_)
  have loop : ∀ (m i : Nat) (b : Int), i + m = 7 → (i < 7 → b = 17 ^ (6 - i)) → InR b → lenA c m i = lenF c → P_Mo_lettersOf g 5 [(0, vi c), (1, vi (i : Int)), (2, vi b)] [] M Q := by
    intro m
    induction m with
    | zero =>
      intro i b hi hb hr hl
      refine b_Mo_lettersOf_5 (by omega) (by omega) hr (bt (by omega) ?_)
      rw [← hl] at h
      exact h
    | succ m ih =>
      intro i b hi hb hr hl
      have hb := hb (by omega)
      have hbp : 0 < b := by rw [hb]; exact pow17_pos _
      have q0 : 0 ≤ c / b := Int.ediv_nonneg h0 (by omega)
      have q1 : c / b ≤ c := Int.ediv_le_self b h0
      have ed : c / b % 17 = dg c i := by rw [hb]; rfl
      have hd := dg_bd c i
      refine b_Mo_lettersOf_5 (by omega) (by omega) hr (bf (by omega) ⟨h0, hbp, by omega, q0, by omega, ?_, ?_⟩)
      · intro e
        rw [ed] at e
        rw [lenA, if_pos e] at hl
        rw [← hl] at h
        exact h
      · intro e
        rw [ed] at e
        rw [lenA, if_neg e] at hl
        refine ⟨fun b1 => ?_, fun b1 => ⟨by omega, ?_⟩⟩
        · exact ih (i + 1) 1 (by omega) (fun h7 => by
            exfalso
            have : (17 : Int) ^ (6 - i) ≤ 1 := by rw [← hb]; exact b1
            rw [show 6 - i = (5 - i) + 1 by omega, Int.pow_succ] at this
            have := pow17_pos (5 - i)
            omega) (by omega) hl
        · exact ih (i + 1) (b / 17) (by omega) (fun h7 => by
            rw [hb, show 6 - i = (6 - (i + 1)) + 1 by omega, Int.pow_succ, Int.mul_ediv_cancel _ (by decide)]) (by omega) hl
  exact loop 7 0 24137569 rfl (fun _ => by decide) (by omega) rfl
theorem k_Mo_fromLast {Q : Int → Mem → Prop} {c : Int} {k : Nat} (h0 : 0 ≤ c) (hc : c < 410338673) (hk : k ≤ 6) (h : Q (dg c k - 1) M) : K_Mo_fromLast g c k M Q := by
  refine i_Mo_fromLast (b_Mo_fromLast_0 (by omega) (by omega) ?_)
  have loop : ∀ (m i : Nat) (b : Int), i + m = k → b = 17 ^ (6 - i) → InR b → P_Mo_fromLast g 5 [(0, vi c), (1, vi (k : Int)), (2, vi b), (3, vi (i : Int))] [] M Q := by
    intro m
    induction m with
    | zero =>
      intro i b hi hb hr
      have e : i = k := by omega
      subst e
      have hbp : 0 < b := by rw [hb]; exact pow17_pos _
      have q0 : 0 ≤ c / b := Int.ediv_nonneg h0 (by omega)
      have q1 : c / b ≤ c := Int.ediv_le_self b h0
      refine b_Mo_fromLast_5 (by omega) (by omega) hr (by omega) (bt (by omega) ⟨h0, hbp, by omega, q0, by omega, ?_⟩)
      rw [hb]
      exact h
    | succ m ih =>
      intro i b hi hb hr
      have hbp : 0 < b := by rw [hb]; exact pow17_pos _
      refine b_Mo_fromLast_5 (by omega) (by omega) hr (by omega) (bf (by omega) ⟨by omega, ?_⟩)
      exact ih (i + 1) (b / 17) (by omega) (by rw [hb, show 6 - i = (6 - (i + 1)) + 1 by omega, Int.pow_succ, Int.mul_ediv_cancel _ (by decide)]) (by omega)
  exact loop k 0 24137569 (by omega) (by decide) (by omega)
end LM
