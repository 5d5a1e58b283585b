/-! ===== the class's maker of names, and the parts of a macro ===== -/
theorem enc7_ge : ∀ (n : Nat) (s t : List Int), n ≤ s.length → enc7 n (s ++ t) = enc7 n s
  | 0, s, t, _ => by cases s <;> cases t <;> simp [enc7]
  | n + 1, [], t, h => by simp at h
  | n + 1, x :: xs, t, h => by
    rw [List.cons_append, enc7, enc7, enc7_ge n xs t (by simpa using h)]
/-- the maker o holds these letters, the last one first: the first seven of them -/
def MkIs (M : Mem) (o : Nat) (s : List Int) : Prop := gI M o 1 = (min 7 s.length : Nat) ∧ 0 ≤ gI M o 0 ∧ gI M o 0 * 17 ^ (7 - min 7 s.length) = enc7 7 s
def atO (o a k : Nat) : Prop := a = o
section MK
variable {g : Ctx} {M : Mem} {n : Nat}
theorem k_Nm_clear {Q : Mem → Prop} {o : Nat} (ho : isMk o) (q : ∀ M' : Mem, FrI (atO o) M M' → MkIs M' o [] → Q M') : K_Nm_clear g n o M Q := by
  refine i_Nm_clear (b_Nm_clear_0 ho (q _ (FrI.tr (FrI.st rfl) (FrI.st rfl)) ⟨by rw [gI_same]; rfl, ?_, ?_⟩))
  · rw [gI_ne _ _ _ _ _ _ (by omega), gI_same]; omega
  · rw [gI_ne _ _ _ _ _ _ (by omega), gI_same]; simp [enc7]
theorem k_Nm_putBefore {Q : Mem → Prop} {o : Nat} {x : Int} {s : List Int} (ho : isMk o) (hx : 0 ≤ x ∧ x ≤ 15) (hs : okL s) (hM : MkIs M o s) (q : ∀ M' : Mem, FrI (atO o) M M' → MkIs M' o (s ++ [x]) → Q M') : K_Nm_putBefore g n o x M Q := by
  obtain ⟨h1, h2, h3⟩ := hM
  have hb := enc7_bd 7 s hs
  refine i_Nm_putBefore (b_Nm_putBefore_0 ho (by omega) ⟨fun c => ?_, fun c => ?_⟩)
  · refine q M (FrI.rf M) ?_
    have h7 : 7 ≤ s.length := by omega
    have e1 : min 7 s.length = 7 := by omega
    have e2 : min 7 (s ++ [x]).length = 7 := by simp; omega
    unfold MkIs
    rw [e2, enc7_ge 7 s [x] h7]
    rw [e1] at h1 h3
    exact ⟨h1, h2, h3⟩
  · have h7 : s.length < 7 := by omega
    have e1 : min 7 s.length = s.length := by omega
    have e2 : min 7 (s ++ [x]).length = s.length + 1 := by simp; omega
    rw [e1] at h1 h3
    have hp := pow17_pos (7 - s.length)
    have hp2 := pow17_pos (6 - s.length)
    have hpe : (17 : Int) ^ (7 - s.length) = 17 ^ (6 - s.length) * 17 := by rw [← Int.pow_succ]; congr 1; omega
    have hle : gI M o 0 * 17 ≤ enc7 7 s := by
      rw [← h3, hpe]
      generalize (17 : Int) ^ (6 - s.length) = P at *
      have : gI M o 0 * 17 * 1 ≤ gI M o 0 * 17 * P := Int.mul_le_mul_of_nonneg_left (by omega) (by omega)
      rw [Int.mul_one] at this
      calc gI M o 0 * 17 ≤ gI M o 0 * 17 * P := this
        _ = gI M o 0 * (P * 17) := by rw [Int.mul_assoc, Int.mul_comm 17 P]
    have hb2 : enc7 7 s < 410338673 := by simpa using hb.2
    refine ⟨by omega, by omega, q _ (FrI.tr (FrI.st rfl) (FrI.st rfl)) ⟨?_, ?_, ?_⟩⟩
    · rw [gI_same, h1, e2]; omega
    · rw [gI_ne _ _ _ _ _ _ (by omega), gI_same]; omega
    · rw [gI_ne _ _ _ _ _ _ (by omega), gI_same, e2, enc7_snoc 7 s x h7, ← h3, hpe, show 7 - (s.length + 1) = 6 - s.length by omega, show 7 - 1 - s.length = 6 - s.length by omega]
      generalize (17 : Int) ^ (6 - s.length) = P
      rw [Int.add_assoc, Int.add_mul, Int.mul_assoc, Int.mul_comm 17 P]
end MK
