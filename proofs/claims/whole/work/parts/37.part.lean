/-! ===== the class's parts of a macro ===== -/
/-- the memory during a check: only the evaluator's own ints differ from M0 -/
def scC (a k : Nat) : Prop := (a = 258 ∧ 4 ≤ k) ∨ a = 259
theorem scC_rw {M M' : Mem} (h : FrI scC M M') : RwE M M' := ⟨h.i (by unfold scC; omega), fun a k x y => h.i (by unfold scC; omega)⟩
/-- the check's own: its records, name, address, letter; d is the name number m of the records -/
def CSt (M : Mem) (o : Nat) (a l : Int) : Prop := Rel M ∧ gP M 258 0 = gP M 0 1 ∧ (o : Int) < gI M 530 2 ∧ gP M 258 1 = gP M (gP M 0 1 + 1) o ∧ gI M 258 2 = a ∧ gI M 258 3 = l ∧ (0 ≤ a ∧ a < 256) ∧ (0 ≤ l ∧ l ≤ 15)
/-- a part's source in the class's numbers -/
def srcQ (q : Int) : Int := q / 16
theorem prt_q {s t f : Int} (hs : 0 ≤ s ∧ s ≤ 3) (ht : t = 0 ∨ t = 1) (hf : 0 ≤ f ∧ f ≤ 7) : (16 * (16 + s) + 2 * f + t) / 16 = 16 + s := by
  rw [Int.add_assoc, Int.add_comm, Int.add_mul_ediv_left _ _ (by decide), Int.ediv_eq_zero_of_lt (by omega) (by omega)]
  omega
theorem prt_s {s t f : Int} (hs : 0 ≤ s ∧ s ≤ 3) : (16 + s + 4 * t + 8 * f) % 4 = s := by
  rw [show 16 + s + 4 * t + 8 * f = s + 4 * (4 + t + 2 * f) by omega, Int.add_mul_emod_self_left, Int.emod_eq_of_lt (by omega) (by omega)]
section PT
variable {g : Ctx} {M : Mem}
theorem rev_at {c : Int} {n k : Nat} (h : vcode c n) (hk : k < n) : ((revl c).reverse.reverse)[k]? = some (dg c k - 1) := by
  rw [List.reverse_reverse]; exact revl_at (by rw [lenF_of h]; exact hk)
theorem k_Ev_sizeOf {Q : Int → Mem → Prop} {o m : Nat} {a l p q : Int} (hC : CSt M o a l) (hm : (m : Int) < gI M 530 2) (hP : PartR q p) (h : Q ((srcT M o a l m p).length : Nat) M) : K_Ev_sizeOf g 33 (srcQ q) (gP M (gP M 0 1 + 1) m) M Q := by
  obtain ⟨hR, h0, ho, h1, h2, h3, ha, hl⟩ := hC
  obtain ⟨_, ⟨nm, vm, em, _⟩, _⟩ := (hR.mdom hm).1
  obtain ⟨_, ⟨no, vo, eo, _⟩, _⟩ := (hR.mdom ho).1
  have hd := hR.dom hm
  have hdo := hR.dom ho
  refine i_Ev_sizeOf (b_Ev_sizeOf_0 (by unfold srcQ; rcases hP with z | ⟨s, t, f, z⟩ <;> omega) hd ?_)
  unfold srcQ
  unfold srcT at h
  rcases hP with ⟨p0, p1, rfl⟩ | ⟨s, t, f, hs, ht, hf, rfl, rfl⟩
  · rw [if_pos p1] at h
    refine bf (by omega) (bf (by omega) (bf (by omega) h))
  · rw [if_neg (by omega), prt_s hs] at h
    rw [prt_q hs ht hf]
    refine ⟨fun c => ?_, fun c => ⟨fun c2 => ?_, fun c2 => ⟨fun c3 => ?_, fun c3 => ?_⟩⟩⟩
    · rw [if_pos (by omega), List.length_reverse, revl_len, lenF_of vm] at h
      rw [em]; exact h
    · rw [if_neg (by omega), if_pos (by omega), List.length_reverse, revl_len, lenF_of vo] at h
      rw [h1]
      exact bnt (nDom hdo) ⟨hdo, by rw [eo]; exact h⟩
    · rw [if_neg (by omega), if_neg (by omega), if_pos (by omega)] at h
      exact h
    · rw [if_neg (by omega), if_neg (by omega), if_neg (by omega)] at h
      exact h
theorem k_Ev_fromEndOf {Q : Int → Mem → Prop} {o m k : Nat} {a l p q x : Int} (hC : CSt M o a l) (hm : (m : Int) < gI M 530 2) (hP : PartR q p) (hx : (srcT M o a l m p).reverse[k]? = some x) (h : Q x M) : K_Ev_fromEndOf g 33 (srcQ q) (gP M (gP M 0 1 + 1) m) k M Q := by
  obtain ⟨hR, h0, ho, h1, h2, h3, ha, hl⟩ := hC
  obtain ⟨_, ⟨nm, vm, em, dm⟩, _⟩ := (hR.mdom hm).1
  obtain ⟨_, ⟨no, vo, eo, do'⟩, _⟩ := (hR.mdom ho).1
  have hd := hR.dom hm
  have hdo := hR.dom ho
  have hv7 := vm.2.2.2.1
  have hw7 := vo.2.2.2.1
  have hk := (List.getElem?_eq_some_iff.mp hx).1
  rw [List.length_reverse] at hk
  have hk7 := (srcT_len (a := a) (l := l) (p := p) ⟨_, vo⟩ ⟨_, vm⟩).2
  refine i_Ev_fromEndOf (b_Ev_fromEndOf_0 (by unfold srcQ; rcases hP with z | ⟨s, t, f, z⟩ <;> omega) hd (by omega) ?_)
  unfold srcQ
  unfold srcT at hx hk
  rcases hP with ⟨p0, p1, rfl⟩ | ⟨s, t, f, hs, ht, hf, rfl, rfl⟩
  · rw [if_pos p1] at hx hk
    refine bf (by omega) (bf (by omega) (bf (by omega) (bf (by omega) ?_)))
    have : k = 0 := by simp at hk; omega
    subst this
    cases hx
    rw [Int.mul_ediv_cancel_left _ (by decide)]
    exact h
  · rw [if_neg (by omega), prt_s hs] at hx hk
    rw [prt_q hs ht hf]
    refine ⟨fun c => ?_, fun c => ⟨fun c2 => ?_, fun c2 => ⟨fun c3 => ?_, fun c3 => ?_⟩⟩⟩
    · rw [if_pos (by omega)] at hx hk
      rw [List.length_reverse, revl_len, lenF_of vm] at hk
      rw [rev_at vm hk] at hx
      cases hx
      refine bf (by omega) ⟨by omega, ?_⟩
      rw [Int.toNat_natCast, dm k (by omega)]
      exact h
    · rw [if_neg (by omega), if_pos (by omega)] at hx hk
      rw [List.length_reverse, revl_len, lenF_of vo] at hk
      rw [rev_at vo hk] at hx
      cases hx
      rw [h1]
      refine bf (nDom hdo) ⟨hdo, bf (by omega) ⟨by omega, ?_⟩⟩
      rw [Int.toNat_natCast, do' k (by omega)]
      exact h
    · rw [if_neg (by omega), if_neg (by omega), if_pos (by omega)] at hx hk
      have hq : 0 ≤ a / 2 ^ (2 * k) ∧ a / 2 ^ (2 * k) ≤ a := ⟨Int.ediv_nonneg ha.1 (Int.le_of_lt (Int.pow_pos (by decide))), Int.ediv_le_self _ ha.1⟩
      have hk4 : k < 4 := by simpa using hk
      rw [h2, show (2 * (k : Int)) = ((2 * k : Nat) : Int) by omega, jshrN ha.1 (by omega) (by omega), jand3 hq.1 (by omega)]
      match k, hk4, hx with
      | 0, _, hx => cases hx; simpa using h
      | 1, _, hx => cases hx; simpa using h
      | 2, _, hx => cases hx; simpa using h
      | 3, _, hx => cases hx; simpa using h
    · rw [if_neg (by omega), if_neg (by omega), if_neg (by omega)] at hx hk
      have : k = 0 := by simp at hk; omega
      subst this
      cases hx
      rw [h3]
      exact bt (by omega) h
end PT
