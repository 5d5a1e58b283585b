/-! ===== a check, on the model's rows ===== -/
def rlA (M : Mem) (m k : Nat) : Nat := 8 * m + (mnow M m k).toNat
def sgA (M : Mem) (m k : Nat) : Int := ansF (mnow M m (8 + (mnow M m k).toNat))
def bdN (M : Mem) (n : Int) : Bool := decide (n = -4 ∨ gI M 533 n.toNat = 0)
theorem bdN_iff (M : Mem) (n : Int) : bdN M n = true ↔ (n = -4 ∨ gI M 533 n.toNat = 0) := decide_eq_true_iff
theorem bdN_fr {M M' : Mem} (h : RwE M M') (n : Int) : bdN M' n = bdN M n := by unfold bdN; rw [h.r (a := 533) (by omega) (by omega)]
/-- answer (5: an error, the check is over), look-ups, empty ones, the deciding name and rule -/
def evR (M : Mem) (o : Nat) (a l : Int) : Nat → Nat → Nat → Int → Int → Int × Int × Int × Int × Int
  | 0, _, _, lk, em => (5, lk, em, -4, -4)
  | f + 1, m, k, lk, em =>
    if (k : Int) = gI M 533 m then
      if gI M 534 m = 0 then (1, lk, em, -4, -4)
      else if 10 ≤ lk then (5, lk + 1, em, -4, -4)
      else if bdN M (noM M (gI M 534 m)) = true then (5, lk + 1, em, -4, -4)
      else evR M o a l f (noM M (gI M 534 m)).toNat 0 (lk + 1) em
    else if gI M 537 (rlA M m k) = 2 then
      if 10 ≤ lk then (5, lk + 1, em, -4, -4)
      else if bdN M (noM M (gI M 540 (rlA M m k))) = true then (5, lk + 1, em, -4, -4)
      else if (evR M o a l f (noM M (gI M 540 (rlA M m k))).toNat 0 (lk + 1) em).1 = 5 then (5, (evR M o a l f (noM M (gI M 540 (rlA M m k))).toNat 0 (lk + 1) em).2.1, (evR M o a l f (noM M (gI M 540 (rlA M m k))).toNat 0 (lk + 1) em).2.2.1, -4, -4)
      else if (evR M o a l f (noM M (gI M 540 (rlA M m k))).toNat 0 (lk + 1) em).1 = 2 then (sgA M m k, (evR M o a l f (noM M (gI M 540 (rlA M m k))).toNat 0 (lk + 1) em).2.1, (evR M o a l f (noM M (gI M 540 (rlA M m k))).toNat 0 (lk + 1) em).2.2.1, m, k)
      else evR M o a l f m (k + 1) (evR M o a l f (noM M (gI M 540 (rlA M m k))).toNat 0 (lk + 1) em).2.1 (evR M o a l f (noM M (gI M 540 (rlA M m k))).toNat 0 (lk + 1) em).2.2.1
    else if gI M 537 (rlA M m k) < 2 then
      if fitK M o a l m (rlA M m k) = 1 then (sgA M m k, lk, em, m, k) else evR M o a l f m (k + 1) lk em
    else if 10 ≤ lk then (5, lk + 1, em, -4, -4)
    else if fitK M o a l m (rlA M m k) = 2 then (if 2 ≤ em then (5, lk + 1, em + 1, -4, -4) else evR M o a l f m (k + 1) (lk + 1) (em + 1))
    else if fitK M o a l m (rlA M m k) = 1 then (sgA M m k, lk + 1, em, m, k)
    else evR M o a l f m (k + 1) (lk + 1) em
theorem fitK_rng (M : Mem) (o : Nat) (a l : Int) (m r : Nat) (h0 : 0 ≤ gI M 537 r) : fitK M o a l m r = 0 ∨ fitK M o a l m r = 1 ∨ (fitK M o a l m r = 2 ∧ ¬ gI M 537 r < 2) := by
  unfold fitK
  split
  · omega
  · split
    · split <;> omega
    · split
      · split
        · omega
        · split <;> omega
      · split
        · split <;> omega
        · split
          · omega
          · split <;> omega
theorem sgA_rng {M : Mem} (h : MWf M) {m k : Nat} (hm : (m : Int) < gI M 530 2) (hk : (k : Int) < gI M 533 m) : 1 ≤ sgA M m k ∧ sgA M m k ≤ 4 := by
  have := ((h.2 m hm).2.2.2.2.2.2 k hk).2.1
  unfold sgA ansF
  split
  · omega
  · split <;> omega
theorem noM_at {M : Mem} (h : MWf M) {v : Int} (hb : bdN M (noM M v) ≠ true) : ∃ n : Nat, noM M v = n ∧ (n : Int) < gI M 530 2 ∧ gI M 533 n ≠ 0 := by
  rw [Ne, bdN_iff] at hb
  rcases noM_rng h v with e | e
  · exact absurd (Or.inl e) hb
  · exact ⟨(noM M v).toNat, by omega, by omega, fun z => hb (Or.inr z)⟩
/-- where no error ends a check: its answer, its counts -/
theorem evR_ok {M : Mem} (h : MWf M) (o : Nat) (a l : Int) : ∀ (f m k : Nat) (lk em : Int), (m : Int) < gI M 530 2 → (k : Int) ≤ gI M 533 m → 0 ≤ lk → lk ≤ 10 → 0 ≤ em → em ≤ 2 → (evR M o a l f m k lk em).1 ≠ 5 → (1 ≤ (evR M o a l f m k lk em).1 ∧ (evR M o a l f m k lk em).1 ≤ 4) ∧ (lk ≤ (evR M o a l f m k lk em).2.1 ∧ (evR M o a l f m k lk em).2.1 ≤ 10) ∧ (em ≤ (evR M o a l f m k lk em).2.2.1 ∧ (evR M o a l f m k lk em).2.2.1 ≤ 2) := by
  intro f
  induction f with
  | zero => intro m k lk em _ _ _ _ _ _ h5; exact absurd rfl h5
  | succ f ih =>
    intro m k lk em hm hk hl0 hl he0 he
    have hj := h.2 m hm
    unfold evR
    split
    · split
      · intro _; exact ⟨by dsimp only; omega, by dsimp only; omega, by dsimp only; omega⟩
      · split
        · intro h5; exact absurd rfl h5
        · split
          · intro h5; exact absurd rfl h5
          · rename_i hb
            obtain ⟨n, e, hn, _⟩ := noM_at h hb
            intro h5
            rw [e, Int.toNat_natCast] at h5 ⊢
            have := ih n 0 (lk + 1) em hn (h.2 n hn).2.1.1 (by omega) (by omega) he0 he h5
            omega
    · have hk' : (k : Int) < gI M 533 m := by omega
      have hs := sgA_rng h hm hk'
      split
      · split
        · intro h5; exact absurd rfl h5
        · split
          · intro h5; exact absurd rfl h5
          · rename_i hb
            obtain ⟨n, e, hn, _⟩ := noM_at h hb
            rw [e, Int.toNat_natCast]
            split
            · intro h5; exact absurd rfl h5
            · rename_i h5
              have i1 := ih n 0 (lk + 1) em hn (h.2 n hn).2.1.1 (by omega) (by omega) he0 he h5
              split
              · intro _; exact ⟨by dsimp only; omega, by dsimp only; omega, by dsimp only; omega⟩
              · intro h6
                have := ih m (k + 1) _ _ hm (by omega) (by omega) (by omega) (by omega) (by omega) h6
                omega
      · split
        · split
          · intro _; exact ⟨by dsimp only; omega, by dsimp only; omega, by dsimp only; omega⟩
          · intro h6
            exact ih m (k + 1) _ _ hm (by omega) (by omega) (by omega) (by omega) (by omega) h6
        · split
          · intro h5; exact absurd rfl h5
          · split
            · split
              · intro h5; exact absurd rfl h5
              · intro h6
                have := ih m (k + 1) _ _ hm (by omega) (by omega) (by omega) (by omega) (by omega) h6
                omega
            · split
              · intro _; exact ⟨by dsimp only; omega, by dsimp only; omega, by dsimp only; omega⟩
              · intro h6
                have := ih m (k + 1) _ _ hm (by omega) (by omega) (by omega) (by omega) (by omega) h6
                omega
