/-! ===== the model's check as a whole ===== -/
theorem evR_err {M : Mem} (h : MWf M) (o : Nat) (a l : Int) : ∀ (f m k : Nat) (lk em : Int), (m : Int) < gI M 530 2 → (k : Int) ≤ gI M 533 m → (evR M o a l f m k lk em).1 = 5 → (evR M o a l f m k lk em).2.2.2.1 = -4 ∧ (evR M o a l f m k lk em).2.2.2.2 = -4 := by
  intro f
  induction f with
  | zero => intro m k lk em _ _ _; exact ⟨rfl, rfl⟩
  | succ f ih =>
    intro m k lk em hm hk
    have hj := h.2 m hm
    unfold evR
    split
    · split
      · intro _; exact ⟨rfl, rfl⟩
      · split
        · intro h5; exact ⟨rfl, rfl⟩
        · split
          · intro h5; exact ⟨rfl, rfl⟩
          · rename_i hb
            obtain ⟨n, e, hn, _⟩ := noM_at h hb
            intro h5
            rw [e, Int.toNat_natCast] at h5 ⊢
            exact ih n 0 (lk + 1) em hn (h.2 n hn).2.1.1 h5
    · have hk' : (k : Int) < gI M 533 m := by omega
      have hs := sgA_rng h hm hk'
      split
      · split
        · intro h5; exact ⟨rfl, rfl⟩
        · split
          · intro h5; exact ⟨rfl, rfl⟩
          · split
            · intro h5; exact ⟨rfl, rfl⟩
            · split
              · intro h5; dsimp only at h5; omega
              · intro h6
                exact ih m (k + 1) _ _ hm (by omega) h6
      · split
        · split
          · intro h5; dsimp only at h5; omega
          · intro h6
            exact ih m (k + 1) _ _ hm (by omega) h6
        · split
          · intro h5; exact ⟨rfl, rfl⟩
          · split
            · split
              · intro h5; exact ⟨rfl, rfl⟩
              · intro h6
                exact ih m (k + 1) _ _ hm (by omega) h6
            · split
              · intro h5; dsimp only at h5; omega
              · intro h6
                exact ih m (k + 1) _ _ hm (by omega) h6
/-- a check: its answer, its counts, what decides it -/
def evT (M : Mem) (o : Nat) (a l : Int) : Int × Int × Int × Int × Int := if gI M 533 o = 0 then (0, 0, 0, -4, -4) else evR M o a l 120 o 0 0 0
section GO2
variable {g : Ctx} {M : Mem}
theorem k_Mo_goes {Q : Int → Mem → Prop} {o : Nat} {a l : Int} (h : MWf M) (ho : (o : Int) < gI M 530 2) (ha : 0 ≤ a ∧ a < 256) (hl : 0 ≤ l ∧ l ≤ 15) (q : ∀ M' : Mem, FrI scM M M' → gI M' 530 39 = (evT M o a l).2.1 → gI M' 530 40 = (evT M o a l).2.2.1 → gI M' 530 41 = (evT M o a l).2.2.2.1 → gI M' 530 42 = (evT M o a l).2.2.2.2 → Q (evT M o a l).1 M') : K_Mo_goes g o a l M Q := by
  have h12 := h.1
  have hj := h.2 o ho
  refine i_Mo_goes (b_Mo_goes_0 (by omega) (by omega) (by omega) ?_)
  generalize hM1 : sI (sI (sI (sI (sI (sI (sI (sI M 530 36 o) 530 37 a) 530 38 l) 530 39 0) 530 40 0) 530 41 (-4)) 530 42 (-4)) 530 45 0 = M1
  have hF1 : FrI scM M M1 := by
    rw [← hM1]
    refine FrI.tr (FrI.tr (FrI.tr (FrI.tr (FrI.tr (FrI.tr (FrI.tr (FrI.st ?_) (FrI.st ?_)) (FrI.st ?_)) (FrI.st ?_)) (FrI.st ?_)) (FrI.st ?_)) (FrI.st ?_)) (FrI.st ?_) <;> exact Or.inl ⟨rfl, by omega⟩
  have e36 : gI M1 530 36 = o := by rw [← hM1]; rfl
  have e37 : gI M1 530 37 = a := by rw [← hM1]; rfl
  have e38 : gI M1 530 38 = l := by rw [← hM1]; rfl
  have e39 : gI M1 530 39 = 0 := by rw [← hM1]; rfl
  have e40 : gI M1 530 40 = 0 := by rw [← hM1]; rfl
  have e41 : gI M1 530 41 = -4 := by rw [← hM1]; rfl
  have e42 : gI M1 530 42 = -4 := by rw [← hM1]; rfl
  have e45 : gI M1 530 45 = 0 := by rw [← hM1]; rfl
  have hR1 := scM_rw hF1
  refine k_Mo_enters (dp := 0) (h.fr hR1) (by right; rw [hR1.1]; omega) e45 (by omega) (fun c _ _ => bnf rfl ?_) (fun c _ _ => bnt (by omega) ?_)
  · rw [bdN_fr hR1, bdN_iff, Int.toNat_natCast] at c
    have ee : evT M o a l = (0, 0, 0, -4, -4) := by unfold evT; rw [if_pos (by omega)]
    have := q M1 hF1
    rw [ee] at this
    exact this e39 e40 e41 e42
  · rw [bdN_fr hR1, Ne, bdN_iff, Int.toNat_natCast] at c
    have ee : evT M o a l = evR M o a l 120 o 0 0 0 := by unfold evT; rw [if_neg (by omega)]
    rw [ee] at q
    refine mo_go (M0 := M) h ho ha hl 120 1 o 0 0 0 _ ⟨hF1.tr (FrI.tr (FrI.tr (FrI.st (Or.inr ⟨by omega, by omega⟩)) (FrI.st (Or.inr ⟨by omega, by omega⟩))) (FrI.st (Or.inl ⟨rfl, by omega⟩))), ?_, ?_, ?_, ?_, ?_, ?_⟩ ?_ ?_ ho (by omega) (by omega) (by omega) (by omega) (by omega) (by omega) (by omega) (by omega) (fun _ => ?_) (fun h5 M' hF' t39 t40 t41 t42 => ?_) (fun h5 M' hS' hK' hA' _ => ?_)
    · exact e36
    · exact e37
    · exact e38
    · exact e39
    · exact e40
    · rfl
    · rfl
    · rfl
    · exact ⟨e41, e42⟩
    · have z := evR_err h o a l 120 o 0 0 0 ho (by omega) h5
      have := q M' hF' t39 t40 (by rw [z.1]; exact t41) (by rw [z.2]; exact t42)
      rw [h5] at this
      exact this
    · obtain ⟨hF', t36, t37, t38, t39, t40, t45⟩ := hS'
      have ok := evR_ok h o a l 120 o 0 0 0 ho (by omega) (by omega) (by omega) (by omega) (by omega) h5
      refine b_Mo_goes_263 (by omega) (bf (by omega) ⟨by omega, bnf (by omega) ?_⟩)
      exact q _ (hF'.tr (FrI.st (Or.inl ⟨rfl, by omega⟩))) t39 t40 (hA' rfl).1 (hA' rfl).2
end GO2
