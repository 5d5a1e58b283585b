/-! ===== the model reads: macros, rules ===== -/
theorem snoc_at {α : Type} {l : List α} {x y : α} {i : Nat} (h : (l ++ [x])[i]? = some y) : l[i]? = some y ∨ (i = l.length ∧ y = x) := by
  by_cases q : i < l.length
  · rw [List.getElem?_append_left q] at h; exact Or.inl h
  · rw [List.getElem?_append_right (by omega)] at h
    by_cases q2 : i = l.length
    · subst q2
      rw [Nat.sub_self, List.getElem?_cons_zero] at h
      exact Or.inr ⟨rfl, (Option.some.inj h).symm⟩
    · rw [List.getElem?_eq_none (by simp; omega)] at h; cases h
theorem at_lt {α : Type} {l : List α} {y : α} {i : Nat} (h : l[i]? = some y) : i < l.length := (List.getElem?_eq_some_iff.mp h).1
def mRu (r a k : Nat) : Prop := mV a k ∨ ((550 ≤ a ∧ a ≤ 554) ∧ k = r) ∨ (a = 555 ∧ 8 * r ≤ k ∧ k < 8 * r + 8)
theorem mV_Ru {M M' : Mem} {r : Nat} (h : FrI mV M M') : FrI (mRu r) M M' := h.mono (fun a k q => Or.inl q)
theorem TxM.ru {M M' : Mem} {t : Nat → Int} {L r : Nat} (h : TxM M t L) (hF : FrI (mRu r) M M') : TxM M' t L := h.fr hF (by unfold mRu mV; omega) (fun k => by unfold mRu mV; omega)
/-- a rule but for its sign, in the model's row r -/
def AskM (M : Mem) (r : Nat) (R : RuP) : Prop := gI M 550 r = R.2.1 ∧ (R.2.1 = 1 → gI M 551 r = R.2.2.1 ∧ gI M 552 r = R.2.2.2.1) ∧ (2 ≤ R.2.1 → R.2.1 ≤ 4 → gI M 553 r = R.2.2.2.2.1) ∧ (R.2.1 = 5 → gI M 554 r = (R.2.2.2.2.2.length : Nat) ∧ ∀ i x, R.2.2.2.2.2[i]? = some x → gI M 555 (8 * r + i) = x)
def RuleM (M : Mem) (r : Nat) (R : RuP) : Prop := gI M 556 r = R.1 ∧ AskM M r R
section MU
variable {g : Ctx} {M : Mem} {t : Nat → Int} {L : Nat}
theorem mo_mac {Q : Int → Mem → Prop} {r : Nat} (hr : r < 96) (hT : TxT t L) (hM : TxM M t L) :
    ∀ (f p : Nat) (acc : List Int) (M1 : Mem), p ≤ L → acc.length + f = 8 → FrI (mRu r) M M1 → gI M1 530 32 = (p : Nat) → (∀ i x, acc[i]? = some x → gI M1 555 (8 * r + i) = x) →
      (∀ s, macP t f p = some s → acc ++ s.1 ≠ [] → ∀ M' : Mem, FrI (mRu r) M M' → gI M' 550 r = gI M1 550 r → gI M' 530 32 = (s.2 : Nat) → gI M' 554 r = ((acc ++ s.1).length : Nat) → (∀ i x, (acc ++ s.1)[i]? = some x → gI M' 555 (8 * r + i) = x) → Q 1 M') →
      ((macP t f p = none ∨ ∃ s, macP t f p = some s ∧ acc ++ s.1 = []) → ∀ M' : Mem, FrI (mRu r) M M' → Q 0 M') →
      P_Mo_macro g 2 [(0, vr g 530), (1, vi (r : Int)), (2, vi (acc.length : Int))] [] M1 Q := by
  intro f
  induction f with
  | zero =>
    intro p acc M1 hp hf hF h2 ha q1 q0
    have hM1 := hM.ru hF
    have tr := hT.rng p
    have fin : sepT (t p) → (0 ≤ (r : Int) ∧ (r : Int) < 96) ∧ ((((acc.length : Int) ≤ 0) → Q 0 (sI M1 554 ((r : Int).toNat) (acc.length : Int))) ∧ ((¬ ((acc.length : Int) ≤ 0)) → Q 1 (sI M1 554 ((r : Int).toNat) (acc.length : Int)))) := fun c => by
      have em : macP t 0 p = some ([], p) := by unfold macP; rw [if_pos c]
      rw [Int.toNat_natCast]
      refine ⟨by omega, fun z => by omega, fun z => q1 ([], p) em (by intro e; have ee := congrArg List.length e; rw [List.append_nil] at ee; have ee2 : acc.length = 0 := ee; omega) _ (hF.tr (FrI.st (Or.inr (Or.inl ⟨by omega, rfl⟩)))) ?_ ?_ ?_ (fun i x hx => ?_)⟩
      · rw [gI_ne _ _ _ _ _ _ (by omega)]
      · rw [gI_ne _ _ _ _ _ _ (by omega)]; exact h2
      · rw [gI_same, List.append_nil]
      · rw [List.append_nil] at hx; rw [gI_ne _ _ _ _ _ _ (by omega)]; exact ha i x hx
    refine b_Mo_macro_2 (by omega) (by omega) (k_Mo_nx hT hM1 h2 (fun _ _ => ⟨fun c => fin (Or.inl c), fun c => k_Mo_nx hT hM1 h2 (fun _ _ => ⟨fun c2 => fin (Or.inr c2), fun c2 => bt (by omega) (q0 (Or.inl ?_) M1 hF)⟩)⟩))
    unfold macP; rw [if_neg (by omega)]
  | succ f ih =>
    intro p acc M1 hp hf hF h2 ha q1 q0
    have hM1 := hM.ru hF
    have tr := hT.rng p
    have hL := hT.1
    have fin : sepT (t p) → (0 ≤ (r : Int) ∧ (r : Int) < 96) ∧ ((((acc.length : Int) ≤ 0) → Q 0 (sI M1 554 ((r : Int).toNat) (acc.length : Int))) ∧ ((¬ ((acc.length : Int) ≤ 0)) → Q 1 (sI M1 554 ((r : Int).toNat) (acc.length : Int)))) := fun c => by
      have em : macP t (f + 1) p = some ([], p) := by unfold macP; rw [if_pos c]
      rw [Int.toNat_natCast]
      refine ⟨by omega, fun z => q0 (Or.inr ⟨([], p), em, ?_⟩) _ (hF.tr (FrI.st (Or.inr (Or.inl ⟨by omega, rfl⟩)))), fun z => q1 ([], p) em (by intro e; have ee := congrArg List.length e; rw [List.append_nil] at ee; have ee2 : acc.length = 0 := ee; omega) _ (hF.tr (FrI.st (Or.inr (Or.inl ⟨by omega, rfl⟩)))) ?_ ?_ ?_ (fun i x hx => ?_)⟩
      · rw [List.append_nil]; exact List.length_eq_zero_iff.mp (by omega)
      · rw [gI_ne _ _ _ _ _ _ (by omega)]
      · rw [gI_ne _ _ _ _ _ _ (by omega)]; exact h2
      · rw [gI_same, List.append_nil]
      · rw [List.append_nil] at hx; rw [gI_ne _ _ _ _ _ _ (by omega)]; exact ha i x hx
    refine b_Mo_macro_2 (by omega) (by omega) (k_Mo_nx hT hM1 h2 (fun _ _ => ⟨fun c => fin (Or.inl c), fun c => k_Mo_nx hT hM1 h2 (fun _ _ => ⟨fun c2 => fin (Or.inr c2), fun c2 => bf (by omega) ?_⟩)⟩))
    have hns : ¬ sepT (t p) := by omega
    refine k_Mo_rp hT hM1 h2 (by omega) (fun s hs M2 hF2 h3 h4 _ _ => bnt (by decide) ⟨by omega, ?_⟩) (fun hs M2 hF2 _ _ => bnf rfl (q0 (Or.inl ?_) M2 (hF.tr (mV_Ru hF2))))
    · rw [show (8 * (r : Int) + (acc.length : Int)).toNat = 8 * r + acc.length by omega, h4]
      obtain ⟨o1, o2, o3⟩ := prtP_ok hT hs
      have e1 : ((acc.length : Int) + 1) = ((acc ++ [s.1]).length : Int) := by simp
      rw [e1]
      have em : macP t (f + 1) p = match macP t f s.2 with | none => none | some s2 => some (s.1 :: s2.1, s2.2) := by
        show (if sepT (t p) then some ([], p) else match prtP t p with | none => none | some r => match macP t f r.2 with | none => none | some s => some (r.1 :: s.1, s.2)) = _
        rw [if_neg hns, hs]
      refine ih s.2 (acc ++ [s.1]) _ o2 (by simp; omega) (hF.tr ((mV_Ru hF2).tr (FrI.st (Or.inr (Or.inr ⟨rfl, by omega, by omega⟩))))) ?_ (fun i x hx => ?_) (fun s2 hs2 hne M' hF' k0 k1 k2 k3 => ?_) (fun hn M' hF' => ?_)
      · rw [gI_ne _ _ _ _ _ _ (by omega)]; exact h3
      · rcases snoc_at hx with h | ⟨h, h'⟩
        · have := at_lt h
          rw [gI_ne _ _ _ _ _ _ (by omega), hF2.i (by unfold mV; omega)]; exact ha i x h
        · subst h; rw [gI_same]; exact h'.symm
      · rw [hs2] at em
        rw [List.append_assoc] at k2 k3 hne
        refine q1 (s.1 :: s2.1, s2.2) em hne M' hF' ?_ k1 k2 k3
        rw [k0, gI_ne _ _ _ _ _ _ (by omega), hF2.i (by unfold mV; omega)]
      · refine q0 ?_ M' hF'
        rcases hn with hn | ⟨s2, hs2, hn⟩
        · rw [hn] at em; exact Or.inl em
        · rw [hs2] at em
          refine Or.inr ⟨_, em, ?_⟩
          rw [List.append_assoc] at hn
          exact hn
    · show (if sepT (t p) then some ([], p) else match prtP t p with | none => none | some r => match macP t f r.2 with | none => none | some s => some (r.1 :: s.1, s.2)) = _
      rw [if_neg hns, hs]
theorem k_Mo_asks {Q : Int → Mem → Prop} {r p : Nat} (hr : r < 96) (hT : TxT t L) (hM : TxM M t L) (hp : gI M 530 32 = ((p + 1 : Nat) : Int)) (hs : sgnV (t p) ≠ -4)
    (q1 : ∀ R, rulP t p = some R → ∀ M' : Mem, FrI (mRu r) M M' → gI M' 530 32 = (R.2 : Nat) → AskM M' r R.1 → Q 1 M') (q0 : rulP t p = none → ∀ M' : Mem, FrI (mRu r) M M' → Q 0 M') : K_Mo_asks g r M Q := by
  have hpL : p < L := hT.in (fun z => hs (by rw [z]; rfl))
  have hL := hT.1
  have tr := hT.rng (p + 1)
  have pre : ∀ kd : Int, ∃ N : Mem, N = sI (sI (sI (sI (sI (sI M 530 32 ((p + 1 : Nat) + 1 : Int)) 551 r (-4)) 552 r (-4)) 553 r 0) 554 r 0) 550 r kd ∧ FrI (mRu r) M N ∧ gI N 530 32 = ((p + 2 : Nat) : Int) ∧ gI N 550 r = kd := fun kd => by
    refine ⟨_, rfl, ?_, ?_, gI_same _ _ _ _⟩
    · exact FrI.tr (FrI.tr (FrI.tr (FrI.tr (FrI.tr (FrI.st (Or.inl ⟨rfl, Or.inl rfl⟩)) (FrI.st (Or.inr (Or.inl ⟨by omega, rfl⟩)))) (FrI.st (Or.inr (Or.inl ⟨by omega, rfl⟩)))) (FrI.st (Or.inr (Or.inl ⟨by omega, rfl⟩)))) (FrI.st (Or.inr (Or.inl ⟨by omega, rfl⟩)))) (FrI.st (Or.inr (Or.inl ⟨by omega, rfl⟩)))
    · rw [gI_ne _ _ _ _ _ _ (by omega), gI_ne _ _ _ _ _ _ (by omega), gI_ne _ _ _ _ _ _ (by omega), gI_ne _ _ _ _ _ _ (by omega), gI_ne _ _ _ _ _ _ (by omega), gI_same]; omega
  have nmk : ∀ kd : Int, kd = (if t (p + 1) = 105 then 2 else if t (p + 1) = 104 then 3 else 4) → (t (p + 1) = 105 ∨ t (p + 1) = 104 ∨ t (p + 1) = 109) → K_Mo_readsName g (sI (sI (sI (sI (sI (sI M 530 32 ((p + 1 : Nat) + 1 : Int)) 551 r (-4)) 552 r (-4)) 553 r 0) 554 r 0) 550 r kd) (fun r37 M38 => (r37 = 0 ∨ r37 = 1) → WT M38 → (((r37 = 0) → Q 0 (sI M38 553 r (gI M38 530 33))) ∧ ((¬ (r37 = 0)) → Q 1 (sI M38 553 r (gI M38 530 33))))) := by
    intro kd ekd hk
    obtain ⟨N, eN, hFN, hN2, hN5⟩ := pre kd
    rw [← eN]
    have er : rulP t p = match nameP t (p + 2) with | none => none | some s => some ((sgnV (t p), (if t (p + 1) = 105 then 2 else if t (p + 1) = 104 then 3 else 4), 0, 0, s.1, []), s.2) := by
      unfold rulP; rw [if_neg hs, if_neg (by omega), if_neg (by omega), if_neg (by omega), if_pos hk]; rfl
    have k24 : 2 ≤ kd ∧ kd ≤ 4 := by rw [ekd]; split; omega; split <;> omega
    refine k_Mo_rn hT (hM.ru hFN) hN2 (by omega) (fun s hsn M1 hF1 h2 h3 _ _ => bz1 ?_) (fun hsn M1 hF1 _ _ => bz0 (q0 (by rw [er, hsn]) _ (hFN.tr ((mV_Ru hF1).tr (FrI.st (Or.inr (Or.inl ⟨by omega, rfl⟩)))))))
    rw [hsn] at er
    refine q1 _ er _ (hFN.tr ((mV_Ru hF1).tr (FrI.st (Or.inr (Or.inl ⟨by omega, rfl⟩))))) ?_ ⟨?_, fun z => ?_, fun _ _ => ?_, fun z => ?_⟩
    · rw [gI_ne _ _ _ _ _ _ (by omega)]; exact h2
    · rw [gI_ne _ _ _ _ _ _ (by omega), hF1.i (by unfold mV; omega), hN5]; exact ekd
    · dsimp only at z; omega
    · rw [gI_same, h3]
    · dsimp only at z; omega
  refine i_Mo_asks (b_Mo_asks_0 (by omega) (k_Mo_nx hT hM hp (fun _ _ => ⟨by omega, by omega, ?_⟩)))
  rw [hp, Int.toNat_natCast]
  refine ⟨fun c => ?_, fun c => ⟨fun c2 => ?_, fun c2 => ⟨fun c3 => ?_, fun c3 => ?_⟩⟩⟩
  · obtain ⟨N, eN, hFN, hN2, hN5⟩ := pre 0
    rw [← eN]
    refine q1 ((sgnV (t p), 0, 0, 0, 0, []), p + 2) (by unfold rulP; rw [if_neg hs, if_pos c]) N hFN hN2 ⟨hN5, fun z => ?_, fun z => ?_, fun z => ?_⟩
    · dsimp only at z; omega
    · dsimp only at z; omega
    · dsimp only at z; omega
  · obtain ⟨N, eN, hFN, hN2, hN5⟩ := pre 5
    rw [← eN]
    have er : rulP t p = match macP t 8 (p + 2) with | none => none | some s => if s.1 = [] then none else some ((sgnV (t p), 5, 0, 0, 0, s.1), s.2) := by
      unfold rulP; rw [if_neg hs, if_neg (by omega), if_neg (by omega), if_pos c2]; rfl
    have hp1 : p + 1 < L := hT.in (by omega)
    refine i_Mo_macro (b_Mo_macro_0 (by omega) (mo_mac (M := M) hr hT hM 8 (p + 2) [] N (by omega) rfl hFN hN2 (fun i x hx => by simp at hx) (fun s hsn hne M' hF' k0 k1 k2 k3 _ _ => ?_) (fun hn M' hF' _ _ => q0 ?_ M' hF')))
    · rw [List.nil_append] at hne k2 k3
      rw [hsn] at er
      have er2 : rulP t p = some ((sgnV (t p), 5, 0, 0, 0, s.1), s.2) := by rw [er]; dsimp only; rw [if_neg hne]
      exact q1 _ er2 M' hF' k1 ⟨by rw [k0]; exact hN5, fun z => by dsimp only at z; omega, fun z => by dsimp only at z ⊢; omega, fun _ => ⟨k2, k3⟩⟩
    · rcases hn with hn | ⟨s, hn, hn2⟩
      · rw [er, hn]
      · rw [er, hn]
        dsimp only
        rw [List.nil_append] at hn2
        rw [if_pos hn2]
  · obtain ⟨N, eN, hFN, hN2, hN5⟩ := pre 1
    rw [← eN]
    have er : rulP t p = match numP t 255 (p + 2) with | none => none | some s => if t s.2 = 47 then (match numP t 8 (s.2 + 1) with | none => none | some s2 => some ((sgnV (t p), 1, s.1, s2.1, 0, []), s2.2)) else none := by
      unfold rulP; rw [if_neg hs, if_neg (by omega), if_pos c3]; rfl
    have st2 : ∀ (M0 : Mem) (x y : Int), FrI (mRu r) M0 (sI (sI M0 551 r x) 552 r y) := fun M0 x y => FrI.tr (FrI.st (Or.inr (Or.inl ⟨by omega, rfl⟩))) (FrI.st (Or.inr (Or.inl ⟨by omega, rfl⟩)))
    have st1 : ∀ (M0 : Mem) (b : Nat) (x : Int), 550 ≤ b → b ≤ 554 → FrI (mRu r) M0 (sI M0 b r x) := fun M0 b x hb1 hb2 => FrI.st (Or.inr (Or.inl ⟨by omega, rfl⟩))
    refine k_Mo_nm (by omega) hT (hM.ru hFN) hN2 (by omega) (fun s hsn M1 hF1 h2 h3 _ _ => bf (by decide) ?_) (fun hsn M1 hF1 _ _ => bt rfl (q0 (by rw [er, hsn]) _ (hFN.tr ((mV_Ru hF1).tr (st2 _ _ _)))))
    obtain ⟨o0, o1, o2, o3, o4⟩ := numP_ok hT hsn
    rw [hsn] at er
    dsimp only at er
    have hFa := hFN.tr ((mV_Ru hF1).tr (st1 M1 551 (gI M1 530 33) (by omega) (by omega)))
    refine k_Mo_cm (by omega) hT (hM.ru hFa) (p := s.2) (by rw [gI_ne _ _ _ _ _ _ (by omega)]; exact h2) (by omega) (fun e M2 hF2 g2 _ _ => bf (by decide) ?_) (fun e M2 hF2 g2 _ _ => bt rfl (q0 (by rw [er, if_neg e]) _ (hFa.tr ((mV_Ru (mAt_V hF2)).tr (st1 _ _ _ (by omega) (by omega))))))
    have hFb := hFa.tr (mV_Ru (mAt_V hF2))
    rw [if_pos e] at er
    refine k_Mo_nm (by omega) hT (hM.ru hFb) g2 (by omega) (fun s2 hsn2 M3 hF3 g3 g4 _ _ => bf (by decide) ?_) (fun hsn2 M3 hF3 _ _ => bt rfl (q0 (by rw [er, hsn2]) _ (hFb.tr ((mV_Ru hF3).tr (st1 _ _ _ (by omega) (by omega))))))
    rw [hsn2] at er
    refine q1 _ er _ (hFb.tr ((mV_Ru hF3).tr (st1 _ _ _ (by omega) (by omega)))) ?_ ⟨?_, fun _ => ⟨?_, ?_⟩, fun z => ?_, fun z => ?_⟩
    · rw [gI_ne _ _ _ _ _ _ (by omega)]; exact g3
    · rw [gI_ne _ _ _ _ _ _ (by omega), hF3.i (by unfold mV; omega), hF2.i (by unfold mAt; omega), gI_ne _ _ _ _ _ _ (by omega), hF1.i (by unfold mV; omega)]; exact hN5
    · rw [gI_ne _ _ _ _ _ _ (by omega), hF3.i (by unfold mV; omega), hF2.i (by unfold mAt; omega), gI_same]; exact h3
    · rw [gI_same]; exact g4
    · dsimp only at z; omega
    · dsimp only at z; omega
  · have e33 : ∀ N : Mem, N = sI (sI (sI (sI (sI (sI M 530 32 ((p + 1 : Nat) + 1 : Int)) 551 r (-4)) 552 r (-4)) 553 r 0) 554 r 0) 550 r 4 → True := fun _ _ => trivial
    refine ⟨fun c4 => ⟨fun c5 => bf c4 (bf c5 ⟨fun c6 => ?_, fun c6 => nmk 4 (by rw [if_neg c4, if_neg c5]) (by omega)⟩), fun c5 => bf c4 (bt c5 (nmk 3 (by rw [if_neg c4, if_pos c5]) (by omega)))⟩, fun c4 => bt c4 (nmk 2 (by rw [if_pos c4]) (by omega))⟩
    obtain ⟨N, eN, hFN, hN2, hN5⟩ := pre 4
    rw [← eN]
    refine q0 ?_ _ (hFN.tr (FrI.st (Or.inr (Or.inl ⟨by omega, rfl⟩))))
    unfold rulP; rw [if_neg hs, if_neg (by omega), if_neg (by omega), if_neg (by omega), if_neg (by omega)]
end MU
