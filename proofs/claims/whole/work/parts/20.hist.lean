/-! ===== the history of changes on both sides ===== -/
section HH
variable {g : Ctx} {n : Nat} {M : Mem}
theorem k_Hi_add {Q : Nat → Mem → Prop} (h0 : 0 ≤ gI M 270 1) (h4 : gI M 270 1 ≤ 4) (hlt : ∀ h : Nat, gI M 270 1 = h → h < 4 → Q (gP M 271 h) (sI M 270 1 (h + 1))) (hful : ∀ M' : Mem, gI M 270 1 = 4 → M'.1 = M.1 → (∀ a k, a ≠ 271 → gP M' a k = gP M a k) → (∀ i, i < 3 → gP M' 271 i = gP M 271 (i + 1)) → gP M' 271 3 = gP M 271 0 → Q (gP M 271 0) M') : K_Hi_add g n M Q := by
  refine i_Hi_add (w_wt (fun hw => b_Hi_add_0 ⟨fun c => ?_, fun c => ⟨by omega, by omega, ?_⟩⟩))
  · have loop : ∀ (m : Nat) (M1 : Mem) (i : Nat), i + m = 3 → M1.1 = M.1 → (∀ a k, a ≠ 271 → gP M1 a k = gP M a k) → (∀ k, k < i → gP M1 271 k = gP M 271 (k + 1)) → (∀ k, i ≤ k → gP M1 271 k = gP M 271 k) → P_Hi_add g n 39 [(0, vr g 270), (1, vr g (gP M 271 0)), (2, vi (i : Int))] [] M1 Q := by
      intro m
      induction m with
      | zero =>
        intro M1 i hi e1 e2 e3 e4
        refine b_Hi_add_39 (hw.ch (by decide)) (by omega) (bt (by omega) ?_)
        refine hful _ (by omega) e1 (fun a k ha => by rw [gP_ne _ _ _ _ _ _ (by omega)]; exact e2 a k ha) (fun k hk => by rw [gP_ne _ _ _ _ _ _ (by omega)]; exact e3 k (by omega)) (gP_same _ _ _ _)
      | succ m ih =>
        intro M1 i hi e1 e2 e3 e4
        refine b_Hi_add_39 (hw.ch (by decide)) (by omega) (bf (by omega) ⟨by omega, by omega, ?_⟩)
        rw [Int.toNat_natCast, show ((i : Int) + 1).toNat = i + 1 by omega]
        refine ih _ (i + 1) (by omega) e1 (fun a k ha => by rw [gP_ne _ _ _ _ _ _ (by omega)]; exact e2 a k ha) (fun k hk => ?_) (fun k hk => by rw [gP_ne _ _ _ _ _ _ (by omega)]; exact e4 k (by omega))
        by_cases q : k = i
        · subst q; rw [gP_same]; exact e4 _ (by omega)
        · rw [gP_ne _ _ _ _ _ _ (by omega)]; exact e3 k (by omega)
    exact loop 3 M 0 rfl rfl (fun _ _ _ => rfl) (fun k hk => by omega) (fun _ _ => rfl)
  · obtain ⟨h, hh⟩ := Int.eq_ofNat_of_zero_le h0
    rw [hh, Int.toNat_natCast]
    exact hlt h hh (by omega)
def Sh4 (h : Int) (h0 s : Nat) : Prop := (h = h0 ∧ s = 0 ∧ h0 < 4) ∨ (h = 4 ∧ h0 = 3 ∧ s = 1)
/-- a change has been noted -/
def NoteR (M M' : Mem) (h0 s : Nat) (kd nm pl vl : Int) : Prop := gI M' 270 1 = h0 + 1 ∧ gI M' 260 1 = 0 ∧ (∀ a k, (a < 272 ∨ 276 ≤ a) → ¬ (a = 260 ∧ k = 1) → ¬ (a = 270 ∧ k = 1) → gI M' a k = gI M a k) ∧ (∀ a k, a ≠ 271 → gP M' a k = gP M a k) ∧
  (∀ i i', i < 4 → i' < 4 → gP M' 271 i = gP M' 271 i' → i = i') ∧ (∀ i, i < h0 → ∀ k, gI M' (gP M' 271 i) k = gI M (gP M 271 (i + s)) k) ∧ gI M' (gP M' 271 h0) 0 = kd ∧ gI M' (gP M' 271 h0) 1 = nm ∧ gI M' (gP M' 271 h0) 2 = pl ∧ gI M' (gP M' 271 h0) 3 = vl
theorem k_Sr_noteChange {Q : Mem → Prop} {kd nm pl vl : Int} (h0 : 0 ≤ gI M 270 1) (h4 : gI M 270 1 ≤ 4) (hp : ∀ i i', i < 4 → i' < 4 → gP M 271 i = gP M 271 i' → i = i') (i0 : InR kd) (i1 : InR nm) (i2 : InR pl) (i3 : InR vl) (h : ∀ (M' : Mem) (h0 s : Nat), Sh4 (gI M 270 1) h0 s → NoteR M M' h0 s kd nm pl vl → Q M') : K_Sr_noteChange g n kd nm pl vl M Q := by
  refine i_Sr_noteChange (w_wt (fun hw => b_Sr_noteChange_0 i0 i1 i2 i3 ?_))
  refine k_Hi_add h0 h4 (fun h' e e4 _ _ => ?_) (fun M' e e1 e2 e3 e4 hr _ => ?_)
  · obtain ⟨q, hq, eq⟩ := hw.ch (k := h') e4
    refine ⟨nCh ⟨q, hq, eq⟩, i_Ks_clear (b_Ks_clear_0 (fun _ => ?_))⟩
    refine h _ h' 0 (Or.inl ⟨e, rfl, e4⟩) ⟨?_, gI_same _ _ _ _, fun a k ha h1 h2 => ?_, fun a k _ => rfl, hp, fun i hi k => ?_, ?_, ?_, ?_, ?_⟩
    · rw [gI_ne _ _ _ _ _ _ (by decide), gI_ne _ _ _ _ _ _ (by omega), gI_ne _ _ _ _ _ _ (by omega), gI_ne _ _ _ _ _ _ (by omega), gI_ne _ _ _ _ _ _ (by omega), gI_same]
    · rw [gI_ne _ _ _ _ _ _ (by omega), gI_ne _ _ _ _ _ _ (by omega), gI_ne _ _ _ _ _ _ (by omega), gI_ne _ _ _ _ _ _ (by omega), gI_ne _ _ _ _ _ _ (by omega), gI_ne _ _ _ _ _ _ (by omega)]
    · have hne : gP M 271 i ≠ gP M 271 h' := fun z => by have := hp i h' (by omega) (by omega) z; omega
      show gI (sI (sI (sI (sI (sI (sI M 270 1 _) _ _ _) _ _ _) _ _ _) _ _ _) _ _ _) (gP M 271 i) k = _
      obtain ⟨q2, hq2, eq2⟩ := hw.ch (k := i) (by omega)
      rw [gI_ne _ _ _ _ _ _ (by omega), gI_ne _ _ _ _ _ _ (by omega), gI_ne _ _ _ _ _ _ (by omega), gI_ne _ _ _ _ _ _ (by omega), gI_ne _ _ _ _ _ _ (by omega), gI_ne _ _ _ _ _ _ (by omega), Nat.add_zero]
    · show gI (sI (sI (sI (sI (sI _ _ _ _) _ _ _) _ _ _) _ _ _) _ _ _) (gP M 271 h') 0 = _
      rw [gI_ne _ _ _ _ _ _ (by omega), gI_ne _ _ _ _ _ _ (by omega), gI_ne _ _ _ _ _ _ (by omega), gI_ne _ _ _ _ _ _ (by omega), gI_same]
    · show gI (sI (sI (sI (sI (sI _ _ _ _) _ _ _) _ _ _) _ _ _) _ _ _) (gP M 271 h') 1 = _
      rw [gI_ne _ _ _ _ _ _ (by omega), gI_ne _ _ _ _ _ _ (by omega), gI_ne _ _ _ _ _ _ (by omega), gI_same]
    · show gI (sI (sI (sI (sI (sI _ _ _ _) _ _ _) _ _ _) _ _ _) _ _ _) (gP M 271 h') 2 = _
      rw [gI_ne _ _ _ _ _ _ (by omega), gI_ne _ _ _ _ _ _ (by omega), gI_same]
    · show gI (sI (sI (sI (sI (sI _ _ _ _) _ _ _) _ _ _) _ _ _) _ _ _) (gP M 271 h') 3 = _
      rw [gI_ne _ _ _ _ _ _ (by omega), gI_same]
  · obtain ⟨q, hq, eq⟩ := hw.ch (k := 0) (by decide)
    have hI : ∀ a k, gI M' a k = gI M a k := fun a k => by unfold gI; rw [e1]
    refine ⟨nCh ⟨q, hq, eq⟩, i_Ks_clear (b_Ks_clear_0 (fun _ => ?_))⟩
    have ep : ∀ i, i < 4 → gP M' 271 i = gP M 271 (if i = 3 then 0 else i + 1) := fun i hi => by
      by_cases z : i = 3
      · rw [if_pos z, z]; exact e4
      · rw [if_neg z]; exact e3 i (by omega)
    refine h _ 3 1 (Or.inr ⟨e, rfl, rfl⟩) ⟨?_, gI_same _ _ _ _, fun a k ha h1 h2 => ?_, e2, fun i i' hi hi' z => ?_, fun i hi k => ?_, ?_, ?_, ?_, ?_⟩
    · rw [gI_ne _ _ _ _ _ _ (by decide), gI_ne _ _ _ _ _ _ (by omega), gI_ne _ _ _ _ _ _ (by omega), gI_ne _ _ _ _ _ _ (by omega), gI_ne _ _ _ _ _ _ (by omega), hI]; exact e
    · rw [gI_ne _ _ _ _ _ _ (by omega), gI_ne _ _ _ _ _ _ (by omega), gI_ne _ _ _ _ _ _ (by omega), gI_ne _ _ _ _ _ _ (by omega), gI_ne _ _ _ _ _ _ (by omega), hI]
    · have z' : gP M' 271 i = gP M' 271 i' := z
      rw [ep i hi, ep i' hi'] at z'
      have := hp _ _ (by split <;> omega) (by split <;> omega) z'
      split at this <;> split at this <;> omega
    · have z0 : gP M' 271 i = gP M 271 (i + 1) := e3 i hi
      have hne : gP M 271 (i + 1) ≠ gP M 271 0 := fun z => by have := hp (i + 1) 0 (by omega) (by omega) z; omega
      show gI (sI (sI (sI (sI (sI M' _ _ _) _ _ _) _ _ _) _ _ _) _ _ _) (gP M' 271 i) k = _
      obtain ⟨q2, hq2, eq2⟩ := hw.ch (k := i + 1) (by omega)
      rw [z0, gI_ne _ _ _ _ _ _ (by omega), gI_ne _ _ _ _ _ _ (by omega), gI_ne _ _ _ _ _ _ (by omega), gI_ne _ _ _ _ _ _ (by omega), gI_ne _ _ _ _ _ _ (by omega), hI]
    · show gI (sI (sI (sI (sI (sI _ _ _ _) _ _ _) _ _ _) _ _ _) _ _ _) (gP M' 271 3) 0 = _
      rw [e4, gI_ne _ _ _ _ _ _ (by omega), gI_ne _ _ _ _ _ _ (by omega), gI_ne _ _ _ _ _ _ (by omega), gI_ne _ _ _ _ _ _ (by omega), gI_same]
    · show gI (sI (sI (sI (sI (sI _ _ _ _) _ _ _) _ _ _) _ _ _) _ _ _) (gP M' 271 3) 1 = _
      rw [e4, gI_ne _ _ _ _ _ _ (by omega), gI_ne _ _ _ _ _ _ (by omega), gI_ne _ _ _ _ _ _ (by omega), gI_same]
    · show gI (sI (sI (sI (sI (sI _ _ _ _) _ _ _) _ _ _) _ _ _) _ _ _) (gP M' 271 3) 2 = _
      rw [e4, gI_ne _ _ _ _ _ _ (by omega), gI_ne _ _ _ _ _ _ (by omega), gI_same]
    · show gI (sI (sI (sI (sI (sI _ _ _ _) _ _ _) _ _ _) _ _ _) _ _ _) (gP M' 271 3) 3 = _
      rw [e4, gI_ne _ _ _ _ _ _ (by omega), gI_same]
/-- the model has kept its row -/
def KeepR (M M' : Mem) (h0 s : Nat) : Prop := FrI (fun a k => (a = 530 ∧ (k = 16 ∨ k = 34)) ∨ a = 544) M M' ∧ gI M' 530 16 = h0 + 1 ∧ gI M' 530 34 = 0 ∧ (∀ i k, i < h0 → k < 252 → gI M' 544 (252 * i + k) = gI M 544 (252 * (i + s) + k)) ∧ ∀ k, k < 252 → gI M' 544 (252 * h0 + k) = gI M 543 k
theorem k_Mo_keeps {Q : Mem → Prop} (h0 : 0 ≤ gI M 530 16) (h4 : gI M 530 16 ≤ 4) (h : ∀ (M' : Mem) (h0 s : Nat), Sh4 (gI M 530 16) h0 s → KeepR M M' h0 s → Q M') : K_Mo_keeps g M Q := by
  have loop : ∀ (h0 s : Nat), Sh4 (gI M 530 16) h0 s → ∀ (m : Nat) (M1 : Mem) (i : Nat), i + m = 252 → FrI (fun a k => (a = 530 ∧ (k = 16 ∨ k = 34)) ∨ a = 544) M M1 → gI M1 530 16 = h0 → (∀ j k, j < h0 → k < 252 → gI M1 544 (252 * j + k) = gI M 544 (252 * (j + s) + k)) → (∀ k, k < i → gI M1 544 (252 * h0 + k) = gI M 543 k) → P_Mo_keeps g 51 [(0, vr g 530), (1, vi (i : Int))] [] M1 Q := by
    intro h0 s hs m
    have h3 : h0 < 4 := by rcases hs with q | q <;> omega
    induction m with
    | zero =>
      intro M1 i hi hF e1 e2 e3
      refine b_Mo_keeps_51 (by omega) (bt (by omega) ⟨by omega, ?_⟩)
      refine h _ h0 s hs ⟨hF.tr ((FrI.st (Or.inl ⟨rfl, Or.inl rfl⟩)).tr (FrI.st (Or.inl ⟨rfl, Or.inr rfl⟩))), ?_, gI_same _ _ _ _, fun j k hj hk => ?_, fun k hk => ?_⟩
      · rw [gI_ne _ _ _ _ _ _ (by decide), gI_same, e1]
      · rw [gI_ne _ _ _ _ _ _ (by omega), gI_ne _ _ _ _ _ _ (by omega)]; exact e2 j k hj hk
      · rw [gI_ne _ _ _ _ _ _ (by omega), gI_ne _ _ _ _ _ _ (by omega)]; exact e3 k (by omega)
    | succ m ih =>
      intro M1 i hi hF e1 e2 e3
      refine b_Mo_keeps_51 (by omega) (bf (by omega) ⟨by omega, by rw [e1]; omega, ?_⟩)
      rw [e1, Int.toNat_natCast, show ((252 * (h0 : Int)) + (i : Int)).toNat = 252 * h0 + i by omega]
      refine ih _ (i + 1) (by omega) (hF.tr (FrI.st (Or.inr rfl))) (by rw [gI_ne _ _ _ _ _ _ (by omega)]; exact e1) (fun j k hj hk => ?_) (fun k hk => ?_)
      · rw [gI_ne _ _ _ _ _ _ (by omega)]; exact e2 j k hj hk
      · by_cases q : k = i
        · subst q; rw [gI_same]; exact hF.i (by omega)
        · rw [gI_ne _ _ _ _ _ _ (by omega)]; exact e3 k (by omega)
  refine i_Mo_keeps (b_Mo_keeps_0 ⟨fun c => ?_, fun c => ?_⟩)
  · obtain ⟨h', hh⟩ := Int.eq_ofNat_of_zero_le h0
    exact loop h' 0 (Or.inl ⟨hh, rfl, by omega⟩) 252 M 0 rfl (FrI.rf M) hh (fun j k _ _ => rfl) (fun k hk => by omega)
  · have lp2 : ∀ (m : Nat) (M1 : Mem) (i : Nat), i + m = 756 → FrI (fun a k => (a = 530 ∧ (k = 16 ∨ k = 34)) ∨ a = 544) M M1 → gI M1 530 16 = 4 → (∀ k, k < i → gI M1 544 k = gI M 544 (k + 252)) → (∀ k, i ≤ k → gI M1 544 k = gI M 544 k) → P_Mo_keeps g 10 [(0, vr g 530), (1, vi (i : Int))] [] M1 Q := by
      intro m
      induction m with
      | zero =>
        intro M1 i hi hF e1 e2 e3
        refine b_Mo_keeps_10 (by omega) (bt (by omega) ⟨by omega, ?_⟩)
        refine loop 3 1 (Or.inr ⟨c, rfl, rfl⟩) 252 _ 0 rfl (hF.tr (FrI.st (Or.inl ⟨rfl, Or.inl rfl⟩))) (by rw [gI_same, e1]; rfl) (fun j k hj hk => ?_) (fun k hk => by omega)
        rw [gI_ne _ _ _ _ _ _ (by omega), e2 _ (by omega), show 252 * j + k + 252 = 252 * (j + 1) + k by omega]
      | succ m ih =>
        intro M1 i hi hF e1 e2 e3
        refine b_Mo_keeps_10 (by omega) (bf (by omega) ⟨by omega, by omega, ?_⟩)
        rw [Int.toNat_natCast, show ((i : Int) + 252).toNat = i + 252 by omega]
        refine ih _ (i + 1) (by omega) (hF.tr (FrI.st (Or.inr rfl))) (by rw [gI_ne _ _ _ _ _ _ (by omega)]; exact e1) (fun k hk => ?_) (fun k hk => by rw [gI_ne _ _ _ _ _ _ (by omega)]; exact e3 k (by omega))
        by_cases q : k = i
        · subst q; rw [gI_same]; exact e3 _ (by omega)
        · rw [gI_ne _ _ _ _ _ _ (by omega)]; exact e2 k (by omega)
    exact lp2 756 M 0 rfl (FrI.rf M) c (fun k hk => by omega) (fun _ _ => rfl)
end HH
theorem ChOk.cok {M : Mem} {c : Nat} {v : Nat → Int} (h : ChOk M c v) : COk (gI M 533 (gI M c 1).toNat) (gI M c 0) (gI M c 2).toNat (gI M c 1).toNat v := by
  obtain ⟨h1, h2, h3, k0, k1, k2, k3⟩ := h
  rcases (show gI M c 0 = 0 ∨ gI M c 0 = 1 ∨ gI M c 0 = 2 ∨ gI M c 0 = 3 by omega) with e | e | e | e
  · exact Or.inl ⟨e, by have := k0 e; omega⟩
  · exact Or.inr (Or.inl ⟨e, by have := k1 e; omega⟩)
  · exact Or.inr (Or.inr (Or.inl ⟨e, by have := k2 e; omega⟩))
  · exact Or.inr (Or.inr (Or.inr ⟨e, by have := k3 e; omega, (k3 e).2⟩))
theorem VEq.undo {M : Mem} {kind : Int} {j p : Nat} {x : Int} {v w : Nat → Int} (hr8 : ∀ j : Nat, (j : Int) < gI M 530 2 → gI M 533 j ≤ 8) (hv : ∀ j : Nat, (j : Int) < gI M 530 2 → RowOk (gI M 533 j) j v) (hj : (j : Int) < gI M 530 2) (h : VEq M v w) (hc : COk (gI M 533 j) kind p j v) : VEq M (undoV kind j p x v) (undoV kind j p x w) := by
  intro i hi
  by_cases e : i = j
  · subst e; exact V1.undo (hr8 i hi) (hv i hi) (h i hi) hc
  · have hb : p + 1 < 8 ∨ kind ≠ 1 := by
      have := hr8 j hj
      rcases hc with q | q | q | q <;> omega
    have hb0 : kind = 0 → 0 ≤ v (21 * j + p) ∧ v (21 * j + p) < 8 := fun z => by
      have h8 := hr8 j hj
      rcases hc with q | q | q | q
      · have := (hv j hj).2 p q.2; omega
      · omega
      · omega
      · omega
    have hw0 : kind = 0 → 0 ≤ w (21 * j + p) ∧ w (21 * j + p) < 8 := fun z => by
      have hb0 := hb0 z
      rcases hc with q | q | q | q
      · rw [← ((h j hj).1 p q.2).1]; exact hb0
      · omega
      · omega
      · omega
    have h4 := (hv i hi).1.2
    exact (V1.off e (hr8 i hi) h4 hb hb0).sy.tr ((h.at hi).tr (V1.off e (hr8 i hi) (by rw [← (h i hi).2.1]; exact h4) hb hw0))
