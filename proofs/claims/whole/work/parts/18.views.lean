/-! ===== rows of the names: equal, changed, taken back ===== -/
/-- a row is in order for name j: m rules -/
def RowOk (m : Int) (j : Nat) (v : Nat → Int) : Prop := (0 ≤ v (21 * j + 16) ∧ v (21 * j + 16) ≤ 4) ∧ ∀ i : Nat, (i : Int) < m → 0 ≤ v (21 * j + i) ∧ v (21 * j + i) < m
def V1 (m : Int) (j : Nat) (v w : Nat → Int) : Prop := (∀ i : Nat, (i : Int) < m → v (21 * j + i) = w (21 * j + i) ∧ v (21 * j + (8 + i)) = w (21 * j + (8 + i))) ∧ v (21 * j + 16) = w (21 * j + 16) ∧ ∀ k : Nat, (k : Int) < v (21 * j + 16) → v (21 * j + (17 + k)) = w (21 * j + (17 + k))
theorem VEq.at {M : Mem} {v w : Nat → Int} (h : VEq M v w) {j : Nat} (hj : (j : Int) < gI M 530 2) : V1 (gI M 533 j) j v w := h j hj
theorem V1.rf (m : Int) (j : Nat) (v : Nat → Int) : V1 m j v v := ⟨fun _ _ => ⟨rfl, rfl⟩, rfl, fun _ _ => rfl⟩
theorem V1.sy {m : Int} {j : Nat} {v w : Nat → Int} (h : V1 m j v w) : V1 m j w v := ⟨fun i hi => ⟨(h.1 i hi).1.symm, (h.1 i hi).2.symm⟩, h.2.1.symm, fun k hk => (h.2.2 k (by rw [h.2.1]; exact hk)).symm⟩
theorem V1.tr {m : Int} {j : Nat} {u v w : Nat → Int} (h : V1 m j u v) (h2 : V1 m j v w) : V1 m j u w := ⟨fun i hi => ⟨(h.1 i hi).1.trans (h2.1 i hi).1, (h.1 i hi).2.trans (h2.1 i hi).2⟩, h.2.1.trans h2.2.1, fun k hk => (h.2.2 k hk).trans (h2.2.2 k (by rw [← h.2.1]; exact hk))⟩
theorem VEq.rf (M : Mem) (v : Nat → Int) : VEq M v v := fun j _ => V1.rf _ j v
theorem VEq.sy {M : Mem} {v w : Nat → Int} (h : VEq M v w) : VEq M w v := fun j hj => V1.sy (h j hj)
theorem VEq.tr {M : Mem} {u v w : Nat → Int} (h : VEq M u v) (h2 : VEq M v w) : VEq M u w := fun j hj => V1.tr (h j hj) (h2 j hj)
theorem VEq.of252 {M : Mem} {v w : Nat → Int} (hn : gI M 530 2 ≤ 12) (hr : ∀ j : Nat, (j : Int) < gI M 530 2 → gI M 533 j ≤ 8 ∧ v (21 * j + 16) ≤ 4) (h : ∀ k, k < 252 → v k = w k) : VEq M v w := fun j hj => by
  have := hr j hj
  exact ⟨fun i hi => ⟨h _ (by omega), h _ (by omega)⟩, h _ (by omega), fun k hk => h _ (by omega)⟩
theorem MHost.veq {M : Mem} {d j : Nat} {m : Int} {v w : Nat → Int} (h : MHost M d j v) (e : V1 m j v w) : MHost M d j w := by
  refine ⟨h.1.trans e.2.1, by rw [← e.2.1]; exact h.2.1, fun k hk => ?_⟩
  rw [← e.2.1] at hk
  exact (h.2.2 k hk).trans (e.2.2 k hk)
theorem MRules.veq {M : Mem} {d j : Nat} {v w : Nat → Int} (h : MRules M d j v) (e : V1 (gI M 533 j) j v w) : MRules M d j w := by
  refine ⟨fun i hi => ?_, fun i i' hi hi' => ?_⟩
  · obtain ⟨q1, q2, q3, q4⟩ := h.1 i hi
    have e2 := (e.1 (v (21 * j + i)).toNat (by omega)).2
    rw [← (e.1 i hi).1, ← e2]
    exact ⟨q1, q2, q3, q4⟩
  · rw [← (e.1 i hi).1, ← (e.1 i' hi').1]
    exact h.2 i i' hi hi'
theorem MAll.veq {M : Mem} {b : Nat} {v w : Nat → Int} (h : MAll M b v) (e : VEq M v w) : MAll M b w :=
  ⟨h.1, h.2.1, h.2.2.1, fun j hj => ⟨(h.2.2.2 j hj).1, (h.2.2.2 j hj).2.1.veq (e j hj), (h.2.2.2 j hj).2.2.veq (e j hj)⟩⟩
theorem MRules.ok {M : Mem} {d j : Nat} {v : Nat → Int} (h : MDom M d j v) : RowOk (gI M 533 j) j v := ⟨h.2.1.2.1, fun i hi => (h.2.2.1 i hi).1⟩
/-- another name's part stays -/
theorem undoV_off {kind : Int} {j p : Nat} {x : Int} {v : Nat → Int} {j' c : Nat} (hj : j' ≠ j) (hc : c < 21) (hp : p + 1 < 8 ∨ kind ≠ 1) (hv : kind = 0 → 0 ≤ v (21 * j + p) ∧ v (21 * j + p) < 8) : undoV kind j p x v (21 * j' + c) = v (21 * j' + c) := by
  have hne : j' < j ∨ j < j' := by omega
  unfold undoV
  by_cases k0 : kind = 0
  · have := hv k0
    rw [if_pos k0]
    show (if _ then _ else _) = _
    rw [if_neg (by omega)]
  · rw [if_neg k0]
    by_cases k1 : kind = 1
    · rw [if_pos k1]
      show (if _ then _ else if _ then _ else _) = _
      rw [if_neg (by omega), if_neg (by omega)]
    · rw [if_neg k1]
      by_cases k2 : kind = 2
      · rw [if_pos k2]
        show (if _ then _ else if _ then _ else _) = _
        rw [if_neg (by omega), if_neg (by omega)]
      · rw [if_neg k2]
        show (if _ then _ else if _ then _ else _) = _
        rw [if_neg (by omega), if_neg (by omega)]
theorem V1.off {kind : Int} {j p : Nat} {x m : Int} {v : Nat → Int} {j' : Nat} (hj : j' ≠ j) (hm : m ≤ 8) (h4 : v (21 * j' + 16) ≤ 4) (hp : p + 1 < 8 ∨ kind ≠ 1) (hv : kind = 0 → 0 ≤ v (21 * j + p) ∧ v (21 * j + p) < 8) : V1 m j' v (undoV kind j p x v) :=
  ⟨fun i hi => ⟨(undoV_off hj (by omega) hp hv).symm, (undoV_off hj (by omega) hp hv).symm⟩, (undoV_off hj (by decide) hp hv).symm, fun k hk => (undoV_off hj (by omega) hp hv).symm⟩
/-- the row of the name itself, kind by kind -/
theorem undo0 (j p : Nat) (x : Int) (v : Nat → Int) (c : Nat) : undoV 0 j p x v (21 * j + c) = if c = 8 + (v (21 * j + p)).toNat then x else v (21 * j + c) := by
  unfold undoV
  rw [if_pos rfl]
  by_cases q : c = 8 + (v (21 * j + p)).toNat
  · rw [if_pos (by omega), if_pos q]
  · rw [if_neg (by omega), if_neg q]
theorem undo1 (j p : Nat) (x : Int) (v : Nat → Int) (c : Nat) : undoV 1 j p x v (21 * j + c) = if c = p then v (21 * j + (p + 1)) else if c = p + 1 then v (21 * j + p) else v (21 * j + c) := by
  unfold undoV
  rw [if_neg (by decide), if_pos rfl]
  by_cases q : c = p
  · rw [if_pos (by omega), if_pos q]
  · rw [if_neg (by omega), if_neg q]
    by_cases q2 : c = p + 1
    · rw [if_pos (by omega), if_pos q2]
    · rw [if_neg (by omega), if_neg q2]
theorem undo2 (j p : Nat) (x : Int) (v : Nat → Int) (c : Nat) (hc : c < 21) : undoV 2 j p x v (21 * j + c) = if c = 16 then v (21 * j + 16) - 1 else if 17 ≤ c then delF (fun i => v (21 * j + (17 + i))) p (c - 17) else v (21 * j + c) := by
  unfold undoV
  rw [if_neg (by decide), if_neg (by decide), if_pos rfl]
  by_cases q : c = 16
  · rw [if_pos (by omega), if_pos q, q]
  · rw [if_neg (by omega), if_neg q]
    by_cases q2 : 17 ≤ c
    · rw [if_pos (by omega), if_pos q2, show 21 * j + c - (21 * j + 17) = c - 17 by omega]
    · rw [if_neg (by omega), if_neg q2]
theorem undo3 (j p : Nat) (x : Int) (v : Nat → Int) (c : Nat) (hc : c < 21) : undoV 3 j p x v (21 * j + c) = if c = 16 then v (21 * j + 16) + 1 else if 17 ≤ c then insF (fun i => v (21 * j + (17 + i))) p x (c - 17) else v (21 * j + c) := by
  unfold undoV
  rw [if_neg (by decide), if_neg (by decide), if_neg (by decide)]
  by_cases q : c = 16
  · rw [if_pos (by omega), if_pos q, q]
  · rw [if_neg (by omega), if_neg q]
    by_cases q2 : 17 ≤ c
    · rw [if_pos (by omega), if_pos q2, show 21 * j + c - (21 * j + 17) = c - 17 by omega]
    · rw [if_neg (by omega), if_neg q2]
theorem undo2_lo (j p : Nat) (x : Int) (v : Nat → Int) {c : Nat} (hc : c < 16) : undoV 2 j p x v (21 * j + c) = v (21 * j + c) := by rw [undo2 _ _ _ _ _ (by omega), if_neg (by omega), if_neg (by omega)]
theorem undo2_n (j p : Nat) (x : Int) (v : Nat → Int) : undoV 2 j p x v (21 * j + 16) = v (21 * j + 16) - 1 := by rw [undo2 _ _ _ _ _ (by decide), if_pos rfl]
theorem undo2_h (j p : Nat) (x : Int) (v : Nat → Int) {k : Nat} (hk : k < 4) : undoV 2 j p x v (21 * j + (17 + k)) = delF (fun i => v (21 * j + (17 + i))) p k := by rw [undo2 _ _ _ _ _ (by omega), if_neg (by omega), if_pos (by omega), Nat.add_sub_cancel_left]
theorem undo3_lo (j p : Nat) (x : Int) (v : Nat → Int) {c : Nat} (hc : c < 16) : undoV 3 j p x v (21 * j + c) = v (21 * j + c) := by rw [undo3 _ _ _ _ _ (by omega), if_neg (by omega), if_neg (by omega)]
theorem undo3_n (j p : Nat) (x : Int) (v : Nat → Int) : undoV 3 j p x v (21 * j + 16) = v (21 * j + 16) + 1 := by rw [undo3 _ _ _ _ _ (by decide), if_pos rfl]
theorem undo3_h (j p : Nat) (x : Int) (v : Nat → Int) {k : Nat} (hk : k < 4) : undoV 3 j p x v (21 * j + (17 + k)) = insF (fun i => v (21 * j + (17 + i))) p x k := by rw [undo3 _ _ _ _ _ (by omega), if_neg (by omega), if_pos (by omega), Nat.add_sub_cancel_left]
/-- what a change may be, seen from a row -/
def COk (m kind : Int) (p : Nat) (j : Nat) (v : Nat → Int) : Prop := (kind = 0 ∧ (p : Int) < m) ∨ (kind = 1 ∧ (p : Int) + 1 < m) ∨ (kind = 2 ∧ (p : Int) < v (21 * j + 16)) ∨ (kind = 3 ∧ (p : Int) ≤ v (21 * j + 16) ∧ v (21 * j + 16) < 4)
theorem V1.undo {m kind : Int} {j p : Nat} {x : Int} {v w : Nat → Int} (hm : m ≤ 8) (hv : RowOk m j v) (h : V1 m j v w) (hc : COk m kind p j v) : V1 m j (undoV kind j p x v) (undoV kind j p x w) := by
  obtain ⟨⟨r0, r4⟩, hr⟩ := hv
  rcases hc with ⟨rfl, hp⟩ | ⟨rfl, hp⟩ | ⟨rfl, hp⟩ | ⟨rfl, hp, hp4⟩
  · have e := (h.1 p hp).1
    have hb := hr p hp
    refine ⟨fun i hi => ⟨?_, ?_⟩, ?_, fun k hk => ?_⟩
    · rw [undo0, undo0, if_neg (by omega), if_neg (by omega)]; exact (h.1 i hi).1
    · rw [undo0, undo0, ← e]; split
      · rfl
      · exact (h.1 i hi).2
    · rw [undo0, undo0, if_neg (by omega), if_neg (by omega)]; exact h.2.1
    · rw [undo0, if_neg (by omega)] at hk
      rw [undo0, undo0, if_neg (by omega), if_neg (by omega)]; exact h.2.2 k hk
  · refine ⟨fun i hi => ⟨?_, ?_⟩, ?_, fun k hk => ?_⟩
    · rw [undo1, undo1, (h.1 p (by omega)).1, (h.1 (p + 1) (by omega)).1, (h.1 i hi).1]
    · rw [undo1, undo1, if_neg (by omega), if_neg (by omega), if_neg (by omega), if_neg (by omega)]; exact (h.1 i hi).2
    · rw [undo1, undo1, if_neg (by omega), if_neg (by omega), if_neg (by omega), if_neg (by omega)]; exact h.2.1
    · rw [undo1, if_neg (by omega), if_neg (by omega)] at hk
      rw [undo1, undo1, if_neg (by omega), if_neg (by omega), if_neg (by omega), if_neg (by omega)]; exact h.2.2 k hk
  · refine ⟨fun i hi => ⟨?_, ?_⟩, ?_, fun k hk => ?_⟩
    · rw [undo2_lo _ _ _ _ (by omega), undo2_lo _ _ _ _ (by omega)]; exact (h.1 i hi).1
    · rw [undo2_lo _ _ _ _ (by omega), undo2_lo _ _ _ _ (by omega)]; exact (h.1 i hi).2
    · rw [undo2_n, undo2_n, h.2.1]
    · rw [undo2_n] at hk
      rw [undo2_h _ _ _ _ (by omega), undo2_h _ _ _ _ (by omega)]
      unfold delF
      split
      · exact h.2.2 k (by omega)
      · exact h.2.2 (k + 1) (by omega)
  · refine ⟨fun i hi => ⟨?_, ?_⟩, ?_, fun k hk => ?_⟩
    · rw [undo3_lo _ _ _ _ (by omega), undo3_lo _ _ _ _ (by omega)]; exact (h.1 i hi).1
    · rw [undo3_lo _ _ _ _ (by omega), undo3_lo _ _ _ _ (by omega)]; exact (h.1 i hi).2
    · rw [undo3_n, undo3_n, h.2.1]
    · rw [undo3_n] at hk
      rw [undo3_h _ _ _ _ (by omega), undo3_h _ _ _ _ (by omega)]
      unfold insF
      split
      · exact h.2.2 k (by omega)
      · split
        · rfl
        · exact h.2.2 (k - 1) (by omega)
/-- each change is taken back by another -/
theorem inv0 {m : Int} {j p : Nat} {x : Int} {v : Nat → Int} (hm : m ≤ 8) (hr : RowOk m j v) (hp : (p : Int) < m) : V1 m j (undoV 0 j p (v (21 * j + (8 + (v (21 * j + p)).toNat))) (undoV 0 j p x v)) v := by
  have hb := hr.2 p hp
  have e : undoV 0 j p x v (21 * j + p) = v (21 * j + p) := by rw [undo0, if_neg (by omega)]
  refine ⟨fun i hi => ⟨?_, ?_⟩, ?_, fun k hk => ?_⟩
  · rw [undo0, e, if_neg (by omega), undo0, if_neg (by omega)]
  · rw [undo0, e]
    split
    · rename_i q; rw [← q]
    · rename_i q; rw [undo0, if_neg q]
  · rw [undo0, e, if_neg (by omega), undo0, if_neg (by omega)]
  · rw [undo0, e, if_neg (by have := hr.1; rw [undo0, e, if_neg (by omega), undo0, if_neg (by omega)] at hk; omega), undo0, if_neg (by have := hr.1; rw [undo0, e, if_neg (by omega), undo0, if_neg (by omega)] at hk; omega)]
theorem inv1 {m : Int} {j p : Nat} {x y : Int} {v : Nat → Int} (hm : m ≤ 8) (hp : (p : Int) + 1 < m) : V1 m j (undoV 1 j p y (undoV 1 j p x v)) v := by
  have key : ∀ c, undoV 1 j p y (undoV 1 j p x v) (21 * j + c) = v (21 * j + c) := by
    intro c
    have a1 : undoV 1 j p x v (21 * j + (p + 1)) = v (21 * j + p) := by rw [undo1, if_neg (by omega), if_pos rfl]
    have a2 : undoV 1 j p x v (21 * j + p) = v (21 * j + (p + 1)) := by rw [undo1, if_pos rfl]
    rw [undo1 j p y, a1, a2]
    split
    · rename_i q; rw [q]
    · split
      · rename_i q; rw [q]
      · rename_i q q2; rw [undo1, if_neg q, if_neg q2]
  exact ⟨fun i hi => ⟨key _, key _⟩, key _, fun k _ => key _⟩
theorem inv2 {m : Int} {j p : Nat} {x y : Int} {v : Nat → Int} (hm : m ≤ 8) (hr : RowOk m j v) (hp : (p : Int) ≤ v (21 * j + 16)) (hp4 : v (21 * j + 16) < 4) : V1 m j (undoV 2 j p y (undoV 3 j p x v)) v := by
  have h0 := hr.1
  refine ⟨fun i hi => ⟨?_, ?_⟩, ?_, fun k hk => ?_⟩
  · rw [undo2_lo _ _ _ _ (by omega), undo3_lo _ _ _ _ (by omega)]
  · rw [undo2_lo _ _ _ _ (by omega), undo3_lo _ _ _ _ (by omega)]
  · rw [undo2_n, undo3_n]; omega
  · rw [undo2_n, undo3_n] at hk
    rw [undo2_h _ _ _ _ (by omega)]
    unfold delF
    split
    · rename_i q
      dsimp only
      rw [undo3_h _ _ _ _ (by omega), insF, if_pos q]
    · rename_i q
      dsimp only
      rw [undo3_h _ _ _ _ (by omega), insF, if_neg (by omega), if_neg (by omega), Nat.add_sub_cancel]
theorem inv3 {m : Int} {j p : Nat} {x : Int} {v : Nat → Int} (hm : m ≤ 8) (hr : RowOk m j v) (hp : (p : Int) < v (21 * j + 16)) : V1 m j (undoV 3 j p (v (21 * j + (17 + p))) (undoV 2 j p x v)) v := by
  have h0 := hr.1
  refine ⟨fun i hi => ⟨?_, ?_⟩, ?_, fun k hk => ?_⟩
  · rw [undo3_lo _ _ _ _ (by omega), undo2_lo _ _ _ _ (by omega)]
  · rw [undo3_lo _ _ _ _ (by omega), undo2_lo _ _ _ _ (by omega)]
  · rw [undo3_n, undo2_n]; omega
  · rw [undo3_n, undo2_n] at hk
    rw [undo3_h _ _ _ _ (by omega)]
    unfold insF
    split
    · rename_i q
      dsimp only
      rw [undo2_h _ _ _ _ (by omega), delF, if_pos q]
    · split
      · rename_i q; rw [q]
      · rename_i q q2
        dsimp only
        rw [undo2_h _ _ _ _ (by omega), delF, if_neg (by omega), show k - 1 + 1 = k by omega]
