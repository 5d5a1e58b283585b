/-! ===== what the class's cells and the model's rows have in common ===== -/
/-- a part of a macro: the class's number and the model's -/
def PartR (q p : Int) : Prop := (0 ≤ p ∧ p < 16 ∧ q = 16 * p) ∨ ∃ s t f : Int, (0 ≤ s ∧ s ≤ 3) ∧ (t = 0 ∨ t = 1) ∧ (0 ≤ f ∧ f ≤ 7) ∧ p = 16 + s + 4 * t + 8 * f ∧ q = 16 * (16 + s) + 2 * f + t
/-- the rule at r is the model's rule a, but for its sign -/
def MRule (M : Mem) (r a : Nat) : Prop := gI M r 1 = gI M 537 a ∧ (0 ≤ gI M 537 a ∧ gI M 537 a ≤ 5) ∧
  (gI M 537 a = 1 → gI M r 2 = gI M 538 a ∧ gI M r 3 = gI M 539 a ∧ (0 ≤ gI M 538 a ∧ gI M 538 a ≤ 255) ∧ (0 ≤ gI M 539 a ∧ gI M 539 a ≤ 8)) ∧
  (2 ≤ gI M 537 a → gI M 537 a ≤ 4 → gI M r 4 = gI M 540 a ∧ 0 ≤ gI M 540 a ∧ gI M 540 a < 410338673) ∧ ((gI M 537 a < 2 ∨ 4 < gI M 537 a) → gI M r 4 = 0) ∧
  (gI M 537 a = 5 → gI M r 6 = gI M 541 a ∧ (1 ≤ gI M 541 a ∧ gI M 541 a ≤ 8) ∧ ∀ p : Nat, (p : Int) < gI M 541 a → PartR (gI M (r + 1) p) (gI M 542 (8 * a + p)))
/-- what never changes of a name -/
def MName (M : Mem) (d j : Nat) : Prop := gI M d 0 = gI M 532 j ∧ (∃ n : Nat, vcode (gI M 532 j) n ∧ gI M d 2 = n ∧ ∀ k, k < 7 → gI M (d + 1) k = dg (gI M 532 j) k - 1) ∧
  gI M d 5 = gI M 533 j ∧ (0 ≤ gI M 533 j ∧ gI M 533 j ≤ 8) ∧ (gI M d 3 = if gI M 533 j = 0 then 0 else 1) ∧ gI M d 6 = gI M 534 j ∧ (0 ≤ gI M 534 j ∧ gI M 534 j < 410338673) ∧
  gI M d 10 = gI M 535 j ∧ (0 ≤ gI M 535 j ∧ gI M 535 j ≤ 3) ∧ ∀ k : Nat, (k : Int) < gI M 535 j → gI M (d + 4) k = gI M 536 (3 * j + k) ∧ 0 ≤ gI M 536 (3 * j + k) ∧ gI M 536 (3 * j + k) < 410338673
def MHost (M : Mem) (d j : Nat) (v : Nat → Int) : Prop := gI M d 8 = v (21 * j + 16) ∧ (0 ≤ v (21 * j + 16) ∧ v (21 * j + 16) ≤ 4) ∧ ∀ k : Nat, (k : Int) < v (21 * j + 16) → gI M (d + 3) k = v (21 * j + (17 + k))
def MRules (M : Mem) (d j : Nat) (v : Nat → Int) : Prop := (∀ i : Nat, (i : Int) < gI M 533 j → (0 ≤ v (21 * j + i) ∧ v (21 * j + i) < gI M 533 j) ∧ (0 ≤ v (21 * j + (8 + (v (21 * j + i)).toNat)) ∧ v (21 * j + (8 + (v (21 * j + i)).toNat)) ≤ 3) ∧ gI M (gP M (d + 2) i) 0 = v (21 * j + (8 + (v (21 * j + i)).toNat)) ∧ MRule M (gP M (d + 2) i) (8 * j + (v (21 * j + i)).toNat)) ∧
  ∀ i i' : Nat, (i : Int) < gI M 533 j → (i' : Int) < gI M 533 j → v (21 * j + i) = v (21 * j + i') → i = i'
def MDom (M : Mem) (d j : Nat) (v : Nat → Int) : Prop := MName M d j ∧ MHost M d j v ∧ MRules M d j v
def MAll (M : Mem) (b : Nat) (v : Nat → Int) : Prop := gI M b 1 = gI M 530 2 ∧ (1 ≤ gI M 530 2 ∧ gI M 530 2 ≤ 12) ∧ (∀ j : Nat, (j : Int) + 1 < gI M 530 2 → gI M 532 j < gI M 532 (j + 1)) ∧ ∀ j : Nat, (j : Int) < gI M 530 2 → MDom M (gP M (b + 1) j) j v
def nowv (M : Mem) : Nat → Int := gI M 543
def wasv (M : Mem) (i : Nat) : Nat → Int := fun k => if k < 252 then gI M 544 (252 * i + k) else 0
/-- the references of a name, and of a Records, are its own, each once -/
def PDom (M : Mem) (d : Nat) : Prop := (∀ i, i < 8 → ∃ k, k < 8 ∧ gP M (d + 2) i = d + 5 + 2 * k) ∧ ∀ i i', i < 8 → i' < 8 → gP M (d + 2) i = gP M (d + 2) i' → i = i'
def PRec (M : Mem) (b : Nat) : Prop := (∀ i, i < 12 → ∃ q, q < 12 ∧ gP M (b + 1) i = b + 2 + 21 * q) ∧ (∀ i i', i < 12 → i' < 12 → gP M (b + 1) i = gP M (b + 1) i' → i = i') ∧ ∀ q, q < 12 → PDom M (b + 2 + 21 * q)
def PIn (M : Mem) : Prop := (∀ i i', i < 4 → i' < 4 → gP M 261 i = gP M 261 i' → i = i') ∧ ∀ i i', i < 4 → i' < 4 → gP M 271 i = gP M 271 i' → i = i'
def TextR (M : Mem) : Prop := gI M 1 1 = gI M 530 0 ∧ (0 ≤ gI M 530 0 ∧ gI M 530 0 ≤ 240) ∧ ∀ k : Nat, (k : Int) < gI M 530 0 → gI M 2 k = gI M 531 k ∧ 32 ≤ gI M 531 k ∧ gI M 531 k ≤ 126
def KeptR (M : Mem) : Prop := gI M 260 1 = gI M 530 34 ∧ (0 ≤ gI M 530 34 ∧ gI M 530 34 ≤ 4) ∧ ∀ i : Nat, (i : Int) < gI M 530 34 → ∀ j, j < 8 → gI M (gP M 261 i + 1) j = gI M 559 (8 * i + j)
/-- a change taken back, on the model's row -/
def undoV (kind : Int) (j p : Nat) (x : Int) (v : Nat → Int) : Nat → Int :=
  if kind = 0 then (fun k => if k = 21 * j + (8 + (v (21 * j + p)).toNat) then x else v k)
  else if kind = 1 then (fun k => if k = 21 * j + p then v (21 * j + (p + 1)) else if k = 21 * j + (p + 1) then v (21 * j + p) else v k)
  else if kind = 2 then (fun k => if k = 21 * j + 16 then v k - 1 else if 21 * j + 17 ≤ k ∧ k < 21 * j + 21 then delF (fun i => v (21 * j + (17 + i))) p (k - (21 * j + 17)) else v k)
  else (fun k => if k = 21 * j + 16 then v k + 1 else if 21 * j + 17 ≤ k ∧ k < 21 * j + 21 then insF (fun i => v (21 * j + (17 + i))) p x (k - (21 * j + 17)) else v k)
/-- two rows tell the same of the names -/
def VEq (M : Mem) (v w : Nat → Int) : Prop := ∀ j : Nat, (j : Int) < gI M 530 2 → (∀ i : Nat, (i : Int) < gI M 533 j → v (21 * j + i) = w (21 * j + i) ∧ v (21 * j + (8 + i)) = w (21 * j + (8 + i))) ∧ v (21 * j + 16) = w (21 * j + 16) ∧ ∀ k : Nat, (k : Int) < v (21 * j + 16) → v (21 * j + (17 + k)) = w (21 * j + (17 + k))
/-- a change that can be taken back from the row v -/
def ChOk (M : Mem) (c : Nat) (v : Nat → Int) : Prop := (0 ≤ gI M c 1 ∧ gI M c 1 < gI M 530 2) ∧ (0 ≤ gI M c 2) ∧ (0 ≤ gI M c 0 ∧ gI M c 0 ≤ 3) ∧
  (gI M c 0 = 0 → gI M c 2 < gI M 533 (gI M c 1).toNat ∧ 0 ≤ gI M c 3 ∧ gI M c 3 ≤ 3) ∧ (gI M c 0 = 1 → gI M c 2 + 1 < gI M 533 (gI M c 1).toNat) ∧
  (gI M c 0 = 2 → gI M c 2 < v (21 * (gI M c 1).toNat + 16)) ∧ (gI M c 0 = 3 → gI M c 2 ≤ v (21 * (gI M c 1).toNat + 16) ∧ v (21 * (gI M c 1).toNat + 16) < 4)
def undoC (M : Mem) (c : Nat) (v : Nat → Int) : Nat → Int := undoV (gI M c 0) (gI M c 1).toNat (gI M c 2).toNat (gI M c 3) v
/-- the row ahead of which the i-th change was made -/
def atv (M : Mem) (i : Nat) : Nat → Int := fun k => if k < 252 then (if (i : Int) < gI M 530 16 then gI M 544 (252 * i + k) else gI M 543 k) else 0
def HistR (M : Mem) : Prop := gI M 270 1 = gI M 530 16 ∧ (0 ≤ gI M 530 16 ∧ gI M 530 16 ≤ 4) ∧ ∀ i : Nat, (i : Int) < gI M 530 16 → ChOk M (gP M 271 i) (atv M (i + 1)) ∧ VEq M (undoC M (gP M 271 i) (atv M (i + 1))) (wasv M i)
def PresR (M : Mem) : Prop := (gP M 0 1 = 4 ∧ gP M 0 2 = 276) ∨ (gP M 0 1 = 276 ∧ gP M 0 2 = 4)
def Rel (M : Mem) : Prop := TextR M ∧ (PRec M 4 ∧ PRec M 276 ∧ PIn M) ∧ PresR M ∧ MAll M (gP M 0 1) (nowv M) ∧ KeptR M ∧ HistR M
theorem Rel.pres {M : Mem} (h : Rel M) : isRec (gP M 0 1) := by rcases h.2.2.1 with q | q <;> rw [q.1] <;> first | exact Or.inl rfl | exact Or.inr rfl
theorem Rel.spar {M : Mem} (h : Rel M) : isRec (gP M 0 2) := by rcases h.2.2.1 with q | q <;> rw [q.2] <;> first | exact Or.inl rfl | exact Or.inr rfl
theorem Rel.prec {M : Mem} (h : Rel M) {b : Nat} (hb : isRec b) : PRec M b := by rcases hb with rfl | rfl; exact h.2.1.1; exact h.2.1.2.1
theorem PRec.dom {M : Mem} {b j : Nat} (h : PRec M b) (hb : isRec b) (hj : j < 12) : isDom (gP M (b + 1) j) := by
  obtain ⟨q, hq, e⟩ := h.1 j hj
  exact ⟨b, q, hb, hq, e⟩
theorem PRec.pd {M : Mem} {b j : Nat} (h : PRec M b) (hj : j < 12) : PDom M (gP M (b + 1) j) := by
  obtain ⟨q, hq, e⟩ := h.1 j hj
  rw [e]
  exact h.2.2 q hq
theorem Rel.names {M : Mem} (h : Rel M) : 1 ≤ gI M 530 2 ∧ gI M 530 2 ≤ 12 := h.2.2.2.1.2.1
theorem Rel.size {M : Mem} (h : Rel M) : gI M (gP M 0 1) 1 = gI M 530 2 := h.2.2.2.1.1
theorem Rel.mdom {M : Mem} (h : Rel M) {j : Nat} (hj : (j : Int) < gI M 530 2) : MDom M (gP M (gP M 0 1 + 1) j) j (nowv M) := h.2.2.2.1.2.2.2 j hj
theorem Rel.dom {M : Mem} (h : Rel M) {j : Nat} (hj : (j : Int) < gI M 530 2) : isDom (gP M (gP M 0 1 + 1) j) := (h.prec h.pres).dom h.pres (by have := h.names; omega)
theorem Rel.keys {M : Mem} (h : Rel M) : ∀ j : Nat, (j : Int) < gI M 530 2 → kyF M (gP M 0 1) j = gI M 532 j := fun j hj => (h.mdom hj).1.1
theorem Rel.no {M : Mem} (h : Rel M) (v : Int) : noF (kyF M (gP M 0 1)) v (gI M (gP M 0 1) 1).toNat = noF (gI M 532) v (gI M 530 2).toNat := by
  rw [h.size]
  exact noF_congr (fun i hi => h.keys i (by omega))
theorem Rel.rcnt {M : Mem} (h : Rel M) {j : Nat} (hj : (j : Int) < gI M 530 2) : 0 ≤ gI M 533 j ∧ gI M 533 j ≤ 8 := (h.mdom hj).1.2.2.2.1
/-- a name that isn't known, a name's place -/
theorem Rel.kd {M : Mem} (_h : Rel M) (v : Int) : (v < 0 ∨ gI M 530 2 ≤ v) ∨ ∃ j : Nat, (j : Int) < gI M 530 2 ∧ v = j := by
  by_cases q : 0 ≤ v ∧ v < gI M 530 2
  · exact Or.inr ⟨v.toNat, by omega, by omega⟩
  · exact Or.inl (by omega)
section RO
variable {g : Ctx} {M : Mem}
/-- the class answers r in the memory M, then the model the same, and they agree again -/
def Ok2 (r : Int) (KM : (Int → Mem → Prop) → Prop) : Prop := KM (fun r' M2 => WT M2 → r = r' ∧ Rel M2)
theorem j_hostOf {p0 p1 : Int} (hR : Rel M) (h0 : InR p0) (h1 : InR p1) : K_Sr_hostOf g 33 p0 p1 M (fun r M1 => WT M1 → K_Mo_hostOf g p0 p1 M1 (fun r' M2 => WT M2 → r = r' ∧ Rel M2)) := by
  have hn := hR.names
  have hs := hR.size
  refine i_Sr_hostOf (b_Sr_hostOf_0 h0 h1 ⟨hR.pres, ?_⟩)
  rcases hR.kd p0 with hk | ⟨j, hj, rfl⟩
  · refine k_Rc_domainAt hR.pres h0 (by omega) (fun a b => by omega) (fun _ _ _ => bt rfl (fun _ => ?_))
    refine i_Mo_hostOf (b_Mo_hostOf_0 h0 h1 (k_Mo_isName h0 (by omega) (by omega) (fun a b => by omega) (fun _ _ _ => bz0 (fun _ => ⟨rfl, hR⟩))))
  · have hd := hR.dom hj
    have hm := (hR.mdom hj).2.1
    refine k_Rc_domainAt hR.pres h0 (by omega) (fun _ _ _ _ => ?_) (fun a => by omega)
    rw [Int.toNat_natCast]
    have e16 : ((21 * (j : Int)) + 16).toNat = 21 * j + 16 := by omega
    have em : ∀ Q : Int → Mem → Prop, ((p1 < 0 → Q (-1) M) ∧ (¬ p1 < 0 → (mnow M j 16 ≤ p1 → Q (-4) M) ∧ (¬ mnow M j 16 ≤ p1 → Q (mnow M j (17 + p1.toNat)) M))) → K_Mo_hostOf g (j : Int) p1 M Q := by
      intro Q h
      refine i_Mo_hostOf (b_Mo_hostOf_0 h0 h1 (k_Mo_isName h0 (by omega) (by omega) (fun _ _ _ _ => bz1 ⟨fun c => ⟨by omega, ?_⟩, fun c => h.1 (by omega)⟩) (fun a => by omega)))
      rw [e16]
      obtain ⟨ha, hb⟩ := h.2 (by omega)
      have hc := hm.2.1
      unfold nowv at hc
      refine ⟨ha, fun q => ⟨by omega, ?_⟩⟩
      have hq := hb q
      rw [show ((21 * (j : Int) + 17) + p1).toNat = 21 * j + (17 + p1.toNat) by omega]
      exact hq
    have h8 : gI M (gP M (gP M 0 1 + 1) j) 8 = mnow M j 16 := hm.1
    refine bf (nDom hd) ⟨fun c => ⟨fun q => fun _ => ?_, fun q => ⟨?_, fun _ => ?_⟩⟩, fun c => fun _ => ?_⟩
    · rw [h8] at q
      exact em _ ⟨fun z => by omega, fun _ => ⟨fun _ _ => ⟨rfl, hR⟩, fun z => absurd q z⟩⟩
    · have hc := hm.2.1
      rw [hm.1] at q
      omega
    · rw [h8] at q
      have hk := hm.2.2 p1.toNat (by show ((p1.toNat : Nat) : Int) < mnow M j 16; omega)
      exact em _ ⟨fun z => by omega, fun _ => ⟨fun z => absurd z q, fun _ _ => ⟨hk, hR⟩⟩⟩
    · exact em _ ⟨fun _ _ => ⟨rfl, hR⟩, fun z => by omega⟩
end RO
