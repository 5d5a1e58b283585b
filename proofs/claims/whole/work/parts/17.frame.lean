/-! ===== what each part of the relation looks at ===== -/
def dTx (a k : Nat) : Prop := (a = 1 ∧ k = 1) ∨ a = 2 ∨ (a = 530 ∧ k = 0) ∨ a = 531
def dRc (b a k : Nat) : Prop := (b ≤ a ∧ a < b + 254) ∨ (a = 530 ∧ k = 2) ∨ (532 ≤ a ∧ a ≤ 542)
def dKp (a k : Nat) : Prop := (a = 260 ∧ k = 1) ∨ (262 ≤ a ∧ a < 270) ∨ (a = 530 ∧ k = 34) ∨ a = 559
def dHs (a k : Nat) : Prop := (a = 270 ∧ k = 1) ∨ (272 ≤ a ∧ a < 276) ∨ (a = 530 ∧ (k = 16 ∨ k = 2)) ∨ a = 533 ∨ a = 543 ∨ a = 544
def AgI (S : Nat → Nat → Prop) (M M' : Mem) : Prop := ∀ a k, S a k → gI M' a k = gI M a k
def AgP (T : Nat → Prop) (M M' : Mem) : Prop := ∀ a k, T a → gP M' a k = gP M a k
theorem AgI.mono {S S' : Nat → Nat → Prop} {M M' : Mem} (h : AgI S M M') (hs : ∀ a k, S' a k → S a k) : AgI S' M M' := fun a k q => h a k (hs a k q)
theorem FrI.ag {S S' : Nat → Nat → Prop} {M M' : Mem} (h : FrI S M M') (hs : ∀ a k, S' a k → ¬ S a k) : AgI S' M M' := fun a k q => h.2 a k (hs a k q)
theorem FrI.agp {S : Nat → Nat → Prop} {T : Nat → Prop} {M M' : Mem} (h : FrI S M M') : AgP T M M' := fun a k _ => h.p a k
theorem isDom.blk {b j : Nat} {M : Mem} (hP : PRec M b) (hj : j < 12) : ∃ q, q < 12 ∧ gP M (b + 1) j = b + 2 + 21 * q := hP.1 j hj
theorem TextR.fr {M M' : Mem} (h : TextR M) (A : AgI dTx M M') : TextR M' := by
  have e1 : gI M' 1 1 = gI M 1 1 := A _ _ (Or.inl ⟨rfl, rfl⟩)
  have e2 : ∀ k, gI M' 2 k = gI M 2 k := fun k => A _ _ (Or.inr (Or.inl rfl))
  have e3 : gI M' 530 0 = gI M 530 0 := A _ _ (Or.inr (Or.inr (Or.inl ⟨rfl, rfl⟩)))
  have e4 : ∀ k, gI M' 531 k = gI M 531 k := fun k => A _ _ (Or.inr (Or.inr (Or.inr rfl)))
  unfold TextR at *
  simp only [e1, e2, e3, e4]
  exact h
theorem MRule.fr {M M' : Mem} {r a : Nat} (h : MRule M r a) (e0 : ∀ k, k ≠ 0 → gI M' r k = gI M r k) (e1 : ∀ k, gI M' (r + 1) k = gI M (r + 1) k) (A : ∀ x k, 537 ≤ x → x ≤ 542 → gI M' x k = gI M x k) : MRule M' r a := by
  have a7 := fun k => A 537 k (by decide) (by decide)
  have a8 := fun k => A 538 k (by decide) (by decide)
  have a9 := fun k => A 539 k (by decide) (by decide)
  have a0 := fun k => A 540 k (by decide) (by decide)
  have a1 := fun k => A 541 k (by decide) (by decide)
  have a2 := fun k => A 542 k (by decide) (by decide)
  unfold MRule at *
  simp only [e0 1 (by decide), e0 2 (by decide), e0 3 (by decide), e0 4 (by decide), e0 6 (by decide), e1, a7, a8, a9, a0, a1, a2]
  exact h
theorem MName.fr {M M' : Mem} {d j : Nat} (h : MName M d j) (e0 : ∀ k, k ≠ 8 → gI M' d k = gI M d k) (e1 : ∀ k, gI M' (d + 1) k = gI M (d + 1) k) (e4 : ∀ k, gI M' (d + 4) k = gI M (d + 4) k) (A : ∀ x k, 532 ≤ x → x ≤ 536 → gI M' x k = gI M x k) : MName M' d j := by
  have a2 := fun k => A 532 k (by decide) (by decide)
  have a3 := fun k => A 533 k (by decide) (by decide)
  have a4 := fun k => A 534 k (by decide) (by decide)
  have a5 := fun k => A 535 k (by decide) (by decide)
  have a6 := fun k => A 536 k (by decide) (by decide)
  unfold MName at *
  simp only [e0 0 (by decide), e0 2 (by decide), e0 5 (by decide), e0 3 (by decide), e0 6 (by decide), e0 10 (by decide), e1, e4, a2, a3, a4, a5, a6]
  exact h
theorem MHost.fr {M M' : Mem} {d j : Nat} {v : Nat → Int} (h : MHost M d j v) (e0 : gI M' d 8 = gI M d 8) (e3 : ∀ k, gI M' (d + 3) k = gI M (d + 3) k) : MHost M' d j v := by
  unfold MHost at *
  simp only [e0, e3]
  exact h
theorem MRules.fr {M M' : Mem} {d j : Nat} {v : Nat → Int} (h : MRules M d j v) (e3 : gI M' 533 j = gI M 533 j) (eR : ∀ i : Nat, (i : Int) < gI M 533 j → gP M' (d + 2) i = gP M (d + 2) i ∧ gI M' (gP M (d + 2) i) 0 = gI M (gP M (d + 2) i) 0 ∧ ∀ a, MRule M (gP M (d + 2) i) a → MRule M' (gP M (d + 2) i) a) : MRules M' d j v := by
  refine ⟨fun i hi => ?_, fun i i' hi hi' => ?_⟩
  · rw [e3] at hi ⊢
    obtain ⟨p1, p2, p3⟩ := eR i hi
    obtain ⟨q1, q2, q3, q4⟩ := h.1 i hi
    rw [p1, p2]
    exact ⟨q1, q2, q3, p3 _ q4⟩
  · rw [e3] at hi hi'
    exact h.2 i i' hi hi'
theorem PDom.rul {M : Mem} {d i : Nat} (h : PDom M d) (hi : i < 8) : ∃ k, k < 8 ∧ gP M (d + 2) i = d + 5 + 2 * k := h.1 i hi
/-- a whole Records, looked at from outside -/
theorem MAll.fr {M M' : Mem} {b : Nat} {v : Nat → Int} (hP : PRec M b) (h : MAll M b v) (A : AgI (dRc b) M M') (B : AgP (fun a => b ≤ a ∧ a < b + 254) M M') : MAll M' b v := by
  obtain ⟨h1, h2, h3, h4⟩ := h
  have n2 : gI M' 530 2 = gI M 530 2 := A _ _ (Or.inr (Or.inl ⟨rfl, rfl⟩))
  have m2 : ∀ x k, 532 ≤ x → x ≤ 542 → gI M' x k = gI M x k := fun x k p q => A _ _ (Or.inr (Or.inr ⟨p, q⟩))
  refine ⟨by rw [n2, A b 1 (Or.inl ⟨by omega, by omega⟩)]; exact h1, by rw [n2]; exact h2, fun j hj => ?_, fun j hj => ?_⟩
  · rw [n2] at hj
    rw [m2 532 _ (by decide) (by decide), m2 532 _ (by decide) (by decide)]
    exact h3 j hj
  · rw [n2] at hj
    have hj12 : j < 12 := by omega
    obtain ⟨q, hq, eq⟩ := hP.1 j hj12
    have hpd := hP.pd hj12
    obtain ⟨g1, g2, g3⟩ := h4 j hj
    rw [B (b + 1) j ⟨by omega, by omega⟩]
    have inb : ∀ c k, c < 21 → gI M' (gP M (b + 1) j + c) k = gI M (gP M (b + 1) j + c) k := fun c k hc => A _ _ (Or.inl (by rw [eq]; omega))
    have hr8 : gI M 533 j ≤ 8 := g1.2.2.2.1.2
    refine ⟨g1.fr (fun k _ => inb 0 k (by decide)) (fun k => inb 1 k (by decide)) (fun k => inb 4 k (by decide)) (fun x k p q => m2 x k p (by omega)), g2.fr (inb 0 8 (by decide)) (fun k => inb 3 k (by decide)), g3.fr (m2 533 _ (by decide) (by decide)) (fun i hi => ?_)⟩
    obtain ⟨k, hk, ek⟩ := hpd.1 i (by omega)
    have ir : ∀ c z, c < 2 → gI M' (gP M (gP M (b + 1) j + 2) i + c) z = gI M (gP M (gP M (b + 1) j + 2) i + c) z := fun c z hc => by
      rw [ek, show gP M (b + 1) j + 5 + 2 * k + c = gP M (b + 1) j + (5 + 2 * k + c) by omega]
      exact inb _ _ (by omega)
    exact ⟨B _ _ (by rw [eq]; omega), ir 0 0 (by decide), fun a ha => ha.fr (fun z _ => ir 0 z (by decide)) (fun z => ir 1 z (by decide)) (fun x z p q => m2 x z (by omega) q)⟩
theorem PDom.fr {M M' : Mem} {d : Nat} (h : PDom M d) (e : ∀ i, gP M' (d + 2) i = gP M (d + 2) i) : PDom M' d := by
  unfold PDom at *
  simp only [e]
  exact h
theorem PRec.fr {M M' : Mem} {b : Nat} (h : PRec M b) (B : AgP (fun a => b ≤ a ∧ a < b + 254) M M') : PRec M' b := by
  have e := fun i => B (b + 1) i ⟨by omega, by omega⟩
  refine ⟨fun i hi => by rw [e]; exact h.1 i hi, fun i i' hi hi' => by rw [e, e]; exact h.2.1 i i' hi hi', fun q hq => (h.2.2 q hq).fr (fun i => B _ i ⟨by omega, by omega⟩)⟩
theorem PIn.fr {M M' : Mem} (h : PIn M) (B : AgP (fun a => a = 261 ∨ a = 271) M M') : PIn M' := by
  have e1 := fun i => B 261 i (Or.inl rfl)
  have e2 := fun i => B 271 i (Or.inr rfl)
  unfold PIn at *
  simp only [e1, e2]
  exact h
theorem KeptR.fr {M M' : Mem} (h : KeptR M) (hw : WT M) (A : AgI dKp M M') (B : AgP (fun a => a = 261) M M') : KeptR M' := by
  obtain ⟨h1, h2, h3⟩ := h
  have e4 : gI M' 530 34 = gI M 530 34 := A _ _ (Or.inr (Or.inr (Or.inl ⟨rfl, rfl⟩)))
  refine ⟨by rw [e4, A 260 1 (Or.inl ⟨rfl, rfl⟩)]; exact h1, by rw [e4]; exact h2, fun i hi j hj => ?_⟩
  rw [e4] at hi
  obtain ⟨q, hq, eq⟩ := hw.kc (k := i) (by omega)
  rw [B 261 i rfl, A 559 _ (Or.inr (Or.inr (Or.inr rfl))), A (gP M 261 i + 1) j (Or.inr (Or.inl (by omega)))]
  exact h3 i hi j hj
theorem VEq.fr {M M' : Mem} {v w : Nat → Int} (h : VEq M v w) (e2 : gI M' 530 2 = gI M 530 2) (e3 : ∀ k, gI M' 533 k = gI M 533 k) : VEq M' v w := by
  unfold VEq at *
  simp only [e2, e3]
  exact h
theorem HistR.fr {M M' : Mem} (h : HistR M) (hw : WT M) (A : AgI dHs M M') (B : AgP (fun a => a = 271) M M') : HistR M' := by
  obtain ⟨h1, h2, h3⟩ := h
  have e6 : gI M' 530 16 = gI M 530 16 := A _ _ (Or.inr (Or.inr (Or.inl ⟨rfl, Or.inl rfl⟩)))
  have e2 : gI M' 530 2 = gI M 530 2 := A _ _ (Or.inr (Or.inr (Or.inl ⟨rfl, Or.inr rfl⟩)))
  have e3 : ∀ k, gI M' 533 k = gI M 533 k := fun k => A _ _ (Or.inr (Or.inr (Or.inr (Or.inl rfl))))
  have en : ∀ k, gI M' 543 k = gI M 543 k := fun k => A _ _ (Or.inr (Or.inr (Or.inr (Or.inr (Or.inl rfl)))))
  have e4 : ∀ k, gI M' 544 k = gI M 544 k := fun k => A _ _ (Or.inr (Or.inr (Or.inr (Or.inr (Or.inr rfl)))))
  have ew : ∀ i, wasv M' i = wasv M i := fun i => by unfold wasv; simp only [e4]
  have ea : ∀ i, atv M' i = atv M i := fun i => by unfold atv; simp only [e6, e4, en]
  refine ⟨by rw [e6, A 270 1 (Or.inl ⟨rfl, rfl⟩)]; exact h1, by rw [e6]; exact h2, fun i hi => ?_⟩
  rw [e6] at hi
  obtain ⟨q, hq, eq⟩ := hw.ch (k := i) (by omega)
  have ec : ∀ k, gI M' (gP M 271 i) k = gI M (gP M 271 i) k := fun k => A _ _ (Or.inr (Or.inl (by omega)))
  obtain ⟨g1, g2⟩ := h3 i hi
  rw [B 271 i rfl, ea, ew]
  refine ⟨?_, ?_⟩
  · unfold ChOk at *
    simp only [ec, e2, e3]
    exact g1
  · have e9 : undoC M' (gP M 271 i) (atv M (i + 1)) = undoC M (gP M 271 i) (atv M (i + 1)) := by unfold undoC; simp only [ec]
    rw [e9]
    exact g2.fr e2 e3
theorem PresR.fr {M M' : Mem} (h : PresR M) (B : AgP (fun a => a = 0) M M') : PresR M' := by
  have e := fun i => B 0 i rfl
  unfold PresR at *
  simp only [e]
  exact h
/-- all but the text -/
def RestR (M : Mem) : Prop := (PRec M 4 ∧ PRec M 276 ∧ PIn M) ∧ PresR M ∧ MAll M (gP M 0 1) (nowv M) ∧ KeptR M ∧ HistR M
def dAll (a k : Nat) : Prop := (4 ≤ a ∧ a < 258) ∨ (276 ≤ a ∧ a < 530) ∨ dKp a k ∨ dHs a k ∨ (a = 530 ∧ k = 2) ∨ (532 ≤ a ∧ a ≤ 542)
def dPtr (a : Nat) : Prop := a ≠ 258
theorem RestR.fr {M M' : Mem} (h : RestR M) (hw : WT M) (A : AgI dAll M M') (B : AgP dPtr M M') : RestR M' := by
  obtain ⟨⟨p1, p2, p3⟩, h2, h3, h4, h5⟩ := h
  have e0 := B 0 1 (by unfold dPtr; decide)
  have en : nowv M' = nowv M := by funext k; exact A _ _ (Or.inr (Or.inr (Or.inr (Or.inl (Or.inr (Or.inr (Or.inr (Or.inr (Or.inl rfl)))))))))
  refine ⟨⟨p1.fr (fun a k q => B a k (by unfold dPtr; omega)), p2.fr (fun a k q => B a k (by unfold dPtr; omega)), p3.fr (fun a k q => B a k (by unfold dPtr; omega))⟩, h2.fr (fun a k q => B a k (by unfold dPtr; omega)), ?_, h4.fr hw (fun a k q => A a k (Or.inr (Or.inr (Or.inl q)))) (fun a k q => B a k (by unfold dPtr; omega)), h5.fr hw (fun a k q => A a k (Or.inr (Or.inr (Or.inr (Or.inl q))))) (fun a k q => B a k (by unfold dPtr; omega))⟩
  rw [e0, en]
  rcases h2 with q | q
  · rw [q.1] at h3 ⊢
    exact h3.fr p1 (fun a k z => A a k (by unfold dRc at z; unfold dAll; omega)) (fun a k z => B a k (by unfold dPtr; omega))
  · rw [q.1] at h3 ⊢
    exact h3.fr p2 (fun a k z => A a k (by unfold dRc at z; unfold dAll; omega)) (fun a k z => B a k (by unfold dPtr; omega))
theorem Rel.fr {M M' : Mem} (h : Rel M) (hw : WT M) (A : AgI (fun a k => dTx a k ∨ dAll a k) M M') (B : AgP dPtr M M') : Rel M' := ⟨h.1.fr (fun a k q => A a k (Or.inl q)), RestR.fr h.2 hw (fun a k q => A a k (Or.inr q)) B⟩
section WW
variable {g : Ctx} {M : Mem}
theorem j_wipe (hR : Rel M) : K_Sr_wipe g 33 M (fun r M1 => WT M1 → K_Mo_wipe g M1 (fun r' M2 => WT M2 → r = r' ∧ Rel M2)) := by
  refine i_Sr_wipe (w_wt (fun hw => b_Sr_wipe_0 (i_Rd_empty (b_Rd_empty_0 (fun _ _ => i_Mo_wipe (b_Mo_wipe_0 (fun _ => ⟨?_, ?_⟩)))))))
  · rw [gI_ne _ _ _ _ _ _ (by decide)]
    exact hR.1.1
  · refine ⟨⟨?_, ?_, fun k hk => ?_⟩, RestR.fr hR.2 hw (fun a k q => ?_) (fun a k _ => rfl)⟩
    · rw [gI_ne _ _ _ _ _ _ (by decide), gI_same, gI_same]
    · rw [gI_same]; decide
    · rw [gI_same] at hk; omega
    · rw [gI_ne _ _ _ _ _ _ (by unfold dAll dKp dHs at q; omega), gI_ne _ _ _ _ _ _ (by unfold dAll dKp dHs at q; omega)]
theorem j_write {p0 : Int} (hR : Rel M) (h0 : InR p0) : K_Sr_write g 33 p0 M (fun r M1 => WT M1 → K_Mo_write g p0 M1 (fun r' M2 => WT M2 → r = r' ∧ Rel M2)) := by
  obtain ⟨t1, t2, t3⟩ := hR.1
  refine i_Sr_write (w_wt (fun hw => b_Sr_write_0 h0 ⟨fun c _ => i_Mo_write (b_Mo_write_0 h0 (bt c (fun _ => ⟨rfl, hR⟩))), fun c => ⟨fun d => ⟨by omega, ?_⟩, fun d _ => i_Mo_write (b_Mo_write_0 h0 (bf c (bf d (fun _ => ⟨rfl, hR⟩))))⟩⟩))
  refine i_Rd_append (b_Rd_append_0 (by omega) ⟨fun e => ⟨by omega, by omega, fun _ _ => bz1 (fun _ => ?_)⟩, fun e _ _ => bz0 (fun _ => i_Mo_write (b_Mo_write_0 h0 (bf c (bt d (bnf (by omega) (fun _ => ⟨rfl, hR⟩))))))⟩)
  obtain ⟨L, hL⟩ := Int.eq_ofNat_of_zero_le t2.1
  have e0 : ∀ x y z w, gI (sI (sI M 2 x y) 1 1 z) 530 w = gI M 530 w := fun x y z w => by rw [gI_ne _ _ _ _ _ _ (by omega), gI_ne _ _ _ _ _ _ (by omega)]
  refine i_Mo_write (b_Mo_write_0 h0 (bf c (bt d (bnt (by rw [e0]; omega) ⟨by rw [e0]; omega, by rw [e0]; omega, fun _ => ?_⟩))))
  rw [e0, t1, hL, Int.toNat_natCast, gI_same]
  refine ⟨rfl, ⟨?_, ?_, fun k hk => ?_⟩, RestR.fr hR.2 hw (fun a k q => ?_) (fun a k _ => rfl)⟩
  · rw [gI_ne _ _ _ _ _ _ (by decide), gI_ne _ _ _ _ _ _ (by omega), gI_same, gI_same]
  · rw [gI_same]; omega
  · rw [gI_same] at hk
    rw [gI_ne _ _ _ _ 2 _ (by omega), gI_ne _ _ _ _ 2 _ (by omega), gI_ne _ _ _ _ 2 _ (by omega), gI_ne _ _ _ _ 531 _ (by omega)]
    by_cases q : k = L
    · subst q
      rw [gI_same, gI_same]
      omega
    · rw [gI_ne _ _ _ _ 2 _ (by omega), gI_ne _ _ _ _ 531 _ (by omega), gI_ne _ _ _ _ 531 _ (by omega), gI_ne _ _ _ _ 531 _ (by omega)]
      exact t3 k (by omega)
  · unfold dAll dKp dHs at q
    rw [gI_ne _ _ _ _ _ _ (by omega), gI_ne _ _ _ _ _ _ (by omega), gI_ne _ _ _ _ _ _ (by omega), gI_ne _ _ _ _ _ _ (by omega)]
end WW
