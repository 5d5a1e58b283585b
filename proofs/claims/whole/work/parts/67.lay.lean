/-! ===== lay: the model's rows in their order, and the relation again ===== -/
def mTs (a k : Nat) : Prop := 532 ≤ a ∧ a ≤ 543
theorem mTk_Ts {M M' : Mem} {n : Nat} (h : FrI (mTk n) M M') : FrI mTs M M' := h.mono (fun a k q => by unfold mTk at q; unfold mTs; omega)
theorem TakM.fr {M M1 M2 : Mem} {s n n' : Nat} (h : TakM M M1 s n) (hF : FrI (mTk n') M1 M2) (hne : n ≠ n') : TakM M M2 s n := by
  obtain ⟨⟨a1, a2, a3, a4⟩, hB, ⟨c1, c2⟩, hD⟩ := h
  refine ⟨⟨by rw [hF.i (by unfold mTk; omega)]; exact a1, by rw [hF.i (by unfold mTk; omega)]; exact a2, by rw [hF.i (by unfold mTk; omega)]; exact a3, by rw [hF.i (by unfold mTk; omega)]; exact a4⟩, fun k hk => by rw [hF.i (by unfold mTk; omega)]; exact hB k hk, ⟨by rw [hF.i (by unfold mTk; omega)]; exact c1, fun k hk => by rw [hF.i (by unfold mTk; omega)]; exact c2 k hk⟩, fun k hk => ⟨(hD k hk).1.fr (fun a ha => hF.i (by unfold mTk; omega)) (hF.i (by unfold mTk; omega)) (hF.i (by unfold mTk; omega)), fun p hp => by rw [hF.i (by unfold mTk; omega)]; exact (hD k hk).2 p hp⟩⟩
theorem okC_rng {c : Int} (h : okC c) : 0 < c ∧ c < 410338673 := by
  obtain ⟨n, hv⟩ := h
  have := vcode_pos hv
  have := hv.1
  have := hv.2.1
  omega
theorem at_some {α : Type} {l : List α} {i : Nat} (h : i < l.length) : ∃ x, l[i]? = some x := ⟨l[i], List.getElem?_eq_getElem h⟩
/-- a name of the class and the model's row of it -/
theorem dom_of {M M' : Mem} {d s n : Nat} {c : Int} {R : ReP} (hD : DomC M' d c R) (hRo : RowM M s R) (hk : gI M 545 s = c) (ok : okRe R) (hT : TakM M M' s n) : MDom M' d n (nowv M') := by
  obtain ⟨d0, ⟨nn, hv, d2, d1⟩, ⟨p3, p5, p6, pr⟩, ⟨q8, qh⟩, ⟨r10, rx⟩⟩ := hD
  obtain ⟨⟨m6, m7, mr⟩, ⟨m57, mh⟩, ⟨m8, mx⟩⟩ := hRo
  obtain ⟨⟨a1, a2, a3, a4⟩, hB, ⟨c1, c2⟩, hDd⟩ := hT
  obtain ⟨⟨o1, o2⟩, o3, o4, o5, o6⟩ := ok
  rw [hk] at a1
  rw [m6] at a2
  rw [m7] at a3
  rw [m8] at a4
  refine ⟨⟨by rw [d0, a1], ⟨nn, by rw [a1]; exact hv, d2, fun k hk7 => by rw [a1]; exact d1 k hk7⟩, by rw [p5, a2], by rw [a2]; omega, ?_, by rw [p6, a3], ?_, by rw [r10, a4], by rw [a4]; omega, fun k hk4 => ?_⟩, ⟨?_, ?_, fun k hk8 => ?_⟩, fun i hi => ?_, fun i i' hi hi' he => ?_⟩
  · rw [p3, a2]
    by_cases z : R.1.length = 0
    · rw [if_pos z, if_pos (by omega)]
    · rw [if_neg z, if_neg (by omega)]
  · rw [a3]
    rcases o3 with z | z
    · rw [z]; omega
    · have := okC_rng z; omega
  · rw [a4] at hk4
    obtain ⟨x, hx⟩ := at_some (l := R.2.2.2) (i := k) (by omega)
    have hb : gI M' 536 (3 * n + k) = x := by rw [hB k (by omega)]; exact mx k x hx
    have := okC_rng (o6 x (List.mem_of_getElem? hx))
    rw [rx k x hx, hb]
    exact ⟨rfl, by omega, by omega⟩
  · show gI M' d 8 = gI M' 543 (21 * n + 16)
    rw [q8, c1, m57]
  · show 0 ≤ gI M' 543 (21 * n + 16) ∧ gI M' 543 (21 * n + 16) ≤ 4
    rw [c1, m57]; omega
  · have hk8' : (k : Int) < gI M' 543 (21 * n + 16) := hk8
    rw [c1, m57] at hk8'
    obtain ⟨x, hx⟩ := at_some (l := R.2.2.1) (i := k) (by omega)
    show gI M' (d + 3) k = gI M' 543 (21 * n + (17 + k))
    rw [qh k x hx, c2 k (by omega), mh k x hx]
  · rw [a2] at hi
    have hi' : i < R.1.length := by omega
    obtain ⟨X, hX⟩ := at_some (l := R.1) (i := i) hi'
    obtain ⟨⟨e1, e2, e3, e4, e5, e6, e7⟩, e8⟩ := hDd i (by omega)
    obtain ⟨u0, u1, u2, u3, u4⟩ := mr i X hX
    obtain ⟨w0, w1, w2, w3, w4, w5⟩ := pr i X hX
    obtain ⟨x0, x1, x2, x3, x4⟩ := o2 X (List.mem_of_getElem? hX)
    have ev : nowv M' (21 * n + i) = (i : Nat) := e6
    rw [ev, Int.toNat_natCast]
    have es : nowv M' (21 * n + (8 + i)) = X.1 := by show gI M' 543 (21 * n + (8 + i)) = X.1; rw [e7, u0]
    rw [es]
    refine ⟨by rw [a2]; omega, by omega, w0, ?_⟩
    rw [u1] at e1
    refine ⟨by rw [w1, e1], by rw [e1]; omega, fun z => ?_, fun z z2 => ?_, fun z => ?_, fun z => ?_⟩
    · rw [e1] at z
      obtain ⟨v1, v2⟩ := u2 z
      obtain ⟨v3, v4⟩ := w2 z
      have := x2 z
      rw [e2, e3, v1, v2, v3, v4]
      exact ⟨rfl, rfl, by omega, by omega⟩
    · rw [e1] at z z2
      have := okC_rng (x3 z z2)
      rw [e4, u3 z z2, w3 z z2]
      exact ⟨rfl, by omega, by omega⟩
    · rw [e1] at z; exact w4 z
    · rw [e1] at z
      obtain ⟨v1, v2⟩ := u4 z
      obtain ⟨v3, v4⟩ := w5 z
      have := x4 z
      rw [e5, v1, v3]
      refine ⟨rfl, by omega, fun p hp => ?_⟩
      obtain ⟨y, hy⟩ := at_some (l := X.2.2.2.2.2) (i := p) (by omega)
      rw [e8 p (by omega), v2 p y hy]
      exact v4 p y hy
  · rw [a2] at hi hi'
    have e1 : nowv M' (21 * n + i) = (i : Nat) := (hDd i (by omega)).1.2.2.2.2.2.1
    have e2 : nowv M' (21 * n + i') = (i' : Nat) := (hDd i' (by omega)).1.2.2.2.2.2.1
    rw [e1, e2] at he
    omega
section LY
variable {g : Ctx} {M : Mem}
theorem cky_lt {b : Nat} {ks : List Int} {P : Int → ReP} (h : CRec M b ks P) : ∀ (w a : Nat), a + w + 1 < ks.length → kyF M b a < kyF M b (a + w + 1) := by
  intro w
  induction w with
  | zero => intro a ha; exact h.2.2.2.1 a ha
  | succ w ih => intro a ha; exact Int.lt_trans (ih a (by omega)) (h.2.2.2.1 (a + w + 1) (by omega))
theorem mo_sort {Q : Int → Mem → Prop} {b : Nat} {ks : List Int} {P : Int → ReP} (hC : CRec M b ks P) (hR : MRec M ks P) (h2 : gI M 530 2 = (ks.length : Nat)) (q : ∀ M' : Mem, FrI mTs M M' → (∀ j, j < ks.length → ∃ s, s < ks.length ∧ gI M 545 s = kyF M b j ∧ TakM M M' s j) → Q (ks.length : Nat) (sI (sI M' 530 16 0) 530 34 0)) : P_Mo_lay g 68 [(0, vr g 530), (2, vi 0), (3, vi 0)] [] M Q := by
  have h12 := hR.2.1
  have keyof : ∀ i, i < ks.length → ∃ m, m < ks.length ∧ kyF M b m = gI M 545 i := fun i hi => by
    obtain ⟨x, hx⟩ := at_some hi
    rw [(hR.2.2.2 i x hx).1]
    exact hC.2.2.2.2.2.1 x (List.mem_of_getElem? hx)
  have slot : ∀ m, m < ks.length → ∃ i, i < ks.length ∧ gI M 545 i = kyF M b m := fun m hm => by
    obtain ⟨i, hi⟩ := mem_at (hC.2.2.2.2.1 m hm)
    exact ⟨i, at_lt hi, (hR.2.2.2 i _ hi).1⟩
  have kpos : ∀ i, i < ks.length → 0 < gI M 545 i ∧ InR (gI M 545 i) := fun i hi => by
    obtain ⟨x, hx⟩ := at_some hi
    rw [(hR.2.2.2 i x hx).1]
    have := okC_rng (hR.2.2.2 i x hx).2.1
    omega
  have ord : ∀ m m', m < m' → m' < ks.length → kyF M b m < kyF M b m' := fun m m' h1 h2 => by
    have := cky_lt hC (m' - m - 1) m (by omega)
    rw [show m + (m' - m - 1) + 1 = m' by omega] at this
    exact this
  have loop : ∀ (w n : Nat) (M1 : Mem) (la : Int), n + w = ks.length → FrI mTs M M1 → (∀ j, j < n → ∃ s, s < ks.length ∧ gI M 545 s = kyF M b j ∧ TakM M M1 s j) → InR la → ((n = 0 ∧ la = 0) ∨ (0 < n ∧ la = kyF M b (n - 1))) → P_Mo_lay g 68 [(0, vr g 530), (2, vi la), (3, vi (n : Int))] [] M1 Q := by
    intro w
    induction w with
    | zero =>
      intro n M1 la hn hF ht hla hl
      have hn' : n = ks.length := by omega
      subst hn'
      have e2 : gI M1 530 2 = (ks.length : Nat) := by rw [hF.i (by unfold mTs; omega)]; exact h2
      refine b_Mo_lay_68 hla (by omega) (bt (by omega) ?_)
      rw [e2]
      exact q M1 hF ht
    | succ w ih =>
      intro n M1 la hn hF ht hla hl
      have e2 : gI M1 530 2 = (ks.length : Nat) := by rw [hF.i (by unfold mTs; omega)]; exact h2
      have e45 : ∀ i, gI M1 545 i = gI M 545 i := fun i => hF.i (by unfold mTs; omega)
      have lalt : la < kyF M b n := by
        rcases hl with ⟨z1, z2⟩ | ⟨z1, z2⟩
        · obtain ⟨i, hi, ei⟩ := slot n (by omega)
          have := kpos i hi
          omega
        · have := ord (n - 1) n (by omega) (by omega)
          omega
      have lage : ∀ m, m < ks.length → la < kyF M b m → kyF M b n ≤ kyF M b m := fun m hm hlt => by
        by_cases z : n ≤ m
        · by_cases z2 : n = m
          · rw [z2]; omega
          · have := ord n m (by omega) hm; omega
        · rcases hl with ⟨z1, z2⟩ | ⟨z1, z2⟩
          · omega
          · exfalso
            by_cases z3 : m = n - 1
            · rw [z3] at hlt; omega
            · have := ord m (n - 1) (by omega) (by omega); omega
      have sel : ∀ (v k : Nat) (x4 : Int), k + v = ks.length → ((x4 = -4 ∧ ∀ i, i < k → gI M 545 i ≤ la) ∨ ∃ s : Nat, x4 = s ∧ s < k ∧ la < gI M 545 s ∧ ∀ i, i < k → la < gI M 545 i → gI M 545 s ≤ gI M 545 i) → P_Mo_lay g 83 [(0, vr g 530), (2, vi la), (3, vi (n : Int)), (4, vi x4), (5, vi (k : Int))] [] M1 Q := by
        intro v
        induction v with
        | zero =>
          intro k x4 hk hx
          obtain ⟨i0, hi0, ei0⟩ := slot n (by omega)
          rcases hx with ⟨_, hx⟩ | ⟨s, rfl, hsk, hs1, hs2⟩
          · have := hx i0 (by omega); omega
          · have hsn : gI M 545 s = kyF M b n := by
              obtain ⟨m, hm, em⟩ := keyof s (by omega)
              have a1 := hs2 i0 (by omega) (by omega)
              have a2 := lage m hm (by omega)
              omega
            refine b_Mo_lay_83 hla (by omega) (by omega) (by omega) (bt (by omega) ?_)
            refine k_Mo_takes (by omega) (by omega) (fun M2 hF2 hT2 _ => ⟨by omega, ?_⟩)
            rw [Int.toNat_natCast]
            have hF2' := hF.tr (mTk_Ts hF2)
            have e45' : gI M2 545 s = gI M 545 s := hF2'.i (by unfold mTs; omega)
            rw [e45', show ((n : Int) + 1) = ((n + 1 : Nat) : Int) by omega]
            have hT2' : TakM M M2 s n := by
              obtain ⟨⟨a1, a2, a3, a4⟩, hB, ⟨c1, c2⟩, hD⟩ := hT2
              refine ⟨⟨by rw [a1, e45], ?_, ?_, ?_⟩, fun k hk => ?_, ⟨?_, fun k hk => ?_⟩, fun k hk => ⟨?_, fun p hp => ?_⟩⟩
              · rw [a2]; exact hF.i (by unfold mTs; omega)
              · rw [a3]; exact hF.i (by unfold mTs; omega)
              · rw [a4]; exact hF.i (by unfold mTs; omega)
              · rw [hB k hk]; exact hF.i (by unfold mTs; omega)
              · rw [c1]; exact hF.i (by unfold mTs; omega)
              · rw [c2 k hk]; exact hF.i (by unfold mTs; omega)
              · obtain ⟨f1, f2, f3, f4, f5, f6, f7⟩ := (hD k hk).1
                exact ⟨by rw [f1]; exact hF.i (by unfold mTs; omega), by rw [f2]; exact hF.i (by unfold mTs; omega), by rw [f3]; exact hF.i (by unfold mTs; omega), by rw [f4]; exact hF.i (by unfold mTs; omega), by rw [f5]; exact hF.i (by unfold mTs; omega), f6, by rw [f7]; exact hF.i (by unfold mTs; omega)⟩
              · rw [(hD k hk).2 p hp]; exact hF.i (by unfold mTs; omega)
            refine ih (n + 1) M2 _ (by omega) hF2' (fun j hj => ?_) (kpos s (by omega)).2 (Or.inr ⟨by omega, by rw [Nat.add_sub_cancel]; exact hsn⟩)
            by_cases z : j = n
            · subst z; exact ⟨s, by omega, hsn, hT2'⟩
            · obtain ⟨s', h1', h2', h3'⟩ := ht j (by omega)
              exact ⟨s', h1', h2', h3'.fr hF2 z⟩
        | succ v ihv =>
          intro k x4 hk hx
          have kp := kpos k (by omega)
          refine b_Mo_lay_83 hla (by omega) (by rcases hx with ⟨z, _⟩ | ⟨s, z, _⟩ <;> omega) (by omega) (bf (by omega) ⟨by omega, ?_⟩)
          rw [Int.toNat_natCast, e45, show ((k : Int) + 1) = ((k + 1 : Nat) : Int) by omega]
          refine ⟨fun c => ihv (k + 1) x4 (by omega) ?_, fun c => ⟨fun c2 => ihv (k + 1) k (by omega) (Or.inr ⟨k, rfl, by omega, by omega, fun i hi hlt => ?_⟩), fun c2 => ?_⟩⟩
          · rcases hx with ⟨z, hx⟩ | ⟨s, z, hsk, hs1, hs2⟩
            · refine Or.inl ⟨z, fun i hi => ?_⟩
              by_cases zi : i = k
              · rw [zi]; exact c
              · exact hx i (by omega)
            · refine Or.inr ⟨s, z, by omega, hs1, fun i hi hlt => ?_⟩
              by_cases zi : i = k
              · rw [zi] at hlt; omega
              · exact hs2 i (by omega) hlt
          · by_cases zi : i = k
            · rw [zi]; omega
            · rcases hx with ⟨z, hx⟩ | ⟨s, z, hsk, hs1, hs2⟩
              · have := hx i (by omega); omega
              · omega
          · rcases hx with ⟨z, hx⟩ | ⟨s, rfl, hsk, hs1, hs2⟩
            · exact absurd z c2
            · rw [Int.toNat_natCast, e45]
              refine ⟨by omega, fun c3 => ihv (k + 1) s (by omega) (Or.inr ⟨s, rfl, by omega, hs1, fun i hi hlt => ?_⟩), fun c3 => ihv (k + 1) k (by omega) (Or.inr ⟨k, rfl, by omega, by omega, fun i hi hlt => ?_⟩)⟩
              · by_cases zi : i = k
                · rw [zi]; exact c3
                · exact hs2 i (by omega) hlt
              · by_cases zi : i = k
                · rw [zi]; omega
                · have := hs2 i (by omega) hlt; omega
      exact b_Mo_lay_68 hla (by omega) (bf (by omega) (sel ks.length 0 (-4) (by omega) (Or.inl ⟨rfl, fun i hi => by omega⟩)))
  exact loop ks.length 0 M 0 (by omega) (FrI.rf M) (fun j hj => by omega) (by omega) (Or.inl ⟨rfl, rfl⟩)
def noPol (ks : List Int) (P : Int → ReP) : Prop := ∀ c, c ∈ ks → (P c).1 = []
def mLy (a k : Nat) : Prop := (a = 530 ∧ (k = 2 ∨ k = 16 ∨ k = 17 ∨ k = 32 ∨ k = 33 ∨ k = 34)) ∨ (532 ≤ a ∧ a ≤ 543) ∨ (545 ≤ a ∧ a ≤ 558)
theorem CRec.hi {M' : Mem} {b : Nat} {ks : List Int} {P : Int → ReP} (hb : isRec b) (h : CRec M b ks P) (e : ∀ a k, a < 530 → gI M' a k = gI M a k) (ep : ∀ a k, gP M' a k = gP M a k) : CRec M' b ks P := by
  have hb4 : b + 254 ≤ 530 := by rcases hb with rfl | rfl <;> omega
  obtain ⟨h1, h2, h3, h4, h5, h6, h7⟩ := h
  have ek : ∀ i, i < ks.length → kyF M' b i = kyF M b i := fun i hi => by
    have := dom_in h3 (i := i) (by omega)
    unfold kyF
    rw [ep, e _ _ (by omega)]
  refine ⟨by rw [e _ _ (by omega)]; exact h1, h2, h3.fr (fun a k _ => ep a k), fun i hi => by rw [ek i (by omega), ek (i + 1) (by omega)]; exact h4 i hi, fun i hi => by rw [ek i hi]; exact h5 i hi, fun c hc => ?_, fun i hi => ?_⟩
  · obtain ⟨i, hi, ei⟩ := h6 c hc
    exact ⟨i, hi, by rw [ek i hi]; exact ei⟩
  · rw [ek i hi, ep]
    obtain ⟨g1, g2⟩ := h7 i hi
    have := dom_in h3 (i := i) (by omega)
    exact ⟨g1, g2.fr (h3.pd (by omega)) g1 (fun a k x y => e _ _ (by omega)) (fun i => ep _ _)⟩
theorem k_Mo_lay {Q : Int → Mem → Prop} {t : Nat → Int} {L b : Nat} (hb : isRec b) (hT : TxT t L) (hM : TxM M t L) (hC : (allP t L 240 0 [] P00).1 = -4 → CRec M b (allP t L 240 0 [] P00).2.1 (allP t L 240 0 [] P00).2.2)
    (q0 : ((allP t L 240 0 [] P00).1 ≠ -4 ∨ noPol (allP t L 240 0 [] P00).2.1 (allP t L 240 0 [] P00).2.2) → ∀ M' : Mem, FrI mRd M M' → Q (-2) M')
    (q1 : (allP t L 240 0 [] P00).1 = -4 → ¬ noPol (allP t L 240 0 [] P00).2.1 (allP t L 240 0 [] P00).2.2 → ∀ M' : Mem, FrI mLy M M' → gI M' 530 16 = 0 → gI M' 530 34 = 0 → MAll M' b (nowv M') → Q ((allP t L 240 0 [] P00).2.1.length : Nat) M') : K_Mo_lay g M Q := by
  have hb4 : b + 254 ≤ 530 := by rcases hb with rfl | rfl <;> omega
  generalize hA : allP t L 240 0 [] P00 = A at *
  refine i_Mo_lay (b_Mo_lay_0 (k_Mo_reads hT hM (fun M1 hF1 hR1 _ _ => ?_)))
  rw [hA] at hR1 ⊢
  refine ⟨fun c => ?_, fun c => q0 (Or.inl c) M1 hF1⟩
  have hR := hR1 c
  have hC1 : CRec M1 b A.2.1 A.2.2 := (hC c).hi hb (fun a k x => hF1.i (by unfold mRd; omega)) (fun a k => hF1.p a k)
  have h12 := hR.2.1
  have e17 := hR.1
  have fin : ¬ noPol A.2.1 A.2.2 → P_Mo_lay g 68 [(0, vr g 530), (2, vi 0), (3, vi 0)] [] (sI M1 530 2 (gI M1 530 17)) Q := by
    intro hnp
    rw [e17]
    have hFa : FrI mLy M (sI M1 530 2 ((A.2.1.length : Nat) : Int)) := (hF1.mono (fun a k z => by unfold mRd at z; unfold mLy; omega)).tr (FrI.st (Or.inl ⟨rfl, Or.inl rfl⟩))
    have hC2 : CRec (sI M1 530 2 ((A.2.1.length : Nat) : Int)) b A.2.1 A.2.2 := hC1.hi hb (fun a k x => gI_ne _ _ _ _ _ _ (by omega)) (fun a k => rfl)
    have hR2 : MRec (sI M1 530 2 ((A.2.1.length : Nat) : Int)) A.2.1 A.2.2 := by
      obtain ⟨r1, r2, r3, r4⟩ := hR
      refine ⟨by rw [gI_ne _ _ _ _ _ _ (by omega)]; exact r1, r2, r3, fun j x hj => ?_⟩
      obtain ⟨g1, g2, g3, g4, g5, g6⟩ := r4 j x hj
      exact ⟨by rw [gI_ne _ _ _ _ _ _ (by omega)]; exact g1, g2, g3, g4.fr g3.1 (fun a ha => gI_ne _ _ _ _ _ _ (by omega)) (fun a k _ _ _ => gI_ne _ _ _ _ _ _ (by omega)) (fun k _ _ => gI_ne _ _ _ _ _ _ (by omega)), g5.fr g3.2.2.1 (gI_ne _ _ _ _ _ _ (by omega)) (fun k _ _ => gI_ne _ _ _ _ _ _ (by omega)), g6.fr g3.2.2.2.1 (gI_ne _ _ _ _ _ _ (by omega)) (fun k _ _ => gI_ne _ _ _ _ _ _ (by omega))⟩
    generalize hN : sI M1 530 2 ((A.2.1.length : Nat) : Int) = N at *
    have n2 : gI N 530 2 = (A.2.1.length : Nat) := by rw [← hN, gI_same]
    refine mo_sort hC2 hR2 n2 (fun M3 hF3 ht => ?_)
    generalize hM4 : sI (sI M3 530 16 0) 530 34 0 = M4
    have o4 : ∀ a k, ¬ (a = 530 ∧ (k = 16 ∨ k = 34)) → gI M4 a k = gI M3 a k := fun a k z => by rw [← hM4, gI_ne _ _ _ _ _ _ (by omega), gI_ne _ _ _ _ _ _ (by omega)]
    have p4 : ∀ a k, gP M4 a k = gP N a k := fun a k => by rw [← hM4, gP_sI, gP_sI, hF3.p]
    have hFz : FrI mLy M M4 := by
      rw [← hM4]
      exact hFa.tr ((hF3.mono (fun a k z => Or.inr (Or.inl z))).tr (FrI.tr (FrI.st (Or.inl ⟨rfl, by omega⟩)) (FrI.st (Or.inl ⟨rfl, by omega⟩))))
    have e2 : gI M4 530 2 = (A.2.1.length : Nat) := by rw [o4 _ _ (by omega), hF3.i (by unfold mTs; omega)]; exact n2
    have lo : ∀ a k, a < 530 → gI M4 a k = gI N a k := fun a k x => by rw [o4 _ _ (by omega), hF3.i (by unfold mTs; omega)]
    have hC4 : CRec M4 b A.2.1 A.2.2 := hC2.hi hb lo p4
    have hpos : 1 ≤ A.2.1.length := by
      by_cases z : A.2.1.length = 0
      · exact absurd (fun c hc => by rw [List.length_eq_zero_iff.mp z] at hc; cases hc) hnp
      · omega
    have tk4 : ∀ j, j < A.2.1.length → ∃ s, s < A.2.1.length ∧ gI N 545 s = kyF N b j ∧ TakM N M4 s j := fun j hj => by
      obtain ⟨s, hs1, hs2, ⟨a1, a2, a3, a4⟩, hB, ⟨c1, c2⟩, hD⟩ := ht j hj
      refine ⟨s, hs1, hs2, ⟨by rw [o4 _ _ (by omega)]; exact a1, by rw [o4 _ _ (by omega)]; exact a2, by rw [o4 _ _ (by omega)]; exact a3, by rw [o4 _ _ (by omega)]; exact a4⟩, fun k hk => by rw [o4 _ _ (by omega)]; exact hB k hk, ⟨by rw [o4 _ _ (by omega)]; exact c1, fun k hk => by rw [o4 _ _ (by omega)]; exact c2 k hk⟩, fun k hk => ⟨(hD k hk).1.fr (fun a ha => o4 _ _ (by omega)) (o4 _ _ (by omega)) (o4 _ _ (by omega)), fun p hp => by rw [o4 _ _ (by omega)]; exact (hD k hk).2 p hp⟩⟩
    have key4 : ∀ j, j < A.2.1.length → gI M4 532 j = kyF N b j := fun j hj => by
      obtain ⟨s, hs1, hs2, ⟨a1, _⟩, _⟩ := tk4 j hj
      rw [a1, hs2]
    refine q1 c hnp M4 hFz ?_ (by rw [← hM4, gI_same]) ⟨by rw [hC4.1, e2], by rw [e2]; omega, fun j hj => ?_, fun j hj => ?_⟩
    · rw [← hM4, gI_ne _ _ _ _ _ _ (by omega), gI_same]
    · rw [e2] at hj
      rw [key4 j (by omega), key4 (j + 1) (by omega)]
      exact hC2.2.2.2.1 j (by omega)
    · rw [e2] at hj
      have hj' : j < A.2.1.length := by omega
      obtain ⟨s, hs1, hs2, hs3⟩ := tk4 j hj'
      obtain ⟨x, hx⟩ := at_some (l := A.2.1) hs1
      obtain ⟨g1, g2, g3, g4⟩ := hR2.2.2.2 s x hx
      obtain ⟨o1, o2⟩ := hC4.2.2.2.2.2.2 j hj'
      have ekk : kyF M4 b j = kyF N b j := by
        have := dom_in hC2.2.2.1 (i := j) (by omega)
        unfold kyF
        rw [p4, lo _ _ (by omega)]
      have ex : x = kyF M4 b j := by rw [ekk, ← hs2, g1]
      rw [← ex] at o1 o2
      exact dom_of o2 g4 g1 g3 hs3
  -- whether a name has a policy
  have loop : ∀ (w i : Nat) (x1 : Int), i + w = A.2.1.length → (x1 = 0 ∧ (∀ j c, j < i → A.2.1[j]? = some c → (A.2.2 c).1 = []) ∨ (x1 = 1 ∧ ¬ noPol A.2.1 A.2.2)) → P_Mo_lay g 16 [(0, vr g 530), (1, vi x1), (2, vi (i : Int))] [] M1 Q := by
    intro w
    induction w with
    | zero =>
      intro i x1 hi hx
      refine b_Mo_lay_16 (by rcases hx with h | h <;> omega) (by omega) (bt (by omega) ⟨fun z => ?_, fun z => ?_⟩)
      · rcases hx with ⟨h, _⟩ | ⟨_, h⟩
        · exact absurd h z
        · exact fin h
      · rcases hx with ⟨_, h⟩ | ⟨h, _⟩
        · refine q0 (Or.inr (fun c hc => ?_)) M1 hF1
          obtain ⟨j, hj⟩ := mem_at hc
          exact h j c (by have := at_lt hj; omega) hj
        · omega
    | succ w ih =>
      intro i x1 hi hx
      obtain ⟨x, hxi⟩ := at_some (l := A.2.1) (i := i) (by omega)
      obtain ⟨_, _, _, g4, _⟩ := hR.2.2.2 i x hxi
      refine b_Mo_lay_16 (by rcases hx with h | h <;> omega) (by omega) (bf (by omega) ⟨fun z => ?_, fun z => ⟨by omega, ?_⟩⟩)
      · rcases hx with ⟨h, _⟩ | ⟨_, h⟩
        · exact absurd h z
        · exact ih (i + 1) 1 (by omega) (Or.inr ⟨rfl, h⟩)
      · rcases hx with ⟨_, h⟩ | ⟨h, _⟩
        · rw [Int.toNat_natCast, g4.1]
          refine ⟨fun z2 => ih (i + 1) 0 (by omega) (Or.inl ⟨rfl, fun j c hj hc => ?_⟩), fun z2 => ih (i + 1) 1 (by omega) (Or.inr ⟨rfl, fun hn => ?_⟩)⟩
          · by_cases zj : j = i
            · subst zj
              rw [hxi] at hc
              cases hc
              exact List.length_eq_zero_iff.mp (by omega)
            · exact h j c (by omega) hc
          · have := hn x (List.mem_of_getElem? hxi)
            rw [this] at z2
            exact z2 (by simp)
        · omega
  exact loop A.2.1.length 0 0 (by omega) (Or.inl ⟨rfl, fun j c hj => by omega⟩)
end LY
