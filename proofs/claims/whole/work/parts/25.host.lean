section CC
variable {g : Ctx} {n : Nat} {M : Mem}
theorem hasF_congr {f f' : Nat → Int} {a : Int} : ∀ {c : Nat}, (∀ i, i < c → f i = f' i) → hasF f a c = hasF f' a c
  | 0, _ => rfl
  | c + 1, h => by rw [hasF, hasF, hasF_congr (fun i hi => h i (by omega)), h c (by omega)]
theorem noF_has {f : Nat → Int} {a : Int} {c : Nat} : (noF f a c = -4 ↔ hasF f a c = false) := by
  rcases noF_cases f a c with ⟨h1, h2⟩ | ⟨i, h1, h2, h3, -⟩
  · refine ⟨fun _ => ?_, fun _ => h1⟩
    cases e : hasF f a c with
    | false => rfl
    | true =>
      obtain ⟨i, h3, h4⟩ := (hasF_iff f a c).mp e
      exact absurd h4 (h2 i h3)
  · refine ⟨fun e => by omega, fun e => ?_⟩
    have : hasF f a c = true := (hasF_iff f a c).mpr ⟨i, h1, h3⟩
    rw [e] at this
    cases this
/-- the model looks for the host's place and closes the gap -/
theorem m_del {Q : Int → Mem → Prop} {j p c : Nat} {a : Int} {M3 : Mem} (hj : j < 12) (hc : c ≤ 4) (hp : p < c) (ha : InR a) (e16 : gI M3 543 (21 * j + 16) = c) (hat : gI M3 543 (21 * j + (17 + p)) = a) (hbef : ∀ k, k < p → gI M3 543 (21 * j + (17 + k)) ≠ a) (h : ∀ M4 : Mem, FrI (fun x _ => x = 543) M3 M4 → gI M4 543 (21 * j + 16) = (c : Int) - 1 → (∀ k, k < p → gI M4 543 (21 * j + (17 + k)) = gI M3 543 (21 * j + (17 + k))) → (∀ k, p ≤ k → k + 1 < c → gI M4 543 (21 * j + (17 + k)) = gI M3 543 (21 * j + (17 + (k + 1)))) → (∀ k, (k < 21 * j + 16 ∨ 21 * j + 21 ≤ k) → gI M4 543 k = gI M3 543 k) → Q ((c : Int) - 1) M4) :
    P_Mo_host g 136 [(0, vr g 530), (2, vi a), (4, vi ((21 * (j : Int)) + 16)), (5, vi ((21 * (j : Int)) + 17)), (6, vi 0)] [] M3 Q := by
  have lp2 : ∀ (m : Nat) (M4 : Mem) (i : Nat), i + m + 1 = c → p ≤ i → FrI (fun x _ => x = 543) M3 M4 → gI M4 543 (21 * j + 16) = (c : Int) - 1 → (∀ k, k < p → gI M4 543 (21 * j + (17 + k)) = gI M3 543 (21 * j + (17 + k))) → (∀ k, p ≤ k → k < i → gI M4 543 (21 * j + (17 + k)) = gI M3 543 (21 * j + (17 + (k + 1)))) → (∀ k, i ≤ k → gI M4 543 (21 * j + (17 + k)) = gI M3 543 (21 * j + (17 + k))) → (∀ k, (k < 21 * j + 16 ∨ 21 * j + 21 ≤ k) → gI M4 543 k = gI M3 543 k) → P_Mo_host g 171 [(0, vr g 530), (4, vi ((21 * (j : Int)) + 16)), (5, vi ((21 * (j : Int)) + 17)), (7, vi (i : Int))] [] M4 Q := by
    intro m
    induction m with
    | zero =>
      intro M4 i hi hpi hF e1 e2 e3 e4 e5
      refine b_Mo_host_171 (by omega) (by omega) (by omega) ⟨by omega, ?_⟩
      rw [show ((21 * (j : Int)) + 16).toNat = 21 * j + 16 by omega, e1]
      exact bt (by omega) (h M4 hF e1 e2 (fun k h1 h2 => e3 k h1 (by omega)) e5)
    | succ m ih =>
      intro M4 i hi hpi hF e1 e2 e3 e4 e5
      refine b_Mo_host_171 (by omega) (by omega) (by omega) ⟨by omega, ?_⟩
      rw [show ((21 * (j : Int)) + 16).toNat = 21 * j + 16 by omega, e1, show ((21 * (j : Int)) + 17 + (i : Int)).toNat = 21 * j + (17 + i) by omega, show ((21 * (j : Int)) + 17 + (i : Int) + 1).toNat = 21 * j + (17 + (i + 1)) by omega]
      refine bf (by omega) ⟨by omega, by omega, ih _ (i + 1) (by omega) (by omega) (hF.tr (FrI.st rfl)) ?_ (fun k hk => ?_) (fun k hk hk2 => ?_) (fun k hk => ?_) (fun k hk => ?_)⟩
      · rw [gI_ne _ _ _ _ _ _ (by omega)]; exact e1
      · rw [gI_ne _ _ _ _ _ _ (by omega)]; exact e2 k hk
      · by_cases q : k = i
        · subst q; rw [gI_same]; exact e4 _ (by omega)
        · rw [gI_ne _ _ _ _ _ _ (by omega)]; exact e3 k hk (by omega)
      · rw [gI_ne _ _ _ _ _ _ (by omega)]; exact e4 k (by omega)
      · rw [gI_ne _ _ _ _ _ _ (by omega)]; exact e5 k hk
  have lp1 : ∀ (m i : Nat), i + m = p → P_Mo_host g 136 [(0, vr g 530), (2, vi a), (4, vi ((21 * (j : Int)) + 16)), (5, vi ((21 * (j : Int)) + 17)), (6, vi (i : Int))] [] M3 Q := by
    intro m
    induction m with
    | zero =>
      intro i hi
      refine b_Mo_host_136 ha (by omega) (by omega) (by omega) ⟨by omega, ?_⟩
      rw [show ((21 * (j : Int)) + 17 + (i : Int)).toNat = 21 * j + (17 + i) by omega, show ((21 * (j : Int)) + 16).toNat = 21 * j + 16 by omega, show i = p by omega, e16]
      refine bt hat ⟨by omega, by omega, ?_⟩
      exact lp2 (c - 1 - p) _ p (by omega) (Nat.le_refl _) (FrI.st rfl) (gI_same _ _ _ _) (fun k hk => gI_ne _ _ _ _ _ _ (by omega)) (fun k h1 h2 => by omega) (fun k hk => gI_ne _ _ _ _ _ _ (by omega)) (fun k hk => gI_ne _ _ _ _ _ _ (by omega))
    | succ m ih =>
      intro i hi
      refine b_Mo_host_136 ha (by omega) (by omega) (by omega) ⟨by omega, ?_⟩
      rw [show ((21 * (j : Int)) + 17 + (i : Int)).toNat = 21 * j + (17 + i) by omega]
      exact bf (hbef i (by omega)) (ih (i + 1) (by omega))
  exact lp1 p 0 (by omega)
theorem j_host {p0 p1 p2 : Int} (hR : Rel M) (h0 : InR p0) (h1 : InR p1) (h2 : InR p2) : K_Sr_host g 33 p0 p1 p2 M (fun r M1 => WT M1 → K_Mo_host g p0 p1 p2 M1 (fun r' M2 => WT M2 → r = r' ∧ Rel M2)) := by
  have hn := hR.names
  have hsz := hR.size
  have hb4 : gP M 0 1 = 4 ∨ gP M 0 1 = 276 := hR.pres
  have hch := hR.hist
  have bad : ((p0 < 0 ∨ gI M 530 2 ≤ p0) ∨ (p1 < 0 ∨ 255 < p1) ∨ (p2 < 0 ∨ 1 < p2)) → K_Mo_host g p0 p1 p2 M (fun r' M2 => WT M2 → -1 = r' ∧ Rel M2) := fun hz =>
    i_Mo_host (b_Mo_host_0 h0 h1 h2 (k_Mo_isName h0 (by omega) (by omega) (fun a b _ _ => bz1 (k_Mo_isIn h1 (by omega) (by omega) (fun c d _ _ => bz1 (k_Mo_isIn h2 (by omega) (by omega) (fun e f => by omega) (fun _ _ _ => bnf rfl (fun _ => ⟨rfl, hR⟩)))) (fun _ _ _ => bz0 (fun _ => ⟨rfl, hR⟩)))) (fun _ _ _ => bz0 (fun _ => ⟨rfl, hR⟩))))
  refine i_Sr_host (w_wt (fun hw => b_Sr_host_0 h0 h1 h2 ⟨hR.pres, ?_⟩))
  rcases hR.kd p0 with hk | ⟨j, hj, rfl⟩
  · exact k_Rc_domainAt hR.pres h0 (by omega) (fun a b => by omega) (fun _ _ _ => bt rfl (fun _ => bad (Or.inl hk)))
  have hd := hR.dom hj
  have hm := (hR.mdom hj).2.1
  have hm4 := hm.2.1
  obtain ⟨q, hq, eq⟩ := hR.blk hj
  refine k_Rc_domainAt hR.pres h0 (by omega) (fun _ _ _ _ => ?_) (fun a => by omega)
  rw [Int.toNat_natCast]
  refine bf (nDom hd) (k_Sr_isAddress h1 (fun pa pb _ _ => bz1 ?_) (fun z _ _ => bz0 (fun _ => bad (Or.inr (Or.inl (by omega))))))
  refine ⟨fun c _ => bad (Or.inr (Or.inr (by omega))), fun c => ⟨fun c1 => ?_, fun c1 _ => bad (Or.inr (Or.inr (by omega)))⟩⟩
  generalize hdd : gP M (gP M 0 1 + 1) j = d at *
  obtain ⟨cnt, hcnt⟩ := Int.eq_ofNat_of_zero_le hm4.1
  have h8 : gI M d 8 = cnt := hm.1.trans hcnt
  have e16 : mnow M j 16 = cnt := hcnt
  have hhs : ∀ k, k < cnt → gI M (d + 3) k = mnow M j (17 + k) := fun k hk => hm.2.2 k (by omega)
  have hnF : noF (gI M (d + 3)) p1 (gI M d 8).toNat = noF (fun k => mnow M j (17 + k)) p1 cnt := by
    rw [h8, Int.toNat_natCast]
    exact noF_congr hhs
  -- the model from any memory that has the same rows
  have em : ∀ (M2 : Mem) (Q : Int → Mem → Prop), (∀ a k, (530 ≤ a) → gI M2 a k = gI M a k) → (p2 = 1 → noF (fun k => mnow M j (17 + k)) p1 cnt ≠ -4 → Q (-2) M2) → (p2 = 0 → noF (fun k => mnow M j (17 + k)) p1 cnt = -4 → Q (-2) M2) → (p2 = 1 → noF (fun k => mnow M j (17 + k)) p1 cnt = -4 → cnt = 4 → Q (-3) M2) →
      (p2 = 1 → noF (fun k => mnow M j (17 + k)) p1 cnt = -4 → cnt < 4 → ∀ (M3 : Mem) (a s : Nat), Sh4 (gI M 270 1) a s → KeepR M2 M3 a s → Q ((cnt : Int) + 1) (sI (sI M3 543 (21 * j + (17 + cnt)) p1) 543 (21 * j + 16) ((cnt : Int) + 1))) → (p2 = 0 → noF (fun k => mnow M j (17 + k)) p1 cnt ≠ -4 → ∀ (M3 : Mem) (a s : Nat), Sh4 (gI M 270 1) a s → KeepR M2 M3 a s → P_Mo_host g 136 [(0, vr g 530), (2, vi p1), (4, vi ((21 * (j : Int)) + 16)), (5, vi ((21 * (j : Int)) + 17)), (6, vi 0)] [] M3 Q) → K_Mo_host g (j : Int) p1 p2 M2 Q := by
    intro M2 Q g2 q1 q2 q3 q4 q5
    have en : ∀ x y, mnow M2 x y = mnow M x y := fun x y => g2 _ _ (by decide)
    have e16t : ((21 * (j : Int)) + 16).toNat = 21 * j + 16 := by omega
    have hasE : ∀ v : Bool, hasF (fun k => mnow M2 j (17 + k)) p1 (mnow M2 j 16).toNat = v → hasF (fun k => mnow M j (17 + k)) p1 cnt = v := fun v z => by
      rw [en, e16, Int.toNat_natCast] at z
      rw [← z]
      exact hasF_congr (fun i _ => (en j (17 + i)).symm)
    refine i_Mo_host (b_Mo_host_0 h0 h1 h2 (k_Mo_isName h0 (by rw [g2 _ _ (by decide)]; omega) (by rw [g2 _ _ (by decide)]; omega) (fun _ _ _ _ => bz1 (k_Mo_isIn h1 (by omega) (by omega) (fun _ _ _ _ => bz1 (k_Mo_isIn h2 (by omega) (by omega) (fun _ _ _ _ => bnt (by decide) ?_) (fun z => by omega))) (fun z => by omega))) (fun z => by rw [g2 _ _ (by decide)] at z; omega)))
    refine k_Mo_hasHost (Or.inr ⟨by omega, by omega⟩) h1 (fun x hx => by rw [en, show x = j from by omega, e16]; omega) (fun x hx _ hv _ _ => ?_) (fun hz _ _ => ?_)
    · have hxj : x = j := by omega
      subst hxj
      have hv' := hasE true hv
      have hno : noF (fun k => mnow M x (17 + k)) p1 cnt ≠ -4 := fun z => by rw [noF_has.mp z] at hv'; cases hv'
      refine ⟨fun z => bnt (by decide) (bnt z ?_), fun z => bnf rfl (q1 z hno)⟩
      refine k_Mo_keeps (by rw [g2 _ _ (by decide)]; omega) (by rw [g2 _ _ (by decide)]; omega) (fun M3 a s hs hK _ => bnt z ?_)
      rw [g2 _ _ (by decide), ← hch.2.2] at hs
      exact q5 (by omega) hno M3 a s hs hK
    · have hv' : hasF (fun k => mnow M j (17 + k)) p1 cnt = false := by
        rcases hz with z | ⟨x, hx, -, hv⟩
        · omega
        · have hxj : x = j := by omega
          subst hxj
          exact hasE false hv
      have hno := noF_has.mpr hv'
      refine ⟨fun z => bnf rfl (q2 (by omega) hno), fun z => bnt (by decide) (bnf z ⟨by omega, ?_⟩)⟩
      have z4 : gI M2 543 (21 * j + 16) = cnt := (en j 16).trans e16
      rw [e16t, z4]
      refine ⟨fun z5 => ?_, fun z5 => q3 z hno (by omega)⟩
      refine k_Mo_keeps (by rw [g2 _ _ (by decide)]; omega) (by rw [g2 _ _ (by decide)]; omega) (fun M3 a s hs hK _ => bnf z ?_)
      rw [g2 _ _ (by decide), ← hch.2.2] at hs
      have z6 : gI M3 543 (21 * j + 16) = cnt := by rw [hK.1.i (by omega)]; exact z4
      have q := q4 z hno (by omega) M3 a s hs hK
      rw [z6, show ((21 * (j : Int)) + 17 + (cnt : Int)).toNat = 21 * j + (17 + cnt) by omega, gI_ne _ _ _ _ _ _ (by omega), z6]
      exact ⟨by omega, by omega, q⟩
  -- the class
  refine k_Dm_placeOfHost hd h1 (by omega) (by omega) (fun _ _ => ?_)
  rw [hnF]
  have hPR := hR.prec hR.pres
  have hMA := hR.2.2.2.1
  rcases noF_cases (fun k => mnow M j (17 + k)) p1 cnt with ⟨e, hnone⟩ | ⟨p, hp, e, hat, hbef⟩
  · rw [e, m1F, if_pos rfl]
    refine bt rfl ⟨fun z _ => em M _ (fun _ _ _ => rfl) (fun w => by omega) (fun _ _ _ => ⟨rfl, hR⟩) (fun w => by omega) (fun w => by omega) (fun _ w => absurd e w), fun z => bnt (by omega) ?_⟩
    rw [h8]
    refine k_Dm_insertHost hd h1 (by omega) (by omega) (by omega) (fun w _ _ => bnf rfl (fun _ => em M _ (fun _ _ _ => rfl) (fun _ w => absurd e w) (fun w => by omega) (fun _ _ _ _ => ⟨rfl, hR⟩) (fun _ _ w => by omega) (fun w => by omega))) (fun M1 hlt hF e8 e3 _ _ => bnt (by decide) ?_)
    have g1 : ∀ a k, ¬ (a = d + 3 ∨ (a = d ∧ k = 8)) → gI M1 a k = gI M a k := fun a k hz => hF.i hz
    rw [e8, h8, Int.add_sub_cancel]
    refine k_Sr_noteChange (by rw [g1 _ _ (by omega)]; omega) (by rw [g1 _ _ (by omega)]; omega) (fun x x' hx hx' w => by rw [hF.p, hF.p] at w; exact hR.hin x x' hx hx' w) (by decide) h0 (by omega) h1 (fun M2 a s hs hN hw2 _ => ?_)
    rw [g1 _ _ (by omega)] at hs
    have e8b : gI M2 d 8 = (cnt : Int) + 1 := by rw [hN.2.2.1 _ _ (by omega) (by omega) (by omega), e8, h8]
    rw [e8b]
    refine em M2 _ (fun a k ha => by rw [hN.2.2.1 a k (by omega) (by omega) (by omega), g1 _ _ (by omega)]) (fun _ w => absurd e w) (fun w => by omega) (fun _ _ w => by omega) (fun _ _ _ M3 a3 s3 hs3 hK _ => ⟨rfl, ?_⟩) (fun w => by omega)
    obtain ⟨x1, x2⟩ := Sh4.eq hs hs3
    subst x1
    subst x2
    have g3 : ∀ k, gI M3 543 k = nowv M k := fun k => by rw [hK.1.i (by omega), hN.2.2.1 _ _ (by omega) (by omega) (by omega), g1 _ _ (by omega)]; rfl
    have hcl : MAll M1 (gP M 0 1) (undoV 3 j cnt p1 (nowv M)) := clsH hR.pres hPR hMA hj (Or.inr rfl) (by rw [hdd]; exact hF) (by rw [hdd]; exact hm.ins (by omega) (by omega) e8 (fun k hk => e3 k hk))
    refine push_rel (j := j) (p := cnt) (V := undoV 3 j cnt p1 (nowv M)) hR (fun x hx => hw.ch hx) hcl (hPR.fr (fun a k _ => hF.p a k)) (fun a k hz => g1 a k (by omega)) (fun a k _ => hF.p a k) hs hN hw2 hK (FrI.tr (S := fun a _ => a = 543) (FrI.st rfl) (FrI.st rfl)) ?_ hj rfl rfl (Or.inr (Or.inr (Or.inl ⟨rfl, by rw [undo3_n]; omega⟩))) (fun z => absurd z (by decide)) (inv_all hR hj (by decide) (by decide) (Or.inr (by decide)) (Or.inr (by decide)) (inv2 (hR.r8 j hj) (hR.row j hj) (by omega) (by omega)))
    intro x hx
    have hx8 := hR.r8 x hx
    have hn4 : ∀ k, nowv (sI (sI M3 543 (21 * j + (17 + cnt)) p1) 543 (21 * j + 16) ((cnt : Int) + 1)) k = if k = 21 * j + 16 then (cnt : Int) + 1 else if k = 21 * j + (17 + cnt) then p1 else nowv M k := fun k => by
      show gI (sI (sI M3 543 _ _) 543 _ _) 543 k = _
      rw [gI_sI, gI_sI, g3]
      by_cases w1 : k = 21 * j + 16
      · rw [if_pos ⟨rfl, w1⟩, if_pos w1]
      · rw [if_neg (fun w => w1 w.2), if_neg w1]
        by_cases w2 : k = 21 * j + (17 + cnt)
        · rw [if_pos ⟨rfl, w2⟩, if_pos w2]
        · rw [if_neg (fun w => w2 w.2), if_neg w2]
    by_cases w : x = j
    · subst w
      refine ⟨fun i hi => ⟨?_, ?_⟩, ?_, fun k hk => ?_⟩
      · rw [hn4, if_neg (by omega), if_neg (by omega), undo3_lo _ _ _ _ (by omega)]
      · rw [hn4, if_neg (by omega), if_neg (by omega), undo3_lo _ _ _ _ (by omega)]
      · rw [hn4, if_pos rfl, undo3_n, hcnt]
      · rw [hn4, if_pos rfl] at hk
        rw [hn4, if_neg (by omega), undo3_h _ _ _ _ (by omega), insF]
        by_cases w3 : k = cnt
        · rw [if_pos (by omega), if_neg (by omega), if_pos w3]
        · rw [if_neg (by omega), if_pos (by omega)]
    · have h4 := (hR.row x hx).1.2
      refine V1.tr (v := nowv M) ⟨fun i hi => ⟨?_, ?_⟩, ?_, fun k hk => ?_⟩ (V1.off w hx8 h4 (Or.inr (by decide)) (fun z => absurd z (by decide)))
      · rw [hn4, if_neg (by omega), if_neg (by omega)]
      · rw [hn4, if_neg (by omega), if_neg (by omega)]
      · rw [hn4, if_neg (by omega), if_neg (by omega)]
      · rw [hn4, if_neg (by omega), if_neg (by omega)] at hk
        rw [hn4, if_neg (by omega), if_neg (by omega)]
  · rw [e, m1F, if_neg (by omega)]
    refine bf (by omega) ⟨fun z => bnf (by omega) ?_, fun z _ => em M _ (fun _ _ _ => rfl) (fun _ _ _ => ⟨rfl, hR⟩) (fun w => by omega) (fun _ w => by omega) (fun _ w => by omega) (fun w => by omega)⟩
    refine k_Dm_removeHost hd (by omega) (by omega) (fun M1 hF e8 e3 _ => ?_)
    have g1 : ∀ a k, ¬ (a = d + 3 ∨ (a = d ∧ k = 8)) → gI M1 a k = gI M a k := fun a k hz => hF.i hz
    refine k_Sr_noteChange (by rw [g1 _ _ (by omega)]; omega) (by rw [g1 _ _ (by omega)]; omega) (fun x x' hx hx' w => by rw [hF.p, hF.p] at w; exact hR.hin x x' hx hx' w) (by decide) h0 (by omega) h1 (fun M2 a s hs hN hw2 _ => ?_)
    rw [g1 _ _ (by omega)] at hs
    have e8b : gI M2 d 8 = (cnt : Int) - 1 := by rw [hN.2.2.1 _ _ (by omega) (by omega) (by omega), e8, h8]
    rw [e8b]
    refine em M2 _ (fun a k ha => by rw [hN.2.2.1 a k (by omega) (by omega) (by omega), g1 _ _ (by omega)]) (fun w => by omega) (fun _ w => by omega) (fun w => by omega) (fun w => by omega) (fun _ _ M3 a3 s3 hs3 hK => ?_)
    obtain ⟨x1, x2⟩ := Sh4.eq hs hs3
    subst x1
    subst x2
    have g3 : ∀ k, gI M3 543 k = nowv M k := fun k => by rw [hK.1.i (by omega), hN.2.2.1 _ _ (by omega) (by omega) (by omega), g1 _ _ (by omega)]; rfl
    refine m_del (p := p) (c := cnt) (by omega) (by omega) hp h1 (by rw [g3]; exact hcnt) (by rw [g3]; exact hat) (fun k hk => by rw [g3]; exact hbef k hk) (fun M4 hF4 f1 f2 f3 f4 _ => ⟨rfl, ?_⟩)
    have hcl : MAll M1 (gP M 0 1) (undoV 2 j p p1 (nowv M)) := clsH hR.pres hPR hMA hj (Or.inl rfl) (by rw [hdd]; exact hF) (by rw [hdd]; exact hm.del (by omega) e8 (fun k hk => e3 k hk))
    have hv1 : V1 (gI M 533 j) j (undoV 3 j p p1 (undoV 2 j p p1 (nowv M))) (nowv M) := by
      have hz := inv3 (x := p1) (hR.r8 j hj) (hR.row j hj) (p := p) (by omega)
      have hat' : nowv M (21 * j + (17 + p)) = p1 := hat
      rw [hat'] at hz
      exact hz
    refine push_rel (j := j) (p := p) (V := undoV 2 j p p1 (nowv M)) hR (fun x hx => hw.ch hx) hcl (hPR.fr (fun a k _ => hF.p a k)) (fun a k hz => g1 a k (by omega)) (fun a k _ => hF.p a k) hs hN hw2 hK hF4 ?_ hj rfl rfl (Or.inr (Or.inr (Or.inr ⟨rfl, by rw [undo2_n]; omega, by rw [undo2_n]; omega⟩))) (fun z => absurd z (by decide)) (inv_all hR hj (by decide) (by decide) (Or.inr (by decide)) (Or.inr (by decide)) hv1)
    intro x hx
    have hx8 := hR.r8 x hx
    have hn4 : ∀ k, (k < 21 * j + 16 ∨ 21 * j + 21 ≤ k) → nowv M4 k = nowv M k := fun k hk => (f4 k hk).trans (g3 k)
    by_cases w : x = j
    · subst w
      refine ⟨fun i hi => ⟨?_, ?_⟩, ?_, fun k hk => ?_⟩
      · rw [hn4 _ (by omega), undo2_lo _ _ _ _ (by omega)]
      · rw [hn4 _ (by omega), undo2_lo _ _ _ _ (by omega)]
      · rw [undo2_n, hcnt]; exact f1
      · have hk' : (k : Int) < (cnt : Int) - 1 := by
          have : nowv M4 (21 * x + 16) = (cnt : Int) - 1 := f1
          omega
        rw [undo2_h _ _ _ _ (by omega), delF]
        by_cases w3 : k < p
        · rw [if_pos w3]; exact (f2 k w3).trans (g3 _)
        · rw [if_neg w3]; exact (f3 k (by omega) (by omega)).trans (g3 _)
    · have h4 := (hR.row x hx).1.2
      refine V1.tr (v := nowv M) ⟨fun i hi => ⟨?_, ?_⟩, ?_, fun k hk => ?_⟩ (V1.off w hx8 h4 (Or.inr (by decide)) (fun z => absurd z (by decide)))
      · exact hn4 _ (by omega)
      · exact hn4 _ (by omega)
      · exact hn4 _ (by omega)
      · rw [hn4 _ (by omega)] at hk
        exact hn4 _ (by omega)
end CC
