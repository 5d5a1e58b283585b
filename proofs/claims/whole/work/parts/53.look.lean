/-! ===== lookups ===== -/
theorem jushrN {n k : Nat} (hn : n < 65536) (hk : ((nI k).toUInt32 &&& Int32.toUInt32 31).toNat % 32 = k) : jushr (n : Int) (k : Int) = (n : Int) / 2 ^ k := by
  unfold jushr
  rw [vi_nI, vi_nI]
  have e : ((nI n).toUInt32 >>> ((nI k).toUInt32 &&& Int32.toUInt32 31)).toNat = n / 2 ^ k := by
    rw [UInt32.toNat_shiftRight, hk, Nat.shiftRight_eq_div_pow]
    have e1 : (nI n).toUInt32.toNat = n := by
      show (BitVec.ofNat 32 n).toNat = n
      rw [BitVec.toNat_ofNat]
      exact Nat.mod_eq_of_lt (by omega)
    rw [e1]
  have hle : n / 2 ^ k ≤ n := Nat.div_le_self _ _
  generalize (nI n).toUInt32 >>> ((nI k).toUInt32 &&& Int32.toUInt32 31) = u at e
  have e2 : u.toBitVec.toNat = n / 2 ^ k := e
  show BitVec.toInt u.toBitVec = _
  rw [BitVec.toInt_eq_toNat_of_lt (by omega), e2]
  simp
theorem ju1 {x : Int} (h0 : 0 ≤ x) (h1 : x < 65536) : jushr x 1 = x / 2 := by
  obtain ⟨n, rfl⟩ := Int.eq_ofNat_of_zero_le h0
  have := jushrN (n := n) (k := 1) (by omega) (by decide)
  simpa using this
theorem ju2 {x : Int} (h0 : 0 ≤ x) (h1 : x < 65536) : jushr x 2 = x / 4 := by
  obtain ⟨n, rfl⟩ := Int.eq_ofNat_of_zero_le h0
  have := jushrN (n := n) (k := 2) (by omega) (by decide)
  simpa using this
theorem ju4 {x : Int} (h0 : 0 ≤ x) (h1 : x < 65536) : jushr x 4 = x / 16 := by
  obtain ⟨n, rfl⟩ := Int.eq_ofNat_of_zero_le h0
  have := jushrN (n := n) (k := 4) (by omega) (by decide)
  simpa using this
theorem ju8 {x : Int} (h0 : 0 ≤ x) (h1 : x < 65536) : jushr x 8 = x / 256 := by
  obtain ⟨n, rfl⟩ := Int.eq_ofNat_of_zero_le h0
  have := jushrN (n := n) (k := 8) (by omega) (by decide)
  simpa using this
/-- the highest bit of v -/
def hiB (v : Int) (t : Nat) : Prop := t ≤ 11 ∧ 2 ^ t ≤ v ∧ v < 2 ^ (t + 1)
theorem nxor (a b : Nat) : nI a ^^^ nI b = nI (a ^^^ b) := by
  apply Int32.toBitVec_inj.1
  show BitVec.ofNat 32 a ^^^ BitVec.ofNat 32 b = BitVec.ofNat 32 (a ^^^ b)
  apply BitVec.eq_of_getLsbD_eq
  intro i hi
  simp [hi]
theorem xor_hi {t w : Nat} (h : w < 2 ^ t) : (2 ^ t + w) ^^^ 2 ^ t = w := by
  apply Nat.eq_of_testBit_eq
  intro j
  rw [Nat.testBit_xor]
  rcases Nat.lt_trichotomy j t with hj | hj | hj
  · rw [Nat.testBit_two_pow_add_gt hj, Nat.testBit_two_pow_of_ne (by omega), Bool.xor_false]
  · subst hj
    rw [Nat.testBit_two_pow_add_eq, Nat.testBit_two_pow_self, Nat.testBit_lt_two_pow h]
    rfl
  · have h1 : 2 ^ t + w < 2 ^ j := by
      have : 2 ^ (t + 1) ≤ 2 ^ j := Nat.pow_le_pow_right (by decide) hj
      rw [Nat.pow_succ] at this
      omega
    have h2 : w < 2 ^ j := by omega
    rw [Nat.testBit_lt_two_pow h1, Nat.testBit_two_pow_of_ne (by omega), Nat.testBit_lt_two_pow h2]
    rfl
theorem jxor_hi {v : Int} {t : Nat} (h : hiB v t) : jxor v (jshl 1 (t : Int)) = v - jshl 1 (t : Int) := by
  obtain ⟨h1, h2, h3⟩ := h
  have hp := pow12 (k := t) (by omega)
  rw [jshl_1 (by omega)]
  have ep : ((2 ^ t : Nat) : Int) = 2 ^ t := by simp
  have e3 : (2 : Int) ^ (t + 1) = 2 ^ t * 2 := Int.pow_succ 2 t
  rw [e3] at h3
  rw [← ep] at h2 h3
  obtain ⟨w, hw⟩ : ∃ w : Nat, v = ((2 ^ t + w : Nat) : Int) := ⟨(v - ((2 ^ t : Nat) : Int)).toNat, by omega⟩
  have hw2 : w < 2 ^ t := by omega
  subst hw
  unfold jxor
  rw [vi_nI, vi_nI, nxor, xor_hi hw2, nI_toInt (by omega)]
  omega
theorem evR_lk {M : Mem} (h : MWf M) (o : Nat) (a l : Int) : ∀ (f m k : Nat) (lk em : Int), (m : Int) < gI M 530 2 → (k : Int) ≤ gI M 533 m → 0 ≤ lk → lk ≤ 10 → 0 ≤ em → em ≤ 2 → 0 ≤ (evR M o a l f m k lk em).2.1 ∧ (evR M o a l f m k lk em).2.1 ≤ 11 := by
  intro f
  induction f with
  | zero => intro m k lk em _ _ _ _ _ _; exact ⟨by show 0 ≤ lk; omega, by show lk ≤ 11; omega⟩
  | succ f ih =>
    intro m k lk em hm hk hl0 hl he0 he
    have hj := h.2 m hm
    unfold evR
    split
    · split
      · dsimp only; omega
      · split
        · dsimp only; omega
        · split
          · dsimp only; omega
          · rename_i hb
            obtain ⟨n, e, hn, _⟩ := noM_at h hb
            rw [e, Int.toNat_natCast]
            exact ih n 0 (lk + 1) em hn (h.2 n hn).2.1.1 (by omega) (by omega) he0 he
    · have hk' : (k : Int) < gI M 533 m := by omega
      split
      · split
        · dsimp only; omega
        · split
          · dsimp only; omega
          · rename_i hb
            obtain ⟨n, e, hn, _⟩ := noM_at h hb
            rw [e, Int.toNat_natCast]
            have ii := ih n 0 (lk + 1) em hn (h.2 n hn).2.1.1 (by omega) (by omega) he0 he
            split
            · dsimp only; exact ii
            · rename_i h5
              have i1 := evR_ok h o a l f n 0 (lk + 1) em hn (h.2 n hn).2.1.1 (by omega) (by omega) he0 he h5
              split
              · dsimp only; exact ii
              · exact ih m (k + 1) _ _ hm (by omega) (by omega) (by omega) (by omega) (by omega)
      · split
        · split
          · dsimp only; omega
          · exact ih m (k + 1) _ _ hm (by omega) (by omega) (by omega) (by omega) (by omega)
        · split
          · dsimp only; omega
          · split
            · split
              · dsimp only; omega
              · exact ih m (k + 1) _ _ hm (by omega) (by omega) (by omega) (by omega) (by omega)
            · split
              · dsimp only; omega
              · exact ih m (k + 1) _ _ hm (by omega) (by omega) (by omega) (by omega) (by omega)
theorem evT_lk {M : Mem} (h : MWf M) {o : Nat} (ho : (o : Int) < gI M 530 2) (a l : Int) : 0 ≤ (evT M o a l).2.1 ∧ (evT M o a l).2.1 ≤ 11 := by
  unfold evT
  split
  · exact ⟨by decide, by decide⟩
  · exact evR_lk h o a l 120 o 0 0 0 ho (h.2 o ho).2.1.1 (by decide) (by decide) (by decide) (by decide)
def sumL (M : Mem) (o : Nat) (l : Int) : Nat → Int := sumF (fun a => (evT M o a l).2.1)
theorem sumL_bd {M : Mem} (h : MWf M) {o : Nat} (ho : (o : Int) < gI M 530 2) (l : Int) (n : Nat) : 0 ≤ sumL M o l n ∧ sumL M o l n ≤ n * 11 := sumF_bd (by decide) (fun i _ => evT_lk h ho i l)
def fltV (v : Int) (t : Nat) : Int := jor (jshl (127 + (t : Int) - 8) 23) (jshl (jxor v (jshl 1 (t : Int))) (23 - (t : Int)))
section LK
variable {g : Ctx} {M : Mem} {n : Nat}
theorem k_J_nlz {Q : Int → Mem → Prop} {v : Int} (h0 : 0 < v) (h1 : v < 4096) (q : ∀ t : Nat, hiB v t → Q (31 - (t : Int)) M) : K_J_numberOfLeadingZeros g n v M Q := by
  have e1 := ju1 (x := v) (by omega) (by omega)
  have e2 := ju2 (x := v) (by omega) (by omega)
  have e3 := ju1 (x := v / 4) (by omega) (by omega)
  have e4 := ju4 (x := v) (by omega) (by omega)
  have e5 := ju1 (x := v / 16) (by omega) (by omega)
  have e6 := ju2 (x := v / 16) (by omega) (by omega)
  have e7 := ju1 (x := v / 16 / 4) (by omega) (by omega)
  have e8 := ju8 (x := v) (by omega) (by omega)
  have e9 := ju1 (x := v / 256) (by omega) (by omega)
  have e10 := ju2 (x := v / 256) (by omega) (by omega)
  have e11 := ju1 (x := v / 256 / 4) (by omega) (by omega)
  have e12 := ju4 (x := v / 256) (by omega) (by omega)
  have lf : ∀ r : Int, (r = 31 ∧ 1 ≤ v ∧ v < 2) ∨ (r = 30 ∧ 2 ≤ v ∧ v < 4) ∨ (r = 29 ∧ 4 ≤ v ∧ v < 8) ∨ (r = 28 ∧ 8 ≤ v ∧ v < 16) ∨ (r = 27 ∧ 16 ≤ v ∧ v < 32) ∨ (r = 26 ∧ 32 ≤ v ∧ v < 64) ∨ (r = 25 ∧ 64 ≤ v ∧ v < 128) ∨ (r = 24 ∧ 128 ≤ v ∧ v < 256) ∨ (r = 23 ∧ 256 ≤ v ∧ v < 512) ∨ (r = 22 ∧ 512 ≤ v ∧ v < 1024) ∨ (r = 21 ∧ 1024 ≤ v ∧ v < 2048) ∨ (r = 20 ∧ 2048 ≤ v ∧ v < 4096) → Q r M := by
    intro r hr
    rcases hr with ⟨rfl, a, b⟩ | ⟨rfl, a, b⟩ | ⟨rfl, a, b⟩ | ⟨rfl, a, b⟩ | ⟨rfl, a, b⟩ | ⟨rfl, a, b⟩ | ⟨rfl, a, b⟩ | ⟨rfl, a, b⟩ | ⟨rfl, a, b⟩ | ⟨rfl, a, b⟩ | ⟨rfl, a, b⟩ | ⟨rfl, a, b⟩
    · exact q 0 ⟨by decide, a, b⟩
    · exact q 1 ⟨by decide, a, b⟩
    · exact q 2 ⟨by decide, a, b⟩
    · exact q 3 ⟨by decide, a, b⟩
    · exact q 4 ⟨by decide, a, b⟩
    · exact q 5 ⟨by decide, a, b⟩
    · exact q 6 ⟨by decide, a, b⟩
    · exact q 7 ⟨by decide, a, b⟩
    · exact q 8 ⟨by decide, a, b⟩
    · exact q 9 ⟨by decide, a, b⟩
    · exact q 10 ⟨by decide, a, b⟩
    · exact q 11 ⟨by decide, a, b⟩
  refine i_J_numberOfLeadingZeros (b_J_numberOfLeadingZeros_0 (by omega) (bt h0 (bt (by omega) ?_)))
  rw [e1, e2, e3, e4, e5, e6, e7, e8, e9, e10, e11, e12]
  exact ⟨fun c => ⟨fun c2 => ⟨fun c3 => ⟨by omega, lf _ (by omega)⟩, fun c3 => ⟨by omega, lf _ (by omega)⟩⟩, fun c2 => ⟨fun c3 => ⟨by omega, lf _ (by omega)⟩, fun c3 => ⟨by omega, lf _ (by omega)⟩⟩⟩, fun c => ⟨fun c2 => ⟨fun c3 => ⟨by omega, lf _ (by omega)⟩, fun c3 => ⟨by omega, lf _ (by omega)⟩⟩, fun c2 => by omega⟩⟩
theorem k_Sr_float {Q : Int → Mem → Prop} {v : Int} (h0 : 0 ≤ v) (h1 : v < 4096) (q0 : v = 0 → Q 0 M) (q : ∀ t : Nat, hiB v t → Q (fltV v t) M) : K_Sr_floatBitsOfMean g n v M Q := by
  refine i_Sr_floatBitsOfMean (b_Sr_floatBitsOfMean_0 (by omega) ⟨fun c => k_J_nlz c h1 (fun t ht _ _ => ?_), fun c => q0 (by omega)⟩)
  have := q t ht
  unfold fltV at this
  rw [jxor_hi ht] at this
  rw [show (31 - (31 - (t : Int))) = t by omega]
  exact this
theorem hiB_uniq {v : Int} {t u : Nat} (ht : hiB v t) (hu : hiB v u) : t = u := by
  have key : ∀ a b : Nat, hiB v a → hiB v b → ¬ a < b := fun a b ha hb hlt => by
    have h1 : (2 : Int) ^ (a + 1) ≤ 2 ^ b := by
      have : (2 : Nat) ^ (a + 1) ≤ 2 ^ b := Nat.pow_le_pow_right (by decide) hlt
      have h2 : (((2 : Nat) ^ (a + 1) : Nat) : Int) ≤ ((2 ^ b : Nat) : Int) := by omega
      simpa using h2
    have := ha.2.2
    have := hb.2.1
    omega
  have h1 := key t u ht hu
  have h2 := key u t hu ht
  omega
theorem k_Mo_floats {Q : Int → Mem → Prop} {v : Int} (h0 : 0 ≤ v) (h1 : v < 4096) (q0 : v = 0 → Q 0 M) (q : ∀ t : Nat, hiB v t → Q (fltV v t) M) : K_Mo_floats g v M Q := by
  refine i_Mo_floats (b_Mo_floats_0 (by omega) ⟨fun c => ?_, fun c => q0 c⟩)
  have loop : ∀ (w i : Nat), i + w = 11 → (2 : Int) ^ i ≤ v → P_Mo_floats g 8 [(0, vi v), (1, vi (i : Int))] [] M Q := by
    intro w
    induction w with
    | zero =>
      intro i hi hp
      have hi' : i = 11 := by omega
      subst hi'
      refine b_Mo_floats_8 (by omega) (by omega) ?_
      rw [jshrN (k := 11) (by omega) (by omega) (by decide)]
      refine bt ?_ (q 11 ⟨by omega, hp, by simpa using h1⟩)
      have : (2 : Int) ^ 11 = 2048 := by decide
      rw [this]
      omega
    | succ w ih =>
      intro i hi hp
      refine b_Mo_floats_8 (by omega) (by omega) ?_
      rw [jshrN (by omega) (by omega) (by omega)]
      have hpos : (0 : Int) < 2 ^ i := Int.pow_pos (by decide)
      have e3 : (2 : Int) ^ (i + 1) = 2 ^ i * 2 := Int.pow_succ 2 i
      refine ⟨fun c2 => q i ⟨by omega, hp, ?_⟩, fun c2 => ?_⟩
      · rw [e3]
        have := Int.lt_mul_of_ediv_lt hpos (show v / 2 ^ i < 2 by omega)
        rw [Int.mul_comm]
        exact this
      · have := ih (i + 1) (by omega) (by rw [e3]; have := Int.mul_le_of_le_ediv hpos (show 2 ≤ v / 2 ^ i by omega); rw [Int.mul_comm]; exact this)
        exact this
  exact loop 11 0 (by omega) (by show (1 : Int) ≤ v; omega)
theorem prod_bd {x s : Int} (hx : InR x) (h0 : 0 ≤ s) (h1 : s ≤ 2816) : -9223372036854775808 ≤ x * s ∧ x * s ≤ 9223372036854775807 := by
  have a1 : x * s ≤ 2147483647 * s := Int.mul_le_mul_of_nonneg_right hx.2 h0
  have a2 : -2147483648 * s ≤ x * s := Int.mul_le_mul_of_nonneg_right hx.1 h0
  omega
theorem jcmp_le {x z : Int} : jcmp x z ≤ 0 ↔ x ≤ z := by
  unfold jcmp
  by_cases h : z < x
  · rw [if_pos h]; omega
  · rw [if_neg h]
    by_cases h2 : x = z
    · rw [if_pos h2]; omega
    · rw [if_neg h2]; omega
theorem j_lookups {p0 p1 p2 p3 : Int} (hR : Rel M) (h0 : InR p0) (h1 : InR p1) (h2 : InR p2) (h3 : InR p3) : K_Sr_lookups g 33 p0 p1 p2 p3 M (fun r M1 => WT M1 → K_Mo_lookups g p0 p1 p2 p3 M1 (fun r' M2 => WT M2 → r = r' ∧ Rel M2)) := by
  have hn := hR.names
  have hs := hR.size
  have hwf := hR.wf
  have bad : (p0 < 0 ∨ gI M 530 2 ≤ p0 ∨ p1 < 0 ∨ 16 ≤ p1 ∨ p3 < 0 ∨ 1 < p3 ∨ (p3 = 0 ∧ p2 < 0)) → K_Mo_lookups g p0 p1 p2 p3 M (fun r' M2 => WT M2 → -1 = r' ∧ Rel M2) := fun hb =>
    i_Mo_lookups (b_Mo_lookups_0 h0 h1 h2 h3 (k_Mo_isName h0 (by omega) (by omega) (fun _ _ _ _ => bz1 (k_Mo_isIn h1 (by omega) (by omega) (fun _ _ _ _ => bz1 (k_Mo_isIn h3 (by omega) (by omega) (fun _ _ _ _ => bz1 ⟨fun z => by omega, fun z => bf (by omega) (fun _ => ⟨rfl, hR⟩)⟩) (fun _ _ _ => bz0 (fun _ => ⟨rfl, hR⟩)))) (fun _ _ _ => bz0 (fun _ => ⟨rfl, hR⟩)))) (fun _ _ _ => bz0 (fun _ => ⟨rfl, hR⟩))))
  refine i_Sr_lookups (w_wt (fun hw => ?_))
  have main : ∀ o : Nat, p0 = o → (o : Int) < gI M 530 2 → 0 ≤ p1 → p1 < 16 → (p3 = 1 ∨ (p3 = 0 ∧ 0 ≤ p2)) → P_Sr_lookups g 33 43 [(0, vr g 0), (1, vi p0), (2, vi p1), (3, vi p2), (4, vi p3), (5, vi 0), (6, vi 0)] [] M (fun r M1 => WT M1 → K_Mo_lookups g p0 p1 p2 p3 M1 (fun r' M2 => WT M2 → r = r' ∧ Rel M2)) := by
    intro o eo ho a1 b1 h32
    subst eo
    have mo : ∀ (N : Mem) (Q : Int → Mem → Prop), RwE M N → (∀ M' : Mem, FrI scM N M' → (p3 = 0 → 2147483647 < p2 * sumL M o p1 256 → Q (-3) M') ∧ (p3 = 0 → p2 * sumL M o p1 256 ≤ 2147483647 → Q (p2 * sumL M o p1 256) M') ∧ (p3 = 1 → sumL M o p1 256 = 0 → Q 0 M') ∧ (p3 = 1 → ∀ t, hiB (sumL M o p1 256) t → Q (fltV (sumL M o p1 256) t) M')) → K_Mo_lookups g o p1 p2 p3 N Q := by
      intro N Q hrw q
      have hwfN := hwf.fr hrw
      have n2 : gI N 530 2 = gI M 530 2 := hrw.1
      have loop : ∀ (w i : Nat) (M1 : Mem), i + w = 256 → FrI scM N M1 → P_Mo_lookups g 45 [(0, vr g 530), (1, vi (o : Int)), (2, vi p1), (3, vi p2), (4, vi p3), (5, vi (sumL M o p1 i)), (6, vi (i : Int))] [] M1 Q := by
        intro w
        induction w with
        | zero =>
          intro i M1 hi hF
          have hb := sumL_bd hwf ho p1 i
          have hi' : i = 256 := by omega
          subst hi'
          obtain ⟨q1, q2, q3, q4⟩ := q M1 hF
          refine b_Mo_lookups_45 h0 h1 h2 h3 (by omega) (by omega) (bt (by omega) ⟨fun c => ?_, fun c => ?_⟩)
          · have c0 : p3 = 0 := by omega
            rw [Int.mul_comm, jcmp_le]
            have pb := prod_bd h2 hb.1 (by omega)
            refine ⟨pb, fun c2 => ⟨⟨?_, c2⟩, q2 c0 c2⟩, fun c2 => q1 c0 (by omega)⟩
            have : 0 ≤ p2 * sumL M o p1 256 := Int.mul_nonneg (by omega) hb.1
            omega
          · exact k_Mo_floats (by omega) (by omega) (fun z _ _ => q3 c z) (fun t ht _ _ => q4 c t ht)
        | succ w ih =>
          intro i M1 hi hF
          have hb := sumL_bd hwf ho p1 i
          have hr1 := scM_rw hF
          refine b_Mo_lookups_45 h0 h1 h2 h3 (by omega) (by omega) (bf (by omega) (k_Mo_goes (hwfN.fr hr1) (by rw [hr1.1]; omega) (by omega) (by omega) (fun M2 hF2 t39 _ _ _ _ _ => ?_)))
          have := ih (i + 1) M2 (by omega) (hF.tr hF2)
          unfold sumL at this
          rw [sumF] at this
          rw [t39, evT_fr hr1, evT_fr hrw]
          exact this
      have st := loop 256 0 N (by omega) (FrI.rf N)
      exact i_Mo_lookups (b_Mo_lookups_0 h0 h1 h2 h3 (k_Mo_isName h0 (by omega) (by omega) (fun _ _ _ _ => bz1 (k_Mo_isIn h1 (by omega) (by omega) (fun _ _ _ _ => bz1 (k_Mo_isIn h3 (by omega) (by omega) (fun _ _ _ _ => bz1 ⟨fun z => st, fun z => bt (by omega) st⟩) (fun _ => by omega))) (fun _ => by omega))) (fun _ => by omega)))
    have loop : ∀ (w i : Nat) (M1 : Mem), i + w = 256 → FrV M M1 → P_Sr_lookups g 33 43 [(0, vr g 0), (1, vi (o : Int)), (2, vi p1), (3, vi p2), (4, vi p3), (5, vi (sumL M o p1 i)), (6, vi (i : Int))] [] M1 (fun r M1 => WT M1 → K_Mo_lookups g o p1 p2 p3 M1 (fun r' M2 => WT M2 → r = r' ∧ Rel M2)) := by
      intro w
      induction w with
      | zero =>
        intro i M1 hi hV
        have hb := sumL_bd hwf ho p1 i
        have hi' : i = 256 := by omega
        subst hi'
        have hR1 := hV.rel hR hw
        refine b_Sr_lookups_43 h0 h1 h2 h3 (by omega) (by omega) (bt (by omega) ⟨fun c => ?_, fun c => ?_⟩)
        · have c0 : p3 = 0 := by omega
          have pb := prod_bd h2 hb.1 (by omega)
          rw [jcmp_le]
          refine ⟨pb, fun c2 => ⟨⟨?_, c2⟩, fun hw1 => mo M1 _ hV.rw (fun M2 hF => ⟨fun _ z => by omega, fun _ _ _ => ⟨rfl, scM_rel hF hR1 hw1⟩, fun z => by omega, fun z => by omega⟩)⟩, fun c2 hw1 => mo M1 _ hV.rw (fun M2 hF => ⟨fun _ _ _ => ⟨rfl, scM_rel hF hR1 hw1⟩, fun _ z => by omega, fun z => by omega, fun z => by omega⟩)⟩
          have : 0 ≤ p2 * sumL M o p1 256 := Int.mul_nonneg (by omega) hb.1
          omega
        · refine k_Sr_float (by omega) (by omega) (fun z _ _ hw1 => mo M1 _ hV.rw (fun M2 hF => ⟨fun _ => by omega, fun _ => by omega, fun _ _ _ => ⟨rfl, scM_rel hF hR1 hw1⟩, fun _ u hu => ?_⟩)) (fun t ht _ _ hw1 => mo M1 _ hV.rw (fun M2 hF => ⟨fun _ => by omega, fun _ => by omega, fun _ z => ?_, fun _ u hu _ => ⟨?_, scM_rel hF hR1 hw1⟩⟩))
          · have := hu.2.1
            have hpos : (0 : Int) < 2 ^ u := Int.pow_pos (by decide)
            omega
          · have := ht.2.1
            have hpos : (0 : Int) < 2 ^ t := Int.pow_pos (by decide)
            omega
          · rw [hiB_uniq ht hu]
      | succ w ih =>
        intro i M1 hi hV
        have hb := sumL_bd hwf ho p1 i
        have hR1 := hV.rel hR hw
        have n2 := hV.rw.1
        refine b_Sr_lookups_43 h0 h1 h2 h3 (by omega) (by omega) (bf (by omega) ⟨hR1.pres, k_Ev_evaluate hR1 (by omega) (by omega) (by omega) (fun M2 hV2 _ _ t4 _ _ _ _ _ => ?_)⟩)
        have := ih (i + 1) M2 (by omega) (hV.tr hV2)
        unfold sumL at this
        rw [sumF] at this
        rw [t4, evT_fr hV.rw]
        exact this
    exact loop 256 0 M (by omega) (FrV.rf M)
  refine b_Sr_lookups_0 h0 h1 h2 h3 (k_Sr_isKnown h0 hR.pres (fun a0 b0 _ _ => bz1 (k_Sr_isLetter h1 (fun a1 b1 _ _ => bz1 ⟨fun z _ => bad (by omega), fun z => ⟨fun z2 _ => bad (by omega), fun z2 => ⟨fun z3 => ?_, fun z3 => ⟨fun z4 => ?_, fun z4 _ => bad (by omega)⟩⟩⟩⟩) (fun z _ _ => bz0 (fun _ => bad (by omega))))) (fun z _ _ => bz0 (fun _ => bad (by omega))))
  · exact main p0.toNat (by omega) (by omega) a1 b1 (by omega)
  · exact main p0.toNat (by omega) (by omega) a1 b1 (by omega)
end LK
