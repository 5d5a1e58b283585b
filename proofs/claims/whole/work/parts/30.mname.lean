/-! ===== the model's macroName ===== -/
/-- a part of a rule that is well formed -/
def okP (p : Int) : Prop := 0 ≤ p ∧ p < 256
theorem srcT_len {M : Mem} {o m : Nat} {a l p : Int} (vo : ∃ n, vcode (gI M 532 o) n) (vm : ∃ n, vcode (gI M 532 m) n) : 1 ≤ (srcT M o a l m p).length ∧ (srcT M o a l m p).length ≤ 7 := by
  obtain ⟨n, hn⟩ := vo
  obtain ⟨n', hn'⟩ := vm
  unfold srcT
  split
  · simp
  · split
    · rw [List.length_reverse, revl_len, lenF_of hn']; exact ⟨hn'.2.2.1, hn'.2.2.2.1⟩
    · split
      · rw [List.length_reverse, revl_len, lenF_of hn]; exact ⟨hn.2.2.1, hn.2.2.2.1⟩
      · split <;> simp
theorem okL_rev {s : List Int} (h : okL s) : okL s.reverse := fun x hx => h x (List.mem_reverse.mp hx)
theorem srcT_ok {M : Mem} {o m : Nat} {a l p : Int} (hp : 0 ≤ p) (hl : 0 ≤ l ∧ l ≤ 15) (vo : ∃ n, vcode (gI M 532 o) n) (vm : ∃ n, vcode (gI M 532 m) n) : okL (srcT M o a l m p) := by
  obtain ⟨n, hn⟩ := vo
  obtain ⟨n', hn'⟩ := vm
  unfold srcT
  split
  · exact okL_cons (by omega) okL_nil
  · split
    · exact okL_rev (revl_ok hn')
    · split
      · exact okL_rev (revl_ok hn)
      · split
        · exact okL_cons (by omega) (okL_cons (by omega) (okL_cons (by omega) (okL_cons (by omega) okL_nil)))
        · exact okL_cons hl okL_nil
theorem turnT_len (p : Int) (t : List Int) : (turnT p t).length = t.length := by unfold turnT; split <;> simp
theorem turnT_ok {p : Int} {t : List Int} (h : okL t) : okL (turnT p t) := by unfold turnT; split <;> first | exact okL_rev h | exact h
theorem okL_drop {s : List Int} (k : Nat) (h : okL s) : okL (s.drop k) := fun x hx => h x (List.mem_of_mem_drop hx)
theorem prtT_ok {M : Mem} {o m : Nat} {a l p : Int} (hp : 0 ≤ p) (hl : 0 ≤ l ∧ l ≤ 15) (vo : ∃ n, vcode (gI M 532 o) n) (vm : ∃ n, vcode (gI M 532 m) n) : okL (prtT M o a l m p) := okL_drop _ (turnT_ok (srcT_ok hp hl vo vm))
theorem macT_ok {M : Mem} {o m r : Nat} {a l : Int} (hl : 0 ≤ l ∧ l ≤ 15) (vo : ∃ n, vcode (gI M 532 o) n) (vm : ∃ n, vcode (gI M 532 m) n) : ∀ k : Nat, (∀ j, j < k → 0 ≤ gI M 542 (8 * r + j)) → okL (macT M o a l m r k)
  | 0, _ => okL_nil
  | k + 1, h => okL_app (macT_ok hl vo vm k (fun j hj => h j (by omega))) (prtT_ok (h k (by omega)) hl vo vm)
theorem srcT_fr {M M1 : Mem} {o m : Nat} {a l p : Int} (h : ∀ k, gI M1 532 k = gI M 532 k) : srcT M1 o a l m p = srcT M o a l m p := by unfold srcT; rw [h, h]
section MN
variable {g : Ctx} {M : Mem}
/-- the letters of one part are put behind the name -/
theorem mn_inner {Q : Int → Mem → Prop} {r k : Nat} {x5 : Int} {src : List Int} (hr : r < 96) (hk : k < 8) (hx5 : x5 = 0 ∨ x5 = 1) (hL : LtIs M src) (h7 : src.length ≤ 7) (hs : okL src) :
    ∀ (w i : Nat) (s : List Int), i + w = src.length → okL s → P_Mo_macroName g 4 [(0, vr g 530), (1, vi (r : Int)), (2, vi (enc7 7 (s ++ (if x5 = 0 then src else src.reverse).drop i).reverse)), (3, vi ((k : Int) + 1))] [] M Q → P_Mo_macroName g 109 [(0, vr g 530), (1, vi (r : Int)), (2, vi (enc7 7 s.reverse)), (3, vi (k : Int)), (5, vi x5), (8, vi (i : Int))] [] M Q := by
  intro w
  induction w with
  | zero =>
    intro i s hi ho h
    have hb := enc7_bd 7 s.reverse (okL_rev ho)
    refine b_Mo_macroName_109 (by omega) (by omega) (by omega) (by omega) (by omega) (bt (by rw [hL.1]; omega) ?_)
    have hdl : (if x5 = 0 then src else src.reverse).length ≤ i := by
      split
      · omega
      · rw [List.length_reverse]; omega
    rw [List.drop_of_length_le hdl, List.append_nil] at h
    exact h
  | succ w ih =>
    intro i s hi ho h
    have hb := enc7_bd 7 s.reverse (okL_rev ho)
    refine b_Mo_macroName_109 (by omega) (by omega) (by omega) (by omega) (by omega) (bf (by rw [hL.1]; omega) ⟨fun c5 => ⟨by omega, ?_⟩, fun c5 => ⟨by rw [hL.1]; omega, ?_⟩⟩)
    · rw [if_pos c5] at h
      have hlt : i < src.length := by omega
      have ex : gI M 562 i = src[i] := hL.2 i _ (List.getElem?_eq_getElem hlt)
      have hx := hs src[i] (List.getElem_mem hlt)
      rw [Int.toNat_natCast, ex]
      refine k_Mo_longer hb.1 (by simpa using hb.2) hx.1 hx.2 (fun _ _ => ?_)
      rw [enc7_shift _ _ (okL_rev ho), ← List.reverse_concat]
      refine ih (i + 1) (s ++ [src[i]]) (by omega) (by exact okL_app ho (okL_cons hx okL_nil)) ?_
      rw [if_pos c5, List.append_assoc, List.singleton_append, ← List.drop_eq_getElem_cons hlt]
      exact h
    · rw [if_neg c5] at h
      have hlt : i < src.reverse.length := by simp; omega
      have hlt2 : src.length - 1 - i < src.length := by omega
      have ee : src.reverse[i] = src[src.length - 1 - i] := List.getElem_reverse hlt
      have ex : gI M 562 (src.length - 1 - i) = src[src.length - 1 - i] := hL.2 _ _ (List.getElem?_eq_getElem hlt2)
      have hx := hs src[src.length - 1 - i] (List.getElem_mem hlt2)
      rw [hL.1, show ((src.length : Int) - 1 - (i : Int)).toNat = src.length - 1 - i by omega, ex]
      refine k_Mo_longer hb.1 (by simpa using hb.2) hx.1 hx.2 (fun _ _ => ?_)
      rw [enc7_shift _ _ (okL_rev ho), ← List.reverse_concat]
      refine ih (i + 1) (s ++ [src[src.length - 1 - i]]) (by omega) (by exact okL_app ho (okL_cons hx okL_nil)) ?_
      rw [if_neg c5, List.append_assoc, List.singleton_append, ← ee, ← List.drop_eq_getElem_cons hlt]
      exact h
theorem k_Mo_macroName {Q : Int → Mem → Prop} {o m r : Nat} {a l : Int} (hr : r < 96) (hn : 0 ≤ gI M 541 r ∧ gI M 541 r ≤ 8) (hp : ∀ j : Nat, (j : Int) < gI M 541 r → okP (gI M 542 (8 * r + j))) (ha : 0 ≤ a ∧ a < 256) (hl : 0 ≤ l ∧ l ≤ 15) (eo : gI M 530 36 = o) (ea : gI M 530 37 = a) (el : gI M 530 38 = l) (hd : 1 ≤ gI M 530 45 ∧ gI M 530 45 ≤ 12) (em : gI M 560 (gI M 530 45 - 1).toNat = m) (ho : o < 12) (hm : m < 12) (vo : ∃ n, vcode (gI M 532 o) n) (vm : ∃ n, vcode (gI M 532 m) n) (h : ∀ M' : Mem, FrI mLt M M' → Q (enc7 7 (macT M o a l m r (gI M 541 r).toNat).reverse) M') : K_Mo_macroName g r M Q := by
  refine i_Mo_macroName (b_Mo_macroName_0 (by omega) ?_)
  have loop : ∀ (w k : Nat) (M1 : Mem), (k : Int) + w = gI M 541 r → FrI mLt M M1 → P_Mo_macroName g 4 [(0, vr g 530), (1, vi (r : Int)), (2, vi (enc7 7 (macT M o a l m r k).reverse)), (3, vi (k : Int))] [] M1 Q := by
    intro w
    induction w with
    | zero =>
      intro k M1 hk hF
      have hok : okL (macT M o a l m r k) := macT_ok hl vo vm k (fun j hj => (hp j (by omega)).1)
      have hb := enc7_bd 7 _ (okL_rev hok)
      have e41 : gI M1 541 r = gI M 541 r := hF.i (by unfold mLt; omega)
      refine b_Mo_macroName_4 (by omega) (by omega) (by omega) ⟨by omega, bt (by rw [Int.toNat_natCast, e41]; omega) ?_⟩
      have := h M1 hF
      rw [show (gI M 541 r).toNat = k by omega] at this
      exact this
    | succ w ih =>
      intro k M1 hk hF
      have hok : okL (macT M o a l m r k) := macT_ok hl vo vm k (fun j hj => (hp j (by omega)).1)
      have hb := enc7_bd 7 _ (okL_rev hok)
      have e41 : gI M1 541 r = gI M 541 r := hF.i (by unfold mLt; omega)
      have e42 : gI M1 542 (8 * r + k) = gI M 542 (8 * r + k) := hF.i (by unfold mLt; omega)
      have e32 : ∀ j, gI M1 532 j = gI M 532 j := fun j => hF.i (by unfold mLt; omega)
      have e45 : gI M1 530 45 = gI M 530 45 := hF.i (by unfold mLt; omega)
      have e60 : ∀ j, gI M1 560 j = gI M 560 j := fun j => hF.i (by unfold mLt; omega)
      have hpk := hp k (by omega)
      refine b_Mo_macroName_4 (by omega) (by omega) (by omega) ⟨by omega, bf (by rw [Int.toNat_natCast, e41]; omega) ⟨by omega, ?_⟩⟩
      rw [show (8 * (r : Int) + (k : Int)).toNat = 8 * r + k by omega, e42]
      generalize ep : gI M 542 (8 * r + k) = p at hpk
      have hp0 := hpk.1
      have hp1 := hpk.2
      refine k_Mo_spellsPart (o := o) (m := m) (a := a) (l := l) hpk.1 hpk.2 ha (by rw [hF.i (by unfold mLt; omega)]; exact eo) (by rw [hF.i (by unfold mLt; omega)]; exact ea) (by rw [hF.i (by unfold mLt; omega)]; exact el) (by rw [e45]; exact hd) (by rw [e45, e60]; exact em) ho hm (by rw [e32]; exact vo) (by rw [e32]; exact vm) (fun M2 hF2 hL _ => ?_)
      rw [srcT_fr e32] at hL
      have hsl := srcT_len (a := a) (l := l) (p := p) vo vm
      have hso := srcT_ok (a := a) (p := p) hpk.1 hl vo vm
      have nx := ih (k + 1) M2 (by omega) (hF.tr hF2)
      rw [macT, ep] at nx
      have fin : ∀ x5 : Int, (x5 = 0 ∨ x5 = 1) → (x5 = 1 ↔ isTu p = true) → P_Mo_macroName g 109 [(0, vr g 530), (1, vi (r : Int)), (2, vi (enc7 7 (macT M o a l m r k).reverse)), (3, vi (k : Int)), (5, vi x5), (8, vi ((dropN p (srcT M o a l m p).length : Nat) : Int))] [] M2 Q := by
        intro x5 hx5 ht
        refine mn_inner (src := srcT M o a l m p) hr (by omega) hx5 hL hsl.2 hso ((srcT M o a l m p).length - dropN p (srcT M o a l m p).length) _ _ (by unfold dropN; split <;> omega) hok ?_
        have et : (if x5 = 0 then srcT M o a l m p else (srcT M o a l m p).reverse) = turnT p (srcT M o a l m p) := by
          unfold turnT
          by_cases q : isTu p = true
          · rw [if_pos q, if_neg (by have := ht.mpr q; omega)]
          · rw [if_neg q, if_pos (by rcases hx5 with e | e; exact e; exact absurd (ht.mp e) q)]
        rw [et]
        exact nx
      have eT : (isTu p = true) ↔ (16 ≤ p ∧ p / 4 % 2 = 1) := by unfold isTu; exact decide_eq_true_iff
      have eJ : jand (p / 4) 1 = p / 4 % 2 := jand1 (by omega) (by omega)
      have eL := hL.1
      refine ⟨fun c => bt c ?_, fun c => ⟨hpk.1, fun c2 => bf c ⟨by omega, by omega, by omega, fun c3 => ?_, fun c3 => ⟨fun c4 => ?_, fun c4 => ?_⟩⟩, fun c2 => bf c ⟨by omega, by omega, by omega, fun c3 => ?_, fun c3 => ⟨fun c4 => ?_, fun c4 => ?_⟩⟩⟩⟩
      · have := fin 0 (Or.inl rfl) (by rw [eT]; omega)
        rw [show dropN p (srcT M o a l m p).length = 0 by unfold dropN figN; rw [if_neg (by omega : ¬ 16 ≤ p)]; rfl] at this
        exact this
      · have := fin 0 (Or.inl rfl) (by rw [eT]; omega)
        rw [show dropN p (srcT M o a l m p).length = 0 by unfold dropN figN; rw [if_pos (by omega : 16 ≤ p), if_neg (by omega)]] at this
        exact this
      · have := fin 0 (Or.inl rfl) (by rw [eT]; omega)
        rw [show dropN p (srcT M o a l m p).length = 0 by unfold dropN figN; rw [if_pos (by omega : 16 ≤ p), if_neg (by omega)]] at this
        exact this
      · have := fin 0 (Or.inl rfl) (by rw [eT]; omega)
        rw [show ((dropN p (srcT M o a l m p).length : Nat) : Int) = gI M2 530 47 - (p - 16) / 8 by unfold dropN figN; rw [if_pos (by omega : 16 ≤ p), if_pos (by omega), eL]; omega] at this
        exact this
      · have := fin 1 (Or.inr rfl) (by rw [eT]; omega)
        rw [show dropN p (srcT M o a l m p).length = 0 by unfold dropN figN; rw [if_pos (by omega : 16 ≤ p), if_neg (by omega)]] at this
        exact this
      · have := fin 1 (Or.inr rfl) (by rw [eT]; omega)
        rw [show dropN p (srcT M o a l m p).length = 0 by unfold dropN figN; rw [if_pos (by omega : 16 ≤ p), if_neg (by omega)]] at this
        exact this
      · have := fin 1 (Or.inr rfl) (by rw [eT]; omega)
        rw [show ((dropN p (srcT M o a l m p).length : Nat) : Int) = gI M2 530 47 - (p - 16) / 8 by unfold dropN figN; rw [if_pos (by omega : 16 ≤ p), if_pos (by omega), eL]; omega] at this
        exact this
  have := loop (gI M 541 r).toNat 0 M (by omega) (FrI.rf M)
  exact this
end MN
