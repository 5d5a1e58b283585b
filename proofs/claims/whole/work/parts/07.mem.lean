theorem sRec {b : Nat} (h : isRec b) : shp b = .inl (8, [some (some (b + 1)), none]) := by rcases h with rfl | rfl <;> rfl
theorem sRec1 {b : Nat} (h : isRec b) : shp (b + 1) = .inr (3, 12) := by rcases h with rfl | rfl <;> rfl
theorem shp_d {d c : Nat} (h : isDom d) (hc : c < 21) : shp (d + c) = shpDom d c := by
  obtain ⟨b, q, hb, hq, rfl⟩ := h
  rcases hb with rfl | rfl
  · have e1 : ¬ (4 + 2 + 21 * q + c < 4) := by omega
    have e2 : 4 + 2 + 21 * q + c < 258 := by omega
    have e3 : ¬ (4 + 2 + 21 * q + c - 4 = 0) := by omega
    have e4 : ¬ (4 + 2 + 21 * q + c - 4 = 1) := by omega
    have e5 : (4 + 2 + 21 * q + c - 4 - 2) / 21 = q := by omega
    have e6 : (4 + 2 + 21 * q + c - 4 - 2) % 21 = c := by omega
    rw [shp, if_neg e1, if_pos e2, shpRec, if_neg e3, if_neg e4, e5, e6]
  · have e1 : ¬ (276 + 2 + 21 * q + c < 4) := by omega
    have e2 : ¬ (276 + 2 + 21 * q + c < 258) := by omega
    have e2b : ¬ (276 + 2 + 21 * q + c < 276) := by omega
    have e2c : 276 + 2 + 21 * q + c < 530 := by omega
    have e3 : ¬ (276 + 2 + 21 * q + c - 276 = 0) := by omega
    have e4 : ¬ (276 + 2 + 21 * q + c - 276 = 1) := by omega
    have e5 : (276 + 2 + 21 * q + c - 276 - 2) / 21 = q := by omega
    have e6 : (276 + 2 + 21 * q + c - 276 - 2) % 21 = c := by omega
    rw [shp, if_neg e1, if_neg e2, if_neg e2b, if_pos e2c, shpRec, if_neg e3, if_neg e4, e5, e6]
theorem sDom {d : Nat} (h : isDom d) : shp d = .inl (1, [none, some (some (d + 1)), none, none, some (some (d + 2)), none, none, some (some (d + 3)), none, some (some (d + 4)), none]) := shp_d (c := 0) h (by decide)
theorem sDom1 {d : Nat} (h : isDom d) : shp (d + 1) = .inr (0, 7) := shp_d (c := 1) h (by decide)
theorem sDom2 {d : Nat} (h : isDom d) : shp (d + 2) = .inr (2, 8) := shp_d (c := 2) h (by decide)
theorem sDom3 {d : Nat} (h : isDom d) : shp (d + 3) = .inr (0, 4) := shp_d (c := 3) h (by decide)
theorem sDom4 {d : Nat} (h : isDom d) : shp (d + 4) = .inr (0, 3) := shp_d (c := 4) h (by decide)
theorem sRul {r : Nat} (h : isRul r) : shp r = .inl (9, [none, none, none, none, none, some (some (r + 1)), none]) := by
  obtain ⟨d, i, hd, hi, rfl⟩ := h
  have e := shp_d (c := 5 + 2 * i) hd (by omega)
  rw [show d + 5 + 2 * i = d + (5 + 2 * i) by omega, e]
  rcases (show i = 0 ∨ i = 1 ∨ i = 2 ∨ i = 3 ∨ i = 4 ∨ i = 5 ∨ i = 6 ∨ i = 7 by omega) with rfl | rfl | rfl | rfl | rfl | rfl | rfl | rfl <;> rfl
theorem sRul1 {r : Nat} (h : isRul r) : shp (r + 1) = .inr (0, 8) := by
  obtain ⟨d, i, hd, hi, rfl⟩ := h
  have e := shp_d (c := 6 + 2 * i) hd (by omega)
  rw [show d + 5 + 2 * i + 1 = d + (6 + 2 * i) by omega, e]
  rcases (show i = 0 ∨ i = 1 ∨ i = 2 ∨ i = 3 ∨ i = 4 ∨ i = 5 ∨ i = 6 ∨ i = 7 by omega) with rfl | rfl | rfl | rfl | rfl | rfl | rfl | rfl <;> rfl
theorem sKc {k : Nat} (h : isKc k) : shp k = .inl (4, [some (some (k + 1))]) := by
  obtain ⟨i, hi, rfl⟩ := h
  rcases (show i = 0 ∨ i = 1 ∨ i = 2 ∨ i = 3 by omega) with rfl | rfl | rfl | rfl <;> rfl
theorem sKc1 {k : Nat} (h : isKc k) : shp (k + 1) = .inr (0, 8) := by
  obtain ⟨i, hi, rfl⟩ := h
  rcases (show i = 0 ∨ i = 1 ∨ i = 2 ∨ i = 3 by omega) with rfl | rfl | rfl | rfl <;> rfl
theorem sCh {k : Nat} (h : isCh k) : shp k = .inl (0, [none, none, none, none]) := by
  obtain ⟨i, hi, rfl⟩ := h
  rcases (show i = 0 ∨ i = 1 ∨ i = 2 ∨ i = 3 by omega) with rfl | rfl | rfl | rfl <;> rfl
theorem sMk {k : Nat} (h : isMk k) : shp k = .inl (6, [none, none]) := by rcases h with rfl | rfl <;> rfl
theorem bRec {b N : Nat} (h : isRec b) (hN : 530 ≤ N) : b < N := by rcases h with rfl | rfl <;> omega
theorem bRec1 {b N : Nat} (h : isRec b) (hN : 530 ≤ N) : b + 1 < N := by rcases h with rfl | rfl <;> omega
theorem bDc {d N c : Nat} (h : isDom d) (hc : c < 21) (hN : 530 ≤ N) : d + c < N := by obtain ⟨b, q, hb, hq, rfl⟩ := h; rcases hb with rfl | rfl <;> omega
theorem bDom {d N : Nat} (h : isDom d) (hN : 530 ≤ N) : d < N := bDc (c := 0) h (by decide) hN
theorem bDom1 {d N : Nat} (h : isDom d) (hN : 530 ≤ N) : d + 1 < N := bDc h (by decide) hN
theorem bDom2 {d N : Nat} (h : isDom d) (hN : 530 ≤ N) : d + 2 < N := bDc h (by decide) hN
theorem bDom3 {d N : Nat} (h : isDom d) (hN : 530 ≤ N) : d + 3 < N := bDc h (by decide) hN
theorem bDom4 {d N : Nat} (h : isDom d) (hN : 530 ≤ N) : d + 4 < N := bDc h (by decide) hN
theorem bRul {r N : Nat} (h : isRul r) (hN : 530 ≤ N) : r < N := by obtain ⟨d, i, hd, hi, rfl⟩ := h; have := bDc (c := 5 + 2 * i) hd (by omega) hN; omega
theorem bRul1 {r N : Nat} (h : isRul r) (hN : 530 ≤ N) : r + 1 < N := by obtain ⟨d, i, hd, hi, rfl⟩ := h; have := bDc (c := 6 + 2 * i) hd (by omega) hN; omega
theorem bKc {k N : Nat} (h : isKc k) (hN : 530 ≤ N) : k < N := by obtain ⟨i, hi, rfl⟩ := h; omega
theorem bKc1 {k N : Nat} (h : isKc k) (hN : 530 ≤ N) : k + 1 < N := by obtain ⟨i, hi, rfl⟩ := h; omega
theorem bCh {k N : Nat} (h : isCh k) (hN : 530 ≤ N) : k < N := by obtain ⟨i, hi, rfl⟩ := h; omega
theorem bMk {k N : Nat} (h : isMk k) (hN : 530 ≤ N) : k < N := by rcases h with rfl | rfl <;> omega
theorem nRec {b : Nat} (h : isRec b) : b ≠ 0 := by rcases h with rfl | rfl <;> omega
theorem nDom {d : Nat} (h : isDom d) : d ≠ 0 := by obtain ⟨b, q, hb, hq, rfl⟩ := h; rcases hb with rfl | rfl <;> omega
theorem nRul {d : Nat} (h : isRul d) : d ≠ 0 := by obtain ⟨b, q, hb, hq, rfl⟩ := h; omega
theorem nKc {d : Nat} (h : isKc d) : d ≠ 0 := by obtain ⟨q, hq, rfl⟩ := h; omega
theorem nCh {d : Nat} (h : isCh d) : d ≠ 0 := by obtain ⟨q, hq, rfl⟩ := h; omega
theorem WT.int {M : Mem} (h : WT M) (a k : Nat) : InR (gI M a k) := h.1 a k
theorem WT.dom {M : Mem} (h : WT M) {b k : Nat} (hb : isRec b) (hk : k < 12) : isDom (gP M (b + 1) k) := h.2.1 b k hb hk
theorem WT.rul {M : Mem} (h : WT M) {d k : Nat} (hd : isDom d) (hk : k < 8) : isRul (gP M (d + 2) k) := h.2.2.1 d k hd hk
theorem WT.kc {M : Mem} (h : WT M) {k : Nat} (hk : k < 4) : isKc (gP M 261 k) := h.2.2.2.1 k hk
theorem WT.ch {M : Mem} (h : WT M) {k : Nat} (hk : k < 4) : isCh (gP M 271 k) := h.2.2.2.2 k hk
theorem WT.sI {M : Mem} (h : WT M) {a k : Nat} {v : Int} (hv : InR v) : WT (sI M a k v) := by
  refine ⟨fun b j => ?_, h.2⟩
  show InR (if b = a ∧ j = k then v else M.1 b j)
  split
  · exact hv
  · exact h.1 b j
theorem WT.sPgen {M : Mem} (h : WT M) {a k v : Nat} (h1 : ∀ b, isRec b → b + 1 = a → k < 12 → isDom v) (h2 : ∀ d, isDom d → d + 2 = a → k < 8 → isRul v) (h3 : a = 261 → k < 4 → isKc v) (h4 : a = 271 → k < 4 → isCh v) : WT (sP M a k v) := by
  refine ⟨h.1, fun b j hb hj => ?_, fun d j hd hj => ?_, fun j hj => ?_, fun j hj => ?_⟩
  · show isDom (if b + 1 = a ∧ j = k then v else M.2 (b + 1) j)
    split
    · rename_i q; exact h1 b hb q.1 (q.2 ▸ hj)
    · exact h.2.1 b j hb hj
  · show isRul (if d + 2 = a ∧ j = k then v else M.2 (d + 2) j)
    split
    · rename_i q; exact h2 d hd q.1 (q.2 ▸ hj)
    · exact h.2.2.1 d j hd hj
  · show isKc (if 261 = a ∧ j = k then v else M.2 261 j)
    split
    · rename_i q; exact h3 q.1.symm (q.2 ▸ hj)
    · exact h.2.2.2.1 j hj
  · show isCh (if 271 = a ∧ j = k then v else M.2 271 j)
    split
    · rename_i q; exact h4 q.1.symm (q.2 ▸ hj)
    · exact h.2.2.2.2 j hj
theorem WT.sPfld {M : Mem} (h : WT M) {a k v : Nat} (ha : a = 0 ∨ a = 258) : WT (sP M a k v) := by
  refine h.sPgen (fun b hb e => ?_) (fun d hd e => ?_) (fun e => ?_) (fun e => ?_)
  · rcases hb with rfl | rfl <;> omega
  · obtain ⟨b, q, hb, hq, rfl⟩ := hd
    rcases hb with rfl | rfl <;> omega
  · omega
  · omega
theorem WT.sPdom {M : Mem} (h : WT M) {b k v : Nat} (hb : isRec b) (hv : isDom v) : WT (sP M (b + 1) k v) := by
  refine h.sPgen (fun _ _ _ _ => hv) (fun d hd e => ?_) (fun e => ?_) (fun e => ?_)
  · obtain ⟨b', q, hb', hq, rfl⟩ := hd
    rcases hb' with rfl | rfl <;> rcases hb with rfl | rfl <;> omega
  · rcases hb with rfl | rfl <;> omega
  · rcases hb with rfl | rfl <;> omega
theorem WT.sPrul {M : Mem} (h : WT M) {d k v : Nat} (hd : isDom d) (hv : isRul v) : WT (sP M (d + 2) k v) := by
  refine h.sPgen (fun b hb e => ?_) (fun _ _ _ _ => hv) (fun e => ?_) (fun e => ?_)
  · obtain ⟨b', q, hb', hq, rfl⟩ := hd
    rcases hb' with rfl | rfl <;> rcases hb with rfl | rfl <;> omega
  · obtain ⟨b', q, hb', hq, rfl⟩ := hd
    rcases hb' with rfl | rfl <;> omega
  · obtain ⟨b', q, hb', hq, rfl⟩ := hd
    rcases hb' with rfl | rfl <;> omega
theorem WT.sPkc {M : Mem} (h : WT M) {k v : Nat} (hv : isKc v) : WT (sP M 261 k v) := by
  refine h.sPgen (fun b hb e => ?_) (fun d hd e => ?_) (fun _ _ => hv) (fun e => ?_)
  · rcases hb with rfl | rfl <;> omega
  · obtain ⟨b', q, hb', hq, rfl⟩ := hd
    rcases hb' with rfl | rfl <;> omega
  · omega
theorem WT.sPch {M : Mem} (h : WT M) {k v : Nat} (hv : isCh v) : WT (sP M 271 k v) := by
  refine h.sPgen (fun b hb e => ?_) (fun d hd e => ?_) (fun e => ?_) (fun _ _ => hv)
  · rcases hb with rfl | rfl <;> omega
  · obtain ⟨b', q, hb', hq, rfl⟩ := hd
    rcases hb' with rfl | rfl <;> omega
  · omega

theorem fi0 : ∀ w ∈ u_ws RX0 TX0 4, w ∈ gtbl := by decide +kernel
theorem fi1 : ∀ w ∈ u_ws RX1 TX1 11, w ∈ gtbl := by decide +kernel
theorem fi2 : ∀ w ∈ u_ws RX2 TX2 10, w ∈ gtbl := by decide +kernel
theorem fi3 : ∀ w ∈ u_ws RX3 TX3 2, w ∈ gtbl := by decide +kernel
theorem fi4 : ∀ w ∈ u_ws RX4 TX4 1, w ∈ gtbl := by decide +kernel
theorem fi5 : ∀ w ∈ u_ws RX5 TX5 2, w ∈ gtbl := by decide +kernel
theorem fi6 : ∀ w ∈ u_ws RX6 TX6 2, w ∈ gtbl := by decide +kernel
theorem fi7 : ∀ w ∈ u_ws RX7 TX7 4, w ∈ gtbl := by decide +kernel
theorem fi8 : ∀ w ∈ u_ws RX8 TX8 2, w ∈ gtbl := by decide +kernel
theorem fi9 : ∀ w ∈ u_ws RX9 TX9 7, w ∈ gtbl := by decide +kernel
theorem fi10 : ∀ w ∈ u_ws RX10 TX10 6, w ∈ gtbl := by decide +kernel
theorem fi11 : ∀ w ∈ u_ws RX11 TX11 48, w ∈ gtbl := by decide +kernel
section Rows
variable {g : Ctx} {y : MethodName} {cc : ByteArray} {nL : Nat} {ret : Option FieldType} {rm : Room} {N pc : Nat} {lv : List (Nat × Value)} {st : List Value} {M : Mem} {Q : Option Value → Mem → Prop}
theorem w_getI {a k ci idx : Nat} {C : String} {T : u_T} {Nf : Nat} {ks : List (Option (Option Nat))} (hd : decode cc pc = .ok (.getfield idx, 3)) (hc : classes[ci]? = some (C, T, Nf)) (hin : ∀ w ∈ u_ws C T Nf, w ∈ gtbl) (hk : k < Nf) (hlink : Cond.fieldLink y.cls idx (T k).1 (T k).2.1 (T k).2.2.1 ∈ gtbl) (hs : shp a = .inl (ci, ks)) (hkd : ks[k]? = some (none)) (ha : a < N) (kk : WP g y cc nL ret rm N (pc + 3) lv (vi (gI M a k) :: st) M Q) : WP g y cc nL ret rm N pc lv (vr g a :: st) M Q := by
  intro p e s m args below meth c H locs ls F hP hT hS hl
  obtain ⟨j, hj⟩ := ws_get g N M ha
  have hce : cellOf g M a = .inr (ci, ks.mapIdx (fvl g M a)) := by unfold cellOf; rw [hs]
  rw [hce] at hj
  exact va_get (v := vi (gI M a k)) F.1 F.2.1 F.2.2.2.2.2.1 hin F.2.2.2.2.1 F.2.2.2.2.2.2.2.1 hP j hj hc k hk (F.2.2.2.2.2.1 _ hlink) (fun _ h => h) (by rw [List.getElem?_mapIdx, hkd]; rfl) hd (kk p e s m args below meth c H locs ls F hP hT hS hl)
theorem w_getQ {a k ci idx : Nat} {C : String} {T : u_T} {Nf : Nat} {ks : List (Option (Option Nat))} (hd : decode cc pc = .ok (.getfield idx, 3)) (hc : classes[ci]? = some (C, T, Nf)) (hin : ∀ w ∈ u_ws C T Nf, w ∈ gtbl) (hk : k < Nf) (hlink : Cond.fieldLink y.cls idx (T k).1 (T k).2.1 (T k).2.2.1 ∈ gtbl) (hs : shp a = .inl (ci, ks)) (hkd : ks[k]? = some (some none)) (ha : a < N) (kk : WP g y cc nL ret rm N (pc + 3) lv (vq g (gP M a k) :: st) M Q) : WP g y cc nL ret rm N pc lv (vr g a :: st) M Q := by
  intro p e s m args below meth c H locs ls F hP hT hS hl
  obtain ⟨j, hj⟩ := ws_get g N M ha
  have hce : cellOf g M a = .inr (ci, ks.mapIdx (fvl g M a)) := by unfold cellOf; rw [hs]
  rw [hce] at hj
  exact va_get (v := vq g (gP M a k)) F.1 F.2.1 F.2.2.2.2.2.1 hin F.2.2.2.2.1 F.2.2.2.2.2.2.2.1 hP j hj hc k hk (F.2.2.2.2.2.1 _ hlink) (fun _ h => h) (by rw [List.getElem?_mapIdx, hkd]; rfl) hd (kk p e s m args below meth c H locs ls F hP hT hS hl)
theorem w_getS {a k ci idx : Nat} {C : String} {T : u_T} {Nf : Nat} {ks : List (Option (Option Nat))} {q : Nat} (hd : decode cc pc = .ok (.getfield idx, 3)) (hc : classes[ci]? = some (C, T, Nf)) (hin : ∀ w ∈ u_ws C T Nf, w ∈ gtbl) (hk : k < Nf) (hlink : Cond.fieldLink y.cls idx (T k).1 (T k).2.1 (T k).2.2.1 ∈ gtbl) (hs : shp a = .inl (ci, ks)) (hkd : ks[k]? = some (some (some q))) (ha : a < N) (kk : WP g y cc nL ret rm N (pc + 3) lv (vr g q :: st) M Q) : WP g y cc nL ret rm N pc lv (vr g a :: st) M Q := by
  intro p e s m args below meth c H locs ls F hP hT hS hl
  obtain ⟨j, hj⟩ := ws_get g N M ha
  have hce : cellOf g M a = .inr (ci, ks.mapIdx (fvl g M a)) := by unfold cellOf; rw [hs]
  rw [hce] at hj
  exact va_get (v := vr g q) F.1 F.2.1 F.2.2.2.2.2.1 hin F.2.2.2.2.1 F.2.2.2.2.2.2.2.1 hP j hj hc k hk (F.2.2.2.2.2.1 _ hlink) (fun _ h => h) (by rw [List.getElem?_mapIdx, hkd]; rfl) hd (kk p e s m args below meth c H locs ls F hP hT hS hl)
theorem w_getIN {a k ci idx : Nat} {C : String} {T : u_T} {Nf : Nat} {ks : List (Option (Option Nat))} (hd : decode cc pc = .ok (.getfield idx, 3)) (hc : classes[ci]? = some (C, T, Nf)) (hin : ∀ w ∈ u_ws C T Nf, w ∈ gtbl) (hk : k < Nf) (hlink : Cond.fieldLinkNest y.cls idx (T k).1 (T k).2.1 (T k).2.2.1 "SendRules" ∈ ntbl) (hs : shp a = .inl (ci, ks)) (hkd : ks[k]? = some (none)) (ha : a < N) (kk : WP g y cc nL ret rm N (pc + 3) lv (vi (gI M a k) :: st) M Q) : WP g y cc nL ret rm N pc lv (vr g a :: st) M Q := by
  intro p e s m args below meth c H locs ls F hP hT hS hl
  obtain ⟨j, hj⟩ := ws_get g N M ha
  have hce : cellOf g M a = .inr (ci, ks.mapIdx (fvl g M a)) := by unfold cellOf; rw [hs]
  rw [hce] at hj
  exact va_getN (v := vi (gI M a k)) F.1 F.2.1 F.2.2.2.2.2.1 hin F.2.2.2.2.1 F.2.2.2.2.2.2.2.1 hP j hj hc k hk (va_Nw.use rfl (F.2.2.2.2.2.2.2.2.1 _ hlink)) (fun _ h => h) (by rw [List.getElem?_mapIdx, hkd]; rfl) hd (kk p e s m args below meth c H locs ls F hP hT hS hl)
theorem w_getQN {a k ci idx : Nat} {C : String} {T : u_T} {Nf : Nat} {ks : List (Option (Option Nat))} (hd : decode cc pc = .ok (.getfield idx, 3)) (hc : classes[ci]? = some (C, T, Nf)) (hin : ∀ w ∈ u_ws C T Nf, w ∈ gtbl) (hk : k < Nf) (hlink : Cond.fieldLinkNest y.cls idx (T k).1 (T k).2.1 (T k).2.2.1 "SendRules" ∈ ntbl) (hs : shp a = .inl (ci, ks)) (hkd : ks[k]? = some (some none)) (ha : a < N) (kk : WP g y cc nL ret rm N (pc + 3) lv (vq g (gP M a k) :: st) M Q) : WP g y cc nL ret rm N pc lv (vr g a :: st) M Q := by
  intro p e s m args below meth c H locs ls F hP hT hS hl
  obtain ⟨j, hj⟩ := ws_get g N M ha
  have hce : cellOf g M a = .inr (ci, ks.mapIdx (fvl g M a)) := by unfold cellOf; rw [hs]
  rw [hce] at hj
  exact va_getN (v := vq g (gP M a k)) F.1 F.2.1 F.2.2.2.2.2.1 hin F.2.2.2.2.1 F.2.2.2.2.2.2.2.1 hP j hj hc k hk (va_Nw.use rfl (F.2.2.2.2.2.2.2.2.1 _ hlink)) (fun _ h => h) (by rw [List.getElem?_mapIdx, hkd]; rfl) hd (kk p e s m args below meth c H locs ls F hP hT hS hl)
theorem w_getSN {a k ci idx : Nat} {C : String} {T : u_T} {Nf : Nat} {ks : List (Option (Option Nat))} {q : Nat} (hd : decode cc pc = .ok (.getfield idx, 3)) (hc : classes[ci]? = some (C, T, Nf)) (hin : ∀ w ∈ u_ws C T Nf, w ∈ gtbl) (hk : k < Nf) (hlink : Cond.fieldLinkNest y.cls idx (T k).1 (T k).2.1 (T k).2.2.1 "SendRules" ∈ ntbl) (hs : shp a = .inl (ci, ks)) (hkd : ks[k]? = some (some (some q))) (ha : a < N) (kk : WP g y cc nL ret rm N (pc + 3) lv (vr g q :: st) M Q) : WP g y cc nL ret rm N pc lv (vr g a :: st) M Q := by
  intro p e s m args below meth c H locs ls F hP hT hS hl
  obtain ⟨j, hj⟩ := ws_get g N M ha
  have hce : cellOf g M a = .inr (ci, ks.mapIdx (fvl g M a)) := by unfold cellOf; rw [hs]
  rw [hce] at hj
  exact va_getN (v := vr g q) F.1 F.2.1 F.2.2.2.2.2.1 hin F.2.2.2.2.1 F.2.2.2.2.2.2.2.1 hP j hj hc k hk (va_Nw.use rfl (F.2.2.2.2.2.2.2.2.1 _ hlink)) (fun _ h => h) (by rw [List.getElem?_mapIdx, hkd]; rfl) hd (kk p e s m args below meth c H locs ls F hP hT hS hl)
theorem w_putI {a k ci idx : Nat} {C : String} {T : u_T} {Nf : Nat} {ks : List (Option (Option Nat))} {x : Int} (hd : decode cc pc = .ok (.putfield idx, 3)) (hc : classes[ci]? = some (C, T, Nf)) (hin : ∀ w ∈ u_ws C T Nf, w ∈ gtbl) (hk : k < Nf) (hlink : Cond.fieldLink y.cls idx (T k).1 (T k).2.1 (T k).2.2.1 ∈ gtbl) (ty : Nat → FieldType) (hty : ∀ j, j < Nf → parseFieldDescriptor (T j).2.2.1 = some (ty j)) (hnm : ∀ a, a < Nf → ∀ b, b < Nf → a ≠ b → (T a).2.1 ≠ (T b).2.1) (hf : (T k).2.2.2 = false) (hn : narrow (ty k) (vi x) = vi x) (hfit : fits (ty k) (vi x) = true) (hx : InR x) (hs : shp a = .inl (ci, ks)) (hkd : ks[k]? = some none) (ha : a < N) (kk : WP g y cc nL ret rm N (pc + 3) lv st (sI M a k x) Q) : WP g y cc nL ret rm N pc lv (vi x :: vr g a :: st) M Q := by
  intro p e s m args below meth c H locs ls F hP hT hS hl
  obtain ⟨j, hj⟩ := ws_get g N M ha
  have hj0 := hj
  have hce : ∀ M, cellOf g M a = .inr (ci, ks.mapIdx (fvl g M a)) := fun M => by unfold cellOf; rw [hs]
  rw [hce] at hj
  refine va_put (ty := ty k) F.1 F.2.1 F.2.2.2.2.2.1 hin ty hty hnm F.2.2.2.2.1 F.2.2.2.2.2.2.2.1 hP (ws_D g N M) hS j hj hc k hk (F.2.2.2.2.2.1 _ hlink) (fun _ h => h) hf (hty k hk) hn hfit (by rw [List.length_mapIdx]; exact (List.getElem?_eq_some_iff.mp hkd).1) hd (fun H1 locs1 hP1 hD1 hS1 => ?_)
  have es := ws_set g (M' := sI M a k x) (e := .inr (ci, (ks.mapIdx (fvl g M a)).set k (vi x))) ha hj0 (by rw [hce, flds_setI g M a k x ks hkd]) (fun b hb => cell_oI g M a k x hb)
  rw [es] at hP1
  exact kk p e s m args below meth c H1 locs1 ls F hP1 (hT.sI hx) hS1 hl
theorem w_putQ {a k ci idx : Nat} {C : String} {T : u_T} {Nf : Nat} {ks : List (Option (Option Nat))} {x : Nat} (hd : decode cc pc = .ok (.putfield idx, 3)) (hc : classes[ci]? = some (C, T, Nf)) (hin : ∀ w ∈ u_ws C T Nf, w ∈ gtbl) (hk : k < Nf) (hlink : Cond.fieldLink y.cls idx (T k).1 (T k).2.1 (T k).2.2.1 ∈ gtbl) (ty : Nat → FieldType) (hty : ∀ j, j < Nf → parseFieldDescriptor (T j).2.2.1 = some (ty j)) (hnm : ∀ a, a < Nf → ∀ b, b < Nf → a ≠ b → (T a).2.1 ≠ (T b).2.1) (hf : (T k).2.2.2 = false) (ht : ∃ C0, ty k = .object C0) (hx : WT M → WT (sP M a k x)) (hs : shp a = .inl (ci, ks)) (hkd : ks[k]? = some (some none)) (ha : a < N) (kk : WP g y cc nL ret rm N (pc + 3) lv st (sP M a k x) Q) : WP g y cc nL ret rm N pc lv (vq g x :: vr g a :: st) M Q := by
  intro p e s m args below meth c H locs ls F hP hT hS hl
  obtain ⟨j, hj⟩ := ws_get g N M ha
  have hj0 := hj
  have hce : ∀ M, cellOf g M a = .inr (ci, ks.mapIdx (fvl g M a)) := fun M => by unfold cellOf; rw [hs]
  rw [hce] at hj
  obtain ⟨C0, hC0⟩ := ht
  refine va_put (ty := ty k) F.1 F.2.1 F.2.2.2.2.2.1 hin ty hty hnm F.2.2.2.2.1 F.2.2.2.2.2.2.2.1 hP (ws_D g N M) hS j hj hc k hk (F.2.2.2.2.2.1 _ hlink) (fun _ h => h) hf (hty k hk) (by rw [hC0]; unfold vq oq; split <;> rfl) (by rw [hC0]; unfold vq oq; split <;> rfl) (by rw [List.length_mapIdx]; exact (List.getElem?_eq_some_iff.mp hkd).1) hd (fun H1 locs1 hP1 hD1 hS1 => ?_)
  have es := ws_set g (M' := sP M a k x) (e := .inr (ci, (ks.mapIdx (fvl g M a)).set k (vq g x))) ha hj0 (by rw [hce, flds_setP g M a k x ks hkd]) (fun b hb => cell_oP g M a k x hb)
  rw [es] at hP1
  exact kk p e s m args below meth c H1 locs1 ls F hP1 (hx hT) hS1 hl
theorem w_putIN {a k ci idx : Nat} {C : String} {T : u_T} {Nf : Nat} {ks : List (Option (Option Nat))} {x : Int} (hd : decode cc pc = .ok (.putfield idx, 3)) (hc : classes[ci]? = some (C, T, Nf)) (hin : ∀ w ∈ u_ws C T Nf, w ∈ gtbl) (hk : k < Nf) (hlink : Cond.fieldLinkNest y.cls idx (T k).1 (T k).2.1 (T k).2.2.1 "SendRules" ∈ ntbl) (ty : Nat → FieldType) (hty : ∀ j, j < Nf → parseFieldDescriptor (T j).2.2.1 = some (ty j)) (hnm : ∀ a, a < Nf → ∀ b, b < Nf → a ≠ b → (T a).2.1 ≠ (T b).2.1) (hf : (T k).2.2.2 = false) (hn : narrow (ty k) (vi x) = vi x) (hfit : fits (ty k) (vi x) = true) (hx : InR x) (hs : shp a = .inl (ci, ks)) (hkd : ks[k]? = some none) (ha : a < N) (kk : WP g y cc nL ret rm N (pc + 3) lv st (sI M a k x) Q) : WP g y cc nL ret rm N pc lv (vi x :: vr g a :: st) M Q := by
  intro p e s m args below meth c H locs ls F hP hT hS hl
  obtain ⟨j, hj⟩ := ws_get g N M ha
  have hj0 := hj
  have hce : ∀ M, cellOf g M a = .inr (ci, ks.mapIdx (fvl g M a)) := fun M => by unfold cellOf; rw [hs]
  rw [hce] at hj
  refine va_putN (ty := ty k) F.1 F.2.1 F.2.2.2.2.2.1 hin ty hty hnm F.2.2.2.2.1 F.2.2.2.2.2.2.2.1 hP (ws_D g N M) hS j hj hc k hk (va_Nw.use rfl (F.2.2.2.2.2.2.2.2.1 _ hlink)) (fun _ h => h) hf (hty k hk) hn hfit (by rw [List.length_mapIdx]; exact (List.getElem?_eq_some_iff.mp hkd).1) hd (fun H1 locs1 hP1 hD1 hS1 => ?_)
  have es := ws_set g (M' := sI M a k x) (e := .inr (ci, (ks.mapIdx (fvl g M a)).set k (vi x))) ha hj0 (by rw [hce, flds_setI g M a k x ks hkd]) (fun b hb => cell_oI g M a k x hb)
  rw [es] at hP1
  exact kk p e s m args below meth c H1 locs1 ls F hP1 (hT.sI hx) hS1 hl
theorem w_putQN {a k ci idx : Nat} {C : String} {T : u_T} {Nf : Nat} {ks : List (Option (Option Nat))} {x : Nat} (hd : decode cc pc = .ok (.putfield idx, 3)) (hc : classes[ci]? = some (C, T, Nf)) (hin : ∀ w ∈ u_ws C T Nf, w ∈ gtbl) (hk : k < Nf) (hlink : Cond.fieldLinkNest y.cls idx (T k).1 (T k).2.1 (T k).2.2.1 "SendRules" ∈ ntbl) (ty : Nat → FieldType) (hty : ∀ j, j < Nf → parseFieldDescriptor (T j).2.2.1 = some (ty j)) (hnm : ∀ a, a < Nf → ∀ b, b < Nf → a ≠ b → (T a).2.1 ≠ (T b).2.1) (hf : (T k).2.2.2 = false) (ht : ∃ C0, ty k = .object C0) (hx : WT M → WT (sP M a k x)) (hs : shp a = .inl (ci, ks)) (hkd : ks[k]? = some (some none)) (ha : a < N) (kk : WP g y cc nL ret rm N (pc + 3) lv st (sP M a k x) Q) : WP g y cc nL ret rm N pc lv (vq g x :: vr g a :: st) M Q := by
  intro p e s m args below meth c H locs ls F hP hT hS hl
  obtain ⟨j, hj⟩ := ws_get g N M ha
  have hj0 := hj
  have hce : ∀ M, cellOf g M a = .inr (ci, ks.mapIdx (fvl g M a)) := fun M => by unfold cellOf; rw [hs]
  rw [hce] at hj
  obtain ⟨C0, hC0⟩ := ht
  refine va_putN (ty := ty k) F.1 F.2.1 F.2.2.2.2.2.1 hin ty hty hnm F.2.2.2.2.1 F.2.2.2.2.2.2.2.1 hP (ws_D g N M) hS j hj hc k hk (va_Nw.use rfl (F.2.2.2.2.2.2.2.2.1 _ hlink)) (fun _ h => h) hf (hty k hk) (by rw [hC0]; unfold vq oq; split <;> rfl) (by rw [hC0]; unfold vq oq; split <;> rfl) (by rw [List.length_mapIdx]; exact (List.getElem?_eq_some_iff.mp hkd).1) hd (fun H1 locs1 hP1 hD1 hS1 => ?_)
  have es := ws_set g (M' := sP M a k x) (e := .inr (ci, (ks.mapIdx (fvl g M a)).set k (vq g x))) ha hj0 (by rw [hce, flds_setP g M a k x ks hkd]) (fun b hb => cell_oP g M a k x hb)
  rw [es] at hP1
  exact kk p e s m args below meth c H1 locs1 ls F hP1 (hx hT) hS1 hl
theorem w_iald {a n : Nat} {i : Int} (hd : decode cc pc = .ok (.iaload, 1)) (hs : shp a = .inr (0, n)) (ha : a < N) (hn : n < 2147483648) (h0 : 0 ≤ i) (h1 : i < n) (kk : WP g y cc nL ret rm N (pc + 1) lv (vi (gI M a i.toNat) :: st) M Q) : WP g y cc nL ret rm N pc lv (vi i :: vr g a :: st) M Q := by
  intro p e s m args below meth c H locs ls F hP hT hS hl
  obtain ⟨j, hj⟩ := ws_get g N M ha
  have hce : cellOf g M a = .inl (gcy g 0, n, .inl (fun j => Int32.ofInt (M.1 a j))) := by unfold cellOf; rw [hs]; rfl
  rw [hce] at hj
  refine va_iald F.1 F.2.1 F.2.2.2.2.2.2.2.1 hP j 0 hj rfl (vi_in h0 h1 hn) hd ?_
  rw [vi_clamp h0 ⟨by omega, by omega⟩]
  exact kk p e s m args below meth c H locs ls F hP hT hS hl
theorem w_cald {a n : Nat} {i : Int} (hd : decode cc pc = .ok (.caload, 1)) (hs : shp a = .inr (1, n)) (ha : a < N) (hn : n < 2147483648) (h0 : 0 ≤ i) (h1 : i < n) (kk : WP g y cc nL ret rm N (pc + 1) lv (vi (gI M a i.toNat) :: st) M Q) : WP g y cc nL ret rm N pc lv (vi i :: vr g a :: st) M Q := by
  intro p e s m args below meth c H locs ls F hP hT hS hl
  obtain ⟨j, hj⟩ := ws_get g N M ha
  have hce : cellOf g M a = .inl (gcy g 1, n, .inl (fun j => Int32.ofInt (M.1 a j))) := by unfold cellOf; rw [hs]; rfl
  rw [hce] at hj
  refine va_cald F.1 F.2.1 F.2.2.2.2.2.2.2.1 hP j 1 hj rfl (vi_in h0 h1 hn) hd ?_
  rw [vi_clamp h0 ⟨by omega, by omega⟩]
  exact kk p e s m args below meth c H locs ls F hP hT hS hl
theorem w_iast {a n : Nat} {i x : Int} (hd : decode cc pc = .ok (.iastore, 1)) (hs : shp a = .inr (0, n)) (ha : a < N) (hn : n < 2147483648) (h0 : 0 ≤ i) (h1 : i < n) (hx : InR x) (kk : WP g y cc nL ret rm N (pc + 1) lv st (sI M a i.toNat x) Q) : WP g y cc nL ret rm N pc lv (vi x :: vi i :: vr g a :: st) M Q := by
  intro p e s m args below meth c H locs ls F hP hT hS hl
  obtain ⟨j, hj⟩ := ws_get g N M ha
  have hj0 := hj
  have hce : ∀ M, cellOf g M a = .inl (gcy g 0, n, .inl (fun j => Int32.ofInt (M.1 a j))) := fun M => by unfold cellOf; rw [hs]; rfl
  rw [hce] at hj
  refine va_iast F.1 F.2.1 F.2.2.2.2.2.2.2.1 hP (ws_D g N M) hS j 0 hj rfl (vi_in h0 h1 hn) hd (fun H1 locs1 hP1 hD1 hS1 => ?_)
  rw [vi_clamp h0 ⟨by omega, by omega⟩] at hP1
  have es := ws_set g (M' := sI M a i.toNat x) (e := .inl (gcy g 0, n, .inl (upd (fun j => Int32.ofInt (M.1 a j)) i.toNat (Int32.ofInt x)))) ha hj0 (by rw [hce]; congr 4; funext q; simp only [upd, sI, true_and]; split <;> rfl) (fun b hb => cell_oI g M a _ x hb)
  rw [es] at hP1
  exact kk p e s m args below meth c H1 locs1 ls F hP1 (hT.sI hx) hS1 hl
theorem w_cast {a n : Nat} {i x : Int} (hd : decode cc pc = .ok (.castore, 1)) (hs : shp a = .inr (1, n)) (ha : a < N) (hn : n < 2147483648) (h0 : 0 ≤ i) (h1 : i < n) (hx : InR x) (hx0 : 0 ≤ x) (hx1 : x < 65536) (kk : WP g y cc nL ret rm N (pc + 1) lv st (sI M a i.toNat x) Q) : WP g y cc nL ret rm N pc lv (vi x :: vi i :: vr g a :: st) M Q := by
  intro p e s m args below meth c H locs ls F hP hT hS hl
  obtain ⟨j, hj⟩ := ws_get g N M ha
  have hj0 := hj
  have hce : ∀ M, cellOf g M a = .inl (gcy g 1, n, .inl (fun j => Int32.ofInt (M.1 a j))) := fun M => by unfold cellOf; rw [hs]; rfl
  rw [hce] at hj
  refine va_cast F.1 F.2.1 F.2.2.2.2.2.2.2.1 hP (ws_D g N M) hS j 1 hj rfl (vi_in h0 h1 hn) hd (fun H1 locs1 hP1 hD1 hS1 => ?_)
  rw [vi_clamp h0 ⟨by omega, by omega⟩] at hP1
  rw [show vp_nar .char (Int32.ofInt x) = Int32.ofInt x by obtain ⟨q, rfl⟩ := Int.eq_ofNat_of_zero_le hx0; rw [Int32.ofInt_eq_ofNat]; unfold vp_nar; have h9 := (pk_charN (q := q) (by omega)).1; unfold nI at h9; rw [h9]] at hP1
  have es := ws_set g (M' := sI M a i.toNat x) (e := .inl (gcy g 1, n, .inl (upd (fun j => Int32.ofInt (M.1 a j)) i.toNat (Int32.ofInt x)))) ha hj0 (by rw [hce]; congr 4; funext q; simp only [upd, sI, true_and]; split <;> rfl) (fun b hb => cell_oI g M a _ x hb)
  rw [es] at hP1
  exact kk p e s m args below meth c H1 locs1 ls F hP1 (hT.sI hx) hS1 hl
theorem w_aald {a t n : Nat} {i : Int} {C : String} (hd : decode cc pc = .ok (.aaload, 1)) (hs : shp a = .inr (t, n)) (ht2 : ¬ t < 2) (hty : (gtys g)[t]? = some (gcy g t, .object C)) (ha : a < N) (hn : n < 2147483648) (h0 : 0 ≤ i) (h1 : i < n) (hne : gP M a i.toNat ≠ 0) (kk : WP g y cc nL ret rm N (pc + 1) lv (vr g (gP M a i.toNat) :: st) M Q) : WP g y cc nL ret rm N pc lv (vi i :: vr g a :: st) M Q := by
  intro p e s m args below meth c H locs ls F hP hT hS hl
  obtain ⟨j, hj⟩ := ws_get g N M ha
  have hce : cellOf g M a = .inl (gcy g t, n, .inr (.inr (.inr (.inr (fun j => oq g (M.2 a j)))))) := by unfold cellOf; rw [hs]; simp only [arrOf, if_neg ht2]
  rw [hce] at hj
  refine va_aldq F.1 F.2.1 F.2.2.2.2.2.2.2.1 hP j t hj hty (vi_in h0 h1 hn) hd ?_
  rw [vi_clamp h0 ⟨by omega, by omega⟩]
  have e9 : va_rf (oq g (M.2 a i.toNat)) = vr g (gP M a i.toNat) := vq_ne hne
  rw [e9]
  exact kk p e s m args below meth c H locs ls F hP hT hS hl
theorem w_aast {a t n v ci : Nat} {i : Int} {r : vw_C} {ks : List (Option (Option Nat))} (hd : decode cc pc = .ok (.aastore, 1)) (hs : shp a = .inr (t, n)) (ht2 : ¬ t < 2) (hty : (gtys g)[t]? = some (gcy g t, .object r.1)) (ha : a < N) (hn : n < 2147483648) (h0 : 0 ≤ i) (h1 : i < n) (hv : shp v = .inl (ci, ks)) (hvN : v < N) (hv0 : v ≠ 0) (hc : classes[ci]? = some r) (hx : WT M → WT (sP M a i.toNat v)) (kk : WP g y cc nL ret rm N (pc + 1) lv st (sP M a i.toNat v) Q) : WP g y cc nL ret rm N pc lv (vr g v :: vi i :: vr g a :: st) M Q := by
  intro p e s m args below meth c H locs ls F hP hT hS hl
  obtain ⟨j, hj⟩ := ws_get g N M ha
  have hj0 := hj
  obtain ⟨j2, hj2⟩ := ws_get g N M hvN
  have hce : ∀ M, cellOf g M a = .inl (gcy g t, n, .inr (.inr (.inr (.inr (fun j => oq g (M.2 a j)))))) := fun M => by unfold cellOf; rw [hs]; simp only [arrOf, if_neg ht2]
  have hce2 : cellOf g M v = .inr (ci, ks.mapIdx (fvl g M v)) := by unfold cellOf; rw [hv]
  rw [hce] at hj
  rw [hce2] at hj2
  refine va_astq F.1 F.2.1 F.2.2.2.2.2.2.2.1 hP (ws_D g N M) hS j t j2 ci hj hty hj2 hc (vi_in h0 h1 hn) hd (fun H1 locs1 hP1 hD1 hS1 => ?_)
  rw [vi_clamp h0 ⟨by omega, by omega⟩] at hP1
  have es := ws_set g (M' := sP M a i.toNat v) (e := .inl (gcy g t, n, .inr (.inr (.inr (.inr (va_up (fun j => oq g (M.2 a j)) i.toNat (some (gB g + v)))))))) ha hj0 (by rw [hce]; congr 7; funext q; simp only [va_up, sP, true_and]; split <;> simp [oq, hv0]) (fun b hb => cell_oP g M a _ v hb)
  rw [es] at hP1
  exact kk p e s m args below meth c H1 locs1 ls F hP1 (hx hT) hS1 hl
theorem w_wt (kk : WT M → WP g y cc nL ret rm N pc lv st M Q) : WP g y cc nL ret rm N pc lv st M Q := by
  intro p e s m args below meth c H locs ls F hP hT hS hl
  exact kk hT p e s m args below meth c H locs ls F hP hT hS hl
theorem w_tabIn {x v dflt lo hi off : Int} {offs : Array Int} {len tgt : Nat} (hd : decode cc pc = .ok (.tableswitch dflt lo hi offs, len)) (hx : x = v) (hr : InR v) (h1 : ¬ v < lo) (h2 : ¬ hi < v) (ho : offs[(v - lo).toNat]? = some off) (ht : (pc : Int) + off = (tgt : Int)) (kk : WP g y cc nL ret rm N tgt lv st M Q) : WP g y cc nL ret rm N pc lv (vi x :: st) M Q := by
  intro p e s m args below meth c H locs ls F hP hT hS hl
  subst hx
  exact lv_tableIn F.1 F.2.1 hd (by rw [vi_toInt hr]; exact h1) (by rw [vi_toInt hr]; exact h2) (by rw [vi_toInt hr]; exact ho) ht (kk p e s m args below meth c H locs ls F hP hT hS hl)
theorem w_tabOut {x dflt lo hi : Int} {offs : Array Int} {len tgt : Nat} (hd : decode cc pc = .ok (.tableswitch dflt lo hi offs, len)) (hr : InR x) (h : x < lo ∨ hi < x) (ht : (pc : Int) + dflt = (tgt : Int)) (kk : WP g y cc nL ret rm N tgt lv st M Q) : WP g y cc nL ret rm N pc lv (vi x :: st) M Q := by
  intro p e s m args below meth c H locs ls F hP hT hS hl
  exact lv_tableOut F.1 F.2.1 hd (by rw [vi_toInt hr]; exact h) ht (kk p e s m args below meth c H locs ls F hP hT hS hl)
theorem w_look {x dflt off : Int} {ps : Array (Int × Int)} {len tgt : Nat} (hd : decode cc pc = .ok (.lookupswitch dflt ps, len)) (hr : InR x) (hp : (ps.toList.zip (ps.toList.drop 1)).all (fun (a, next) => a.1 < next.1) = true) (ho : Op.lookupswitch.offset ps.toList dflt x = off) (ht : (pc : Int) + off = (tgt : Int)) (kk : WP g y cc nL ret rm N tgt lv st M Q) : WP g y cc nL ret rm N pc lv (vi x :: st) M Q := by
  intro p e s m args below meth c H locs ls F hP hT hS hl
  exact lv_lookup F.1 F.2.1 hd hp (by rw [vi_toInt hr]; exact ho) ht (kk p e s m args below meth c H locs ls F hP hT hS hl)
theorem run_go {p : Program} {e : Env} {R : Room} {s : State} {m : MethodId} {args : Array Value} {below : List Frame} {meth : Method} {c : Code} {H : Heap} {locs : List Loc} {Qw : State → Prop} {ls : Array Slot} {st0 rest : List Value} {Q' : Option Value → Mem → Prop} {a : Array Value} (hr : va_Run p (gl g) e R s m args below meth c H locs 0 0 0 0 (F0 m pc ls st0) rest (QcM g N Q' a) (gA g)) (hS : va_S (gA g) s.heap H locs)
    (kk : ∀ (v : Option Value) (M' : Mem) (H1 : Heap) (locs1 : List Loc), Q' v M' → va_P (gD g) classes (wsN g N M') H1 → WT M' → va_S (gA g) s.heap H1 locs1 → W p (gl g) e R s m args below meth c H1 locs1 0 0 Qw (F0 m (pc + 3) ls (v.toList ++ rest))) : W p (gl g) e R s m args below meth c H locs 0 0 Qw (F0 m pc ls st0) := by
  intro T hT X
  obtain ⟨v, st₀, t, T', L, h0, X', hL, e1, e2, ⟨⟨v', M', hv, hQ, hW⟩, hF⟩, st⟩ := hr T hT X
  cases hv
  have hS1 : va_S (gA g) s.heap t.heap (locs ++ L) := by
    refine ⟨?_, fun q h1 h2 => ?_, fun q hq => ?_⟩
    · have := hF.1
      rw [h0] at this
      exact Nat.le_trans hS.1 this
    · rw [hF.2 q (by rw [h0]; exact Nat.lt_of_lt_of_le h1 hS.1) h2, h0]
      exact hS.2.1 q h1 h2
    · rcases List.mem_append.mp hq with h | h
      · exact hS.2.2 q h
      · exact hL q h
  obtain ⟨t2, a1, b1⟩ := kk v M' t.heap (locs ++ L) hQ hW.1 hW.2.1 hS1 T' e1 X'
  exact ⟨t2, st t2 a1, b1⟩
theorem gW {w : Cond} (h : w ∈ gtbl) : w ∈ gtbl ∧ ((w.onTables && w.keeps) = true ∨ ∃ ty, w = .arrayClass ty) := ⟨h, gt_ok w h⟩
theorem gWs {w : Cond} (h : w ∈ gtbl) : GoodIn gtbl (w :: gtbl) := fun x hx => by
  rcases List.mem_cons.mp hx with rfl | hx
  · exact gW h
  · exact gW hx
theorem w_callV {y' : MethodName} {cc' : ByteArray} {nL' idx n : Nat} {ret' : Option FieldType} {rm' : Room} {As rest st0 : List Value} {a ci : Nat} {r : vw_C} {ks : List (Option (Option Nat))} (hd : decode cc pc = .ok (.invokevirtual idx, 3)) (hlink : Cond.methodLink y.cls idx y' ∈ gtbl) (hinst : Cond.instanceMethod y' ∈ gtbl) (hsel : Cond.selects y'.cls y' y' ∈ gtbl) (hini : Cond.initialized y'.cls ∈ gtbl) (hcode : Cond.code y' cc' nL' ret' ∈ gtbl) (hn : y'.cls ≠ "java/lang/invoke/MethodHandle" ∧ y'.cls ≠ "java/lang/invoke/VarHandle" ∧ (parseMethodDescriptor y'.desc).map (fun d => d.parameters.length) = some n) (hroom : rm'.cells = 0 ∧ rm'.slots = 0 ∧ rm'.frames + 1 ≤ rm.frames ∧ 8 + (nL' + 11) + rm'.locals ≤ rm.locals) (hAs : As.length = n) (hrest : (rest.map fun v => v.category).sum ≤ 8) (hst : st0 = As.reverse ++ vr g a :: rest) (hs : shp a = .inl (ci, ks)) (ha : a < N) (hc : classes[ci]? = some r) (hr1 : r.1 = y'.cls) (kk : CallsM g y' cc' nL' ret' rm' N (vr g a :: As) M (fun v M' => WP g y cc nL ret rm N (pc + 3) lv (v.toList ++ rest) M' Q)) : WP g y cc nL ret rm N pc lv st0 M Q := by
  intro p e s m args below meth c H locs ls F hP hT hS hl
  subst hst
  obtain ⟨hr1c, hr2c, hr3c, hr4c⟩ := hroom
  obtain ⟨j, hj⟩ := ws_get g N M ha
  have hce : cellOf g M a = .inr (ci, ks.mapIdx (fvl g M a)) := by unfold cellOf; rw [hs]
  rw [hce] at hj
  have hG : GoodIn gtbl (wsV y.cls idx y'.cls y' (.code y' cc' nL' ret' :: gtbl)) := fun w hw => by
    rcases List.mem_append.mp (show w ∈ ([.methodLink y.cls idx y', .instanceMethod y', .selects y'.cls y' y', .initialized y'.cls] : List Cond) ++ (.code y' cc' nL' ret' :: gtbl) from hw) with h | h
    · simp only [List.mem_cons, List.not_mem_nil, or_false] at h
      rcases h with rfl | rfl | rfl | rfl
      · exact gW hlink
      · exact gW hinst
      · exact gW hsel
      · exact gW hini
    · exact gWs hcode w h
  refine run_go (va_runV (b := gB g + a) (As := As) (rest := rest) (nL := nL) ⟨F.1, F.2.1, F.2.2.2.1, F.2.2.2.2.1, F.2.2.2.2.2.1⟩ kk (cwV n F.2.2.2.2.2.1 hG rfl hr1c hr2c ⟨rfl, hn⟩ ⟨hr3c, hr4c⟩) ⟨fun a U f mk q => ⟨q.1, q.2.1, q.2.2.1, q.2.2.2.blind f mk a⟩, ?_, fun U hU hW => ⟨rfl, by rw [hU]; exact hP, hT, F.2.2.2.2.2.2.2.at hS hU hW⟩⟩ rfl hAs hl.1 rfl (lv_room hrest) hd ⟨Nat.zero_le _, Nat.zero_le _⟩) hS (fun v M' H1 locs1 hQ hP1 hT1 hS1 => hQ p e s m args below meth c H1 locs1 ls F hP1 hT1 hS1 hl)
  rw [← hr1]
  exact va_recv F.2.2.2.2.2.2.2.1 hP hc hj
theorem w_callS {y' : MethodName} {cc' : ByteArray} {nL' idx n : Nat} {ret' : Option FieldType} {rm' : Room} {As rest st0 : List Value} (hd : decode cc pc = .ok (.invokestatic idx, 3)) (hlink : Cond.methodLink y.cls idx y' ∈ gtbl) (hstat : Cond.static y' ∈ gtbl) (hini : Cond.initialized y'.cls ∈ gtbl) (hcode : Cond.code y' cc' nL' ret' ∈ gtbl) (hn : y'.cls ≠ "java/lang/invoke/MethodHandle" ∧ y'.cls ≠ "java/lang/invoke/VarHandle" ∧ (parseMethodDescriptor y'.desc).map (fun d => d.parameters.length) = some n) (hroom : rm'.cells = 0 ∧ rm'.slots = 0 ∧ rm'.frames + 1 ≤ rm.frames ∧ 8 + (nL' + 11) + rm'.locals ≤ rm.locals) (hAs : As.length = n) (hrest : (rest.map fun v => v.category).sum ≤ 8) (hst : st0 = As.reverse ++ rest) (kk : CallsM g y' cc' nL' ret' rm' N As M (fun v M' => WP g y cc nL ret rm N (pc + 3) lv (v.toList ++ rest) M' Q)) : WP g y cc nL ret rm N pc lv st0 M Q := by
  intro p e s m args below meth c H locs ls F hP hT hS hl
  subst hst
  obtain ⟨hr1c, hr2c, hr3c, hr4c⟩ := hroom
  have hG : GoodIn gtbl (va_wsS y.cls idx y' (.code y' cc' nL' ret' :: gtbl)) := fun w hw => by
    rcases List.mem_append.mp (show w ∈ ([.methodLink y.cls idx y', .static y', .initialized y'.cls] : List Cond) ++ (.code y' cc' nL' ret' :: gtbl) from hw) with h | h
    · simp only [List.mem_cons, List.not_mem_nil, or_false] at h
      rcases h with rfl | rfl | rfl
      · exact gW hlink
      · exact gW hstat
      · exact gW hini
    · exact gWs hcode w h
  refine run_go (va_runS (As := As) (rest := rest) (nL := nL) ⟨F.1, F.2.1, F.2.2.2.1, F.2.2.2.2.1, F.2.2.2.2.2.1⟩ kk (va_cwS n F.2.2.2.2.2.1 hG rfl hr1c hr2c hn ⟨hr3c, hr4c⟩) ⟨fun a U f mk q => ⟨q.1, q.2.1, q.2.2.1, q.2.2.2.blind f mk a⟩, fun U hU hW => ⟨rfl, by rw [hU]; exact hP, hT, F.2.2.2.2.2.2.2.at hS hU hW⟩⟩ rfl hAs hl.1 rfl (lv_room hrest) hd ⟨Nat.zero_le _, Nat.zero_le _⟩) hS (fun v M' H1 locs1 hQ hP1 hT1 hS1 => hQ p e s m args below meth c H1 locs1 ls F hP1 hT1 hS1 hl)
end Rows
