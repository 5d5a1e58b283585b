/-! ===== the world as one memory: cells by their place behind the base; ints as integers; a judgement WP over it, a row an instruction ===== -/
def gtbl : List Cond := lw_tbl.filter goodWord
theorem gt_in {w : Cond} (h : w ∈ lw_tbl) (hg : goodWord w = true) : w ∈ gtbl := List.mem_filter.mpr ⟨h, hg⟩
theorem gt_ok : ∀ w ∈ gtbl, (w.onTables && w.keeps) = true ∨ ∃ ty, w = .arrayClass ty := fun _ h => good_of_word (List.mem_filter.mp h).2
def isNest : Cond → Bool
  | .fieldLinkNest .. => true
  | .methodLinkNest .. => true
  | _ => false
def ntbl : List Cond := tables_1.filter isNest
def Nw (U : State) : Prop := ∀ w ∈ ntbl, va_Nw w U
theorem Nw.warm {s U : State} (hW : s.WarmedH U.vm) (h : Nw s) : Nw U := by
  intro w hw
  have h1 := h w hw
  have h2 := (List.mem_filter.mp hw).2
  cases w <;> first | exact va_Nw.warmF hW h1 | exact va_Nw.warmM hW h1 | (simp [isNest] at h2)
theorem Nw.same {u U : State} (hv : u.vm = U.vm) (h : Nw u) : Nw U := by
  intro w hw
  have h1 := h w hw
  have h2 := (List.mem_filter.mp hw).2
  cases w <;> first | exact va_Nw.same rfl hv h1 | (simp [isNest] at h2)
abbrev Mem : Type := (Nat → Nat → Int) × (Nat → Nat → Nat)
abbrev Ctx : Type := Launch × Nat × va_G × (Nat → ClassId) × (Nat → Nat) × (Nat → Nat)
abbrev gl (g : Ctx) : Launch := g.1
abbrev gB (g : Ctx) : Nat := g.2.1
abbrev gD (g : Ctx) : va_G := g.2.2.1
abbrev gcy (g : Ctx) : Nat → ClassId := g.2.2.2.1
abbrev gK (g : Ctx) : Nat → Nat := g.2.2.2.2.1
abbrev gV (g : Ctx) : Nat → Nat := g.2.2.2.2.2
def gA (g : Ctx) : Nat → Prop := fun q => gB g ≤ q
def gtys (g : Ctx) : List (ClassId × FieldType) := [(gcy g 0, .int), (gcy g 1, .char), (gcy g 2, .object "SendRules$Rule"), (gcy g 3, .object "SendRules$Domain"), (gcy g 4, .object "SendRules$KeptCheck"), (gcy g 5, .object "SendRules$Change")]
abbrev classes : List vw_C := [(RX0, TX0, 4), (RX1, TX1, 11), (RX2, TX2, 10), (RX3, TX3, 2), (RX4, TX4, 1), (RX5, TX5, 2), (RX6, TX6, 2), (RX7, TX7, 4), (RX8, TX8, 2), (RX9, TX9, 7), (RX10, TX10, 6), (RX11, TX11, 48)]
def gI (M : Mem) (a k : Nat) : Int := M.1 a k
def gP (M : Mem) (a k : Nat) : Nat := M.2 a k
def sI (M : Mem) (a k : Nat) (v : Int) : Mem := (fun b j => if b = a ∧ j = k then v else M.1 b j, M.2)
def sP (M : Mem) (a k : Nat) (v : Nat) : Mem := (M.1, fun b j => if b = a ∧ j = k then v else M.2 b j)
theorem gI_sI (M : Mem) (a k : Nat) (v : Int) (b j : Nat) : gI (sI M a k v) b j = if b = a ∧ j = k then v else gI M b j := rfl
theorem gI_sP (M : Mem) (a k v b j : Nat) : gI (sP M a k v) b j = gI M b j := rfl
theorem gP_sI (M : Mem) (a k : Nat) (v : Int) (b j : Nat) : gP (sI M a k v) b j = gP M b j := rfl
theorem gP_sP (M : Mem) (a k v b j : Nat) : gP (sP M a k v) b j = if b = a ∧ j = k then v else gP M b j := rfl
abbrev InR (x : Int) : Prop := -2147483648 ≤ x ∧ x ≤ 2147483647
def vi (x : Int) : Value := .int (Int32.ofInt x)
def vr (g : Ctx) (a : Nat) : Value := .ref (gB g + a)
def oq (g : Ctx) (p : Nat) : Option Nat := if p = 0 then none else some (gB g + p)
def vq (g : Ctx) (p : Nat) : Value := va_rf (oq g p)
/-- shapes: an object (its class; a field is an int, a moving reference, or a fixed one), or an array (its kind, its length) -/
abbrev Shp : Type := (Nat × List (Option (Option Nat))) ⊕ (Nat × Nat)
def shpDom (d c : Nat) : Shp :=
  if c = 0 then .inl (1, [none, some (some (d + 1)), none, none, some (some (d + 2)), none, none, some (some (d + 3)), none, some (some (d + 4)), none])
  else if c = 1 then .inr (0, 7) else if c = 2 then .inr (2, 8) else if c = 3 then .inr (0, 4) else if c = 4 then .inr (0, 3)
  else if c % 2 = 1 then .inl (9, [none, none, none, none, none, some (some (d + c + 1)), none]) else .inr (0, 8)
def shpRec (b o : Nat) : Shp :=
  if o = 0 then .inl (8, [some (some (b + 1)), none]) else if o = 1 then .inr (3, 12)
  else shpDom (b + 2 + 21 * ((o - 2) / 21)) ((o - 2) % 21)
def mLen : List Nat := [240, 12, 12, 12, 12, 36, 96, 96, 96, 96, 96, 768, 252, 1008, 12, 12, 12, 12, 36, 96, 96, 96, 96, 96, 768, 96, 12, 48, 32, 12, 12, 7]
def mFld : List (Option (Option Nat)) := [none, some (some 531), none, some (some 532), some (some 533), some (some 534), some (some 535), some (some 536), some (some 537), some (some 538), some (some 539), some (some 540), some (some 541), some (some 542), some (some 543), some (some 544), none, none, some (some 545), some (some 546), some (some 547), some (some 548), some (some 549), some (some 550), some (some 551), some (some 552), some (some 553), some (some 554), some (some 555), some (some 556), some (some 557), some (some 558), none, none, none, some (some 559), none, none, none, none, none, none, none, some (some 560), some (some 561), none, some (some 562), none]
def shp (a : Nat) : Shp :=
  if a < 4 then (if a = 0 then .inl (10, [some (some 1), some none, some none, some (some 258), some (some 260), some (some 270)]) else if a = 1 then .inl (7, [some (some 2), none, none, some (some 3)]) else if a = 2 then .inr (1, 240) else .inl (6, [none, none]))
  else if a < 258 then shpRec 4 (a - 4)
  else if a < 276 then (if a = 258 then .inl (2, [some none, some none, none, none, none, none, none, none, none, some (some 259)]) else if a = 259 then .inl (6, [none, none]) else if a = 260 then .inl (5, [some (some 261), none]) else if a = 261 then .inr (4, 4)
    else if a < 270 then (if a % 2 = 0 then .inl (4, [some (some (a + 1))]) else .inr (0, 8)) else if a = 270 then .inl (3, [some (some 271), none]) else if a = 271 then .inr (5, 4) else .inl (0, [none, none, none, none]))
  else if a < 530 then shpRec 276 (a - 276)
  else if a = 530 then .inl (11, mFld)
  else .inr (0, mLen.getD (a - 531) 0)
def fvl (g : Ctx) (M : Mem) (a k : Nat) (kd : Option (Option Nat)) : Value := match kd with
  | none => .int (Int32.ofInt (M.1 a k))
  | some none => va_rf (oq g (M.2 a k))
  | some (some p) => .ref (gB g + p)
def arrOf (g : Ctx) (M : Mem) (a t n : Nat) : vp_A := (n, if t < 2 then .inl (fun j => Int32.ofInt (M.1 a j)) else .inr (.inr (.inr (.inr (fun j => oq g (M.2 a j))))))
def cellOf (g : Ctx) (M : Mem) (a : Nat) : va_E := match shp a with
  | .inl o => .inr (o.1, o.2.mapIdx (fvl g M a))
  | .inr r => .inl (gcy g r.1, arrOf g M a r.1 r.2)
def adr (g : Ctx) (N : Nat) : List Nat := (List.range N).map (fun a => gB g + a)
def wsN (g : Ctx) (N : Nat) (M : Mem) : va_W := va_pl (adr g N) (fun q => cellOf g M (q - gB g))
theorem adr_in {g : Ctx} {N a : Nat} (h : a < N) : gB g + a ∈ adr g N := List.mem_map.mpr ⟨a, List.mem_range.mpr h, rfl⟩
theorem ws_get (g : Ctx) (N : Nat) (M : Mem) {a : Nat} (h : a < N) : ∃ k : Nat, (wsN g N M)[k]? = some (gB g + a, cellOf g M a) := by
  obtain ⟨k, hk⟩ := va_pl_get (X := []) (f := fun q => cellOf g M (q - gB g)) (adr_in (g := g) h)
  refine ⟨k, ?_⟩
  have e : gB g + a - gB g = a := by omega
  simp only [e, List.nil_append] at hk
  exact hk
theorem ws_D (g : Ctx) (N : Nat) (M : Mem) : va_D (gA g) (wsN g N M) := by
  have key : ∀ (k : Nat) (q : Nat × va_E), (wsN g N M)[k]? = some q → q.1 = gB g + k := by
    intro k q hk
    simp only [wsN, va_pl, adr, List.getElem?_map] at hk
    by_cases hN : k < N
    · simp [List.getElem?_range hN] at hk
      rw [← hk]
    · simp [List.getElem?_eq_none (show (List.range N).length ≤ k by simp; omega)] at hk
  refine ⟨fun i j p q hi hj hpq => ?_, fun k q hk => ?_⟩
  · have h1 := key i p hi
    have h2 := key j q hj
    omega
  · have h1 := key k q hk
    show gB g ≤ q.1
    omega
theorem ws_set (g : Ctx) {N : Nat} {M M' : Mem} {a k : Nat} {e : va_E} (h : a < N) (hk : (wsN g N M)[k]? = some (gB g + a, cellOf g M a)) (he : cellOf g M' a = e) (ho : ∀ b, b ≠ a → cellOf g M' b = cellOf g M b) : (wsN g N M).set k (gB g + a, e) = wsN g N M' := by
  have e0 : gB g + a - gB g = a := by omega
  have h1 := va_pl_set (X := []) (L := adr g N) (f := fun q => cellOf g M (q - gB g)) (a := gB g + a) (k := k) (e := e) (ws_D g N M) (adr_in h) (by simp only [e0, List.nil_append]; exact hk)
  simp only [List.nil_append] at h1
  unfold wsN
  rw [h1]
  unfold va_pl adr
  refine List.map_congr_left fun q hq => ?_
  obtain ⟨b, hb, rfl⟩ := List.mem_map.mp hq
  have e1 : gB g + b - gB g = b := by omega
  by_cases hab : b = a
  · subst hab
    simp only [va_up, if_true, e1, he]
  · have hne : gB g + b ≠ gB g + a := by omega
    simp only [va_up, if_neg hne, e1, ho b hab]
theorem cell_oI (g : Ctx) (M : Mem) (a k : Nat) (v : Int) {b : Nat} (h : b ≠ a) : cellOf g (sI M a k v) b = cellOf g M b := by
  have e1 : ∀ j, (sI M a k v).1 b j = M.1 b j := fun j => by simp [sI, h]
  have e2 : fvl g (sI M a k v) b = fvl g M b := by
    funext j kd
    cases kd with
    | none => simp only [fvl, e1]
    | some q => cases q <;> rfl
  unfold cellOf
  cases shp b with
  | inl o => simp only [e2]
  | inr r => simp only [arrOf, e1]; rfl
theorem cell_oP (g : Ctx) (M : Mem) (a k v : Nat) {b : Nat} (h : b ≠ a) : cellOf g (sP M a k v) b = cellOf g M b := by
  have e1 : ∀ j, (sP M a k v).2 b j = M.2 b j := fun j => by simp [sP, h]
  have e2 : fvl g (sP M a k v) b = fvl g M b := by
    funext j kd
    cases kd with
    | none => rfl
    | some q => cases q <;> simp only [fvl, e1]
  unfold cellOf
  cases shp b with
  | inl o => simp only [e2]
  | inr r => simp only [arrOf, e1]; rfl
theorem flds_setI (g : Ctx) (M : Mem) (a k : Nat) (v : Int) (ks : List (Option (Option Nat))) (h : ks[k]? = some none) : (ks.mapIdx (fvl g M a)).set k (vi v) = ks.mapIdx (fvl g (sI M a k v) a) := by
  apply List.ext_getElem?
  intro j
  rw [List.getElem?_set]
  simp only [List.getElem?_mapIdx, List.length_mapIdx]
  by_cases hj : k = j
  · subst hj
    have hl := (List.getElem?_eq_some_iff.mp h).1
    rw [if_pos rfl, if_pos (by simpa using hl), h]
    simp [fvl, sI, vi]
  · rw [if_neg hj]
    cases ks[j]? with
    | none => rfl
    | some kd => cases kd with
      | none => simp [fvl, sI, Ne.symm hj]
      | some q => cases q <;> rfl
theorem flds_setP (g : Ctx) (M : Mem) (a k v : Nat) (ks : List (Option (Option Nat))) (h : ks[k]? = some (some none)) : (ks.mapIdx (fvl g M a)).set k (vq g v) = ks.mapIdx (fvl g (sP M a k v) a) := by
  apply List.ext_getElem?
  intro j
  rw [List.getElem?_set]
  simp only [List.getElem?_mapIdx, List.length_mapIdx]
  by_cases hj : k = j
  · subst hj
    have hl := (List.getElem?_eq_some_iff.mp h).1
    rw [if_pos rfl, if_pos (by simpa using hl), h]
    simp [fvl, sP, vq]
  · rw [if_neg hj]
    cases ks[j]? with
    | none => rfl
    | some kd => cases kd with
      | none => rfl
      | some q => cases q <;> simp [fvl, sP, Ne.symm hj]
/-- the kinds of places -/
def isRec (b : Nat) : Prop := b = 4 ∨ b = 276
def isDom (d : Nat) : Prop := ∃ b q, isRec b ∧ q < 12 ∧ d = b + 2 + 21 * q
def isRul (r : Nat) : Prop := ∃ d i, isDom d ∧ i < 8 ∧ r = d + 5 + 2 * i
def isKc (k : Nat) : Prop := ∃ i, i < 4 ∧ k = 262 + 2 * i
def isCh (c : Nat) : Prop := ∃ i, i < 4 ∧ c = 272 + i
def isMk (c : Nat) : Prop := c = 3 ∨ c = 259
/-- ints are in range, rows of references hold what they must -/
def WT (M : Mem) : Prop := (∀ a k, InR (M.1 a k)) ∧ (∀ b k, isRec b → k < 12 → isDom (M.2 (b + 1) k)) ∧ (∀ d k, isDom d → k < 8 → isRul (M.2 (d + 2) k)) ∧ (∀ k, k < 4 → isKc (M.2 261 k)) ∧ (∀ k, k < 4 → isCh (M.2 271 k))
