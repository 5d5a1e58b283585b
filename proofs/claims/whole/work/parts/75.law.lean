/-! THE CLAIM OUT OF ONE WALK OF THE LAW'S BODY. Your part is whole_start (and what it stands on); all else here is the same for every law, but numbers. -/
def R_law : String := "SendRulesLaw"
def lw_P (b : Addr) (xs : List Int32) (args : Array Value) (s : State) : Prop := args = #[.ref b] ∧ s.IntsAt b xs ∧ xs.length ≤ 2560 ∧ (Jvm.Cond.and given_1 narrow_1).before args s = true
def lw_Q (_ : Array Value) (s : State) (o : Outcome) (t : State) : Prop := o = .returned (some (.int 1)) ∧ Framed s o t [] 600000 7302250
def lw_Z (below : List Frame) (a : Array Value) (s : State) : State → Prop := fun t => ∃ o, t.status = .running ∧ Ended t below o ∧ lw_Q a s o t
/-- the law's own end, with 1 on the stack, nothing written that was there before, its room as the claim has it -/
theorem lw_ret {p : Program} {l : Launch} {e : Env} {s : State} {m : MethodId} {below : List Frame} {meth : Method} {c : Code} {b : Nat} (hx : p.tables.exec = Jvm.exec) (hb : c.code = code) (hr : meth.sig.returnType = ret) (hlocks : meth.locks = false) {pc : Nat} {H : Heap} {ls : Array Slot} (hdg : decode code pc = .ok (.ireturn, 1)) : W p l e room_1 s m #[Value.ref b] below meth c H [] 600000 7302250 (lw_Z below #[Value.ref b] s) (F0 m pc ls [.int 1]) := by
  intro T hT X
  obtain ⟨fs, hret, hrun, hended, hW, hframe⟩ := X.leave (v := some (.int 1)) (hlocks := hlocks) (fun h => by rw [hr] at h; cases h)
  have hmeth' : T.vm.method? m = some meth := X.method'
  refine ⟨T.setFrames fs, ?_, .returned (some (.int 1)), hrun, hended, rfl, ⟨_, rfl⟩, hW, hframe⟩
  jvm_step X.here [X.here.top, hx, hb, hdg, hmeth', hr, ret, narrow_b1]
  (try refine ⟨rfl, ?_⟩); (try refine ⟨rfl, ?_⟩)
  first | (intro acts; rw [hret _ acts rfl rfl rfl]) | rw [hret _ _ rfl rfl rfl]
  exact Steps.refl _
/-- what holds at the law's entry: the machine, the code, the tables' words (any of lw_tbl by 'hts w (by decide +kernel)'), the script of L ints xs at the cell b, what the Statement gives of the start (any of its parts by flat_of_before) -/
def lw_At (p : Program) (s : State) (m : MethodId) (meth : Method) (c : Code) (b L : Nat) (xs : Nat → Int32) : Prop :=
  p.tables.exec = Jvm.exec ∧ c.code = code ∧ meth.sig.returnType = ret ∧ c.maxLocals = 4 ∧ s.vm.findClass R_law = some m.cls ∧ (∀ w ∈ lw_tbl, w.before #[Value.ref b] s = true) ∧ va_X b L xs s s.heap ∧ b < s.heap.size ∧ meth.locks = false ∧ (Jvm.Cond.and given_1 narrow_1).before #[Value.ref b] s = true

def XL (g : Ctx) (b L : Nat) (xs : Nat → Int32) : State → Method → Prop := fun s _ => (va_X b L xs s s.heap ∧ b < s.heap.size ∧ b < gB g ∧ s.heap.size = gB g) ∧ AOs s
/-- the law's end, its argument being the script -/
def ZLb (b : Nat) : Array Value → List Frame → State → State → Prop := fun args below s t => args = #[Value.ref b] → lw_Z below #[Value.ref b] s t
def ZL : Array Value → List Frame → State → State → Prop := fun args below s => lw_Z below args s
section LW
variable {g : Ctx} {y : MethodName} {cc : ByteArray} {nL : Nat} {ret : Option FieldType} {rm : Room} {X : State → Method → Prop} {N ce sl pc : Nat} {lv : List (Nat × Value)} {st : List Value} {f : Nat → va_E} {Z : Array Value → List Frame → State → State → Prop}
theorem x_aloadR {q : Fin 4} {x : Nat} (hd : decode cc pc = .ok (.aload_n q, 1)) (j : Nat) (hj : lv[j]? = some ((q : Nat), Value.ref x)) (k : WG g y cc nL ret rm X N ce sl (pc + 1) lv (Value.ref x :: st) f Z) : WG g y cc nL ret rm X N ce sl pc lv st f Z := by
  intro p e s m args below meth c H locs ls F hX hz hP hS hl
  exact lv_aload_n F.1 F.2.1 hd rfl (lv_at hl j hj) (k p e s m args below meth c H locs ls F hX hz hP hS hl)
theorem x_iadd {x z : Int} (hd : decode cc pc = .ok (.iadd, 1)) (k : WG g y cc nL ret rm X N ce sl (pc + 1) lv (vi (x + z) :: st) f Z) : WG g y cc nL ret rm X N ce sl pc lv (vi z :: vi x :: st) f Z := by
  intro p e s m args below meth c H locs ls F hX hz hP hS hl
  refine lv_iadd F.1 F.2.1 hd ?_
  rw [vi_add]
  exact k p e s m args below meth c H locs ls F hX hz hP hS hl
theorem x_sld {b L : Nat} {xs : Nat → Int32} {z : Int} (hd : decode cc pc = .ok (.iaload, 1)) (hL : L ≤ 2560) (h0 : 0 ≤ z) (h1 : z < L) (k : WG g y cc nL ret rm (XL g b L xs) N ce sl (pc + 1) lv (vi ((xs z.toNat).toInt) :: st) f Z) : WG g y cc nL ret rm (XL g b L xs) N ce sl pc lv (vi z :: Value.ref b :: st) f Z := by
  intro p e s m args below meth c H locs ls F hX hz hP hS hl
  have k1 := k p e s m args below meth c H locs ls F hX hz hP hS hl
  unfold vi at k1
  rw [vi_self] at k1
  refine va_sld F.1 F.2.1 hX.1.1 hX.1.2.1 (fun q => Nat.not_le.mpr hX.1.2.2.1 q) hS (vi_in h0 h1 (by omega)) hd ?_
  rw [vi_clamp h0 (by omega)]
  exact k1
theorem x_slen {b L : Nat} {xs : Nat → Int32} (hd : decode cc pc = .ok (.arraylength, 1)) (k : WG g y cc nL ret rm (XL g b L xs) N ce sl (pc + 1) lv (vi (L : Int) :: st) f Z) : WG g y cc nL ret rm (XL g b L xs) N ce sl pc lv (Value.ref b :: st) f Z := by
  intro p e s m args below meth c H locs ls F hX hz hP hS hl
  exact va_slen F.1 F.2.1 hX.1.1 hX.1.2.1 (fun q => Nat.not_le.mpr hX.1.2.2.1 q) hS hd (k p e s m args below meth c H locs ls F hX hz hP hS hl)
end LW
theorem jand31 (x : Int) : 0 ≤ jand x 31 ∧ jand x 31 ≤ 31 := by
  unfold jand
  generalize Int32.ofInt x = a
  have h : (a &&& Int32.ofInt 31).toBitVec.toNat ≤ 31 := by
    show (a.toBitVec &&& (Int32.ofInt 31).toBitVec).toNat ≤ 31
    rw [BitVec.toNat_and]
    exact Nat.and_le_right
  have h2 : (a &&& Int32.ofInt 31).toInt = ((a &&& Int32.ofInt 31).toBitVec.toNat : Int) := by
    show (a &&& Int32.ofInt 31).toBitVec.toInt = _
    exact BitVec.toInt_eq_toNat_of_lt (by omega)
  rw [h2]
  omega

abbrev WL (g : Ctx) (b L : Nat) (xs : Nat → Int32) (pc : Nat) (lv : List (Nat × Value)) (st : List Value) (M : Mem) : Prop := WG g x code 4 ret room_1 (XL g b L xs) 563 563 8459 pc lv st (cellOf g M) (ZLb b)
theorem x_lend {g : Ctx} {b L : Nat} {xs : Nat → Int32} {N ce sl pc : Nat} {lv : List (Nat × Value)} {f : Nat → va_E} (hd : decode code pc = .ok (.ireturn, 1)) (hc : ce ≤ 600000) (hs : sl ≤ 7302250) : WG g x code 4 ret room_1 (XL g b L xs) N ce sl pc lv [vi 1] f (ZLb b) := by
  intro p e s m args below meth c H locs ls F hX hz hP hS hl
  have hge : ∀ q ∈ locs, s.heap.size ≤ q.base := fun q hq => by
    have h1 : gB g ≤ q.base := hS.2.2 q hq
    rw [← hX.1.2.2.2] at h1
    exact h1
  refine va_forget hge (W.widen hc hs ?_)
  intro T hT X0
  by_cases ha : args = #[Value.ref b]
  · subst ha
    obtain ⟨t, a1, b1⟩ := lw_ret (b := b) F.1 F.2.1 F.2.2.1 F.2.2.2.2.2.2.1 (pc := pc) (H := H) (ls := ls) hd T hT X0
    exact ⟨t, a1, fun _ => b1⟩
  · exact ⟨_, Steps.refl _, fun h => absurd h ha⟩
theorem q553 : (Jvm.Cond.methodLink "SendRulesLaw" (13 : Nat) ({ cls := "SendRules", name := "write", desc := "(I)I" } : Jvm.MethodName)) ∈ gtbl := gt_in (List.mem_append_right _ (List.mem_of_getElem? (i := 553) (by decide +kernel))) rfl
theorem q1049 : (Jvm.Cond.methodLink "SendRulesLaw" (17 : Nat) ({ cls := "SendRulesModel", name := "write", desc := "(I)I" } : Jvm.MethodName)) ∈ gtbl := gt_in (List.mem_append_right _ (List.mem_of_getElem? (i := 1049) (by decide +kernel))) rfl
theorem q557 : (Jvm.Cond.methodLink "SendRulesLaw" (18 : Nat) ({ cls := "SendRules", name := "wipe", desc := "()I" } : Jvm.MethodName)) ∈ gtbl := gt_in (List.mem_append_right _ (List.mem_of_getElem? (i := 557) (by decide +kernel))) rfl
theorem q1050 : (Jvm.Cond.methodLink "SendRulesLaw" (22 : Nat) ({ cls := "SendRulesModel", name := "wipe", desc := "()I" } : Jvm.MethodName)) ∈ gtbl := gt_in (List.mem_append_right _ (List.mem_of_getElem? (i := 1050) (by decide +kernel))) rfl
theorem q561 : (Jvm.Cond.methodLink "SendRulesLaw" (23 : Nat) ({ cls := "SendRules", name := "fault", desc := "()I" } : Jvm.MethodName)) ∈ gtbl := gt_in (List.mem_append_right _ (List.mem_of_getElem? (i := 561) (by decide +kernel))) rfl
theorem q1054 : (Jvm.Cond.methodLink "SendRulesLaw" (26 : Nat) ({ cls := "SendRulesModel", name := "fault", desc := "()I" } : Jvm.MethodName)) ∈ gtbl := gt_in (List.mem_append_right _ (List.mem_of_getElem? (i := 1054) (by decide +kernel))) rfl
theorem q565 : (Jvm.Cond.methodLink "SendRulesLaw" (27 : Nat) ({ cls := "SendRules", name := "lay", desc := "()I" } : Jvm.MethodName)) ∈ gtbl := gt_in (List.mem_append_right _ (List.mem_of_getElem? (i := 565) (by decide +kernel))) rfl
theorem q1058 : (Jvm.Cond.methodLink "SendRulesLaw" (30 : Nat) ({ cls := "SendRulesModel", name := "lay", desc := "()I" } : Jvm.MethodName)) ∈ gtbl := gt_in (List.mem_append_right _ (List.mem_of_getElem? (i := 1058) (by decide +kernel))) rfl
theorem q581 : (Jvm.Cond.methodLink "SendRulesLaw" (31 : Nat) ({ cls := "SendRules", name := "named", desc := "(I)I" } : Jvm.MethodName)) ∈ gtbl := gt_in (List.mem_append_right _ (List.mem_of_getElem? (i := 581) (by decide +kernel))) rfl
theorem q1059 : (Jvm.Cond.methodLink "SendRulesLaw" (34 : Nat) ({ cls := "SendRulesModel", name := "named", desc := "(I)I" } : Jvm.MethodName)) ∈ gtbl := gt_in (List.mem_append_right _ (List.mem_of_getElem? (i := 1059) (by decide +kernel))) rfl
theorem q591 : (Jvm.Cond.methodLink "SendRulesLaw" (35 : Nat) ({ cls := "SendRules", name := "check", desc := "(III)I" } : Jvm.MethodName)) ∈ gtbl := gt_in (List.mem_append_right _ (List.mem_of_getElem? (i := 591) (by decide +kernel))) rfl
theorem q1063 : (Jvm.Cond.methodLink "SendRulesLaw" (39 : Nat) ({ cls := "SendRulesModel", name := "check", desc := "(III)I" } : Jvm.MethodName)) ∈ gtbl := gt_in (List.mem_append_right _ (List.mem_of_getElem? (i := 1063) (by decide +kernel))) rfl
theorem q696 : (Jvm.Cond.methodLink "SendRulesLaw" (40 : Nat) ({ cls := "SendRules", name := "kept", desc := "(II)I" } : Jvm.MethodName)) ∈ gtbl := gt_in (List.mem_append_right _ (List.mem_of_getElem? (i := 696) (by decide +kernel))) rfl
theorem q1140 : (Jvm.Cond.methodLink "SendRulesLaw" (44 : Nat) ({ cls := "SendRulesModel", name := "kept", desc := "(II)I" } : Jvm.MethodName)) ∈ gtbl := gt_in (List.mem_append_right _ (List.mem_of_getElem? (i := 1140) (by decide +kernel))) rfl
theorem q704 : (Jvm.Cond.methodLink "SendRulesLaw" (45 : Nat) ({ cls := "SendRules", name := "sign", desc := "(III)I" } : Jvm.MethodName)) ∈ gtbl := gt_in (List.mem_append_right _ (List.mem_of_getElem? (i := 704) (by decide +kernel))) rfl
theorem q1148 : (Jvm.Cond.methodLink "SendRulesLaw" (48 : Nat) ({ cls := "SendRulesModel", name := "sign", desc := "(III)I" } : Jvm.MethodName)) ∈ gtbl := gt_in (List.mem_append_right _ (List.mem_of_getElem? (i := 1148) (by decide +kernel))) rfl
theorem q723 : (Jvm.Cond.methodLink "SendRulesLaw" (49 : Nat) ({ cls := "SendRules", name := "swap", desc := "(II)I" } : Jvm.MethodName)) ∈ gtbl := gt_in (List.mem_append_right _ (List.mem_of_getElem? (i := 723) (by decide +kernel))) rfl
theorem q1160 : (Jvm.Cond.methodLink "SendRulesLaw" (52 : Nat) ({ cls := "SendRulesModel", name := "swap", desc := "(II)I" } : Jvm.MethodName)) ∈ gtbl := gt_in (List.mem_append_right _ (List.mem_of_getElem? (i := 1160) (by decide +kernel))) rfl
theorem q731 : (Jvm.Cond.methodLink "SendRulesLaw" (53 : Nat) ({ cls := "SendRules", name := "host", desc := "(III)I" } : Jvm.MethodName)) ∈ gtbl := gt_in (List.mem_append_right _ (List.mem_of_getElem? (i := 731) (by decide +kernel))) rfl
theorem q1164 : (Jvm.Cond.methodLink "SendRulesLaw" (56 : Nat) ({ cls := "SendRulesModel", name := "host", desc := "(III)I" } : Jvm.MethodName)) ∈ gtbl := gt_in (List.mem_append_right _ (List.mem_of_getElem? (i := 1164) (by decide +kernel))) rfl
theorem q741 : (Jvm.Cond.methodLink "SendRulesLaw" (57 : Nat) ({ cls := "SendRules", name := "undo", desc := "()I" } : Jvm.MethodName)) ∈ gtbl := gt_in (List.mem_append_right _ (List.mem_of_getElem? (i := 741) (by decide +kernel))) rfl
theorem q1144 : (Jvm.Cond.methodLink "SendRulesLaw" (60 : Nat) ({ cls := "SendRulesModel", name := "undo", desc := "()I" } : Jvm.MethodName)) ∈ gtbl := gt_in (List.mem_append_right _ (List.mem_of_getElem? (i := 1144) (by decide +kernel))) rfl
theorem q753 : (Jvm.Cond.methodLink "SendRulesLaw" (61 : Nat) ({ cls := "SendRules", name := "name", desc := "(II)I" } : Jvm.MethodName)) ∈ gtbl := gt_in (List.mem_append_right _ (List.mem_of_getElem? (i := 753) (by decide +kernel))) rfl
theorem q1168 : (Jvm.Cond.methodLink "SendRulesLaw" (64 : Nat) ({ cls := "SendRulesModel", name := "name", desc := "(II)I" } : Jvm.MethodName)) ∈ gtbl := gt_in (List.mem_append_right _ (List.mem_of_getElem? (i := 1168) (by decide +kernel))) rfl
theorem q761 : (Jvm.Cond.methodLink "SendRulesLaw" (65 : Nat) ({ cls := "SendRules", name := "letter", desc := "(II)I" } : Jvm.MethodName)) ∈ gtbl := gt_in (List.mem_append_right _ (List.mem_of_getElem? (i := 761) (by decide +kernel))) rfl
theorem q1172 : (Jvm.Cond.methodLink "SendRulesLaw" (68 : Nat) ({ cls := "SendRulesModel", name := "letter", desc := "(II)I" } : Jvm.MethodName)) ∈ gtbl := gt_in (List.mem_append_right _ (List.mem_of_getElem? (i := 1172) (by decide +kernel))) rfl
theorem q765 : (Jvm.Cond.methodLink "SendRulesLaw" (69 : Nat) ({ cls := "SendRules", name := "rule", desc := "(III)I" } : Jvm.MethodName)) ∈ gtbl := gt_in (List.mem_append_right _ (List.mem_of_getElem? (i := 765) (by decide +kernel))) rfl
theorem q1176 : (Jvm.Cond.methodLink "SendRulesLaw" (72 : Nat) ({ cls := "SendRulesModel", name := "rule", desc := "(III)I" } : Jvm.MethodName)) ∈ gtbl := gt_in (List.mem_append_right _ (List.mem_of_getElem? (i := 1176) (by decide +kernel))) rfl
theorem q769 : (Jvm.Cond.methodLink "SendRulesLaw" (73 : Nat) ({ cls := "SendRules", name := "hostOf", desc := "(II)I" } : Jvm.MethodName)) ∈ gtbl := gt_in (List.mem_append_right _ (List.mem_of_getElem? (i := 769) (by decide +kernel))) rfl
theorem q1180 : (Jvm.Cond.methodLink "SendRulesLaw" (76 : Nat) ({ cls := "SendRulesModel", name := "hostOf", desc := "(II)I" } : Jvm.MethodName)) ∈ gtbl := gt_in (List.mem_append_right _ (List.mem_of_getElem? (i := 1180) (by decide +kernel))) rfl
theorem q773 : (Jvm.Cond.methodLink "SendRulesLaw" (77 : Nat) ({ cls := "SendRules", name := "many", desc := "(III)I" } : Jvm.MethodName)) ∈ gtbl := gt_in (List.mem_append_right _ (List.mem_of_getElem? (i := 773) (by decide +kernel))) rfl
theorem q1184 : (Jvm.Cond.methodLink "SendRulesLaw" (80 : Nat) ({ cls := "SendRulesModel", name := "many", desc := "(III)I" } : Jvm.MethodName)) ∈ gtbl := gt_in (List.mem_append_right _ (List.mem_of_getElem? (i := 1184) (by decide +kernel))) rfl
theorem q777 : (Jvm.Cond.methodLink "SendRulesLaw" (81 : Nat) ({ cls := "SendRules", name := "dead", desc := "(II)I" } : Jvm.MethodName)) ∈ gtbl := gt_in (List.mem_append_right _ (List.mem_of_getElem? (i := 777) (by decide +kernel))) rfl
theorem q1188 : (Jvm.Cond.methodLink "SendRulesLaw" (84 : Nat) ({ cls := "SendRulesModel", name := "dead", desc := "(II)I" } : Jvm.MethodName)) ∈ gtbl := gt_in (List.mem_append_right _ (List.mem_of_getElem? (i := 1188) (by decide +kernel))) rfl
theorem q781 : (Jvm.Cond.methodLink "SendRulesLaw" (85 : Nat) ({ cls := "SendRules", name := "lookups", desc := "(IIII)I" } : Jvm.MethodName)) ∈ gtbl := gt_in (List.mem_append_right _ (List.mem_of_getElem? (i := 781) (by decide +kernel))) rfl
theorem q1192 : (Jvm.Cond.methodLink "SendRulesLaw" (89 : Nat) ({ cls := "SendRulesModel", name := "lookups", desc := "(IIII)I" } : Jvm.MethodName)) ∈ gtbl := gt_in (List.mem_append_right _ (List.mem_of_getElem? (i := 1192) (by decide +kernel))) rfl
theorem q793 : (Jvm.Cond.methodLink "SendRulesLaw" (90 : Nat) ({ cls := "SendRules", name := "leads", desc := "(I)I" } : Jvm.MethodName)) ∈ gtbl := gt_in (List.mem_append_right _ (List.mem_of_getElem? (i := 793) (by decide +kernel))) rfl
theorem q1200 : (Jvm.Cond.methodLink "SendRulesLaw" (93 : Nat) ({ cls := "SendRulesModel", name := "leads", desc := "(I)I" } : Jvm.MethodName)) ∈ gtbl := gt_in (List.mem_append_right _ (List.mem_of_getElem? (i := 1200) (by decide +kernel))) rfl
theorem q805 : (Jvm.Cond.methodLink "SendRulesLaw" (94 : Nat) ({ cls := "SendRules", name := "count", desc := "(I)I" } : Jvm.MethodName)) ∈ gtbl := gt_in (List.mem_append_right _ (List.mem_of_getElem? (i := 805) (by decide +kernel))) rfl
theorem q1208 : (Jvm.Cond.methodLink "SendRulesLaw" (97 : Nat) ({ cls := "SendRulesModel", name := "count", desc := "(I)I" } : Jvm.MethodName)) ∈ gtbl := gt_in (List.mem_append_right _ (List.mem_of_getElem? (i := 1208) (by decide +kernel))) rfl
theorem law_0 {g : Ctx} {b L i : Nat} {xs : Nat → Int32} {M : Mem} (hL : L ≤ 2560) (hi : i + 5 ≤ L) (hw : WT M) (hR : Rel M) (nx : ∀ M2, WT M2 → Rel M2 → WL g b L xs 738 [(3, vi (i : Int)), (2, vr g 530), (1, vr g 0), (0, Value.ref b)] [] M2) : WL g b L xs 128 [(3, vi (i : Int)), (2, vr g 530), (1, vr g 0), (0, Value.ref b)] [] M := by
  refine x_aload_n dL_law_128 2 rfl ?_
  refine x_aloadR dL_law_129 3 rfl (x_iload_n dL_law_130 0 rfl (x_iconst dL_law_131 (x_iadd dL_law_132 (x_sld dL_law_133 hL (by omega) (by omega) ?_))))
  refine x_callV (n := 1) (rm' := rmD 1) (As := [vi (xs ((i : Int) + 1).toNat).toInt]) (rest := []) (a := 0) (ci := 10) dL_law_134 q553 q554 q555 q1 q556 ⟨by decide, by decide, by decide +kernel⟩ ⟨rfl, rfl, by decide, by decide⟩ ⟨by decide, by decide⟩ rfl (Nat.le_of_ble_eq_true rfl) rfl s0 (by decide) rfl rfl hw (CallsM.mono (j_write hR (vi_InR _)) (fun v M1 hv hw1 => ?_))
  obtain ⟨r, rfl, hr, hq⟩ := hv
  have hk := hq hw1
  refine x_aload_n dL_law_137 1 rfl ?_
  refine x_aloadR dL_law_138 3 rfl (x_iload_n dL_law_139 0 rfl (x_iconst dL_law_140 (x_iadd dL_law_141 (x_sld dL_law_142 hL (by omega) (by omega) ?_))))
  refine x_callV (n := 1) (rm' := rmD 0) (As := [vi (xs ((i : Int) + 1).toNat).toInt]) (rest := [vi r]) (a := 530) (ci := 11) dL_law_143 q1049 q828 q829 q18 q830 ⟨by decide, by decide, by decide +kernel⟩ ⟨rfl, rfl, by decide, by decide⟩ ⟨by decide, by decide⟩ rfl (Nat.le_of_ble_eq_true rfl) rfl s530 (by decide) rfl rfl hw1 (CallsM.mono hk (fun v M2 hv hw2 => ?_))
  obtain ⟨r', rfl, hr', hq2⟩ := hv
  obtain ⟨he, hR2⟩ := hq2 hw2
  exact x_icmp_eq dL_law_146 rfl hr hr' (fun _ => nx M2 hw2 hR2) (fun z => absurd he z)
theorem law_1 {g : Ctx} {b L i : Nat} {xs : Nat → Int32} {M : Mem} (hL : L ≤ 2560) (hi : i + 5 ≤ L) (hw : WT M) (hR : Rel M) (nx : ∀ M2, WT M2 → Rel M2 → WL g b L xs 738 [(3, vi (i : Int)), (2, vr g 530), (1, vr g 0), (0, Value.ref b)] [] M2) : WL g b L xs 151 [(3, vi (i : Int)), (2, vr g 530), (1, vr g 0), (0, Value.ref b)] [] M := by
  refine x_aload_n dL_law_151 2 rfl ?_
  refine x_callV (n := 0) (rm' := rmD 1) (As := []) (rest := []) (a := 0) (ci := 10) dL_law_152 q557 q558 q559 q1 q560 ⟨by decide, by decide, by decide +kernel⟩ ⟨rfl, rfl, by decide, by decide⟩ ⟨by decide, by decide⟩ rfl (Nat.le_of_ble_eq_true rfl) rfl s0 (by decide) rfl rfl hw (CallsM.mono (j_wipe hR ) (fun v M1 hv hw1 => ?_))
  obtain ⟨r, rfl, hr, hq⟩ := hv
  have hk := hq hw1
  refine x_aload_n dL_law_155 1 rfl ?_
  refine x_callV (n := 0) (rm' := rmD 0) (As := []) (rest := [vi r]) (a := 530) (ci := 11) dL_law_156 q1050 q1051 q1052 q18 q1053 ⟨by decide, by decide, by decide +kernel⟩ ⟨rfl, rfl, by decide, by decide⟩ ⟨by decide, by decide⟩ rfl (Nat.le_of_ble_eq_true rfl) rfl s530 (by decide) rfl rfl hw1 (CallsM.mono hk (fun v M2 hv hw2 => ?_))
  obtain ⟨r', rfl, hr', hq2⟩ := hv
  obtain ⟨he, hR2⟩ := hq2 hw2
  exact x_icmp_eq dL_law_159 rfl hr hr' (fun _ => nx M2 hw2 hR2) (fun z => absurd he z)
theorem law_2 {g : Ctx} {b L i : Nat} {xs : Nat → Int32} {M : Mem} (hL : L ≤ 2560) (hi : i + 5 ≤ L) (hw : WT M) (hR : Rel M) (nx : ∀ M2, WT M2 → Rel M2 → WL g b L xs 738 [(3, vi (i : Int)), (2, vr g 530), (1, vr g 0), (0, Value.ref b)] [] M2) : WL g b L xs 164 [(3, vi (i : Int)), (2, vr g 530), (1, vr g 0), (0, Value.ref b)] [] M := by
  refine x_aload_n dL_law_164 2 rfl ?_
  refine x_callV (n := 0) (rm' := rmD 12) (As := []) (rest := []) (a := 0) (ci := 10) dL_law_165 q561 q562 q563 q1 q564 ⟨by decide, by decide, by decide +kernel⟩ ⟨rfl, rfl, by decide, by decide⟩ ⟨by decide, by decide⟩ rfl (Nat.le_of_ble_eq_true rfl) rfl s0 (by decide) rfl rfl hw (CallsM.mono (j_fault hR ) (fun v M1 hv hw1 => ?_))
  obtain ⟨r, rfl, hr, hq⟩ := hv
  have hk := hq hw1
  refine x_aload_n dL_law_168 1 rfl ?_
  refine x_callV (n := 0) (rm' := rmD 8) (As := []) (rest := [vi r]) (a := 530) (ci := 11) dL_law_169 q1054 q1055 q1056 q18 q1057 ⟨by decide, by decide, by decide +kernel⟩ ⟨rfl, rfl, by decide, by decide⟩ ⟨by decide, by decide⟩ rfl (Nat.le_of_ble_eq_true rfl) rfl s530 (by decide) rfl rfl hw1 (CallsM.mono hk (fun v M2 hv hw2 => ?_))
  obtain ⟨r', rfl, hr', hq2⟩ := hv
  obtain ⟨he, hR2⟩ := hq2 hw2
  exact x_icmp_eq dL_law_172 rfl hr hr' (fun _ => nx M2 hw2 hR2) (fun z => absurd he z)
theorem law_3 {g : Ctx} {b L i : Nat} {xs : Nat → Int32} {M : Mem} (hL : L ≤ 2560) (hi : i + 5 ≤ L) (hw : WT M) (hR : Rel M) (nx : ∀ M2, WT M2 → Rel M2 → WL g b L xs 738 [(3, vi (i : Int)), (2, vr g 530), (1, vr g 0), (0, Value.ref b)] [] M2) : WL g b L xs 177 [(3, vi (i : Int)), (2, vr g 530), (1, vr g 0), (0, Value.ref b)] [] M := by
  refine x_aload_n dL_law_177 2 rfl ?_
  refine x_callV (n := 0) (rm' := rmD 12) (As := []) (rest := []) (a := 0) (ci := 10) dL_law_178 q565 q566 q567 q1 q568 ⟨by decide, by decide, by decide +kernel⟩ ⟨rfl, rfl, by decide, by decide⟩ ⟨by decide, by decide⟩ rfl (Nat.le_of_ble_eq_true rfl) rfl s0 (by decide) rfl rfl hw (CallsM.mono (j_lay hR ) (fun v M1 hv hw1 => ?_))
  obtain ⟨r, rfl, hr, hq⟩ := hv
  have hk := hq hw1
  refine x_aload_n dL_law_181 1 rfl ?_
  refine x_callV (n := 0) (rm' := rmD 8) (As := []) (rest := [vi r]) (a := 530) (ci := 11) dL_law_182 q1058 q832 q833 q18 q834 ⟨by decide, by decide, by decide +kernel⟩ ⟨rfl, rfl, by decide, by decide⟩ ⟨by decide, by decide⟩ rfl (Nat.le_of_ble_eq_true rfl) rfl s530 (by decide) rfl rfl hw1 (CallsM.mono hk (fun v M2 hv hw2 => ?_))
  obtain ⟨r', rfl, hr', hq2⟩ := hv
  obtain ⟨he, hR2⟩ := hq2 hw2
  exact x_icmp_eq dL_law_185 rfl hr hr' (fun _ => nx M2 hw2 hR2) (fun z => absurd he z)
theorem law_4 {g : Ctx} {b L i : Nat} {xs : Nat → Int32} {M : Mem} (hL : L ≤ 2560) (hi : i + 5 ≤ L) (hw : WT M) (hR : Rel M) (nx : ∀ M2, WT M2 → Rel M2 → WL g b L xs 738 [(3, vi (i : Int)), (2, vr g 530), (1, vr g 0), (0, Value.ref b)] [] M2) : WL g b L xs 190 [(3, vi (i : Int)), (2, vr g 530), (1, vr g 0), (0, Value.ref b)] [] M := by
  refine x_aload_n dL_law_190 2 rfl ?_
  refine x_aloadR dL_law_191 3 rfl (x_iload_n dL_law_192 0 rfl (x_iconst dL_law_193 (x_iadd dL_law_194 (x_sld dL_law_195 hL (by omega) (by omega) ?_))))
  refine x_callV (n := 1) (rm' := rmD 3) (As := [vi (xs ((i : Int) + 1).toNat).toInt]) (rest := []) (a := 0) (ci := 10) dL_law_196 q581 q582 q583 q1 q584 ⟨by decide, by decide, by decide +kernel⟩ ⟨rfl, rfl, by decide, by decide⟩ ⟨by decide, by decide⟩ rfl (Nat.le_of_ble_eq_true rfl) rfl s0 (by decide) rfl rfl hw (CallsM.mono (j_named hR (vi_InR _)) (fun v M1 hv hw1 => ?_))
  obtain ⟨r, rfl, hr, hq⟩ := hv
  have hk := hq hw1
  refine x_aload_n dL_law_199 1 rfl ?_
  refine x_aloadR dL_law_200 3 rfl (x_iload_n dL_law_201 0 rfl (x_iconst dL_law_202 (x_iadd dL_law_203 (x_sld dL_law_204 hL (by omega) (by omega) ?_))))
  refine x_callV (n := 1) (rm' := rmD 2) (As := [vi (xs ((i : Int) + 1).toNat).toInt]) (rest := [vi r]) (a := 530) (ci := 11) dL_law_205 q1059 q1060 q1061 q18 q1062 ⟨by decide, by decide, by decide +kernel⟩ ⟨rfl, rfl, by decide, by decide⟩ ⟨by decide, by decide⟩ rfl (Nat.le_of_ble_eq_true rfl) rfl s530 (by decide) rfl rfl hw1 (CallsM.mono hk (fun v M2 hv hw2 => ?_))
  obtain ⟨r', rfl, hr', hq2⟩ := hv
  obtain ⟨he, hR2⟩ := hq2 hw2
  exact x_icmp_eq dL_law_208 rfl hr hr' (fun _ => nx M2 hw2 hR2) (fun z => absurd he z)
theorem law_5 {g : Ctx} {b L i : Nat} {xs : Nat → Int32} {M : Mem} (hL : L ≤ 2560) (hi : i + 5 ≤ L) (hw : WT M) (hR : Rel M) (nx : ∀ M2, WT M2 → Rel M2 → WL g b L xs 738 [(3, vi (i : Int)), (2, vr g 530), (1, vr g 0), (0, Value.ref b)] [] M2) : WL g b L xs 213 [(3, vi (i : Int)), (2, vr g 530), (1, vr g 0), (0, Value.ref b)] [] M := by
  refine x_aload_n dL_law_213 2 rfl ?_
  refine x_aloadR dL_law_214 3 rfl (x_iload_n dL_law_215 0 rfl (x_iconst dL_law_216 (x_iadd dL_law_217 (x_sld dL_law_218 hL (by omega) (by omega) ?_))))
  refine x_aloadR dL_law_219 3 rfl (x_iload_n dL_law_220 0 rfl (x_iconst dL_law_221 (x_iadd dL_law_222 (x_sld dL_law_223 hL (by omega) (by omega) ?_))))
  refine x_aloadR dL_law_224 3 rfl (x_iload_n dL_law_225 0 rfl (x_iconst dL_law_226 (x_iadd dL_law_227 (x_sld dL_law_228 hL (by omega) (by omega) ?_))))
  refine x_callV (n := 3) (rm' := rmD 48) (As := [vi (xs ((i : Int) + 1).toNat).toInt, vi (xs ((i : Int) + 2).toNat).toInt, vi (xs ((i : Int) + 3).toNat).toInt]) (rest := []) (a := 0) (ci := 10) dL_law_229 q591 q592 q593 q1 q594 ⟨by decide, by decide, by decide +kernel⟩ ⟨rfl, rfl, by decide, by decide⟩ ⟨by decide, by decide⟩ rfl (Nat.le_of_ble_eq_true rfl) rfl s0 (by decide) rfl rfl hw (CallsM.mono (j_check hR (vi_InR _) (vi_InR _) (vi_InR _)) (fun v M1 hv hw1 => ?_))
  obtain ⟨r, rfl, hr, hq⟩ := hv
  have hk := hq hw1
  refine x_aload_n dL_law_232 1 rfl ?_
  refine x_aloadR dL_law_233 3 rfl (x_iload_n dL_law_234 0 rfl (x_iconst dL_law_235 (x_iadd dL_law_236 (x_sld dL_law_237 hL (by omega) (by omega) ?_))))
  refine x_aloadR dL_law_238 3 rfl (x_iload_n dL_law_239 0 rfl (x_iconst dL_law_240 (x_iadd dL_law_241 (x_sld dL_law_242 hL (by omega) (by omega) ?_))))
  refine x_aloadR dL_law_243 3 rfl (x_iload_n dL_law_244 0 rfl (x_iconst dL_law_245 (x_iadd dL_law_246 (x_sld dL_law_247 hL (by omega) (by omega) ?_))))
  refine x_callV (n := 3) (rm' := rmD 6) (As := [vi (xs ((i : Int) + 1).toNat).toInt, vi (xs ((i : Int) + 2).toNat).toInt, vi (xs ((i : Int) + 3).toNat).toInt]) (rest := [vi r]) (a := 530) (ci := 11) dL_law_248 q1063 q1064 q1065 q18 q1066 ⟨by decide, by decide, by decide +kernel⟩ ⟨rfl, rfl, by decide, by decide⟩ ⟨by decide, by decide⟩ rfl (Nat.le_of_ble_eq_true rfl) rfl s530 (by decide) rfl rfl hw1 (CallsM.mono hk (fun v M2 hv hw2 => ?_))
  obtain ⟨r', rfl, hr', hq2⟩ := hv
  obtain ⟨he, hR2⟩ := hq2 hw2
  exact x_icmp_eq dL_law_251 rfl hr hr' (fun _ => nx M2 hw2 hR2) (fun z => absurd he z)
theorem law_6 {g : Ctx} {b L i : Nat} {xs : Nat → Int32} {M : Mem} (hL : L ≤ 2560) (hi : i + 5 ≤ L) (hw : WT M) (hR : Rel M) (nx : ∀ M2, WT M2 → Rel M2 → WL g b L xs 738 [(3, vi (i : Int)), (2, vr g 530), (1, vr g 0), (0, Value.ref b)] [] M2) : WL g b L xs 256 [(3, vi (i : Int)), (2, vr g 530), (1, vr g 0), (0, Value.ref b)] [] M := by
  refine x_aload_n dL_law_256 2 rfl ?_
  refine x_aloadR dL_law_257 3 rfl (x_iload_n dL_law_258 0 rfl (x_iconst dL_law_259 (x_iadd dL_law_260 (x_sld dL_law_261 hL (by omega) (by omega) ?_))))
  refine x_aloadR dL_law_262 3 rfl (x_iload_n dL_law_263 0 rfl (x_iconst dL_law_264 (x_iadd dL_law_265 (x_sld dL_law_266 hL (by omega) (by omega) ?_))))
  refine x_callV (n := 2) (rm' := rmD 1) (As := [vi (xs ((i : Int) + 1).toNat).toInt, vi (xs ((i : Int) + 2).toNat).toInt]) (rest := []) (a := 0) (ci := 10) dL_law_267 q696 q697 q698 q1 q699 ⟨by decide, by decide, by decide +kernel⟩ ⟨rfl, rfl, by decide, by decide⟩ ⟨by decide, by decide⟩ rfl (Nat.le_of_ble_eq_true rfl) rfl s0 (by decide) rfl rfl hw (CallsM.mono (j_kept hR (vi_InR _) (vi_InR _)) (fun v M1 hv hw1 => ?_))
  obtain ⟨r, rfl, hr, hq⟩ := hv
  have hk := hq hw1
  refine x_aload_n dL_law_270 1 rfl ?_
  refine x_aloadR dL_law_271 3 rfl (x_iload_n dL_law_272 0 rfl (x_iconst dL_law_273 (x_iadd dL_law_274 (x_sld dL_law_275 hL (by omega) (by omega) ?_))))
  refine x_aloadR dL_law_276 3 rfl (x_iload_n dL_law_277 0 rfl (x_iconst dL_law_278 (x_iadd dL_law_279 (x_sld dL_law_280 hL (by omega) (by omega) ?_))))
  refine x_callV (n := 2) (rm' := rmD 1) (As := [vi (xs ((i : Int) + 1).toNat).toInt, vi (xs ((i : Int) + 2).toNat).toInt]) (rest := [vi r]) (a := 530) (ci := 11) dL_law_281 q1140 q1141 q1142 q18 q1143 ⟨by decide, by decide, by decide +kernel⟩ ⟨rfl, rfl, by decide, by decide⟩ ⟨by decide, by decide⟩ rfl (Nat.le_of_ble_eq_true rfl) rfl s530 (by decide) rfl rfl hw1 (CallsM.mono hk (fun v M2 hv hw2 => ?_))
  obtain ⟨r', rfl, hr', hq2⟩ := hv
  obtain ⟨he, hR2⟩ := hq2 hw2
  exact x_icmp_eq dL_law_284 rfl hr hr' (fun _ => nx M2 hw2 hR2) (fun z => absurd he z)
theorem law_7 {g : Ctx} {b L i : Nat} {xs : Nat → Int32} {M : Mem} (hL : L ≤ 2560) (hi : i + 5 ≤ L) (hw : WT M) (hR : Rel M) (nx : ∀ M2, WT M2 → Rel M2 → WL g b L xs 738 [(3, vi (i : Int)), (2, vr g 530), (1, vr g 0), (0, Value.ref b)] [] M2) : WL g b L xs 289 [(3, vi (i : Int)), (2, vr g 530), (1, vr g 0), (0, Value.ref b)] [] M := by
  refine x_aload_n dL_law_289 2 rfl ?_
  refine x_aloadR dL_law_290 3 rfl (x_iload_n dL_law_291 0 rfl (x_iconst dL_law_292 (x_iadd dL_law_293 (x_sld dL_law_294 hL (by omega) (by omega) ?_))))
  refine x_aloadR dL_law_295 3 rfl (x_iload_n dL_law_296 0 rfl (x_iconst dL_law_297 (x_iadd dL_law_298 (x_sld dL_law_299 hL (by omega) (by omega) ?_))))
  refine x_aloadR dL_law_300 3 rfl (x_iload_n dL_law_301 0 rfl (x_iconst dL_law_302 (x_iadd dL_law_303 (x_sld dL_law_304 hL (by omega) (by omega) ?_))))
  refine x_callV (n := 3) (rm' := rmD 6) (As := [vi (xs ((i : Int) + 1).toNat).toInt, vi (xs ((i : Int) + 2).toNat).toInt, vi (xs ((i : Int) + 3).toNat).toInt]) (rest := []) (a := 0) (ci := 10) dL_law_305 q704 q705 q706 q1 q707 ⟨by decide, by decide, by decide +kernel⟩ ⟨rfl, rfl, by decide, by decide⟩ ⟨by decide, by decide⟩ rfl (Nat.le_of_ble_eq_true rfl) rfl s0 (by decide) rfl rfl hw (CallsM.mono (j_sign hR (vi_InR _) (vi_InR _) (vi_InR _)) (fun v M1 hv hw1 => ?_))
  obtain ⟨r, rfl, hr, hq⟩ := hv
  have hk := hq hw1
  refine x_aload_n dL_law_308 1 rfl ?_
  refine x_aloadR dL_law_309 3 rfl (x_iload_n dL_law_310 0 rfl (x_iconst dL_law_311 (x_iadd dL_law_312 (x_sld dL_law_313 hL (by omega) (by omega) ?_))))
  refine x_aloadR dL_law_314 3 rfl (x_iload_n dL_law_315 0 rfl (x_iconst dL_law_316 (x_iadd dL_law_317 (x_sld dL_law_318 hL (by omega) (by omega) ?_))))
  refine x_aloadR dL_law_319 3 rfl (x_iload_n dL_law_320 0 rfl (x_iconst dL_law_321 (x_iadd dL_law_322 (x_sld dL_law_323 hL (by omega) (by omega) ?_))))
  refine x_callV (n := 3) (rm' := rmD 3) (As := [vi (xs ((i : Int) + 1).toNat).toInt, vi (xs ((i : Int) + 2).toNat).toInt, vi (xs ((i : Int) + 3).toNat).toInt]) (rest := [vi r]) (a := 530) (ci := 11) dL_law_324 q1148 q1149 q1150 q18 q1151 ⟨by decide, by decide, by decide +kernel⟩ ⟨rfl, rfl, by decide, by decide⟩ ⟨by decide, by decide⟩ rfl (Nat.le_of_ble_eq_true rfl) rfl s530 (by decide) rfl rfl hw1 (CallsM.mono hk (fun v M2 hv hw2 => ?_))
  obtain ⟨r', rfl, hr', hq2⟩ := hv
  obtain ⟨he, hR2⟩ := hq2 hw2
  exact x_icmp_eq dL_law_327 rfl hr hr' (fun _ => nx M2 hw2 hR2) (fun z => absurd he z)
theorem law_8 {g : Ctx} {b L i : Nat} {xs : Nat → Int32} {M : Mem} (hL : L ≤ 2560) (hi : i + 5 ≤ L) (hw : WT M) (hR : Rel M) (nx : ∀ M2, WT M2 → Rel M2 → WL g b L xs 738 [(3, vi (i : Int)), (2, vr g 530), (1, vr g 0), (0, Value.ref b)] [] M2) : WL g b L xs 332 [(3, vi (i : Int)), (2, vr g 530), (1, vr g 0), (0, Value.ref b)] [] M := by
  refine x_aload_n dL_law_332 2 rfl ?_
  refine x_aloadR dL_law_333 3 rfl (x_iload_n dL_law_334 0 rfl (x_iconst dL_law_335 (x_iadd dL_law_336 (x_sld dL_law_337 hL (by omega) (by omega) ?_))))
  refine x_aloadR dL_law_338 3 rfl (x_iload_n dL_law_339 0 rfl (x_iconst dL_law_340 (x_iadd dL_law_341 (x_sld dL_law_342 hL (by omega) (by omega) ?_))))
  refine x_callV (n := 2) (rm' := rmD 2) (As := [vi (xs ((i : Int) + 1).toNat).toInt, vi (xs ((i : Int) + 2).toNat).toInt]) (rest := []) (a := 0) (ci := 10) dL_law_343 q723 q724 q725 q1 q726 ⟨by decide, by decide, by decide +kernel⟩ ⟨rfl, rfl, by decide, by decide⟩ ⟨by decide, by decide⟩ rfl (Nat.le_of_ble_eq_true rfl) rfl s0 (by decide) rfl rfl hw (CallsM.mono (j_swap hR (vi_InR _) (vi_InR _)) (fun v M1 hv hw1 => ?_))
  obtain ⟨r, rfl, hr, hq⟩ := hv
  have hk := hq hw1
  refine x_aload_n dL_law_346 1 rfl ?_
  refine x_aloadR dL_law_347 3 rfl (x_iload_n dL_law_348 0 rfl (x_iconst dL_law_349 (x_iadd dL_law_350 (x_sld dL_law_351 hL (by omega) (by omega) ?_))))
  refine x_aloadR dL_law_352 3 rfl (x_iload_n dL_law_353 0 rfl (x_iconst dL_law_354 (x_iadd dL_law_355 (x_sld dL_law_356 hL (by omega) (by omega) ?_))))
  refine x_callV (n := 2) (rm' := rmD 3) (As := [vi (xs ((i : Int) + 1).toNat).toInt, vi (xs ((i : Int) + 2).toNat).toInt]) (rest := [vi r]) (a := 530) (ci := 11) dL_law_357 q1160 q1161 q1162 q18 q1163 ⟨by decide, by decide, by decide +kernel⟩ ⟨rfl, rfl, by decide, by decide⟩ ⟨by decide, by decide⟩ rfl (Nat.le_of_ble_eq_true rfl) rfl s530 (by decide) rfl rfl hw1 (CallsM.mono hk (fun v M2 hv hw2 => ?_))
  obtain ⟨r', rfl, hr', hq2⟩ := hv
  obtain ⟨he, hR2⟩ := hq2 hw2
  exact x_icmp_eq dL_law_360 rfl hr hr' (fun _ => nx M2 hw2 hR2) (fun z => absurd he z)
theorem law_9 {g : Ctx} {b L i : Nat} {xs : Nat → Int32} {M : Mem} (hL : L ≤ 2560) (hi : i + 5 ≤ L) (hw : WT M) (hR : Rel M) (nx : ∀ M2, WT M2 → Rel M2 → WL g b L xs 738 [(3, vi (i : Int)), (2, vr g 530), (1, vr g 0), (0, Value.ref b)] [] M2) : WL g b L xs 365 [(3, vi (i : Int)), (2, vr g 530), (1, vr g 0), (0, Value.ref b)] [] M := by
  refine x_aload_n dL_law_365 2 rfl ?_
  refine x_aloadR dL_law_366 3 rfl (x_iload_n dL_law_367 0 rfl (x_iconst dL_law_368 (x_iadd dL_law_369 (x_sld dL_law_370 hL (by omega) (by omega) ?_))))
  refine x_aloadR dL_law_371 3 rfl (x_iload_n dL_law_372 0 rfl (x_iconst dL_law_373 (x_iadd dL_law_374 (x_sld dL_law_375 hL (by omega) (by omega) ?_))))
  refine x_aloadR dL_law_376 3 rfl (x_iload_n dL_law_377 0 rfl (x_iconst dL_law_378 (x_iadd dL_law_379 (x_sld dL_law_380 hL (by omega) (by omega) ?_))))
  refine x_callV (n := 3) (rm' := rmD 2) (As := [vi (xs ((i : Int) + 1).toNat).toInt, vi (xs ((i : Int) + 2).toNat).toInt, vi (xs ((i : Int) + 3).toNat).toInt]) (rest := []) (a := 0) (ci := 10) dL_law_381 q731 q732 q733 q1 q734 ⟨by decide, by decide, by decide +kernel⟩ ⟨rfl, rfl, by decide, by decide⟩ ⟨by decide, by decide⟩ rfl (Nat.le_of_ble_eq_true rfl) rfl s0 (by decide) rfl rfl hw (CallsM.mono (j_host hR (vi_InR _) (vi_InR _) (vi_InR _)) (fun v M1 hv hw1 => ?_))
  obtain ⟨r, rfl, hr, hq⟩ := hv
  have hk := hq hw1
  refine x_aload_n dL_law_384 1 rfl ?_
  refine x_aloadR dL_law_385 3 rfl (x_iload_n dL_law_386 0 rfl (x_iconst dL_law_387 (x_iadd dL_law_388 (x_sld dL_law_389 hL (by omega) (by omega) ?_))))
  refine x_aloadR dL_law_390 3 rfl (x_iload_n dL_law_391 0 rfl (x_iconst dL_law_392 (x_iadd dL_law_393 (x_sld dL_law_394 hL (by omega) (by omega) ?_))))
  refine x_aloadR dL_law_395 3 rfl (x_iload_n dL_law_396 0 rfl (x_iconst dL_law_397 (x_iadd dL_law_398 (x_sld dL_law_399 hL (by omega) (by omega) ?_))))
  refine x_callV (n := 3) (rm' := rmD 2) (As := [vi (xs ((i : Int) + 1).toNat).toInt, vi (xs ((i : Int) + 2).toNat).toInt, vi (xs ((i : Int) + 3).toNat).toInt]) (rest := [vi r]) (a := 530) (ci := 11) dL_law_400 q1164 q1165 q1166 q18 q1167 ⟨by decide, by decide, by decide +kernel⟩ ⟨rfl, rfl, by decide, by decide⟩ ⟨by decide, by decide⟩ rfl (Nat.le_of_ble_eq_true rfl) rfl s530 (by decide) rfl rfl hw1 (CallsM.mono hk (fun v M2 hv hw2 => ?_))
  obtain ⟨r', rfl, hr', hq2⟩ := hv
  obtain ⟨he, hR2⟩ := hq2 hw2
  exact x_icmp_eq dL_law_403 rfl hr hr' (fun _ => nx M2 hw2 hR2) (fun z => absurd he z)
theorem law_10 {g : Ctx} {b L i : Nat} {xs : Nat → Int32} {M : Mem} (hL : L ≤ 2560) (hi : i + 5 ≤ L) (hw : WT M) (hR : Rel M) (nx : ∀ M2, WT M2 → Rel M2 → WL g b L xs 738 [(3, vi (i : Int)), (2, vr g 530), (1, vr g 0), (0, Value.ref b)] [] M2) : WL g b L xs 408 [(3, vi (i : Int)), (2, vr g 530), (1, vr g 0), (0, Value.ref b)] [] M := by
  refine x_aload_n dL_law_408 2 rfl ?_
  refine x_callV (n := 0) (rm' := rmD 2) (As := []) (rest := []) (a := 0) (ci := 10) dL_law_409 q741 q742 q743 q1 q744 ⟨by decide, by decide, by decide +kernel⟩ ⟨rfl, rfl, by decide, by decide⟩ ⟨by decide, by decide⟩ rfl (Nat.le_of_ble_eq_true rfl) rfl s0 (by decide) rfl rfl hw (CallsM.mono (j_undo hR ) (fun v M1 hv hw1 => ?_))
  obtain ⟨r, rfl, hr, hq⟩ := hv
  have hk := hq hw1
  refine x_aload_n dL_law_412 1 rfl ?_
  refine x_callV (n := 0) (rm' := rmD 0) (As := []) (rest := [vi r]) (a := 530) (ci := 11) dL_law_413 q1144 q1145 q1146 q18 q1147 ⟨by decide, by decide, by decide +kernel⟩ ⟨rfl, rfl, by decide, by decide⟩ ⟨by decide, by decide⟩ rfl (Nat.le_of_ble_eq_true rfl) rfl s530 (by decide) rfl rfl hw1 (CallsM.mono hk (fun v M2 hv hw2 => ?_))
  obtain ⟨r', rfl, hr', hq2⟩ := hv
  obtain ⟨he, hR2⟩ := hq2 hw2
  exact x_icmp_eq dL_law_416 rfl hr hr' (fun _ => nx M2 hw2 hR2) (fun z => absurd he z)
theorem law_11 {g : Ctx} {b L i : Nat} {xs : Nat → Int32} {M : Mem} (hL : L ≤ 2560) (hi : i + 5 ≤ L) (hw : WT M) (hR : Rel M) (nx : ∀ M2, WT M2 → Rel M2 → WL g b L xs 738 [(3, vi (i : Int)), (2, vr g 530), (1, vr g 0), (0, Value.ref b)] [] M2) : WL g b L xs 421 [(3, vi (i : Int)), (2, vr g 530), (1, vr g 0), (0, Value.ref b)] [] M := by
  refine x_aload_n dL_law_421 2 rfl ?_
  refine x_aloadR dL_law_422 3 rfl (x_iload_n dL_law_423 0 rfl (x_iconst dL_law_424 (x_iadd dL_law_425 (x_sld dL_law_426 hL (by omega) (by omega) ?_))))
  refine x_aloadR dL_law_427 3 rfl (x_iload_n dL_law_428 0 rfl (x_iconst dL_law_429 (x_iadd dL_law_430 (x_sld dL_law_431 hL (by omega) (by omega) ?_))))
  refine x_callV (n := 2) (rm' := rmD 2) (As := [vi (xs ((i : Int) + 1).toNat).toInt, vi (xs ((i : Int) + 2).toNat).toInt]) (rest := []) (a := 0) (ci := 10) dL_law_432 q753 q754 q755 q1 q756 ⟨by decide, by decide, by decide +kernel⟩ ⟨rfl, rfl, by decide, by decide⟩ ⟨by decide, by decide⟩ rfl (Nat.le_of_ble_eq_true rfl) rfl s0 (by decide) rfl rfl hw (CallsM.mono (j_name hR (vi_InR _) (vi_InR _)) (fun v M1 hv hw1 => ?_))
  obtain ⟨r, rfl, hr, hq⟩ := hv
  have hk := hq hw1
  refine x_aload_n dL_law_435 1 rfl ?_
  refine x_aloadR dL_law_436 3 rfl (x_iload_n dL_law_437 0 rfl (x_iconst dL_law_438 (x_iadd dL_law_439 (x_sld dL_law_440 hL (by omega) (by omega) ?_))))
  refine x_aloadR dL_law_441 3 rfl (x_iload_n dL_law_442 0 rfl (x_iconst dL_law_443 (x_iadd dL_law_444 (x_sld dL_law_445 hL (by omega) (by omega) ?_))))
  refine x_callV (n := 2) (rm' := rmD 2) (As := [vi (xs ((i : Int) + 1).toNat).toInt, vi (xs ((i : Int) + 2).toNat).toInt]) (rest := [vi r]) (a := 530) (ci := 11) dL_law_446 q1168 q1169 q1170 q18 q1171 ⟨by decide, by decide, by decide +kernel⟩ ⟨rfl, rfl, by decide, by decide⟩ ⟨by decide, by decide⟩ rfl (Nat.le_of_ble_eq_true rfl) rfl s530 (by decide) rfl rfl hw1 (CallsM.mono hk (fun v M2 hv hw2 => ?_))
  obtain ⟨r', rfl, hr', hq2⟩ := hv
  obtain ⟨he, hR2⟩ := hq2 hw2
  exact x_icmp_eq dL_law_449 rfl hr hr' (fun _ => nx M2 hw2 hR2) (fun z => absurd he z)
theorem law_12 {g : Ctx} {b L i : Nat} {xs : Nat → Int32} {M : Mem} (hL : L ≤ 2560) (hi : i + 5 ≤ L) (hw : WT M) (hR : Rel M) (nx : ∀ M2, WT M2 → Rel M2 → WL g b L xs 738 [(3, vi (i : Int)), (2, vr g 530), (1, vr g 0), (0, Value.ref b)] [] M2) : WL g b L xs 454 [(3, vi (i : Int)), (2, vr g 530), (1, vr g 0), (0, Value.ref b)] [] M := by
  refine x_aload_n dL_law_454 2 rfl ?_
  refine x_aloadR dL_law_455 3 rfl (x_iload_n dL_law_456 0 rfl (x_iconst dL_law_457 (x_iadd dL_law_458 (x_sld dL_law_459 hL (by omega) (by omega) ?_))))
  refine x_aloadR dL_law_460 3 rfl (x_iload_n dL_law_461 0 rfl (x_iconst dL_law_462 (x_iadd dL_law_463 (x_sld dL_law_464 hL (by omega) (by omega) ?_))))
  refine x_callV (n := 2) (rm' := rmD 1) (As := [vi (xs ((i : Int) + 1).toNat).toInt, vi (xs ((i : Int) + 2).toNat).toInt]) (rest := []) (a := 0) (ci := 10) dL_law_465 q761 q762 q763 q1 q764 ⟨by decide, by decide, by decide +kernel⟩ ⟨rfl, rfl, by decide, by decide⟩ ⟨by decide, by decide⟩ rfl (Nat.le_of_ble_eq_true rfl) rfl s0 (by decide) rfl rfl hw (CallsM.mono (j_letter hR (vi_InR _) (vi_InR _)) (fun v M1 hv hw1 => ?_))
  obtain ⟨r, rfl, hr, hq⟩ := hv
  have hk := hq hw1
  refine x_aload_n dL_law_468 1 rfl ?_
  refine x_aloadR dL_law_469 3 rfl (x_iload_n dL_law_470 0 rfl (x_iconst dL_law_471 (x_iadd dL_law_472 (x_sld dL_law_473 hL (by omega) (by omega) ?_))))
  refine x_aloadR dL_law_474 3 rfl (x_iload_n dL_law_475 0 rfl (x_iconst dL_law_476 (x_iadd dL_law_477 (x_sld dL_law_478 hL (by omega) (by omega) ?_))))
  refine x_callV (n := 2) (rm' := rmD 2) (As := [vi (xs ((i : Int) + 1).toNat).toInt, vi (xs ((i : Int) + 2).toNat).toInt]) (rest := [vi r]) (a := 530) (ci := 11) dL_law_479 q1172 q1173 q1174 q18 q1175 ⟨by decide, by decide, by decide +kernel⟩ ⟨rfl, rfl, by decide, by decide⟩ ⟨by decide, by decide⟩ rfl (Nat.le_of_ble_eq_true rfl) rfl s530 (by decide) rfl rfl hw1 (CallsM.mono hk (fun v M2 hv hw2 => ?_))
  obtain ⟨r', rfl, hr', hq2⟩ := hv
  obtain ⟨he, hR2⟩ := hq2 hw2
  exact x_icmp_eq dL_law_482 rfl hr hr' (fun _ => nx M2 hw2 hR2) (fun z => absurd he z)
theorem law_13 {g : Ctx} {b L i : Nat} {xs : Nat → Int32} {M : Mem} (hL : L ≤ 2560) (hi : i + 5 ≤ L) (hw : WT M) (hR : Rel M) (nx : ∀ M2, WT M2 → Rel M2 → WL g b L xs 738 [(3, vi (i : Int)), (2, vr g 530), (1, vr g 0), (0, Value.ref b)] [] M2) : WL g b L xs 487 [(3, vi (i : Int)), (2, vr g 530), (1, vr g 0), (0, Value.ref b)] [] M := by
  refine x_aload_n dL_law_487 2 rfl ?_
  refine x_aloadR dL_law_488 3 rfl (x_iload_n dL_law_489 0 rfl (x_iconst dL_law_490 (x_iadd dL_law_491 (x_sld dL_law_492 hL (by omega) (by omega) ?_))))
  refine x_aloadR dL_law_493 3 rfl (x_iload_n dL_law_494 0 rfl (x_iconst dL_law_495 (x_iadd dL_law_496 (x_sld dL_law_497 hL (by omega) (by omega) ?_))))
  refine x_aloadR dL_law_498 3 rfl (x_iload_n dL_law_499 0 rfl (x_iconst dL_law_500 (x_iadd dL_law_501 (x_sld dL_law_502 hL (by omega) (by omega) ?_))))
  refine x_callV (n := 3) (rm' := rmD 2) (As := [vi (xs ((i : Int) + 1).toNat).toInt, vi (xs ((i : Int) + 2).toNat).toInt, vi (xs ((i : Int) + 3).toNat).toInt]) (rest := []) (a := 0) (ci := 10) dL_law_503 q765 q766 q767 q1 q768 ⟨by decide, by decide, by decide +kernel⟩ ⟨rfl, rfl, by decide, by decide⟩ ⟨by decide, by decide⟩ rfl (Nat.le_of_ble_eq_true rfl) rfl s0 (by decide) rfl rfl hw (CallsM.mono (j_rule hR (vi_InR _) (vi_InR _) (vi_InR _)) (fun v M1 hv hw1 => ?_))
  obtain ⟨r, rfl, hr, hq⟩ := hv
  have hk := hq hw1
  refine x_aload_n dL_law_506 1 rfl ?_
  refine x_aloadR dL_law_507 3 rfl (x_iload_n dL_law_508 0 rfl (x_iconst dL_law_509 (x_iadd dL_law_510 (x_sld dL_law_511 hL (by omega) (by omega) ?_))))
  refine x_aloadR dL_law_512 3 rfl (x_iload_n dL_law_513 0 rfl (x_iconst dL_law_514 (x_iadd dL_law_515 (x_sld dL_law_516 hL (by omega) (by omega) ?_))))
  refine x_aloadR dL_law_517 3 rfl (x_iload_n dL_law_518 0 rfl (x_iconst dL_law_519 (x_iadd dL_law_520 (x_sld dL_law_521 hL (by omega) (by omega) ?_))))
  refine x_callV (n := 3) (rm' := rmD 3) (As := [vi (xs ((i : Int) + 1).toNat).toInt, vi (xs ((i : Int) + 2).toNat).toInt, vi (xs ((i : Int) + 3).toNat).toInt]) (rest := [vi r]) (a := 530) (ci := 11) dL_law_522 q1176 q1177 q1178 q18 q1179 ⟨by decide, by decide, by decide +kernel⟩ ⟨rfl, rfl, by decide, by decide⟩ ⟨by decide, by decide⟩ rfl (Nat.le_of_ble_eq_true rfl) rfl s530 (by decide) rfl rfl hw1 (CallsM.mono hk (fun v M2 hv hw2 => ?_))
  obtain ⟨r', rfl, hr', hq2⟩ := hv
  obtain ⟨he, hR2⟩ := hq2 hw2
  exact x_icmp_eq dL_law_525 rfl hr hr' (fun _ => nx M2 hw2 hR2) (fun z => absurd he z)
theorem law_14 {g : Ctx} {b L i : Nat} {xs : Nat → Int32} {M : Mem} (hL : L ≤ 2560) (hi : i + 5 ≤ L) (hw : WT M) (hR : Rel M) (nx : ∀ M2, WT M2 → Rel M2 → WL g b L xs 738 [(3, vi (i : Int)), (2, vr g 530), (1, vr g 0), (0, Value.ref b)] [] M2) : WL g b L xs 530 [(3, vi (i : Int)), (2, vr g 530), (1, vr g 0), (0, Value.ref b)] [] M := by
  refine x_aload_n dL_law_530 2 rfl ?_
  refine x_aloadR dL_law_531 3 rfl (x_iload_n dL_law_532 0 rfl (x_iconst dL_law_533 (x_iadd dL_law_534 (x_sld dL_law_535 hL (by omega) (by omega) ?_))))
  refine x_aloadR dL_law_536 3 rfl (x_iload_n dL_law_537 0 rfl (x_iconst dL_law_538 (x_iadd dL_law_539 (x_sld dL_law_540 hL (by omega) (by omega) ?_))))
  refine x_callV (n := 2) (rm' := rmD 1) (As := [vi (xs ((i : Int) + 1).toNat).toInt, vi (xs ((i : Int) + 2).toNat).toInt]) (rest := []) (a := 0) (ci := 10) dL_law_541 q769 q770 q771 q1 q772 ⟨by decide, by decide, by decide +kernel⟩ ⟨rfl, rfl, by decide, by decide⟩ ⟨by decide, by decide⟩ rfl (Nat.le_of_ble_eq_true rfl) rfl s0 (by decide) rfl rfl hw (CallsM.mono (j_hostOf hR (vi_InR _) (vi_InR _)) (fun v M1 hv hw1 => ?_))
  obtain ⟨r, rfl, hr, hq⟩ := hv
  have hk := hq hw1
  refine x_aload_n dL_law_544 1 rfl ?_
  refine x_aloadR dL_law_545 3 rfl (x_iload_n dL_law_546 0 rfl (x_iconst dL_law_547 (x_iadd dL_law_548 (x_sld dL_law_549 hL (by omega) (by omega) ?_))))
  refine x_aloadR dL_law_550 3 rfl (x_iload_n dL_law_551 0 rfl (x_iconst dL_law_552 (x_iadd dL_law_553 (x_sld dL_law_554 hL (by omega) (by omega) ?_))))
  refine x_callV (n := 2) (rm' := rmD 2) (As := [vi (xs ((i : Int) + 1).toNat).toInt, vi (xs ((i : Int) + 2).toNat).toInt]) (rest := [vi r]) (a := 530) (ci := 11) dL_law_555 q1180 q1181 q1182 q18 q1183 ⟨by decide, by decide, by decide +kernel⟩ ⟨rfl, rfl, by decide, by decide⟩ ⟨by decide, by decide⟩ rfl (Nat.le_of_ble_eq_true rfl) rfl s530 (by decide) rfl rfl hw1 (CallsM.mono hk (fun v M2 hv hw2 => ?_))
  obtain ⟨r', rfl, hr', hq2⟩ := hv
  obtain ⟨he, hR2⟩ := hq2 hw2
  exact x_icmp_eq dL_law_558 rfl hr hr' (fun _ => nx M2 hw2 hR2) (fun z => absurd he z)
theorem law_15 {g : Ctx} {b L i : Nat} {xs : Nat → Int32} {M : Mem} (hL : L ≤ 2560) (hi : i + 5 ≤ L) (hw : WT M) (hR : Rel M) (nx : ∀ M2, WT M2 → Rel M2 → WL g b L xs 738 [(3, vi (i : Int)), (2, vr g 530), (1, vr g 0), (0, Value.ref b)] [] M2) : WL g b L xs 563 [(3, vi (i : Int)), (2, vr g 530), (1, vr g 0), (0, Value.ref b)] [] M := by
  refine x_aload_n dL_law_563 2 rfl ?_
  refine x_aloadR dL_law_564 3 rfl (x_iload_n dL_law_565 0 rfl (x_iconst dL_law_566 (x_iadd dL_law_567 (x_sld dL_law_568 hL (by omega) (by omega) ?_))))
  refine x_aloadR dL_law_569 3 rfl (x_iload_n dL_law_570 0 rfl (x_iconst dL_law_571 (x_iadd dL_law_572 (x_sld dL_law_573 hL (by omega) (by omega) ?_))))
  refine x_aloadR dL_law_574 3 rfl (x_iload_n dL_law_575 0 rfl (x_iconst dL_law_576 (x_iadd dL_law_577 (x_sld dL_law_578 hL (by omega) (by omega) ?_))))
  refine x_callV (n := 3) (rm' := rmD 48) (As := [vi (xs ((i : Int) + 1).toNat).toInt, vi (xs ((i : Int) + 2).toNat).toInt, vi (xs ((i : Int) + 3).toNat).toInt]) (rest := []) (a := 0) (ci := 10) dL_law_579 q773 q774 q775 q1 q776 ⟨by decide, by decide, by decide +kernel⟩ ⟨rfl, rfl, by decide, by decide⟩ ⟨by decide, by decide⟩ rfl (Nat.le_of_ble_eq_true rfl) rfl s0 (by decide) rfl rfl hw (CallsM.mono (j_many hR (vi_InR _) (vi_InR _) (vi_InR _)) (fun v M1 hv hw1 => ?_))
  obtain ⟨r, rfl, hr, hq⟩ := hv
  have hk := hq hw1
  refine x_aload_n dL_law_582 1 rfl ?_
  refine x_aloadR dL_law_583 3 rfl (x_iload_n dL_law_584 0 rfl (x_iconst dL_law_585 (x_iadd dL_law_586 (x_sld dL_law_587 hL (by omega) (by omega) ?_))))
  refine x_aloadR dL_law_588 3 rfl (x_iload_n dL_law_589 0 rfl (x_iconst dL_law_590 (x_iadd dL_law_591 (x_sld dL_law_592 hL (by omega) (by omega) ?_))))
  refine x_aloadR dL_law_593 3 rfl (x_iload_n dL_law_594 0 rfl (x_iconst dL_law_595 (x_iadd dL_law_596 (x_sld dL_law_597 hL (by omega) (by omega) ?_))))
  refine x_callV (n := 3) (rm' := rmD 6) (As := [vi (xs ((i : Int) + 1).toNat).toInt, vi (xs ((i : Int) + 2).toNat).toInt, vi (xs ((i : Int) + 3).toNat).toInt]) (rest := [vi r]) (a := 530) (ci := 11) dL_law_598 q1184 q1185 q1186 q18 q1187 ⟨by decide, by decide, by decide +kernel⟩ ⟨rfl, rfl, by decide, by decide⟩ ⟨by decide, by decide⟩ rfl (Nat.le_of_ble_eq_true rfl) rfl s530 (by decide) rfl rfl hw1 (CallsM.mono hk (fun v M2 hv hw2 => ?_))
  obtain ⟨r', rfl, hr', hq2⟩ := hv
  obtain ⟨he, hR2⟩ := hq2 hw2
  exact x_icmp_eq dL_law_601 rfl hr hr' (fun _ => nx M2 hw2 hR2) (fun z => absurd he z)
theorem law_16 {g : Ctx} {b L i : Nat} {xs : Nat → Int32} {M : Mem} (hL : L ≤ 2560) (hi : i + 5 ≤ L) (hw : WT M) (hR : Rel M) (nx : ∀ M2, WT M2 → Rel M2 → WL g b L xs 738 [(3, vi (i : Int)), (2, vr g 530), (1, vr g 0), (0, Value.ref b)] [] M2) : WL g b L xs 606 [(3, vi (i : Int)), (2, vr g 530), (1, vr g 0), (0, Value.ref b)] [] M := by
  refine x_aload_n dL_law_606 2 rfl ?_
  refine x_aloadR dL_law_607 3 rfl (x_iload_n dL_law_608 0 rfl (x_iconst dL_law_609 (x_iadd dL_law_610 (x_sld dL_law_611 hL (by omega) (by omega) ?_))))
  refine x_aloadR dL_law_612 3 rfl (x_iload_n dL_law_613 0 rfl (x_iconst dL_law_614 (x_iadd dL_law_615 (x_sld dL_law_616 hL (by omega) (by omega) ?_))))
  refine x_callV (n := 2) (rm' := rmD 48) (As := [vi (xs ((i : Int) + 1).toNat).toInt, vi (xs ((i : Int) + 2).toNat).toInt]) (rest := []) (a := 0) (ci := 10) dL_law_617 q777 q778 q779 q1 q780 ⟨by decide, by decide, by decide +kernel⟩ ⟨rfl, rfl, by decide, by decide⟩ ⟨by decide, by decide⟩ rfl (Nat.le_of_ble_eq_true rfl) rfl s0 (by decide) rfl rfl hw (CallsM.mono (j_dead hR (vi_InR _) (vi_InR _)) (fun v M1 hv hw1 => ?_))
  obtain ⟨r, rfl, hr, hq⟩ := hv
  have hk := hq hw1
  refine x_aload_n dL_law_620 1 rfl ?_
  refine x_aloadR dL_law_621 3 rfl (x_iload_n dL_law_622 0 rfl (x_iconst dL_law_623 (x_iadd dL_law_624 (x_sld dL_law_625 hL (by omega) (by omega) ?_))))
  refine x_aloadR dL_law_626 3 rfl (x_iload_n dL_law_627 0 rfl (x_iconst dL_law_628 (x_iadd dL_law_629 (x_sld dL_law_630 hL (by omega) (by omega) ?_))))
  refine x_callV (n := 2) (rm' := rmD 6) (As := [vi (xs ((i : Int) + 1).toNat).toInt, vi (xs ((i : Int) + 2).toNat).toInt]) (rest := [vi r]) (a := 530) (ci := 11) dL_law_631 q1188 q1189 q1190 q18 q1191 ⟨by decide, by decide, by decide +kernel⟩ ⟨rfl, rfl, by decide, by decide⟩ ⟨by decide, by decide⟩ rfl (Nat.le_of_ble_eq_true rfl) rfl s530 (by decide) rfl rfl hw1 (CallsM.mono hk (fun v M2 hv hw2 => ?_))
  obtain ⟨r', rfl, hr', hq2⟩ := hv
  obtain ⟨he, hR2⟩ := hq2 hw2
  exact x_icmp_eq dL_law_634 rfl hr hr' (fun _ => nx M2 hw2 hR2) (fun z => absurd he z)
theorem law_17 {g : Ctx} {b L i : Nat} {xs : Nat → Int32} {M : Mem} (hL : L ≤ 2560) (hi : i + 5 ≤ L) (hw : WT M) (hR : Rel M) (nx : ∀ M2, WT M2 → Rel M2 → WL g b L xs 738 [(3, vi (i : Int)), (2, vr g 530), (1, vr g 0), (0, Value.ref b)] [] M2) : WL g b L xs 639 [(3, vi (i : Int)), (2, vr g 530), (1, vr g 0), (0, Value.ref b)] [] M := by
  refine x_aload_n dL_law_639 2 rfl ?_
  refine x_aloadR dL_law_640 3 rfl (x_iload_n dL_law_641 0 rfl (x_iconst dL_law_642 (x_iadd dL_law_643 (x_sld dL_law_644 hL (by omega) (by omega) ?_))))
  refine x_aloadR dL_law_645 3 rfl (x_iload_n dL_law_646 0 rfl (x_iconst dL_law_647 (x_iadd dL_law_648 (x_sld dL_law_649 hL (by omega) (by omega) ?_))))
  refine x_aloadR dL_law_650 3 rfl (x_iload_n dL_law_651 0 rfl (x_iconst dL_law_652 (x_iadd dL_law_653 (x_sld dL_law_654 hL (by omega) (by omega) ?_))))
  refine x_aloadR dL_law_655 3 rfl (x_iload_n dL_law_656 0 rfl (x_iconst dL_law_657 (x_iadd dL_law_658 (x_sld dL_law_659 hL (by omega) (by omega) ?_))))
  refine x_callV (n := 4) (rm' := rmD 48) (As := [vi (xs ((i : Int) + 1).toNat).toInt, vi (xs ((i : Int) + 2).toNat).toInt, vi (xs ((i : Int) + 3).toNat).toInt, vi (xs ((i : Int) + 4).toNat).toInt]) (rest := []) (a := 0) (ci := 10) dL_law_660 q781 q782 q783 q1 q784 ⟨by decide, by decide, by decide +kernel⟩ ⟨rfl, rfl, by decide, by decide⟩ ⟨by decide, by decide⟩ rfl (Nat.le_of_ble_eq_true rfl) rfl s0 (by decide) rfl rfl hw (CallsM.mono (j_lookups hR (vi_InR _) (vi_InR _) (vi_InR _) (vi_InR _)) (fun v M1 hv hw1 => ?_))
  obtain ⟨r, rfl, hr, hq⟩ := hv
  have hk := hq hw1
  refine x_aload_n dL_law_663 1 rfl ?_
  refine x_aloadR dL_law_664 3 rfl (x_iload_n dL_law_665 0 rfl (x_iconst dL_law_666 (x_iadd dL_law_667 (x_sld dL_law_668 hL (by omega) (by omega) ?_))))
  refine x_aloadR dL_law_669 3 rfl (x_iload_n dL_law_670 0 rfl (x_iconst dL_law_671 (x_iadd dL_law_672 (x_sld dL_law_673 hL (by omega) (by omega) ?_))))
  refine x_aloadR dL_law_674 3 rfl (x_iload_n dL_law_675 0 rfl (x_iconst dL_law_676 (x_iadd dL_law_677 (x_sld dL_law_678 hL (by omega) (by omega) ?_))))
  refine x_aloadR dL_law_679 3 rfl (x_iload_n dL_law_680 0 rfl (x_iconst dL_law_681 (x_iadd dL_law_682 (x_sld dL_law_683 hL (by omega) (by omega) ?_))))
  refine x_callV (n := 4) (rm' := rmD 6) (As := [vi (xs ((i : Int) + 1).toNat).toInt, vi (xs ((i : Int) + 2).toNat).toInt, vi (xs ((i : Int) + 3).toNat).toInt, vi (xs ((i : Int) + 4).toNat).toInt]) (rest := [vi r]) (a := 530) (ci := 11) dL_law_684 q1192 q1193 q1194 q18 q1195 ⟨by decide, by decide, by decide +kernel⟩ ⟨rfl, rfl, by decide, by decide⟩ ⟨by decide, by decide⟩ rfl (Nat.le_of_ble_eq_true rfl) rfl s530 (by decide) rfl rfl hw1 (CallsM.mono hk (fun v M2 hv hw2 => ?_))
  obtain ⟨r', rfl, hr', hq2⟩ := hv
  obtain ⟨he, hR2⟩ := hq2 hw2
  exact x_icmp_eq dL_law_687 rfl hr hr' (fun _ => nx M2 hw2 hR2) (fun z => absurd he z)
theorem law_18 {g : Ctx} {b L i : Nat} {xs : Nat → Int32} {M : Mem} (hL : L ≤ 2560) (hi : i + 5 ≤ L) (hw : WT M) (hR : Rel M) (nx : ∀ M2, WT M2 → Rel M2 → WL g b L xs 738 [(3, vi (i : Int)), (2, vr g 530), (1, vr g 0), (0, Value.ref b)] [] M2) : WL g b L xs 692 [(3, vi (i : Int)), (2, vr g 530), (1, vr g 0), (0, Value.ref b)] [] M := by
  refine x_aload_n dL_law_692 2 rfl ?_
  refine x_aloadR dL_law_693 3 rfl (x_iload_n dL_law_694 0 rfl (x_iconst dL_law_695 (x_iadd dL_law_696 (x_sld dL_law_697 hL (by omega) (by omega) ?_))))
  refine x_callV (n := 1) (rm' := rmD 3) (As := [vi (xs ((i : Int) + 1).toNat).toInt]) (rest := []) (a := 0) (ci := 10) dL_law_698 q793 q794 q795 q1 q796 ⟨by decide, by decide, by decide +kernel⟩ ⟨rfl, rfl, by decide, by decide⟩ ⟨by decide, by decide⟩ rfl (Nat.le_of_ble_eq_true rfl) rfl s0 (by decide) rfl rfl hw (CallsM.mono (j_leads hR (vi_InR _)) (fun v M1 hv hw1 => ?_))
  obtain ⟨r, rfl, hr, hq⟩ := hv
  have hk := hq hw1
  refine x_aload_n dL_law_701 1 rfl ?_
  refine x_aloadR dL_law_702 3 rfl (x_iload_n dL_law_703 0 rfl (x_iconst dL_law_704 (x_iadd dL_law_705 (x_sld dL_law_706 hL (by omega) (by omega) ?_))))
  refine x_callV (n := 1) (rm' := rmD 2) (As := [vi (xs ((i : Int) + 1).toNat).toInt]) (rest := [vi r]) (a := 530) (ci := 11) dL_law_707 q1200 q1201 q1202 q18 q1203 ⟨by decide, by decide, by decide +kernel⟩ ⟨rfl, rfl, by decide, by decide⟩ ⟨by decide, by decide⟩ rfl (Nat.le_of_ble_eq_true rfl) rfl s530 (by decide) rfl rfl hw1 (CallsM.mono hk (fun v M2 hv hw2 => ?_))
  obtain ⟨r', rfl, hr', hq2⟩ := hv
  obtain ⟨he, hR2⟩ := hq2 hw2
  exact x_icmp_eq dL_law_710 rfl hr hr' (fun _ => nx M2 hw2 hR2) (fun z => absurd he z)
theorem law_19 {g : Ctx} {b L i : Nat} {xs : Nat → Int32} {M : Mem} (hL : L ≤ 2560) (hi : i + 5 ≤ L) (hw : WT M) (hR : Rel M) (nx : ∀ M2, WT M2 → Rel M2 → WL g b L xs 738 [(3, vi (i : Int)), (2, vr g 530), (1, vr g 0), (0, Value.ref b)] [] M2) : WL g b L xs 715 [(3, vi (i : Int)), (2, vr g 530), (1, vr g 0), (0, Value.ref b)] [] M := by
  refine x_aload_n dL_law_715 2 rfl ?_
  refine x_aloadR dL_law_716 3 rfl (x_iload_n dL_law_717 0 rfl (x_iconst dL_law_718 (x_iadd dL_law_719 (x_sld dL_law_720 hL (by omega) (by omega) ?_))))
  refine x_callV (n := 1) (rm' := rmD 1) (As := [vi (xs ((i : Int) + 1).toNat).toInt]) (rest := []) (a := 0) (ci := 10) dL_law_721 q805 q806 q807 q1 q808 ⟨by decide, by decide, by decide +kernel⟩ ⟨rfl, rfl, by decide, by decide⟩ ⟨by decide, by decide⟩ rfl (Nat.le_of_ble_eq_true rfl) rfl s0 (by decide) rfl rfl hw (CallsM.mono (j_count hR (vi_InR _)) (fun v M1 hv hw1 => ?_))
  obtain ⟨r, rfl, hr, hq⟩ := hv
  have hk := hq hw1
  refine x_aload_n dL_law_724 1 rfl ?_
  refine x_aloadR dL_law_725 3 rfl (x_iload_n dL_law_726 0 rfl (x_iconst dL_law_727 (x_iadd dL_law_728 (x_sld dL_law_729 hL (by omega) (by omega) ?_))))
  refine x_callV (n := 1) (rm' := rmD 0) (As := [vi (xs ((i : Int) + 1).toNat).toInt]) (rest := [vi r]) (a := 530) (ci := 11) dL_law_730 q1208 q1209 q1210 q18 q1211 ⟨by decide, by decide, by decide +kernel⟩ ⟨rfl, rfl, by decide, by decide⟩ ⟨by decide, by decide⟩ rfl (Nat.le_of_ble_eq_true rfl) rfl s530 (by decide) rfl rfl hw1 (CallsM.mono hk (fun v M2 hv hw2 => ?_))
  obtain ⟨r', rfl, hr', hq2⟩ := hv
  obtain ⟨he, hR2⟩ := hq2 hw2
  exact x_icmp_eq dL_law_733 rfl hr hr' (fun _ => nx M2 hw2 hR2) (fun z => absurd he z)
theorem law_loop {g : Ctx} {b L : Nat} {xs : Nat → Int32} (hL : L ≤ 2560) : ∀ (w i : Nat) (M : Mem), L + 5 ≤ i + w → i ≤ L → WT M → Rel M → WL g b L xs 18 [(3, vi (i : Int)), (2, vr g 530), (1, vr g 0), (0, Value.ref b)] [] M := by
  intro w
  induction w with
  | zero => intro i M h1 h2; omega
  | succ w ih =>
    intro i M h1 h2 hw hR
    refine x_iload_n dL_law_18 0 rfl (x_aloadR dL_law_19 3 rfl (x_slen dL_law_20 (x_iconst dL_law_21 (x_isub dL_law_22 (x_icmp_gt dL_law_23 rfl (by omega) (by omega) (fun _ => ?_) (fun hgt => ?_))))))
    · refine x_iconst dL_law_744 ?_
      exact x_lend dL_law_745 (by decide) (by decide)
    have nx : ∀ M2, WT M2 → Rel M2 → WL g b L xs 738 [(3, vi (i : Int)), (2, vr g 530), (1, vr g 0), (0, Value.ref b)] [] M2 := fun M2 hw2 hR2 => by
      refine x_iinc (lv' := [(3, vi ((i : Int) + 5)), (2, vr g 530), (1, vr g 0), (0, Value.ref b)]) dL_law_738 0 rfl (by decide) rfl (x_goto dL_law_741 rfl ?_)
      have n1 := ih (i + 5) M2 (by omega) (by omega) hw2 hR2
      rw [show ((i + 5 : Nat) : Int) = (i : Int) + 5 by omega] at n1
      exact n1
    have hi5 : i + 5 ≤ L := by omega
    refine x_aloadR dL_law_26 3 rfl (x_iload_n dL_law_27 0 rfl (x_sld dL_law_28 hL (by omega) (by omega) (x_bipush dL_law_29 rfl (x_iand dL_law_31 ?_))))
    have hj := jand31 ((xs ((i : Int)).toNat).toInt)
    generalize jand ((xs ((i : Int)).toNat).toInt) 31 = v at hj ⊢
    by_cases hv : v < 20
    · rcases (show v = 0 ∨ v = 1 ∨ v = 2 ∨ v = 3 ∨ v = 4 ∨ v = 5 ∨ v = 6 ∨ v = 7 ∨ v = 8 ∨ v = 9 ∨ v = 10 ∨ v = 11 ∨ v = 12 ∨ v = 13 ∨ v = 14 ∨ v = 15 ∨ v = 16 ∨ v = 17 ∨ v = 18 ∨ v = 19 by omega) with h | h | h | h | h | h | h | h | h | h | h | h | h | h | h | h | h | h | h | h
      · exact x_tabIn (v := 0) dL_law_32 h (by decide) (by decide) (by decide) rfl rfl (law_0 hL hi5 hw hR nx)
      · exact x_tabIn (v := 1) dL_law_32 h (by decide) (by decide) (by decide) rfl rfl (law_1 hL hi5 hw hR nx)
      · exact x_tabIn (v := 2) dL_law_32 h (by decide) (by decide) (by decide) rfl rfl (law_2 hL hi5 hw hR nx)
      · exact x_tabIn (v := 3) dL_law_32 h (by decide) (by decide) (by decide) rfl rfl (law_3 hL hi5 hw hR nx)
      · exact x_tabIn (v := 4) dL_law_32 h (by decide) (by decide) (by decide) rfl rfl (law_4 hL hi5 hw hR nx)
      · exact x_tabIn (v := 5) dL_law_32 h (by decide) (by decide) (by decide) rfl rfl (law_5 hL hi5 hw hR nx)
      · exact x_tabIn (v := 6) dL_law_32 h (by decide) (by decide) (by decide) rfl rfl (law_6 hL hi5 hw hR nx)
      · exact x_tabIn (v := 7) dL_law_32 h (by decide) (by decide) (by decide) rfl rfl (law_7 hL hi5 hw hR nx)
      · exact x_tabIn (v := 8) dL_law_32 h (by decide) (by decide) (by decide) rfl rfl (law_8 hL hi5 hw hR nx)
      · exact x_tabIn (v := 9) dL_law_32 h (by decide) (by decide) (by decide) rfl rfl (law_9 hL hi5 hw hR nx)
      · exact x_tabIn (v := 10) dL_law_32 h (by decide) (by decide) (by decide) rfl rfl (law_10 hL hi5 hw hR nx)
      · exact x_tabIn (v := 11) dL_law_32 h (by decide) (by decide) (by decide) rfl rfl (law_11 hL hi5 hw hR nx)
      · exact x_tabIn (v := 12) dL_law_32 h (by decide) (by decide) (by decide) rfl rfl (law_12 hL hi5 hw hR nx)
      · exact x_tabIn (v := 13) dL_law_32 h (by decide) (by decide) (by decide) rfl rfl (law_13 hL hi5 hw hR nx)
      · exact x_tabIn (v := 14) dL_law_32 h (by decide) (by decide) (by decide) rfl rfl (law_14 hL hi5 hw hR nx)
      · exact x_tabIn (v := 15) dL_law_32 h (by decide) (by decide) (by decide) rfl rfl (law_15 hL hi5 hw hR nx)
      · exact x_tabIn (v := 16) dL_law_32 h (by decide) (by decide) (by decide) rfl rfl (law_16 hL hi5 hw hR nx)
      · exact x_tabIn (v := 17) dL_law_32 h (by decide) (by decide) (by decide) rfl rfl (law_17 hL hi5 hw hR nx)
      · exact x_tabIn (v := 18) dL_law_32 h (by decide) (by decide) (by decide) rfl rfl (law_18 hL hi5 hw hR nx)
      · exact x_tabIn (v := 19) dL_law_32 h (by decide) (by decide) (by decide) rfl rfl (law_19 hL hi5 hw hR nx)
    · exact x_tabOut dL_law_32 (by omega) (Or.inr (by omega)) rfl (nx M hw hR)
