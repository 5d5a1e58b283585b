def sTx : String := "nab:+p128/2,+iac,~had,-a;nac:?p0/7,+mab,\x72eb;neb:+e%2d%l,-a;aad:7,200;xab:ad,eb;aab:9;aebb:1;"
def sLen : List Nat := [92, 4, 6, 4]
def sByt : List (List Int32) := [[110, 97, 98, 58, 43, 112, 49, 50, 56, 47, 50, 44, 43, 105, 97, 99, 44, 126, 104, 97, 100, 44, 45, 97, 59, 110, 97, 99, 58, 63, 112, 48, 47, 55, 44, 43, 109, 97, 98, 44, 114, 101, 98, 59, 110, 101, 98, 58, 43, 101, 37, 50, 100, 37, 108, 44, 45, 97, 59, 97, 97, 100, 58, 55, 44, 50, 48, 48, 59, 120, 97, 98, 58, 97, 100, 44, 101, 98, 59, 97, 97, 98, 58, 57, 59, 97, 101, 98, 98, 58, 49, 59], [43, 45, 126, 63], [97, 112, 105, 104, 109, 101], [100, 111, 115, 108]]
/-- the text constants, and that texts are compact -/
def Str (g : Ctx) (U : State) (H : Heap) : Prop := vk_S 4 sLen sByt (gK g) (gV g) (gA g) U H ∧ (vk_R "SendRules" 44 sTx (gK g 0) U ∧ vk_R "SendRules" 119 "+-~?" (gK g 1) U ∧ vk_R "SendRules$Reader" 98 "+-~?" (gK g 1) U ∧ vk_R "SendRules$Reader" 105 "apihme" (gK g 2) U ∧ vk_R "SendRules$Reader" 141 "dosl" (gK g 3) U) ∧ va_Z "java/lang/String" "COMPACT_STRINGS" "Z" (.int 1) (gA g) U H ∧ va_Zq "jdk/internal/util/Preconditions" "SIOOBE_FORMATTER" "Ljava/util/function/BiFunction;" (gA g) U H
theorem Str.kept {g : Ctx} {U : State} {H H1 : Heap} (h : Str g U H) (hq : ∀ a : Nat, a < H.size → ¬ gA g a → H1[a]? = H[a]?) : Str g U H1 :=
  ⟨h.1.kept hq, h.2.1, h.2.2.1.kept hq, h.2.2.2.elim (fun z => Or.inl (z.kept hq)) (fun ⟨t, z⟩ => Or.inr ⟨t, z.kept hq⟩)⟩
theorem Str.warm {g : Ctx} {s U : State} {H : Heap} (hW : s.WarmedH U.vm) (h : Str g s H) : Str g U H :=
  ⟨h.1.moved hW.alike, ⟨h.2.1.1.warm hW, h.2.1.2.1.warm hW, h.2.1.2.2.1.warm hW, h.2.1.2.2.2.1.warm hW, h.2.1.2.2.2.2.warm hW⟩, h.2.2.1.moved hW.alike, h.2.2.2.elim (fun z => Or.inl (z.moved hW.alike)) (fun ⟨t, z⟩ => Or.inr ⟨t, z.moved hW.alike⟩)⟩
theorem Str.same {g : Ctx} {u U : State} {H : Heap} (hv : u.vm = U.vm) (h : Str g u H) : Str g U H := by
  have hal : u.vm.Alike U.vm := by rw [hv]; exact Vm.Alike.refl _
  exact ⟨h.1.moved hal, ⟨h.2.1.1.same hv.symm, h.2.1.2.1.same hv.symm, h.2.1.2.2.1.same hv.symm, h.2.1.2.2.2.1.same hv.symm, h.2.1.2.2.2.2.same hv.symm⟩, h.2.2.1.moved hal, h.2.2.2.elim (fun z => Or.inl (z.moved hal)) (fun ⟨t, z⟩ => Or.inr ⟨t, z.moved hal⟩)⟩
/-- what the tables and the constants say at a state -/
def Env0 (g : Ctx) (U : State) : Prop := va_K (gD g) classes (gtys g) U ∧ Nw U ∧ Str g U U.heap
theorem Env0.blind {g : Ctx} {U : State} (h : Env0 g U) (f : JFrame) (mk : MethodId) (a : Array Value) : Env0 g (U.calling f mk a) :=
  ⟨va_K.moved (u := U) (U := U.calling f mk a) (Vm.Alike.refl U.vm) h.1, Nw.same (u := U) (U := U.calling f mk a) rfl h.2.1, Str.same (u := U) (U := U.calling f mk a) rfl h.2.2⟩
theorem Env0.at {g : Ctx} {s U : State} {H : Heap} {locs : List Loc} (h : Env0 g s) (hS : va_S (gA g) s.heap H locs) (hU : U.heap = H) (hW : s.WarmedH U.vm) : Env0 g U :=
  ⟨va_K.moved hW.alike h.1, Nw.warm hW h.2.1, by rw [hU]; exact (Str.warm hW h.2.2).kept hS.2.1⟩
def Wd (g : Ctx) (N : Nat) (M : Mem) (U : State) : Prop := va_P (gD g) classes (wsN g N M) U.heap ∧ WT M ∧ Env0 g U
def QcM (g : Ctx) (N : Nat) (Q : Option Value → Mem → Prop) : Array Value → State → Outcome → State → Prop := fun _ st o t => (∃ (v : Option Value) (M : Mem), o = .returned v ∧ Q v M ∧ Wd g N M t) ∧ va_F (gA g) st t
def CallsM (g : Ctx) (y : MethodName) (cc : ByteArray) (nL : Nat) (ret : Option FieldType) (rm : Room) (N : Nat) (As : List Value) (M : Mem) (Q : Option Value → Mem → Prop) : Prop :=
  Met (gl g) y (.code y cc nL ret :: gtbl) rm (va_Pc As (Wd g N M)) (QcM g N Q) 0 0 (gA g)
def Fx (g : Ctx) (y : MethodName) (cc : ByteArray) (nL : Nat) (ret : Option FieldType) (p : Program) (s : State) (m : MethodId) (args : Array Value) (meth : Method) (c : Code) : Prop :=
  p.tables.exec = Jvm.exec ∧ c.code = cc ∧ meth.sig.returnType = ret ∧ c.maxLocals = nL ∧ s.vm.findClass y.cls = some m.cls ∧ (∀ w ∈ gtbl, w.before args s = true) ∧ meth.locks = false ∧ Env0 g s
def WP (g : Ctx) (y : MethodName) (cc : ByteArray) (nL : Nat) (ret : Option FieldType) (rm : Room) (N pc : Nat) (lv : List (Nat × Value)) (st : List Value) (M : Mem) (Q : Option Value → Mem → Prop) : Prop :=
  ∀ (p : Program) (e : Env) (s : State) (m : MethodId) (args : Array Value) (below : List Frame) (meth : Method) (c : Code) (H : Heap) (locs : List Loc) (ls : Array Slot), Fx g y cc nL ret p s m args meth c → va_P (gD g) classes (wsN g N M) H → WT M → va_S (gA g) s.heap H locs → lv_has ls nL lv → W p (gl g) e rm s m args below meth c H locs 0 0 (MQ below (QcM g N Q) args s 0 0 (gA g)) (F0 m pc ls st)
def rI (Q : Int → Mem → Prop) : Option Value → Mem → Prop := fun v M => ∃ r : Int, v = some (vi r) ∧ InR r ∧ Q r M
def rV (Q : Mem → Prop) : Option Value → Mem → Prop := fun v M => v = none ∧ Q M
def rQ (g : Ctx) (Q : Nat → Mem → Prop) : Option Value → Mem → Prop := fun v M => ∃ r : Nat, v = some (vq g r) ∧ Q r M
theorem CallsM.mono {g : Ctx} {y : MethodName} {cc : ByteArray} {nL : Nat} {ret : Option FieldType} {rm : Room} {N : Nat} {As : List Value} {M : Mem} {Q Q' : Option Value → Mem → Prop} (h : CallsM g y cc nL ret rm N As M Q) (hQ : ∀ v M', Q v M' → Q' v M') : CallsM g y cc nL ret rm N As M Q' := by
  intro p e h1 h2 h3 s m args below h4 h5 h6 h7
  obtain ⟨n, o, a1, a2, a3, ⟨⟨v, M', b1, b2, b3⟩, b4⟩, a5⟩ := h p e h1 h2 h3 s m args below h4 h5 h6 h7
  exact ⟨n, o, a1, a2, a3, ⟨⟨v, M', b1, hQ _ _ b2, b3⟩, b4⟩, a5⟩
theorem CallsM.intro {g : Ctx} {y : MethodName} {cc : ByteArray} {nL : Nat} {ret : Option FieldType} {rm : Room} {N : Nat} {As : List Value} {M : Mem} {Q : Option Value → Mem → Prop} (hy : plainName y.cls = true) (hn : (lg_sl As).length ≤ nL) (h : WP g y cc nL ret rm N 0 (lv_args 0 As) [] M Q) : CallsM g y cc nL ret rm N As M Q := by
  refine Met.ofW (cc := cc) (maxL := nL) (ret := ret) hy rfl ?_
  intro p e s m args below meth c s₁ B hml hv
  obtain ⟨rfl, hP, hT, hE⟩ := hv
  have hts := atoms_spec (ws := .code y cc nL ret :: gtbl) B.pre
  have hl := lv_entry As (n := nL) hn
  rw [lg_entry_eq]
  exact h p e s m _ below meth c s.heap [] _ ⟨B.exec, B.bytes, B.returns, hml, findClass_of_methodNamed B.named, fun w hw => hts w (List.mem_cons_of_mem _ hw), B.notSynchronized, hE⟩ hP hT va_S.rf hl
theorem vi_add (x y : Int) : Int32.ofInt x + Int32.ofInt y = Int32.ofInt (x + y) := (Int32.ofInt_add x y).symm
theorem vi_sub (x y : Int) : Int32.ofInt x - Int32.ofInt y = Int32.ofInt (x - y) := (Int32.ofInt_sub x y).symm
theorem vi_mul (x y : Int) : Int32.ofInt x * Int32.ofInt y = Int32.ofInt (x * y) := (Int32.ofInt_mul x y).symm
theorem vi_toInt {x : Int} (h : InR x) : (Int32.ofInt x).toInt = x := Int32.toInt_ofInt_of_le (by omega) (by omega)
theorem vi_eq {x y : Int} (hx : InR x) (hy : InR y) : Int32.ofInt x = Int32.ofInt y ↔ x = y := by rw [← Int32.toInt_inj, vi_toInt hx, vi_toInt hy]
theorem vi_lt {x y : Int} (hx : InR x) (hy : InR y) : Int32.ofInt x < Int32.ofInt y ↔ x < y := by rw [Int32.lt_iff_toInt_lt, vi_toInt hx, vi_toInt hy]
theorem vi_le {x y : Int} (hx : InR x) (hy : InR y) : Int32.ofInt x ≤ Int32.ofInt y ↔ x ≤ y := by rw [Int32.le_iff_toInt_le, vi_toInt hx, vi_toInt hy]
theorem vi_self (x : Int32) : Int32.ofInt x.toInt = x := Int32.ofInt_toInt x
theorem vi_InR (x : Int32) : InR x.toInt := ⟨Int32.le_toInt x, by have := Int32.toInt_lt x; omega⟩
theorem vi_0 : Int32.ofInt 0 = 0 := by decide
theorem vi_clamp {x : Int} (h0 : 0 ≤ x) (h : InR x) : (Int32.ofInt x).toNatClampNeg = x.toNat := by
  have h1 := vi_toInt h
  show (Int32.ofInt x).toInt.toNat = x.toNat
  rw [h1]
theorem vi_in {x : Int} {n : Nat} (h0 : 0 ≤ x) (h1 : x < n) (hn : n < 2147483648) : vp_in (Int32.ofInt x) n := by
  have hr : InR x := ⟨by omega, by omega⟩
  rw [vp_in_iff, vi_toInt hr]
  exact ⟨h0, h1⟩
def jand (x y : Int) : Int := (Int32.ofInt x &&& Int32.ofInt y).toInt
def jor (x y : Int) : Int := (Int32.ofInt x ||| Int32.ofInt y).toInt
def jxor (x y : Int) : Int := (Int32.ofInt x ^^^ Int32.ofInt y).toInt
def jshl (x y : Int) : Int := (Int32.ofInt x <<< (Int32.ofInt y &&& 31)).toInt
def jshr (x y : Int) : Int := (Int32.ofInt x >>> (Int32.ofInt y &&& 31)).toInt
theorem vi_div {x y : Int} (hx : InR x) (hy : InR y) (h0 : 0 ≤ x) (h1 : 0 < y) : Int32.ofInt x / Int32.ofInt y = Int32.ofInt (x / y) := by
  rw [← Int32.toInt_inj]
  have a := vi_toInt hx
  have b := vi_toInt hy
  have q0 : 0 ≤ x / y := Int.ediv_nonneg h0 (by omega)
  have q1 : x / y ≤ x := Int.ediv_le_self y h0
  rw [Int32.toInt_div_of_ne_left _ _ (fun q => by have := congrArg Int32.toInt q; rw [a] at this; rw [show (Int32.minValue).toInt = -2147483648 from by decide] at this; omega), a, b, vi_toInt ⟨by omega, by omega⟩, Int.tdiv_eq_ediv_of_nonneg h0]
theorem vi_rem {x y : Int} (hx : InR x) (hy : InR y) (h0 : 0 ≤ x) (h1 : 0 < y) : Int32.ofInt x - Int32.ofInt x / Int32.ofInt y * Int32.ofInt y = Int32.ofInt (x % y) := by
  rw [vi_div hx hy h0 h1, vi_mul, vi_sub]
  congr 1
  rw [Int.emod_def, Int.mul_comm]

section Rows
variable {g : Ctx} {y : MethodName} {cc : ByteArray} {nL : Nat} {ret : Option FieldType} {rm : Room} {N pc : Nat} {lv : List (Nat × Value)} {st : List Value} {M : Mem} {Q : Option Value → Mem → Prop}
theorem w_lv {lv' : List (Nat × Value)} (ks : List Nat) (h : lv_pick lv ks = lv') (k : WP g y cc nL ret rm N pc lv' st M Q) : WP g y cc nL ret rm N pc lv st M Q := by
  intro p e s m args below meth c H locs ls F hP hT hS hl
  exact k p e s m args below meth c H locs ls F hP hT hS (lv_sub hl ks h)
theorem w_iconst {n : Int} (hd : decode cc pc = .ok (.iconst n, 1)) (k : WP g y cc nL ret rm N (pc + 1) lv (vi n :: st) M Q) : WP g y cc nL ret rm N pc lv st M Q := by
  intro p e s m args below meth c H locs ls F hP hT hS hl
  exact lv_iconst F.1 F.2.1 hd rfl (k p e s m args below meth c H locs ls F hP hT hS hl)
theorem w_bipush {n : Int} (hd : decode cc pc = .ok (.bipush n, 2)) (hn : (Int8.ofInt n).toInt32 = Int32.ofInt n) (k : WP g y cc nL ret rm N (pc + 2) lv (vi n :: st) M Q) : WP g y cc nL ret rm N pc lv st M Q := by
  intro p e s m args below meth c H locs ls F hP hT hS hl
  exact lv_bipush F.1 F.2.1 hd hn (k p e s m args below meth c H locs ls F hP hT hS hl)
theorem w_sipush {n : Int} (hd : decode cc pc = .ok (.sipush n, 3)) (hn : (Int16.ofInt n).toInt32 = Int32.ofInt n) (k : WP g y cc nL ret rm N (pc + 3) lv (vi n :: st) M Q) : WP g y cc nL ret rm N pc lv st M Q := by
  intro p e s m args below meth c H locs ls F hP hT hS hl
  exact lv_sipush F.1 F.2.1 hd hn (k p e s m args below meth c H locs ls F hP hT hS hl)
theorem w_ldc {i : Nat} {n : Int} (hd : decode cc pc = .ok (.ldc i, 2)) (hw : Cond.constant y.cls i (Int32.ofInt n) ∈ gtbl) (k : WP g y cc nL ret rm N (pc + 2) lv (vi n :: st) M Q) : WP g y cc nL ret rm N pc lv st M Q := by
  intro p e s m args below meth c H locs ls F hP hT hS hl
  exact lv_ldc F.1 F.2.1 F.2.2.2.2.1 (F.2.2.2.2.2.1 _ hw) hd (k p e s m args below meth c H locs ls F hP hT hS hl)
theorem w_iload_n {q : Fin 4} {x : Int} (hd : decode cc pc = .ok (.iload_n q, 1)) (j : Nat) (hj : lv[j]? = some ((q : Nat), vi x)) (k : WP g y cc nL ret rm N (pc + 1) lv (vi x :: st) M Q) : WP g y cc nL ret rm N pc lv st M Q := by
  intro p e s m args below meth c H locs ls F hP hT hS hl
  exact lv_iload_n F.1 F.2.1 hd rfl (lv_at hl j hj) (k p e s m args below meth c H locs ls F hP hT hS hl)
theorem w_iload {q : Nat} {x : Int} (hd : decode cc pc = .ok (.iload q, 2)) (j : Nat) (hj : lv[j]? = some (q, vi x)) (k : WP g y cc nL ret rm N (pc + 2) lv (vi x :: st) M Q) : WP g y cc nL ret rm N pc lv st M Q := by
  intro p e s m args below meth c H locs ls F hP hT hS hl
  exact lv_iload F.1 F.2.1 hd (lv_at hl j hj) (k p e s m args below meth c H locs ls F hP hT hS hl)
theorem w_aload_n {q : Fin 4} {x : Nat} (hd : decode cc pc = .ok (.aload_n q, 1)) (j : Nat) (hj : lv[j]? = some ((q : Nat), vr g x)) (k : WP g y cc nL ret rm N (pc + 1) lv (vr g x :: st) M Q) : WP g y cc nL ret rm N pc lv st M Q := by
  intro p e s m args below meth c H locs ls F hP hT hS hl
  exact lv_aload_n F.1 F.2.1 hd rfl (lv_at hl j hj) (k p e s m args below meth c H locs ls F hP hT hS hl)
theorem w_aload {q : Nat} {x : Nat} (hd : decode cc pc = .ok (.aload q, 2)) (j : Nat) (hj : lv[j]? = some (q, vr g x)) (k : WP g y cc nL ret rm N (pc + 2) lv (vr g x :: st) M Q) : WP g y cc nL ret rm N pc lv st M Q := by
  intro p e s m args below meth c H locs ls F hP hT hS hl
  exact lv_aload F.1 F.2.1 hd (lv_at hl j hj) (k p e s m args below meth c H locs ls F hP hT hS hl)
theorem w_istore_n {q : Fin 4} {i : Nat} {x : Int} {lv' : List (Nat × Value)} (hd : decode cc pc = .ok (.istore_n q, 1)) (hi : (q : Nat) = i) (hn : i < nL) (hlv : (i, vi x) :: lv.filter (fun q => !(q.1 == i) && !(q.1 + 1 == i && q.2.category == 2)) = lv') (k : WP g y cc nL ret rm N (pc + 1) lv' st M Q) : WP g y cc nL ret rm N pc lv (vi x :: st) M Q := by
  intro p e s m args below meth c H locs ls F hP hT hS hl
  exact lv_istore_n F.1 F.2.1 hd hi hl hn hlv (fun ls' hl' => k p e s m args below meth c H locs ls' F hP hT hS hl')
theorem w_istore {i : Nat} {x : Int} {lv' : List (Nat × Value)} (hd : decode cc pc = .ok (.istore i, 2)) (hn : i < nL) (hlv : (i, vi x) :: lv.filter (fun q => !(q.1 == i) && !(q.1 + 1 == i && q.2.category == 2)) = lv') (k : WP g y cc nL ret rm N (pc + 2) lv' st M Q) : WP g y cc nL ret rm N pc lv (vi x :: st) M Q := by
  intro p e s m args below meth c H locs ls F hP hT hS hl
  exact lv_istore F.1 F.2.1 hd hl hn hlv (fun ls' hl' => k p e s m args below meth c H locs ls' F hP hT hS hl')
theorem w_astore_n {q : Fin 4} {i : Nat} {x : Nat} {lv' : List (Nat × Value)} (hd : decode cc pc = .ok (.astore_n q, 1)) (hi : (q : Nat) = i) (hn : i < nL) (hlv : (i, vr g x) :: lv.filter (fun q => !(q.1 == i) && !(q.1 + 1 == i && q.2.category == 2)) = lv') (k : WP g y cc nL ret rm N (pc + 1) lv' st M Q) : WP g y cc nL ret rm N pc lv (vr g x :: st) M Q := by
  intro p e s m args below meth c H locs ls F hP hT hS hl
  exact lv_astore_n F.1 F.2.1 hd hi hl hn hlv (fun ls' hl' => k p e s m args below meth c H locs ls' F hP hT hS hl')
theorem w_astore {i : Nat} {x : Nat} {lv' : List (Nat × Value)} (hd : decode cc pc = .ok (.astore i, 2)) (hn : i < nL) (hlv : (i, vr g x) :: lv.filter (fun q => !(q.1 == i) && !(q.1 + 1 == i && q.2.category == 2)) = lv') (k : WP g y cc nL ret rm N (pc + 2) lv' st M Q) : WP g y cc nL ret rm N pc lv (vr g x :: st) M Q := by
  intro p e s m args below meth c H locs ls F hP hT hS hl
  exact lv_astore F.1 F.2.1 hd hl hn hlv (fun ls' hl' => k p e s m args below meth c H locs ls' F hP hT hS hl')
theorem w_iinc {i : Nat} {x n : Int} {lv' : List (Nat × Value)} (hd : decode cc pc = .ok (.iinc i n, 3)) (j : Nat) (hj : lv[j]? = some (i, vi x)) (hn : i < nL) (hlv : (i, vi (x + n)) :: lv.filter (fun q => !(q.1 == i) && !(q.1 + 1 == i && q.2.category == 2)) = lv') (k : WP g y cc nL ret rm N (pc + 3) lv' st M Q) : WP g y cc nL ret rm N pc lv st M Q := by
  intro p e s m args below meth c H locs ls F hP hT hS hl
  exact lv_iinc (v := Int32.ofInt (x + n)) F.1 F.2.1 hd hl hj (vi_add x n) hn hlv (fun ls' hl' => k p e s m args below meth c H locs ls' F hP hT hS hl')
theorem w_iadd {x z : Int} (hd : decode cc pc = .ok (.iadd, 1)) (k : WP g y cc nL ret rm N (pc + 1) lv (vi (x + z) :: st) M Q) : WP g y cc nL ret rm N pc lv (vi z :: vi x :: st) M Q := by
  intro p e s m args below meth c H locs ls F hP hT hS hl
  refine lv_iadd F.1 F.2.1 hd ?_
  rw [vi_add]
  exact k p e s m args below meth c H locs ls F hP hT hS hl
theorem w_isub {x z : Int} (hd : decode cc pc = .ok (.isub, 1)) (k : WP g y cc nL ret rm N (pc + 1) lv (vi (x - z) :: st) M Q) : WP g y cc nL ret rm N pc lv (vi z :: vi x :: st) M Q := by
  intro p e s m args below meth c H locs ls F hP hT hS hl
  refine lv_isub F.1 F.2.1 hd ?_
  rw [vi_sub]
  exact k p e s m args below meth c H locs ls F hP hT hS hl
theorem w_imul {x z : Int} (hd : decode cc pc = .ok (.imul, 1)) (k : WP g y cc nL ret rm N (pc + 1) lv (vi (x * z) :: st) M Q) : WP g y cc nL ret rm N pc lv (vi z :: vi x :: st) M Q := by
  intro p e s m args below meth c H locs ls F hP hT hS hl
  refine lv_imul F.1 F.2.1 hd ?_
  rw [vi_mul]
  exact k p e s m args below meth c H locs ls F hP hT hS hl
theorem w_iand {x z : Int} (hd : decode cc pc = .ok (.iand, 1)) (k : WP g y cc nL ret rm N (pc + 1) lv (vi (jand x z) :: st) M Q) : WP g y cc nL ret rm N pc lv (vi z :: vi x :: st) M Q := by
  intro p e s m args below meth c H locs ls F hP hT hS hl
  refine lv_iand F.1 F.2.1 hd ?_
  have k1 := k p e s m args below meth c H locs ls F hP hT hS hl
  unfold vi jand at k1
  rw [vi_self] at k1
  exact k1
theorem w_ior {x z : Int} (hd : decode cc pc = .ok (.ior, 1)) (k : WP g y cc nL ret rm N (pc + 1) lv (vi (jor x z) :: st) M Q) : WP g y cc nL ret rm N pc lv (vi z :: vi x :: st) M Q := by
  intro p e s m args below meth c H locs ls F hP hT hS hl
  refine lv_ior F.1 F.2.1 hd ?_
  have k1 := k p e s m args below meth c H locs ls F hP hT hS hl
  unfold vi jor at k1
  rw [vi_self] at k1
  exact k1
theorem w_ixor {x z : Int} (hd : decode cc pc = .ok (.ixor, 1)) (k : WP g y cc nL ret rm N (pc + 1) lv (vi (jxor x z) :: st) M Q) : WP g y cc nL ret rm N pc lv (vi z :: vi x :: st) M Q := by
  intro p e s m args below meth c H locs ls F hP hT hS hl
  refine lv_ixor F.1 F.2.1 hd ?_
  have k1 := k p e s m args below meth c H locs ls F hP hT hS hl
  unfold vi jxor at k1
  rw [vi_self] at k1
  exact k1
theorem w_ishl {x z : Int} (hd : decode cc pc = .ok (.ishl, 1)) (k : WP g y cc nL ret rm N (pc + 1) lv (vi (jshl x z) :: st) M Q) : WP g y cc nL ret rm N pc lv (vi z :: vi x :: st) M Q := by
  intro p e s m args below meth c H locs ls F hP hT hS hl
  refine lv_ishl F.1 F.2.1 hd ?_
  have k1 := k p e s m args below meth c H locs ls F hP hT hS hl
  unfold vi jshl at k1
  rw [vi_self] at k1
  exact k1
theorem w_ishr {x z : Int} (hd : decode cc pc = .ok (.ishr, 1)) (k : WP g y cc nL ret rm N (pc + 1) lv (vi (jshr x z) :: st) M Q) : WP g y cc nL ret rm N pc lv (vi z :: vi x :: st) M Q := by
  intro p e s m args below meth c H locs ls F hP hT hS hl
  refine lv_ishr F.1 F.2.1 hd ?_
  have k1 := k p e s m args below meth c H locs ls F hP hT hS hl
  unfold vi jshr at k1
  rw [vi_self] at k1
  exact k1
theorem w_idiv {x z : Int} (hd : decode cc pc = .ok (.idiv, 1)) (hx : InR x) (hy : InR z) (h0 : 0 ≤ x) (h1 : 0 < z) (k : WP g y cc nL ret rm N (pc + 1) lv (vi (x / z) :: st) M Q) : WP g y cc nL ret rm N pc lv (vi z :: vi x :: st) M Q := by
  intro p e s m args below meth c H locs ls F hP hT hS hl
  refine lv_idiv F.1 F.2.1 hd (fun q => by rw [← vi_0, vi_eq hy ⟨by omega, by omega⟩] at q; omega) ?_
  rw [vi_div hx hy h0 h1]
  exact k p e s m args below meth c H locs ls F hP hT hS hl
theorem w_irem {x z : Int} (hd : decode cc pc = .ok (.irem, 1)) (hx : InR x) (hy : InR z) (h0 : 0 ≤ x) (h1 : 0 < z) (k : WP g y cc nL ret rm N (pc + 1) lv (vi (x % z) :: st) M Q) : WP g y cc nL ret rm N pc lv (vi z :: vi x :: st) M Q := by
  intro p e s m args below meth c H locs ls F hP hT hS hl
  refine lv_irem F.1 F.2.1 hd (fun q => by rw [← vi_0, vi_eq hy ⟨by omega, by omega⟩] at q; omega) ?_
  rw [vi_rem hx hy h0 h1]
  exact k p e s m args below meth c H locs ls F hP hT hS hl
theorem w_i2c {x : Int} (hd : decode cc pc = .ok (.i2c, 1)) (h0 : 0 ≤ x) (h1 : x < 65536) (k : WP g y cc nL ret rm N (pc + 1) lv (vi x :: st) M Q) : WP g y cc nL ret rm N pc lv (vi x :: st) M Q := by
  intro p e s m args below meth c H locs ls F hP hT hS hl
  refine lv_i2c F.1 F.2.1 hd (v := Int32.ofInt x) ?_ (k p e s m args below meth c H locs ls F hP hT hS hl)
  obtain ⟨n, rfl⟩ := Int.eq_ofNat_of_zero_le h0
  rw [pk_char]
  show nI _ = Int32.ofInt (n : Int)
  rw [Int32.ofInt_eq_ofNat]
  show nI _ = nI n
  have hn : n < 65536 := by omega
  rw [show (Int32.ofNat n) = nI n from rfl, pk_tn (by omega), Nat.mod_eq_of_lt hn]
theorem w_dup {v : Value} (hd : decode cc pc = .ok (.dup, 1)) (hv : v.category = 1) (k : WP g y cc nL ret rm N (pc + 1) lv (v :: v :: st) M Q) : WP g y cc nL ret rm N pc lv (v :: st) M Q := by
  intro p e s m args below meth c H locs ls F hP hT hS hl
  exact lv_dup F.1 F.2.1 hd hv (k p e s m args below meth c H locs ls F hP hT hS hl)
theorem w_pop {v : Value} (hd : decode cc pc = .ok (.pop, 1)) (hv : v.category = 1) (k : WP g y cc nL ret rm N (pc + 1) lv st M Q) : WP g y cc nL ret rm N pc lv (v :: st) M Q := by
  intro p e s m args below meth c H locs ls F hP hT hS hl
  exact lv_pop F.1 F.2.1 hd hv (k p e s m args below meth c H locs ls F hP hT hS hl)
theorem w_dup2 {v u : Value} (hd : decode cc pc = .ok (.dup2, 1)) (hv : v.category = 1) (hu : u.category = 1) (k : WP g y cc nL ret rm N (pc + 1) lv (v :: u :: v :: u :: st) M Q) : WP g y cc nL ret rm N pc lv (v :: u :: st) M Q := by
  intro p e s m args below meth c H locs ls F hP hT hS hl
  exact lv_dup2_11 F.1 F.2.1 hd hv hu (k p e s m args below meth c H locs ls F hP hT hS hl)
theorem w_goto {off : Int} {tgt : Nat} (hd : decode cc pc = .ok (.goto off, 3)) (ht : (pc : Int) + off = (tgt : Int)) (k : WP g y cc nL ret rm N tgt lv st M Q) : WP g y cc nL ret rm N pc lv st M Q := by
  intro p e s m args below meth c H locs ls F hP hT hS hl
  exact lv_goto F.1 F.2.1 hd ht (k p e s m args below meth c H locs ls F hP hT hS hl)
theorem w_icmp_eq {x z : Int} {off : Int} {tgt : Nat} (hd : decode cc pc = .ok (.if_icmp .eq off, 3)) (ht : (pc : Int) + off = (tgt : Int)) (hx : InR x) (hy : InR z) (kt : x = z → WP g y cc nL ret rm N tgt lv st M Q) (kf : ¬ (x = z) → WP g y cc nL ret rm N (pc + 3) lv st M Q) : WP g y cc nL ret rm N pc lv (vi z :: vi x :: st) M Q := by
  intro p e s m args below meth c H locs ls F hP hT hS hl
  exact lv_icmp_eq F.1 F.2.1 hd ht (fun q => (kt ((vi_eq hx hy).mp q)) p e s m args below meth c H locs ls F hP hT hS hl) (fun q => (kf (fun z => q ((vi_eq hx hy).mpr z))) p e s m args below meth c H locs ls F hP hT hS hl)
theorem w_if_eq {x : Int} {off : Int} {tgt : Nat} (hd : decode cc pc = .ok (.ifCond .eq off, 3)) (ht : (pc : Int) + off = (tgt : Int)) (hx : InR x) (kt : x = 0 → WP g y cc nL ret rm N tgt lv st M Q) (kf : ¬ (x = 0) → WP g y cc nL ret rm N (pc + 3) lv st M Q) : WP g y cc nL ret rm N pc lv (vi x :: st) M Q := by
  intro p e s m args below meth c H locs ls F hP hT hS hl
  have h00 : InR 0 := ⟨by decide, by decide⟩
  exact lv_if_eq F.1 F.2.1 hd ht (fun q => (kt ((vi_eq hx h00).mp (by rw [vi_0]; exact q))) p e s m args below meth c H locs ls F hP hT hS hl) (fun q => (kf (fun z => q (by have z1 := (vi_eq hx h00).mpr z; rw [vi_0] at z1; exact z1))) p e s m args below meth c H locs ls F hP hT hS hl)
theorem w_icmp_ne {x z : Int} {off : Int} {tgt : Nat} (hd : decode cc pc = .ok (.if_icmp .ne off, 3)) (ht : (pc : Int) + off = (tgt : Int)) (hx : InR x) (hy : InR z) (kt : ¬ x = z → WP g y cc nL ret rm N tgt lv st M Q) (kf : x = z → WP g y cc nL ret rm N (pc + 3) lv st M Q) : WP g y cc nL ret rm N pc lv (vi z :: vi x :: st) M Q := by
  intro p e s m args below meth c H locs ls F hP hT hS hl
  exact lv_icmp_ne F.1 F.2.1 hd ht (fun q => (kt ((not_congr (vi_eq hx hy)).mp q)) p e s m args below meth c H locs ls F hP hT hS hl) (fun q => (kf ((vi_eq hx hy).mp q)) p e s m args below meth c H locs ls F hP hT hS hl)
theorem w_if_ne {x : Int} {off : Int} {tgt : Nat} (hd : decode cc pc = .ok (.ifCond .ne off, 3)) (ht : (pc : Int) + off = (tgt : Int)) (hx : InR x) (kt : ¬ x = 0 → WP g y cc nL ret rm N tgt lv st M Q) (kf : x = 0 → WP g y cc nL ret rm N (pc + 3) lv st M Q) : WP g y cc nL ret rm N pc lv (vi x :: st) M Q := by
  intro p e s m args below meth c H locs ls F hP hT hS hl
  have h00 : InR 0 := ⟨by decide, by decide⟩
  exact lv_if_ne F.1 F.2.1 hd ht (fun q => (kt ((not_congr (vi_eq hx h00)).mp (by rw [vi_0]; exact q))) p e s m args below meth c H locs ls F hP hT hS hl) (fun q => (kf ((vi_eq hx h00).mp (by rw [vi_0]; exact q))) p e s m args below meth c H locs ls F hP hT hS hl)
theorem w_icmp_lt {x z : Int} {off : Int} {tgt : Nat} (hd : decode cc pc = .ok (.if_icmp .lt off, 3)) (ht : (pc : Int) + off = (tgt : Int)) (hx : InR x) (hy : InR z) (kt : x < z → WP g y cc nL ret rm N tgt lv st M Q) (kf : ¬ (x < z) → WP g y cc nL ret rm N (pc + 3) lv st M Q) : WP g y cc nL ret rm N pc lv (vi z :: vi x :: st) M Q := by
  intro p e s m args below meth c H locs ls F hP hT hS hl
  exact lv_icmp_lt F.1 F.2.1 hd ht (fun q => (kt ((vi_lt hx hy).mp q)) p e s m args below meth c H locs ls F hP hT hS hl) (fun q => (kf (fun z => q ((vi_lt hx hy).mpr z))) p e s m args below meth c H locs ls F hP hT hS hl)
theorem w_if_lt {x : Int} {off : Int} {tgt : Nat} (hd : decode cc pc = .ok (.ifCond .lt off, 3)) (ht : (pc : Int) + off = (tgt : Int)) (hx : InR x) (kt : x < 0 → WP g y cc nL ret rm N tgt lv st M Q) (kf : ¬ (x < 0) → WP g y cc nL ret rm N (pc + 3) lv st M Q) : WP g y cc nL ret rm N pc lv (vi x :: st) M Q := by
  intro p e s m args below meth c H locs ls F hP hT hS hl
  have h00 : InR 0 := ⟨by decide, by decide⟩
  exact lv_if_lt F.1 F.2.1 hd ht (fun q => (kt ((vi_lt hx h00).mp (by rw [vi_0]; exact q))) p e s m args below meth c H locs ls F hP hT hS hl) (fun q => (kf (fun z => q (by have z1 := (vi_lt hx h00).mpr z; rw [vi_0] at z1; exact z1))) p e s m args below meth c H locs ls F hP hT hS hl)
theorem w_icmp_ge {x z : Int} {off : Int} {tgt : Nat} (hd : decode cc pc = .ok (.if_icmp .ge off, 3)) (ht : (pc : Int) + off = (tgt : Int)) (hx : InR x) (hy : InR z) (kt : z ≤ x → WP g y cc nL ret rm N tgt lv st M Q) (kf : ¬ (z ≤ x) → WP g y cc nL ret rm N (pc + 3) lv st M Q) : WP g y cc nL ret rm N pc lv (vi z :: vi x :: st) M Q := by
  intro p e s m args below meth c H locs ls F hP hT hS hl
  exact lv_icmp_ge F.1 F.2.1 hd ht (fun q => (kt ((vi_le hy hx).mp q)) p e s m args below meth c H locs ls F hP hT hS hl) (fun q => (kf (fun z => q ((vi_le hy hx).mpr z))) p e s m args below meth c H locs ls F hP hT hS hl)
theorem w_if_ge {x : Int} {off : Int} {tgt : Nat} (hd : decode cc pc = .ok (.ifCond .ge off, 3)) (ht : (pc : Int) + off = (tgt : Int)) (hx : InR x) (kt : 0 ≤ x → WP g y cc nL ret rm N tgt lv st M Q) (kf : ¬ (0 ≤ x) → WP g y cc nL ret rm N (pc + 3) lv st M Q) : WP g y cc nL ret rm N pc lv (vi x :: st) M Q := by
  intro p e s m args below meth c H locs ls F hP hT hS hl
  have h00 : InR 0 := ⟨by decide, by decide⟩
  exact lv_if_ge F.1 F.2.1 hd ht (fun q => (kt ((vi_le h00 hx).mp (by rw [vi_0]; exact q))) p e s m args below meth c H locs ls F hP hT hS hl) (fun q => (kf (fun z => q (by have z1 := (vi_le h00 hx).mpr z; rw [vi_0] at z1; exact z1))) p e s m args below meth c H locs ls F hP hT hS hl)
theorem w_icmp_gt {x z : Int} {off : Int} {tgt : Nat} (hd : decode cc pc = .ok (.if_icmp .gt off, 3)) (ht : (pc : Int) + off = (tgt : Int)) (hx : InR x) (hy : InR z) (kt : z < x → WP g y cc nL ret rm N tgt lv st M Q) (kf : ¬ (z < x) → WP g y cc nL ret rm N (pc + 3) lv st M Q) : WP g y cc nL ret rm N pc lv (vi z :: vi x :: st) M Q := by
  intro p e s m args below meth c H locs ls F hP hT hS hl
  exact lv_icmp_gt F.1 F.2.1 hd ht (fun q => (kt ((vi_lt hy hx).mp q)) p e s m args below meth c H locs ls F hP hT hS hl) (fun q => (kf (fun z => q ((vi_lt hy hx).mpr z))) p e s m args below meth c H locs ls F hP hT hS hl)
theorem w_if_gt {x : Int} {off : Int} {tgt : Nat} (hd : decode cc pc = .ok (.ifCond .gt off, 3)) (ht : (pc : Int) + off = (tgt : Int)) (hx : InR x) (kt : 0 < x → WP g y cc nL ret rm N tgt lv st M Q) (kf : ¬ (0 < x) → WP g y cc nL ret rm N (pc + 3) lv st M Q) : WP g y cc nL ret rm N pc lv (vi x :: st) M Q := by
  intro p e s m args below meth c H locs ls F hP hT hS hl
  have h00 : InR 0 := ⟨by decide, by decide⟩
  exact lv_if_gt F.1 F.2.1 hd ht (fun q => (kt ((vi_lt h00 hx).mp (by rw [vi_0]; exact q))) p e s m args below meth c H locs ls F hP hT hS hl) (fun q => (kf (fun z => q (by have z1 := (vi_lt h00 hx).mpr z; rw [vi_0] at z1; exact z1))) p e s m args below meth c H locs ls F hP hT hS hl)
theorem w_icmp_le {x z : Int} {off : Int} {tgt : Nat} (hd : decode cc pc = .ok (.if_icmp .le off, 3)) (ht : (pc : Int) + off = (tgt : Int)) (hx : InR x) (hy : InR z) (kt : x ≤ z → WP g y cc nL ret rm N tgt lv st M Q) (kf : ¬ (x ≤ z) → WP g y cc nL ret rm N (pc + 3) lv st M Q) : WP g y cc nL ret rm N pc lv (vi z :: vi x :: st) M Q := by
  intro p e s m args below meth c H locs ls F hP hT hS hl
  exact lv_icmp_le F.1 F.2.1 hd ht (fun q => (kt ((vi_le hx hy).mp q)) p e s m args below meth c H locs ls F hP hT hS hl) (fun q => (kf (fun z => q ((vi_le hx hy).mpr z))) p e s m args below meth c H locs ls F hP hT hS hl)
theorem w_if_le {x : Int} {off : Int} {tgt : Nat} (hd : decode cc pc = .ok (.ifCond .le off, 3)) (ht : (pc : Int) + off = (tgt : Int)) (hx : InR x) (kt : x ≤ 0 → WP g y cc nL ret rm N tgt lv st M Q) (kf : ¬ (x ≤ 0) → WP g y cc nL ret rm N (pc + 3) lv st M Q) : WP g y cc nL ret rm N pc lv (vi x :: st) M Q := by
  intro p e s m args below meth c H locs ls F hP hT hS hl
  have h00 : InR 0 := ⟨by decide, by decide⟩
  exact lv_if_le F.1 F.2.1 hd ht (fun q => (kt ((vi_le hx h00).mp (by rw [vi_0]; exact q))) p e s m args below meth c H locs ls F hP hT hS hl) (fun q => (kf (fun z => q (by have z1 := (vi_le hx h00).mpr z; rw [vi_0] at z1; exact z1))) p e s m args below meth c H locs ls F hP hT hS hl)
theorem w_ifnull {x : Nat} {off : Int} {tgt : Nat} (hd : decode cc pc = .ok (.ifnull off, 3)) (ht : (pc : Int) + off = (tgt : Int)) (kt : x = 0 → WP g y cc nL ret rm N tgt lv st M Q) (kf : ¬ x = 0 → WP g y cc nL ret rm N (pc + 3) lv st M Q) : WP g y cc nL ret rm N pc lv (vq g x :: st) M Q := by
  intro p e s m args below meth c H locs ls F hP hT hS hl
  by_cases hx : x = 0
  · simp only [vq, oq, if_pos hx, va_rf]
    exact lv_ifnullN F.1 F.2.1 hd ht (kt hx p e s m args below meth c H locs ls F hP hT hS hl)
  · simp only [vq, oq, if_neg hx, va_rf]
    exact lv_ifnull F.1 F.2.1 hd (kf hx p e s m args below meth c H locs ls F hP hT hS hl)
theorem w_ifnonnull {x : Nat} {off : Int} {tgt : Nat} (hd : decode cc pc = .ok (.ifnonnull off, 3)) (ht : (pc : Int) + off = (tgt : Int)) (kt : ¬ x = 0 → WP g y cc nL ret rm N tgt lv st M Q) (kf : x = 0 → WP g y cc nL ret rm N (pc + 3) lv st M Q) : WP g y cc nL ret rm N pc lv (vq g x :: st) M Q := by
  intro p e s m args below meth c H locs ls F hP hT hS hl
  by_cases hx : x = 0
  · simp only [vq, oq, if_pos hx, va_rf]
    exact lv_ifnonnullN F.1 F.2.1 hd (kf hx p e s m args below meth c H locs ls F hP hT hS hl)
  · simp only [vq, oq, if_neg hx, va_rf]
    exact lv_ifnonnull F.1 F.2.1 hd ht (kt hx p e s m args below meth c H locs ls F hP hT hS hl)
theorem w_null (hd : decode cc pc = .ok (.aconst_null, 1)) (k : WP g y cc nL ret rm N (pc + 1) lv (vq g 0 :: st) M Q) : WP g y cc nL ret rm N pc lv st M Q := by
  intro p e s m args below meth c H locs ls F hP hT hS hl
  exact lv_null F.1 F.2.1 hd (k p e s m args below meth c H locs ls F hP hT hS hl)
theorem vq_ne {x : Nat} (h : x ≠ 0) : vq g x = vr g x := by simp only [vq, oq, if_neg h, va_rf, vr]
theorem w_top {v u : Value} (h : v = u) (k : WP g y cc nL ret rm N pc lv (u :: st) M Q) : WP g y cc nL ret rm N pc lv (v :: st) M Q := by rw [h]; exact k
theorem w_iret {x : Int} (hd : decode cc pc = .ok (.ireturn, 1)) (hq : Q (some (vi x)) M) : WP g y cc nL (some .int) rm N pc lv [vi x] M Q := by
  intro p e s m args below meth c H locs ls F hP hT hS hl
  exact W.iret F.1 F.2.1 F.2.2.1 (fun t ht hW => ⟨⟨(some (vi x)), M, rfl, hq, by rw [ht]; exact hP, hT, F.2.2.2.2.2.2.2.at hS ht hW⟩, hS.F ht⟩) hS.2.2 hd F.2.2.2.2.2.2.1
theorem w_zret {x : Int} (hd : decode cc pc = .ok (.ireturn, 1)) (hx : x = 0 ∨ x = 1) (hq : Q (some (vi x)) M) : WP g y cc nL (some .boolean) rm N pc lv [vi x] M Q := by
  intro p e s m args below meth c H locs ls F hP hT hS hl
  exact W.zret F.1 F.2.1 F.2.2.1 (by rcases hx with rfl | rfl <;> rfl) (fun t ht hW => ⟨⟨(some (vi x)), M, rfl, hq, by rw [ht]; exact hP, hT, F.2.2.2.2.2.2.2.at hS ht hW⟩, hS.F ht⟩) hS.2.2 hd F.2.2.2.2.2.2.1
theorem w_cret {x : Int} (hd : decode cc pc = .ok (.ireturn, 1)) (h0 : 0 ≤ x) (h1 : x < 65536) (hq : Q (some (vi x)) M) : WP g y cc nL (some .char) rm N pc lv [vi x] M Q := by
  intro p e s m args below meth c H locs ls F hP hT hS hl
  exact W.zret F.1 F.2.1 F.2.2.1 (by obtain ⟨n, rfl⟩ := Int.eq_ofNat_of_zero_le h0; rw [Int32.ofInt_eq_ofNat]; exact (pk_charN (q := n) (by omega)).1) (fun t ht hW => ⟨⟨(some (vi x)), M, rfl, hq, by rw [ht]; exact hP, hT, F.2.2.2.2.2.2.2.at hS ht hW⟩, hS.F ht⟩) hS.2.2 hd F.2.2.2.2.2.2.1
theorem w_vret (hd : decode cc pc = .ok (.return_, 1)) (hq : Q none M) : WP g y cc nL none rm N pc lv [] M Q := by
  intro p e s m args below meth c H locs ls F hP hT hS hl
  exact W.vret F.1 F.2.1 F.2.2.1 (fun t ht hW => ⟨⟨none, M, rfl, hq, by rw [ht]; exact hP, hT, F.2.2.2.2.2.2.2.at hS ht hW⟩, hS.F ht⟩) hS.2.2 hd F.2.2.2.2.2.2.1
theorem w_aret {C : String} {x : Nat} (hd : decode cc pc = .ok (.areturn, 1)) (hq : Q (some (vq g x)) M) : WP g y cc nL (some (.object C)) rm N pc lv [vq g x] M Q := by
  intro p e s m args below meth c H locs ls F hP hT hS hl
  exact W.aret F.1 F.2.1 F.2.2.1 (Or.inl ⟨_, rfl⟩) (by simp only [vq, oq]; split; exact Or.inl rfl; exact Or.inr ⟨_, rfl⟩) (fun t ht hW => ⟨⟨(some (vq g x)), M, rfl, hq, by rw [ht]; exact hP, hT, F.2.2.2.2.2.2.2.at hS ht hW⟩, hS.F ht⟩) hS.2.2 hd F.2.2.2.2.2.2.1
end Rows
