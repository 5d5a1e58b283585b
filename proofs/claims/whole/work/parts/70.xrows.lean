/-! ===== what makes cells: a judgement over cells, the heap's size exact ===== -/
def wsF (g : Ctx) (N : Nat) (f : Nat → va_E) : va_W := va_pl (adr g N) (fun q => f (q - gB g))
theorem wsF_N (g : Ctx) (N : Nat) (M : Mem) : wsF g N (cellOf g M) = wsN g N M := rfl
theorem wsF_at (g : Ctx) (N : Nat) (f : Nat → va_E) {a : Nat} (h : a < N) : (wsF g N f)[a]? = some (gB g + a, f a) := by
  simp only [wsF, va_pl, adr, List.getElem?_map, List.getElem?_range h, Option.map_some]
  rw [show gB g + a - gB g = a by omega]
theorem wsF_out (g : Ctx) (N : Nat) (f : Nat → va_E) {a : Nat} (h : N ≤ a) : (wsF g N f)[a]? = none := by
  simp only [wsF, va_pl, adr, List.getElem?_map]
  rw [List.getElem?_eq_none (by simp; omega)]; rfl
theorem wsF_push (g : Ctx) (N : Nat) (f : Nat → va_E) : wsF g (N + 1) f = wsF g N f ++ [(gB g + N, f N)] := by
  simp only [wsF, va_pl, adr, List.range_succ, List.map_append, List.map_cons, List.map_nil]
  rw [show gB g + N - gB g = N by omega]
theorem wsF_D (g : Ctx) (N : Nat) (f : Nat → va_E) : va_D (gA g) (wsF g N f) := by
  have key : ∀ (k : Nat) (q : Nat × va_E), (wsF g N f)[k]? = some q → q.1 = gB g + k := fun k q hk => by
    by_cases h : k < N
    · rw [wsF_at g N f h] at hk; cases hk; rfl
    · rw [wsF_out g N f (by omega)] at hk; cases hk
  refine ⟨fun i j p q hi hj hpq => ?_, fun k q hk => ?_⟩
  · have h1 := key i p hi
    have h2 := key j q hj
    omega
  · have h1 := key k q hk
    show gB g ≤ q.1
    omega
def upE (f : Nat → va_E) (a : Nat) (e : va_E) : Nat → va_E := fun q => if q = a then e else f q
theorem upE_at (f : Nat → va_E) (a : Nat) (e : va_E) : upE f a e a = e := by unfold upE; rw [if_pos rfl]
theorem upE_ne (f : Nat → va_E) {a q : Nat} (e : va_E) (h : q ≠ a) : upE f a e q = f q := by unfold upE; rw [if_neg h]
theorem wsF_set (g : Ctx) (N : Nat) (f : Nat → va_E) {a : Nat} (e : va_E) (h : a < N) : (wsF g N f).set a (gB g + a, e) = wsF g N (upE f a e) := by
  apply List.ext_getElem?
  intro j
  by_cases hj : j < N
  · rw [wsF_at g N _ hj, List.getElem?_set]
    by_cases z : a = j
    · subst z
      rw [if_pos rfl, if_pos (by simpa [wsF, va_pl, adr] using h), upE_at]
    · rw [if_neg z, wsF_at g N f hj, upE_ne _ _ (Ne.symm z)]
  · rw [wsF_out g N _ (by omega), List.getElem?_set]
    rw [if_neg (by omega), wsF_out g N f (by omega)]
theorem wsF_congr (g : Ctx) (N : Nat) {f f' : Nat → va_E} (h : ∀ q, q < N → f q = f' q) : wsF g N f = wsF g N f' := by
  apply List.ext_getElem?
  intro j
  by_cases hj : j < N
  · rw [wsF_at g N _ hj, wsF_at g N _ hj, h j hj]
  · rw [wsF_out g N _ (by omega), wsF_out g N _ (by omega)]
def AOs (U : State) : Prop := va_AO "SendRules$Rule" U ∧ va_AO "SendRules$Domain" U ∧ va_AO "SendRules$KeptCheck" U ∧ va_AO "SendRules$Change" U
theorem AOs.moved {u U : State} (h : u.vm.Alike U.vm) (a : AOs u) : AOs U := ⟨a.1.moved h, a.2.1.moved h, a.2.2.1.moved h, a.2.2.2.moved h⟩
def Sz (g : Ctx) (N ce : Nat) (s : State) (H : Heap) : Prop := H.size = gB g + N ∧ s.heap.size + ce = gB g + N
def WG (g : Ctx) (y : MethodName) (cc : ByteArray) (nL : Nat) (ret : Option FieldType) (rm : Room) (X : State → Method → Prop) (N ce sl pc : Nat) (lv : List (Nat × Value)) (st : List Value) (f : Nat → va_E) (Z : Array Value → List Frame → State → State → Prop) : Prop :=
  ∀ (p : Program) (e : Env) (s : State) (m : MethodId) (args : Array Value) (below : List Frame) (meth : Method) (c : Code) (H : Heap) (locs : List Loc) (ls : Array Slot), Fx g y cc nL ret p s m args meth c → X s meth → Sz g N ce s H → va_P (gD g) classes (wsF g N f) H → va_S (gA g) s.heap H locs → lv_has ls nL lv → W p (gl g) e rm s m args below meth c H locs ce sl (Z args below s) (F0 m pc ls st)
theorem x_size {g : Ctx} {N ce sl : Nat} {p : Program} {e : Env} {rm : Room} {s : State} {m : MethodId} {args : Array Value} {below : List Frame} {meth : Method} {c : Code} {H H1 : Heap} {locs1 : List Loc} {Q : State → Prop} {fr : JFrame} {f : Nat → va_E} (hN : 0 < N) (hz : Sz g N ce s H) (hP1 : va_P (gD g) classes (wsF g N f) H1) (k : Sz g N ce s H1 → W p (gl g) e rm s m args below meth c H1 locs1 ce sl Q fr) : W p (gl g) e rm s m args below meth c H1 locs1 ce sl Q fr := by
  intro T hT X0
  have h1 := X0.heapSize
  rw [hT] at h1
  have h2 := hz.2
  have h3 : gB g + N ≤ H1.size := by
    have h4 := (hP1 (N - 1) _ (wsF_at g N f (by omega))).lt
    dsimp only at h4
    omega
  exact k ⟨by omega, h2⟩ T hT X0
def WdF (g : Ctx) (N : Nat) (f : Nat → va_E) (U : State) : Prop := U.heap.size = gB g + N ∧ va_P (gD g) classes (wsF g N f) U.heap ∧ Env0 g U ∧ AOs U
def QcF (g : Ctx) (N : Nat) (f : Nat → va_E) : Array Value → State → Outcome → State → Prop := fun _ st o t => (o = .returned none ∧ WdF g N f t) ∧ va_F (gA g) st t
def CallsC (g : Ctx) (y : MethodName) (cc : ByteArray) (nL : Nat) (rm : Room) (a N : Nat) (f : Nat → va_E) (mc ms : Nat) (f' : Nat → va_E) : Prop :=
  Met (gl g) y (.code y cc nL none :: gtbl) rm (va_Pc [vr g a] (WdF g N f)) (QcF g (N + mc) f') mc ms (gA g)
def Xc : State → Method → Prop := fun s meth => AOs s ∧ meth.name = "<init>"
def Zc (g : Ctx) (N : Nat) (f' : Nat → va_E) (mc ms : Nat) : Array Value → List Frame → State → State → Prop := fun args below s => MQ below (QcF g N f') args s mc ms (gA g)
theorem CallsC.intro {g : Ctx} {y : MethodName} {cc : ByteArray} {nL : Nat} {rm : Room} {a N mc ms : Nat} {f f' : Nat → va_E} (hy : plainName y.cls = true) (hn : 1 ≤ nL) (hnm : y.name = "<init>") (h : WG g y cc nL none rm Xc N 0 0 0 [(0, vr g a)] [] f (Zc g (N + mc) f' mc ms)) : CallsC g y cc nL rm a N f mc ms f' := by
  refine Met.ofW (cc := cc) (maxL := nL) (ret := none) hy rfl ?_
  intro p e s m args below meth c s₁ B hml hv
  obtain ⟨rfl, hsz, hP, hE, hA⟩ := hv
  have hts := atoms_spec (ws := .code y cc nL none :: gtbl) B.pre
  have hl := lv_entry [vr g a] (n := nL) (by show 1 ≤ nL; exact hn)
  rw [lg_entry_eq]
  exact h p e s m _ below meth c s.heap [] _ ⟨B.exec, B.bytes, B.returns, hml, findClass_of_methodNamed B.named, fun w hw => hts w (List.mem_cons_of_mem _ hw), B.notSynchronized, hE⟩ ⟨hA, by rw [(name_of_methodNamed B.named B.method).1]; exact hnm⟩ ⟨hsz, by omega⟩ hP va_S.rf hl
section XRows
variable {g : Ctx} {y : MethodName} {cc : ByteArray} {nL : Nat} {ret : Option FieldType} {rm : Room} {X : State → Method → Prop} {N ce sl pc : Nat} {lv : List (Nat × Value)} {st : List Value} {f : Nat → va_E} {Z : Array Value → List Frame → State → State → Prop}
theorem x_f {f' : Nat → va_E} (h : ∀ q, q < N → f q = f' q) (k : WG g y cc nL ret rm X N ce sl pc lv st f' Z) : WG g y cc nL ret rm X N ce sl pc lv st f Z := by
  intro p e s m args below meth c H locs ls F hX hz hP hS hl
  rw [wsF_congr g N h] at hP
  exact k p e s m args below meth c H locs ls F hX hz hP hS hl
theorem x_new {idx ci : Nat} {C : String} {T : u_T} {Nf : Nat} {fs : List Value} (hd : decode cc pc = .ok (.new idx, 3)) (hc : classes[ci]? = some (C, T, Nf)) (hin : ∀ w ∈ u_ws C T Nf, w ∈ gtbl) (ty : Nat → FieldType) (hty : ∀ k, k < Nf → parseFieldDescriptor (T k).2.2.1 = some (ty k)) (hcl : Cond.classLink y.cls idx C ∈ gtbl) (hinst : Cond.instantiable C Nf ∈ gtbl) (hini : Cond.initialized C ∈ gtbl) (hfs : ∀ j, j < Nf → defaultValue (ty j) = vp_V fs j) (hcells : ce + 1 ≤ rm.cells) (hslots : sl + Nf ≤ rm.slots) (k : WG g y cc nL ret rm X (N + 1) (ce + 1) (sl + Nf) (pc + 3) lv (vr g N :: st) (upE f N (.inr (ci, fs))) Z) : WG g y cc nL ret rm X N ce sl pc lv st f Z := by
  intro p e s m args below meth c H locs ls F hX hz hP hS hl
  have hKn := F.2.2.2.2.2.2.2.1.1 ci _ hc
  refine W.newcK F.1 F.2.1 F.2.2.2.2.1 (F.2.2.2.2.2.1 _ hcl) (F.2.2.2.2.2.1 _ hinst) (F.2.2.2.2.2.1 _ hini) rfl hd hcells hslots hKn.2.1 hz.1 fun H1 kC hkC e1 z1 o1 => ?_
  have hk : ∀ (k : Nat) (x : Nat × va_E), (wsF g N f)[k]? = some x → H1[x.1]? = H[x.1]? := fun k x hx => o1 x.1 (by rw [← hz.1]; exact (hP k x hx).lt)
  have hP1 : va_P (gD g) classes (wsF g (N + 1) (upE f N (.inr (ci, fs)))) H1 := by
    rw [wsF_push, upE_at, wsF_congr g N (f' := f) (fun q hq => upE_ne _ _ (by omega))]
    refine (hP.kept hk).app (fun k x hx => ?_)
    have hz1 : k < 1 := (List.getElem?_eq_some_iff.mp hx).1
    rw [show k = 0 by omega] at hx
    cases hx
    exact ⟨_, hc, (u_born ty F.2.2.2.2.2.1 hin hKn hkC e1 hty).to hfs⟩
  exact k p e s m args below meth c H1 locs ls F hX ⟨by rw [z1]; omega, by have := hz.2; omega⟩ hP1 ⟨by rw [z1, ← hz.1]; exact Nat.le_trans hS.1 (Nat.le_succ _), fun x h1 h2 => (o1 x (by rw [← hz.1]; exact Nat.lt_of_lt_of_le h1 hS.1)).trans (hS.2.1 x h1 h2), hS.2.2⟩ hl
theorem x_newa {atype : ArrayType} {ty : FieldType} {t n : Nat} (hd : decode cc pc = .ok (.newarray atype, 2)) (hty : newarray.typeOf atype = ty) (harr : Cond.arrayClass ty ∈ gtbl) (ht : (gtys g)[t]? = some (gcy g t, ty)) (hprim : ty = .int ∨ ty = .char) (hn : n ≤ 2000) (hcells : ce + 1 ≤ rm.cells) (hslots : sl + n ≤ rm.slots) (k : WG g y cc nL ret rm X (N + 1) (ce + 1) (sl + n) (pc + 2) lv (vr g N :: st) (upE f N (.inl (gcy g t, n, .inl (fun _ => 0)))) Z) : WG g y cc nL ret rm X N ce sl pc lv (vi (n : Int) :: st) f Z := by
  intro p e s m args below meth c H locs ls F hX hz hP hS hl
  subst hty
  refine va_newaK F.1 F.2.1 (F.2.2.2.2.2.1 _ harr) rfl hd rfl (n := Int32.ofInt (n : Int)) (N := n) (fun q => ?_) (by rw [vi_clamp (by omega) (by omega), Int.toNat_natCast]) ?_ hcells hslots hz.1 fun H1 cA e1 z1 o1 hAr hNm => ?_
  · have q1 := (vi_lt (x := (n : Int)) (y := 0) (by omega) (by omega)).mp q
    omega
  · rcases hprim with h | h <;> rw [h] <;> (show n * _ ≤ 536870912) <;> (first | (show n * 4 ≤ _; omega) | (show n * 2 ≤ _; omega))
  · have hRA := (F.2.2.2.2.2.2.2.1.2 t _ ht).2
    have ec : cA = gcy g t := by
      rcases hprim with h | h <;> (rw [h] at hRA hNm; exact Option.some.inj (hNm.symm.trans hRA))
    have hk : ∀ (k : Nat) (x : Nat × va_E), (wsF g N f)[k]? = some x → H1[x.1]? = H[x.1]? := fun k x hx => o1 x.1 (by rw [← hz.1]; exact (hP k x hx).lt)
    have hP1 : va_P (gD g) classes (wsF g (N + 1) (upE f N (.inl (gcy g t, n, .inl (fun _ => 0))))) H1 := by
      rw [wsF_push, upE_at, wsF_congr g N (f' := f) (fun q hq => upE_ne _ _ (by omega))]
      refine (hP.kept hk).app (fun k x hx => ?_)
      have hz1 : k < 1 := (List.getElem?_eq_some_iff.mp hx).1
      rw [show k = 0 by omega] at hx
      cases hx
      show H1[gB g + N]? = some (vp_cell _ _)
      rw [e1, ec]
      rcases hprim with h | h <;> rw [h] <;> rfl
    exact k p e s m args below meth c H1 locs ls F hX ⟨by rw [z1]; omega, by have := hz.2; omega⟩ hP1 ⟨by rw [z1, ← hz.1]; exact Nat.le_trans hS.1 (Nat.le_succ _), fun x h1 h2 => (o1 x (by rw [← hz.1]; exact Nat.lt_of_lt_of_le h1 hS.1)).trans (hS.2.1 x h1 h2), hS.2.2⟩ hl
theorem x_anew {idx t n : Nat} {C : String} (hd : decode cc pc = .ok (.anewarray idx, 3)) (hcl : Cond.classLink y.cls idx C ∈ gtbl) (hover : ∀ s meth, X s meth → va_AO C s) (ht : (gtys g)[t]? = some (gcy g t, .object C)) (hn : n ≤ 2000) (hcells : ce + 1 ≤ rm.cells) (hslots : sl + n ≤ rm.slots) (k : WG g y cc nL ret rm X (N + 1) (ce + 1) (sl + n) (pc + 3) lv (vr g N :: st) (upE f N (.inl (gcy g t, n, .inr (.inr (.inr (.inr (fun _ => none))))))) Z) : WG g y cc nL ret rm X N ce sl pc lv (vi (n : Int) :: st) f Z := by
  intro p e s m args below meth c H locs ls F hX hz hP hS hl
  have hcn : (Int32.ofInt (n : Int)).toNatClampNeg = n := by rw [vi_clamp (by omega) (by omega), Int.toNat_natCast]
  refine W.anew F.1 F.2.1 F.2.2.2.2.1 (F.2.2.2.2.2.1 _ hcl) (va_AO.use (hover s meth hX)) rfl hd rfl (n := Int32.ofInt (n : Int)) (fun q => ?_) (by rw [hcn]; omega) hcells (by rw [hcn]; exact hslots) fun cA kA comp f1 f2 f3 f4 => ?_
  · have q1 := (vi_lt (x := (n : Int)) (y := 0) (by omega) (by omega)).mp q
    omega
  rw [hcn, hz.1]
  obtain ⟨_, _, _, _, _, hRA⟩ := (F.2.2.2.2.2.2.2.1.2 t _ ht).2
  have ec : cA = gcy g t := Option.some.inj (f1.symm.trans hRA)
  generalize hH1 : H.push ({ cls := cA, slots := Array.replicate n .null, vm := .none } : Cell) = H1
  have z1 : H1.size = H.size + 1 := by rw [← hH1, Array.size_push]
  have e1 : H1[H.size]? = some (arrV cA n (fun _ => .null)) := by rw [← hH1, Array.getElem?_push_size, ← arrV_new]
  have o1 : ∀ q : Nat, q < H.size → H1[q]? = H[q]? := fun q hq => by rw [← hH1, Array.getElem?_push, if_neg (Nat.ne_of_lt hq)]
  have hk : ∀ (k : Nat) (x : Nat × va_E), (wsF g N f)[k]? = some x → H1[x.1]? = H[x.1]? := fun k x hx => o1 x.1 (hP k x hx).lt
  have hP1 : va_P (gD g) classes (wsF g (N + 1) (upE f N (.inl (gcy g t, n, .inr (.inr (.inr (.inr (fun _ => none)))))))) H1 := by
    rw [wsF_push, upE_at, wsF_congr g N (f' := f) (fun q hq => upE_ne _ _ (by omega))]
    refine (hP.kept hk).app (fun k x hx => ?_)
    have hz1 : k < 1 := (List.getElem?_eq_some_iff.mp hx).1
    rw [show k = 0 by omega] at hx
    cases hx
    show H1[gB g + N]? = some (vp_cell _ _)
    rw [← hz.1, e1, ec]
    rfl
  exact k p e s m args below meth c H1 locs ls F hX ⟨by rw [z1, hz.1]; omega, by have := hz.2; omega⟩ hP1 ⟨by rw [z1]; exact Nat.le_trans hS.1 (Nat.le_succ _), fun x h1 h2 => (o1 x (Nat.lt_of_lt_of_le h1 hS.1)).trans (hS.2.1 x h1 h2), hS.2.2⟩ hl
theorem x_putF {a k ci idx : Nat} {C : String} {T : u_T} {Nf : Nat} {fs : List Value} {v : Value} (hd : decode cc pc = .ok (.putfield idx, 3)) (hc : classes[ci]? = some (C, T, Nf)) (hin : ∀ w ∈ u_ws C T Nf, w ∈ gtbl) (hk : k < Nf) (hlink : Cond.fieldLink y.cls idx (T k).1 (T k).2.1 (T k).2.2.1 ∈ gtbl) (ty : Nat → FieldType) (hty : ∀ j, j < Nf → parseFieldDescriptor (T j).2.2.1 = some (ty j)) (hnm : ∀ a, a < Nf → ∀ b, b < Nf → a ≠ b → (T a).2.1 ≠ (T b).2.1) (hfin : (T k).2.2.2 = true) (hX0 : ∀ s meth, X s meth → meth.name = "<init>") (hdecl : (T k).1 = y.cls) (hn : narrow (ty k) v = v) (hfit : fits (ty k) v = true) (ha : a < N) (hfa : f a = .inr (ci, fs)) (hl' : k < fs.length) (kk : WG g y cc nL ret rm X N ce sl (pc + 3) lv st (upE f a (.inr (ci, fs.set k v))) Z) : WG g y cc nL ret rm X N ce sl pc lv (v :: vr g a :: st) f Z := by
  intro p e s m args below meth c H locs ls F hX hz hP hS hl
  have hj := wsF_at g N f ha
  rw [hfa] at hj
  refine va_putF (ty := ty k) F.1 F.2.1 F.2.2.2.2.2.1 hin ty hty hnm F.2.2.2.2.1 F.2.2.2.2.2.2.2.1 hP (wsF_D g N f) hS a hj hc k hk (F.2.2.2.2.2.1 _ hlink) (fun _ h => h) hfin (hX0 s meth hX) hdecl (hty k hk) hn hfit hl' hd (fun H1 locs1 hP1 hD1 hS1 => ?_)
  rw [wsF_set g N f _ ha] at hP1
  exact x_size (by omega) hz hP1 (kk p e s m args below meth c H1 locs1 ls F hX · hP1 hS1 hl)
theorem x_putM {a k ci idx : Nat} {C : String} {T : u_T} {Nf : Nat} {fs : List Value} {v : Value} (hd : decode cc pc = .ok (.putfield idx, 3)) (hc : classes[ci]? = some (C, T, Nf)) (hin : ∀ w ∈ u_ws C T Nf, w ∈ gtbl) (hk : k < Nf) (hlink : Cond.fieldLink y.cls idx (T k).1 (T k).2.1 (T k).2.2.1 ∈ gtbl) (ty : Nat → FieldType) (hty : ∀ j, j < Nf → parseFieldDescriptor (T j).2.2.1 = some (ty j)) (hnm : ∀ a, a < Nf → ∀ b, b < Nf → a ≠ b → (T a).2.1 ≠ (T b).2.1) (hfin : (T k).2.2.2 = false) (hn : narrow (ty k) v = v) (hfit : fits (ty k) v = true) (ha : a < N) (hfa : f a = .inr (ci, fs)) (hl' : k < fs.length) (kk : WG g y cc nL ret rm X N ce sl (pc + 3) lv st (upE f a (.inr (ci, fs.set k v))) Z) : WG g y cc nL ret rm X N ce sl pc lv (v :: vr g a :: st) f Z := by
  intro p e s m args below meth c H locs ls F hX hz hP hS hl
  have hj := wsF_at g N f ha
  rw [hfa] at hj
  refine va_put (ty := ty k) F.1 F.2.1 F.2.2.2.2.2.1 hin ty hty hnm F.2.2.2.2.1 F.2.2.2.2.2.2.2.1 hP (wsF_D g N f) hS a hj hc k hk (F.2.2.2.2.2.1 _ hlink) (fun _ h => h) hfin (hty k hk) hn hfit hl' hd (fun H1 locs1 hP1 hD1 hS1 => ?_)
  rw [wsF_set g N f _ ha] at hP1
  exact x_size (by omega) hz hP1 (kk p e s m args below meth c H1 locs1 ls F hX · hP1 hS1 hl)
theorem x_get {a k ci idx : Nat} {C : String} {T : u_T} {Nf : Nat} {fs : List Value} {v : Value} (hd : decode cc pc = .ok (.getfield idx, 3)) (hc : classes[ci]? = some (C, T, Nf)) (hin : ∀ w ∈ u_ws C T Nf, w ∈ gtbl) (hk : k < Nf) (hlink : Cond.fieldLink y.cls idx (T k).1 (T k).2.1 (T k).2.2.1 ∈ gtbl) (ha : a < N) (hfa : f a = .inr (ci, fs)) (hv : fs[k]? = some v) (kk : WG g y cc nL ret rm X N ce sl (pc + 3) lv (v :: st) f Z) : WG g y cc nL ret rm X N ce sl pc lv (vr g a :: st) f Z := by
  intro p e s m args below meth c H locs ls F hX hz hP hS hl
  have hj := wsF_at g N f ha
  rw [hfa] at hj
  exact va_get (v := v) F.1 F.2.1 F.2.2.2.2.2.1 hin F.2.2.2.2.1 F.2.2.2.2.2.2.2.1 hP a hj hc k hk (F.2.2.2.2.2.1 _ hlink) (fun _ h => h) hv hd (kk p e s m args below meth c H locs ls F hX hz hP hS hl)
theorem x_aast {a t n v ci i : Nat} {r : vw_C} {vs : List Value} {fn : Nat → Option Nat} (hd : decode cc pc = .ok (.aastore, 1)) (hty : (gtys g)[t]? = some (gcy g t, .object r.1)) (ha : a < N) (hfa : f a = .inl (gcy g t, n, .inr (.inr (.inr (.inr fn))))) (hi : i < n) (hn : n ≤ 2000) (hvN : v < N) (hfv : f v = .inr (ci, vs)) (hc : classes[ci]? = some r) (kk : WG g y cc nL ret rm X N ce sl (pc + 1) lv st (upE f a (.inl (gcy g t, n, .inr (.inr (.inr (.inr (va_up fn i (some (gB g + v))))))))) Z) : WG g y cc nL ret rm X N ce sl pc lv (vr g v :: vi (i : Int) :: vr g a :: st) f Z := by
  intro p e s m args below meth c H locs ls F hX hz hP hS hl
  have hj := wsF_at g N f ha
  rw [hfa] at hj
  have hj2 := wsF_at g N f hvN
  rw [hfv] at hj2
  refine va_astq F.1 F.2.1 F.2.2.2.2.2.2.2.1 hP (wsF_D g N f) hS a t v ci hj hty hj2 hc (i := Int32.ofInt (i : Int)) (vi_in (by omega) (by omega) (by omega)) hd (fun H1 locs1 hP1 hD1 hS1 => ?_)
  rw [vi_clamp (by omega) (by omega), Int.toNat_natCast, wsF_set g N f _ ha] at hP1
  exact x_size (by omega) hz hP1 (kk p e s m args below meth c H1 locs1 ls F hX · hP1 hS1 hl)
theorem x_obj {a idx : Nat} (hd : decode cc pc = .ok (.invokespecial idx, 3)) (hlink : Cond.methodLink y.cls idx Lib.objectInit ∈ gtbl) (hinst : Cond.instanceMethod Lib.objectInit ∈ gtbl) (hcode : Cond.code Lib.objectInit ⟨#[0xb1]⟩ 1 none ∈ gtbl) (hf : 1 ≤ rm.frames) (hlo : (st.map fun v => v.category).sum + 12 ≤ rm.locals) (k : WG g y cc nL ret rm X N ce sl (pc + 3) lv st f Z) : WG g y cc nL ret rm X N ce sl pc lv (vr g a :: st) f Z := by
  intro p e s m args below meth c H locs ls F hX hz hP hS hl
  exact W.objInit F.1 F.2.1 F.2.2.2.2.1 (F.2.2.2.2.2.1 _ hlink) (F.2.2.2.2.2.1 _ hinst) (F.2.2.2.2.2.1 _ hcode) rfl (hl.1.trans F.2.2.2.1.symm) rfl hd hf (by show 2 * 0 + _ + 12 ≤ _; omega) (k p e s m args below meth c H locs ls F hX hz hP hS hl)
theorem x_lv {lv' : List (Nat × Value)} (ks : List Nat) (h : lv_pick lv ks = lv') (k : WG g y cc nL ret rm X N ce sl pc lv' st f Z) : WG g y cc nL ret rm X N ce sl pc lv st f Z := by
  intro p e s m args below meth c H locs ls F hX hz hP hS hl
  exact k p e s m args below meth c H locs ls F hX hz hP hS (lv_sub hl ks h)
theorem x_iconst {n : Int} (hd : decode cc pc = .ok (.iconst n, 1)) (k : WG g y cc nL ret rm X N ce sl (pc + 1) lv (vi n :: st) f Z) : WG g y cc nL ret rm X N ce sl pc lv st f Z := by
  intro p e s m args below meth c H locs ls F hX hz hP hS hl
  exact lv_iconst F.1 F.2.1 hd rfl (k p e s m args below meth c H locs ls F hX hz hP hS hl)
theorem x_bipush {n : Int} (hd : decode cc pc = .ok (.bipush n, 2)) (hn : (Int8.ofInt n).toInt32 = Int32.ofInt n) (k : WG g y cc nL ret rm X N ce sl (pc + 2) lv (vi n :: st) f Z) : WG g y cc nL ret rm X N ce sl pc lv st f Z := by
  intro p e s m args below meth c H locs ls F hX hz hP hS hl
  exact lv_bipush F.1 F.2.1 hd hn (k p e s m args below meth c H locs ls F hX hz hP hS hl)
theorem x_sipush {n : Int} (hd : decode cc pc = .ok (.sipush n, 3)) (hn : (Int16.ofInt n).toInt32 = Int32.ofInt n) (k : WG g y cc nL ret rm X N ce sl (pc + 3) lv (vi n :: st) f Z) : WG g y cc nL ret rm X N ce sl pc lv st f Z := by
  intro p e s m args below meth c H locs ls F hX hz hP hS hl
  exact lv_sipush F.1 F.2.1 hd hn (k p e s m args below meth c H locs ls F hX hz hP hS hl)
theorem x_iload_n {q : Fin 4} {x : Int} (hd : decode cc pc = .ok (.iload_n q, 1)) (j : Nat) (hj : lv[j]? = some ((q : Nat), vi x)) (k : WG g y cc nL ret rm X N ce sl (pc + 1) lv (vi x :: st) f Z) : WG g y cc nL ret rm X N ce sl pc lv st f Z := by
  intro p e s m args below meth c H locs ls F hX hz hP hS hl
  exact lv_iload_n F.1 F.2.1 hd rfl (lv_at hl j hj) (k p e s m args below meth c H locs ls F hX hz hP hS hl)
theorem x_aload_n {q : Fin 4} {x : Nat} (hd : decode cc pc = .ok (.aload_n q, 1)) (j : Nat) (hj : lv[j]? = some ((q : Nat), vr g x)) (k : WG g y cc nL ret rm X N ce sl (pc + 1) lv (vr g x :: st) f Z) : WG g y cc nL ret rm X N ce sl pc lv st f Z := by
  intro p e s m args below meth c H locs ls F hX hz hP hS hl
  exact lv_aload_n F.1 F.2.1 hd rfl (lv_at hl j hj) (k p e s m args below meth c H locs ls F hX hz hP hS hl)
theorem x_istore_n {q : Fin 4} {i : Nat} {x : Int} {lv' : List (Nat × Value)} (hd : decode cc pc = .ok (.istore_n q, 1)) (hi : (q : Nat) = i) (hn : i < nL) (hlv : (i, vi x) :: lv.filter (fun q => !(q.1 == i) && !(q.1 + 1 == i && q.2.category == 2)) = lv') (k : WG g y cc nL ret rm X N ce sl (pc + 1) lv' st f Z) : WG g y cc nL ret rm X N ce sl pc lv (vi x :: st) f Z := by
  intro p e s m args below meth c H locs ls F hX hz hP hS hl
  exact lv_istore_n F.1 F.2.1 hd hi hl hn hlv (fun ls' hl' => k p e s m args below meth c H locs ls' F hX hz hP hS hl')
theorem x_astore_n {q : Fin 4} {i : Nat} {x : Nat} {lv' : List (Nat × Value)} (hd : decode cc pc = .ok (.astore_n q, 1)) (hi : (q : Nat) = i) (hn : i < nL) (hlv : (i, vr g x) :: lv.filter (fun q => !(q.1 == i) && !(q.1 + 1 == i && q.2.category == 2)) = lv') (k : WG g y cc nL ret rm X N ce sl (pc + 1) lv' st f Z) : WG g y cc nL ret rm X N ce sl pc lv (vr g x :: st) f Z := by
  intro p e s m args below meth c H locs ls F hX hz hP hS hl
  exact lv_astore_n F.1 F.2.1 hd hi hl hn hlv (fun ls' hl' => k p e s m args below meth c H locs ls' F hX hz hP hS hl')
theorem x_iinc {i : Nat} {x n : Int} {lv' : List (Nat × Value)} (hd : decode cc pc = .ok (.iinc i n, 3)) (j : Nat) (hj : lv[j]? = some (i, vi x)) (hn : i < nL) (hlv : (i, vi (x + n)) :: lv.filter (fun q => !(q.1 == i) && !(q.1 + 1 == i && q.2.category == 2)) = lv') (k : WG g y cc nL ret rm X N ce sl (pc + 3) lv' st f Z) : WG g y cc nL ret rm X N ce sl pc lv st f Z := by
  intro p e s m args below meth c H locs ls F hX hz hP hS hl
  exact lv_iinc (v := Int32.ofInt (x + n)) F.1 F.2.1 hd hl hj (vi_add x n) hn hlv (fun ls' hl' => k p e s m args below meth c H locs ls' F hX hz hP hS hl')
theorem x_isub {x z : Int} (hd : decode cc pc = .ok (.isub, 1)) (k : WG g y cc nL ret rm X N ce sl (pc + 1) lv (vi (x - z) :: st) f Z) : WG g y cc nL ret rm X N ce sl pc lv (vi z :: vi x :: st) f Z := by
  intro p e s m args below meth c H locs ls F hX hz hP hS hl
  refine lv_isub F.1 F.2.1 hd ?_
  rw [vi_sub]
  exact k p e s m args below meth c H locs ls F hX hz hP hS hl
theorem x_iand {x z : Int} (hd : decode cc pc = .ok (.iand, 1)) (k : WG g y cc nL ret rm X N ce sl (pc + 1) lv (vi (jand x z) :: st) f Z) : WG g y cc nL ret rm X N ce sl pc lv (vi z :: vi x :: st) f Z := by
  intro p e s m args below meth c H locs ls F hX hz hP hS hl
  refine lv_iand F.1 F.2.1 hd ?_
  have k1 := k p e s m args below meth c H locs ls F hX hz hP hS hl
  unfold vi jand at k1
  rw [vi_self] at k1
  exact k1
theorem x_goto {off : Int} {tgt : Nat} (hd : decode cc pc = .ok (.goto off, 3)) (ht : (pc : Int) + off = (tgt : Int)) (k : WG g y cc nL ret rm X N ce sl tgt lv st f Z) : WG g y cc nL ret rm X N ce sl pc lv st f Z := by
  intro p e s m args below meth c H locs ls F hX hz hP hS hl
  exact lv_goto F.1 F.2.1 hd ht (k p e s m args below meth c H locs ls F hX hz hP hS hl)
theorem x_dup {v : Value} (hd : decode cc pc = .ok (.dup, 1)) (hv : v.category = 1) (k : WG g y cc nL ret rm X N ce sl (pc + 1) lv (v :: v :: st) f Z) : WG g y cc nL ret rm X N ce sl pc lv (v :: st) f Z := by
  intro p e s m args below meth c H locs ls F hX hz hP hS hl
  exact lv_dup F.1 F.2.1 hd hv (k p e s m args below meth c H locs ls F hX hz hP hS hl)
theorem x_pop {v : Value} (hd : decode cc pc = .ok (.pop, 1)) (hv : v.category = 1) (k : WG g y cc nL ret rm X N ce sl (pc + 1) lv st f Z) : WG g y cc nL ret rm X N ce sl pc lv (v :: st) f Z := by
  intro p e s m args below meth c H locs ls F hX hz hP hS hl
  exact lv_pop F.1 F.2.1 hd hv (k p e s m args below meth c H locs ls F hX hz hP hS hl)
theorem x_icmp_ge {x z : Int} {off : Int} {tgt : Nat} (hd : decode cc pc = .ok (.if_icmp .ge off, 3)) (ht : (pc : Int) + off = (tgt : Int)) (hx : InR x) (hy : InR z) (kt : z ≤ x → WG g y cc nL ret rm X N ce sl tgt lv st f Z) (kf : ¬ (z ≤ x) → WG g y cc nL ret rm X N ce sl (pc + 3) lv st f Z) : WG g y cc nL ret rm X N ce sl pc lv (vi z :: vi x :: st) f Z := by
  intro p e s m args below meth c H locs ls F hX hz hP hS hl
  exact lv_icmp_ge F.1 F.2.1 hd ht (fun q => (kt ((vi_le hy hx).mp q)) p e s m args below meth c H locs ls F hX hz hP hS hl) (fun q => (kf (fun z => q ((vi_le hy hx).mpr z))) p e s m args below meth c H locs ls F hX hz hP hS hl)
theorem x_icmp_gt {x z : Int} {off : Int} {tgt : Nat} (hd : decode cc pc = .ok (.if_icmp .gt off, 3)) (ht : (pc : Int) + off = (tgt : Int)) (hx : InR x) (hy : InR z) (kt : z < x → WG g y cc nL ret rm X N ce sl tgt lv st f Z) (kf : ¬ (z < x) → WG g y cc nL ret rm X N ce sl (pc + 3) lv st f Z) : WG g y cc nL ret rm X N ce sl pc lv (vi z :: vi x :: st) f Z := by
  intro p e s m args below meth c H locs ls F hX hz hP hS hl
  exact lv_icmp_gt F.1 F.2.1 hd ht (fun q => (kt ((vi_lt hy hx).mp q)) p e s m args below meth c H locs ls F hX hz hP hS hl) (fun q => (kf (fun z => q ((vi_lt hy hx).mpr z))) p e s m args below meth c H locs ls F hX hz hP hS hl)
theorem x_icmp_eq {x z : Int} {off : Int} {tgt : Nat} (hd : decode cc pc = .ok (.if_icmp .eq off, 3)) (ht : (pc : Int) + off = (tgt : Int)) (hx : InR x) (hy : InR z) (kt : x = z → WG g y cc nL ret rm X N ce sl tgt lv st f Z) (kf : ¬ (x = z) → WG g y cc nL ret rm X N ce sl (pc + 3) lv st f Z) : WG g y cc nL ret rm X N ce sl pc lv (vi z :: vi x :: st) f Z := by
  intro p e s m args below meth c H locs ls F hX hz hP hS hl
  exact lv_icmp_eq F.1 F.2.1 hd ht (fun q => (kt ((vi_eq hx hy).mp q)) p e s m args below meth c H locs ls F hX hz hP hS hl) (fun q => (kf (fun z => q ((vi_eq hx hy).mpr z))) p e s m args below meth c H locs ls F hX hz hP hS hl)
theorem x_icmp_ne {x z : Int} {off : Int} {tgt : Nat} (hd : decode cc pc = .ok (.if_icmp .ne off, 3)) (ht : (pc : Int) + off = (tgt : Int)) (hx : InR x) (hy : InR z) (kt : ¬ x = z → WG g y cc nL ret rm X N ce sl tgt lv st f Z) (kf : x = z → WG g y cc nL ret rm X N ce sl (pc + 3) lv st f Z) : WG g y cc nL ret rm X N ce sl pc lv (vi z :: vi x :: st) f Z := by
  intro p e s m args below meth c H locs ls F hX hz hP hS hl
  exact lv_icmp_ne F.1 F.2.1 hd ht (fun q => (kt ((not_congr (vi_eq hx hy)).mp q)) p e s m args below meth c H locs ls F hX hz hP hS hl) (fun q => (kf ((vi_eq hx hy).mp q)) p e s m args below meth c H locs ls F hX hz hP hS hl)
theorem x_tabIn {x v dflt lo hi off : Int} {offs : Array Int} {len tgt : Nat} (hd : decode cc pc = .ok (.tableswitch dflt lo hi offs, len)) (hx : x = v) (hr : InR v) (h1 : ¬ v < lo) (h2 : ¬ hi < v) (ho : offs[(v - lo).toNat]? = some off) (ht : (pc : Int) + off = (tgt : Int)) (kk : WG g y cc nL ret rm X N ce sl tgt lv st f Z) : WG g y cc nL ret rm X N ce sl pc lv (vi x :: st) f Z := by
  intro p e s m args below meth c H locs ls F hX hz hP hS hl
  subst hx
  exact lv_tableIn F.1 F.2.1 hd (by rw [vi_toInt hr]; exact h1) (by rw [vi_toInt hr]; exact h2) (by rw [vi_toInt hr]; exact ho) ht (kk p e s m args below meth c H locs ls F hX hz hP hS hl)
theorem x_tabOut {x dflt lo hi : Int} {offs : Array Int} {len tgt : Nat} (hd : decode cc pc = .ok (.tableswitch dflt lo hi offs, len)) (hr : InR x) (h : x < lo ∨ hi < x) (ht : (pc : Int) + dflt = (tgt : Int)) (kk : WG g y cc nL ret rm X N ce sl tgt lv st f Z) : WG g y cc nL ret rm X N ce sl pc lv (vi x :: st) f Z := by
  intro p e s m args below meth c H locs ls F hX hz hP hS hl
  exact lv_tableOut F.1 F.2.1 hd (by rw [vi_toInt hr]; exact h) ht (kk p e s m args below meth c H locs ls F hX hz hP hS hl)
theorem x_ctor {y' : MethodName} {cc' : ByteArray} {nL' idx a mc ms : Nat} {rm' : Room} {f' : Nat → va_E} (hd : decode cc pc = .ok (.invokespecial idx, 3)) (hlink : Cond.methodLink y.cls idx y' ∈ gtbl) (hinst : Cond.instanceMethod y' ∈ gtbl) (hini : Cond.initialized y'.cls ∈ gtbl) (hcode : Cond.code y' cc' nL' none ∈ gtbl) (hnm : y'.name = "<init>") (hn : y'.cls ≠ "java/lang/invoke/MethodHandle" ∧ y'.cls ≠ "java/lang/invoke/VarHandle" ∧ (parseMethodDescriptor y'.desc).map (fun d => d.parameters.length) = some 0) (hroom : rm'.cells = mc ∧ rm'.slots = ms ∧ rm'.frames + 1 ≤ rm.frames ∧ 8 + (nL' + 11) + rm'.locals ≤ rm.locals) (hf : ce + mc ≤ rm.cells ∧ sl + ms ≤ rm.slots) (hrest : (st.map fun v => v.category).sum ≤ 8) (hX0 : ∀ s meth, X s meth → AOs s) (hcall : CallsC g y' cc' nL' rm' a N f mc ms f') (k : WG g y cc nL ret rm X (N + mc) (ce + mc) (sl + ms) (pc + 3) lv st f' Z) : WG g y cc nL ret rm X N ce sl pc lv (vr g a :: st) f Z := by
  intro p e s m args below meth c H locs ls F hX hz hP hS hl
  obtain ⟨hr1c, hr2c, hr3c, hr4c⟩ := hroom
  have hG : GoodIn gtbl (.code y' cc' nL' none :: gtbl) := gWs hcode
  have hrun := va_runI (p := p) (l := gl g) (e := e) (R := rm) (s := s) (m := m) (args := args) (below := below) (meth := meth) (c := c) (H := H) (locs := locs) (cells := ce) (slots := sl) (b := gB g + a) (As := []) (rest := st) (nL := nL) (g := F0 m pc ls (vr g a :: st)) ⟨F.1, F.2.1, F.2.2.2.1, F.2.2.2.2.1, F.2.2.2.2.2.1⟩ hcall (cwI 0 F.2.2.2.2.2.1 hG rfl hr1c hr2c (F.2.2.2.2.2.1 _ hini) (F.2.2.2.2.2.1 _ hlink) (F.2.2.2.2.2.1 _ hinst) hnm hn ⟨hr3c, hr4c⟩) ⟨fun a U f mk q => ⟨q.1, q.2.1, q.2.2.1, q.2.2.2.1.blind f mk a, AOs.moved (u := U) (U := U.calling f mk a) (Vm.Alike.refl U.vm) q.2.2.2.2⟩, fun U hU hW => ⟨rfl, by rw [hU]; exact hz.1, by rw [hU]; exact hP, F.2.2.2.2.2.2.2.at hS hU hW, (hX0 s meth hX).moved hW.alike⟩⟩ rfl rfl hl.1 rfl (lv_room hrest) hd hf
  intro T hT X1
  obtain ⟨v, st₀, t, T', L, h0, X', hL, e1, e2, ⟨⟨hv, hsz, hP1, hE1, hA1⟩, hF⟩, stp⟩ := hrun T hT X1
  cases hv
  have hS1 : va_S (gA g) s.heap t.heap (locs ++ L) := by
    refine ⟨?_, fun q h1 h2 => ?_, fun q hq => ?_⟩
    · have := hF.1
      rw [h0] at this
      exact Nat.le_trans hS.1 this
    · rw [hF.2 q (by rw [h0]; exact Nat.lt_of_lt_of_le h1 hS.1) h2, h0]
      exact hS.2.1 q h1 h2
    · rcases List.mem_append.mp hq with h | h
      · exact hS.2.2 q h
      · exact hL q h
  obtain ⟨t2, a1, b1⟩ := k p e s m args below meth c t.heap (locs ++ L) ls F hX ⟨hsz, by have := hz.2; omega⟩ hP1 hS1 hl T' e1 X'
  exact ⟨t2, stp t2 a1, b1⟩
theorem x_run {p : Program} {e : Env} {s : State} {m : MethodId} {args : Array Value} {below : List Frame} {meth : Method} {c : Code} {H : Heap} {locs : List Loc} {ls : Array Slot} {st0 rest : List Value} {Q' : Option Value → Mem → Prop} {a : Array Value} (F : Fx g y cc nL ret p s m args meth c) (hX : X s meth) (hl : lv_has ls nL lv) (hz : Sz g N ce s H) (hr : va_Run p (gl g) e rm s m args below meth c H locs ce sl 0 0 (F0 m pc ls st0) rest (QcM g N Q' a) (gA g)) (hS : va_S (gA g) s.heap H locs)
    (kk : ∀ (v : Option Value) (M' : Mem), Q' v M' → WT M' → WG g y cc nL ret rm X N ce sl (pc + 3) lv (v.toList ++ rest) (cellOf g M') Z) : W p (gl g) e rm s m args below meth c H locs ce sl (Z args below s) (F0 m pc ls st0) := by
  intro T hT X1
  obtain ⟨v, st₀, t, T', L, h0, X', hL, e1, e2, ⟨⟨v', M', hv, hQ, hW⟩, hF⟩, st⟩ := hr T hT X1
  cases hv
  have hS1 : va_S (gA g) s.heap t.heap (locs ++ L) := by
    refine ⟨?_, fun q h1 h2 => ?_, fun q hq => ?_⟩
    · have := hF.1
      rw [h0] at this
      exact Nat.le_trans hS.1 this
    · rw [hF.2 q (by rw [h0]; exact Nat.lt_of_lt_of_le h1 hS.1) h2, h0]
      exact hS.2.1 q h1 h2
    · rcases List.mem_append.mp hq with h | h
      · exact hS.2.2 q h
      · exact hL q h
  have hsz : Sz g N ce s t.heap := by
    have h1 := X'.heapSize
    rw [e1] at h1
    have h2 := hF.1
    rw [h0] at h2
    have h3 := hz.1
    have h4 := hz.2
    exact ⟨by omega, h4⟩
  obtain ⟨t2, a1, b1⟩ := kk v M' hQ hW.2.1 p e s m args below meth c t.heap (locs ++ L) ls F hX hsz hW.1 hS1 hl T' e1 X'
  exact ⟨t2, st t2 a1, b1⟩
theorem x_callV {M : Mem} {y' : MethodName} {cc' : ByteArray} {nL' idx n : Nat} {ret' : Option FieldType} {rm' : Room} {As rest st0 : List Value} {a ci : Nat} {r : vw_C} {ks : List (Option (Option Nat))} (hd : decode cc pc = .ok (.invokevirtual idx, 3)) (hlink : Cond.methodLink y.cls idx y' ∈ gtbl) (hinst : Cond.instanceMethod y' ∈ gtbl) (hsel : Cond.selects y'.cls y' y' ∈ gtbl) (hini : Cond.initialized y'.cls ∈ gtbl) (hcode : Cond.code y' cc' nL' ret' ∈ gtbl) (hn : y'.cls ≠ "java/lang/invoke/MethodHandle" ∧ y'.cls ≠ "java/lang/invoke/VarHandle" ∧ (parseMethodDescriptor y'.desc).map (fun d => d.parameters.length) = some n) (hroom : rm'.cells = 0 ∧ rm'.slots = 0 ∧ rm'.frames + 1 ≤ rm.frames ∧ 8 + (nL' + 11) + rm'.locals ≤ rm.locals) (hf : ce ≤ rm.cells ∧ sl ≤ rm.slots) (hAs : As.length = n) (hrest : (rest.map fun v => v.category).sum ≤ 8) (hst : st0 = As.reverse ++ vr g a :: rest) (hs : shp a = .inl (ci, ks)) (ha : a < N) (hc : classes[ci]? = some r) (hr1 : r.1 = y'.cls) (hw : WT M) (kk : CallsM g y' cc' nL' ret' rm' N (vr g a :: As) M (fun v M' => WT M' → WG g y cc nL ret rm X N ce sl (pc + 3) lv (v.toList ++ rest) (cellOf g M') Z)) : WG g y cc nL ret rm X N ce sl pc lv st0 (cellOf g M) Z := by
  intro p e s m args below meth c H locs ls F hX hz hP hS hl
  subst hst
  obtain ⟨hr1c, hr2c, hr3c, hr4c⟩ := hroom
  have hj := wsF_at g N (cellOf g M) ha
  have hce : cellOf g M a = .inr (ci, ks.mapIdx (fvl g M a)) := by unfold cellOf; rw [hs]
  rw [hce] at hj
  have hG : GoodIn gtbl (wsV y.cls idx y'.cls y' (.code y' cc' nL' ret' :: gtbl)) := fun w hw => by
    rcases List.mem_append.mp (show w ∈ ([.methodLink y.cls idx y', .instanceMethod y', .selects y'.cls y' y', .initialized y'.cls] : List Cond) ++ (.code y' cc' nL' ret' :: gtbl) from hw) with h | h
    · simp only [List.mem_cons, List.not_mem_nil, or_false] at h
      rcases h with rfl | rfl | rfl | rfl
      · exact gW hlink
      · exact gW hinst
      · exact gW hsel
      · exact gW hini
    · exact gWs hcode w h
  refine x_run F hX hl hz (va_runV (b := gB g + a) (As := As) (rest := rest) (nL := nL) ⟨F.1, F.2.1, F.2.2.2.1, F.2.2.2.2.1, F.2.2.2.2.2.1⟩ kk (cwV n F.2.2.2.2.2.1 hG rfl hr1c hr2c ⟨rfl, hn⟩ ⟨hr3c, hr4c⟩) ⟨fun a U f mk q => ⟨q.1, q.2.1, q.2.2.1, q.2.2.2.blind f mk a⟩, ?_, fun U hU hW => ⟨rfl, by rw [hU]; exact hP, hw, F.2.2.2.2.2.2.2.at hS hU hW⟩⟩ rfl hAs hl.1 rfl (lv_room hrest) hd ⟨hf.1, hf.2⟩) hS (fun v M' hQ hwM => hQ hwM)
  rw [← hr1]
  exact va_recv F.2.2.2.2.2.2.2.1 hP hc hj
theorem x_callJ {M : Mem} {y' : MethodName} {cc' : ByteArray} {nL' idx n : Nat} {ret' : Option FieldType} {rm' : Room} {As rest st0 : List Value} {i : Nat} (hd : decode cc pc = .ok (.invokevirtual idx, 3)) (hlink : Cond.methodLink y.cls idx y' ∈ gtbl) (hinst : Cond.instanceMethod y' ∈ gtbl) (hsel : Cond.selects y'.cls y' y' ∈ gtbl) (hini : Cond.initialized y'.cls ∈ gtbl) (hcode : Cond.code y' cc' nL' ret' ∈ gtbl) (hn : y'.cls ≠ "java/lang/invoke/MethodHandle" ∧ y'.cls ≠ "java/lang/invoke/VarHandle" ∧ (parseMethodDescriptor y'.desc).map (fun d => d.parameters.length) = some n) (hroom : rm'.cells = 0 ∧ rm'.slots = 0 ∧ rm'.frames + 1 ≤ rm.frames ∧ 8 + (nL' + 11) + rm'.locals ≤ rm.locals) (hf : ce ≤ rm.cells ∧ sl ≤ rm.slots) (hAs : As.length = n) (hrest : (rest.map fun v => v.category).sum ≤ 8) (hst : st0 = As.reverse ++ Value.ref (gK g i) :: rest) (hi : i < 4) (hw : WT M) (kk : CallsM g y' cc' nL' ret' rm' N (Value.ref (gK g i) :: As) M (fun v M' => WT M' → WG g y cc nL ret rm X N ce sl (pc + 3) lv (v.toList ++ rest) (cellOf g M') Z)) (hyc : y'.cls = "java/lang/String" := by rfl) : WG g y cc nL ret rm X N ce sl pc lv st0 (cellOf g M) Z := by
  intro p e s m args below meth c H locs ls F hX hz hP hS hl
  subst hst
  obtain ⟨hr1c, hr2c, hr3c, hr4c⟩ := hroom
  have hG : GoodIn gtbl (wsV y.cls idx y'.cls y' (.code y' cc' nL' ret' :: gtbl)) := fun w hw => by
    rcases List.mem_append.mp (show w ∈ ([.methodLink y.cls idx y', .instanceMethod y', .selects y'.cls y' y', .initialized y'.cls] : List Cond) ++ (.code y' cc' nL' ret' :: gtbl) from hw) with h | h
    · simp only [List.mem_cons, List.not_mem_nil, or_false] at h
      rcases h with rfl | rfl | rfl | rfl
      · exact gW hlink
      · exact gW hinst
      · exact gW hsel
      · exact gW hini
    · exact gWs hcode w h
  refine x_run F hX hl hz (va_runV (b := gK g i) (As := As) (rest := rest) (nL := nL) ⟨F.1, F.2.1, F.2.2.2.1, F.2.2.2.2.1, F.2.2.2.2.2.1⟩ kk (cwV n F.2.2.2.2.2.1 hG rfl hr1c hr2c ⟨rfl, hn⟩ ⟨hr3c, hr4c⟩) ⟨fun a U f mk q => ⟨q.1, q.2.1, q.2.2.1, q.2.2.2.blind f mk a⟩, ?_, fun U hU hW => ⟨rfl, by rw [hU]; exact hP, hw, F.2.2.2.2.2.2.2.at hS hU hW⟩⟩ rfl hAs hl.1 rfl (lv_room hrest) hd ⟨hf.1, hf.2⟩) hS (fun v M' hQ hwM => hQ hwM)
  rw [hyc]
  exact vk_recv F.2.2.2.2.2.2.2.2.2.1 hi hS
theorem x_ldc0 {nm ds : String} (hd : decode cc pc = .ok (.ldc 44, 2)) (k : WG g ⟨"SendRules", nm, ds⟩ cc nL ret rm X N ce sl (pc + 2) lv (Value.ref (gK g 0) :: st) f Z) : WG g ⟨"SendRules", nm, ds⟩ cc nL ret rm X N ce sl pc lv st f Z := by
  intro p e s m args below meth c H locs ls F hX hz hP hS hl
  exact va_ldcS F.1 F.2.1 F.2.2.2.2.1 F.2.2.2.2.2.2.2.2.2.2.1.1 hd (k p e s m args below meth c H locs ls F hX hz hP hS hl)
theorem x_vret {mc ms : Nat} {f' : Nat → va_E} (hd : decode cc pc = .ok (.return_, 1)) (hce : ce = mc) (hsl : sl = ms) (hff : ∀ q, q < N → f q = f' q) (hN : N = N) : WG g y cc nL none rm Xc N ce sl pc lv [] f (Zc g N f' mc ms) := by
  intro p e s m args below meth c H locs ls F hX hz hP hS hl
  subst hce
  subst hsl
  rw [wsF_congr g N hff] at hP
  exact W.vret F.1 F.2.1 F.2.2.1 (fun t ht hW => ⟨⟨rfl, by rw [ht]; exact hz.1, by rw [ht]; exact hP, F.2.2.2.2.2.2.2.at hS ht hW, hX.1.moved hW.alike⟩, hS.F ht⟩) hS.2.2 hd F.2.2.2.2.2.2.1
end XRows
