/-! ===== constructors: what they leave told by a property of the cells ===== -/
def QcE (g : Ctx) (N : Nat) (F : (Nat → va_E) → Prop) : Array Value → State → Outcome → State → Prop := fun _ st o t => (o = .returned none ∧ ∃ f', F f' ∧ WdF g N f' t) ∧ va_F (gA g) st t
def CallsE (g : Ctx) (y : MethodName) (cc : ByteArray) (nL : Nat) (rm : Room) (a N : Nat) (f : Nat → va_E) (mc ms : Nat) (F : (Nat → va_E) → Prop) : Prop :=
  Met (gl g) y (.code y cc nL none :: gtbl) rm (va_Pc [vr g a] (WdF g N f)) (QcE g (N + mc) F) mc ms (gA g)
def ZE (g : Ctx) (N : Nat) (F : (Nat → va_E) → Prop) (mc ms : Nat) : Array Value → List Frame → State → State → Prop := fun args below s => MQ below (QcE g N F) args s mc ms (gA g)
theorem CallsE.intro {g : Ctx} {y : MethodName} {cc : ByteArray} {nL : Nat} {rm : Room} {a N mc ms : Nat} {f : Nat → va_E} {F : (Nat → va_E) → Prop} (hy : plainName y.cls = true) (hn : 1 ≤ nL) (hnm : y.name = "<init>") (h : WG g y cc nL none rm Xc N 0 0 0 [(0, vr g a)] [] f (ZE g (N + mc) F mc ms)) : CallsE g y cc nL rm a N f mc ms F := by
  refine Met.ofW (cc := cc) (maxL := nL) (ret := none) hy rfl ?_
  intro p e s m args below meth c s₁ B hml hv
  obtain ⟨rfl, hsz, hP, hE, hA⟩ := hv
  have hts := atoms_spec (ws := .code y cc nL none :: gtbl) B.pre
  have hl := lv_entry [vr g a] (n := nL) (by show 1 ≤ nL; exact hn)
  rw [lg_entry_eq]
  exact h p e s m _ below meth c s.heap [] _ ⟨B.exec, B.bytes, B.returns, hml, findClass_of_methodNamed B.named, fun w hw => hts w (List.mem_cons_of_mem _ hw), B.notSynchronized, hE⟩ ⟨hA, by rw [(name_of_methodNamed B.named B.method).1]; exact hnm⟩ ⟨hsz, by omega⟩ hP va_S.rf hl
section XC
variable {g : Ctx} {y : MethodName} {cc : ByteArray} {nL : Nat} {ret : Option FieldType} {rm : Room} {X : State → Method → Prop} {N ce sl pc : Nat} {lv : List (Nat × Value)} {st : List Value} {f : Nat → va_E} {Z : Array Value → List Frame → State → State → Prop}
theorem x_vretE {mc ms : Nat} {F : (Nat → va_E) → Prop} {N' : Nat} (hd : decode cc pc = .ok (.return_, 1)) (hce : ce = mc) (hsl : sl = ms) (hN : N = N') {f' : Nat → va_E} (hff : ∀ q, q < N → f q = f' q) (hF : F f') : WG g y cc nL none rm Xc N ce sl pc lv [] f (ZE g N' F mc ms) := by
  intro p e s m args below meth c H locs ls F0 hX hz hP hS hl
  subst hce
  subst hsl
  subst hN
  rw [wsF_congr g N hff] at hP
  exact W.vret F0.1 F0.2.1 F0.2.2.1 (fun t ht hW => ⟨⟨rfl, f', hF, by rw [ht]; exact hz.1, by rw [ht]; exact hP, F0.2.2.2.2.2.2.2.at hS ht hW, hX.1.moved hW.alike⟩, hS.F ht⟩) hS.2.2 hd F0.2.2.2.2.2.2.1
theorem x_runE {p : Program} {e : Env} {s : State} {m : MethodId} {args : Array Value} {below : List Frame} {meth : Method} {c : Code} {H : Heap} {locs : List Loc} {ls : Array Slot} {st0 rest : List Value} {mc ms : Nat} {F : (Nat → va_E) → Prop} {a : Array Value} (F1 : Fx g y cc nL ret p s m args meth c) (hX : X s meth) (hl : lv_has ls nL lv) (hz : Sz g N ce s H) (hr : va_Run p (gl g) e rm s m args below meth c H locs ce sl mc ms (F0 m pc ls st0) rest (QcE g (N + mc) F a) (gA g)) (hS : va_S (gA g) s.heap H locs)
    (kk : ∀ f', F f' → WG g y cc nL ret rm X (N + mc) (ce + mc) (sl + ms) (pc + 3) lv rest f' Z) : W p (gl g) e rm s m args below meth c H locs ce sl (Z args below s) (F0 m pc ls st0) := by
  intro T hT X1
  obtain ⟨v, st₀, t, T', L, h0, X', hL, e1, e2, ⟨⟨hv, f', hF', hsz, hP1, hE1, hA1⟩, hF⟩, stp⟩ := hr T hT X1
  cases hv
  have hS1 : va_S (gA g) s.heap t.heap (locs ++ L) := by
    refine ⟨?_, fun q h1 h2 => ?_, fun q hq => ?_⟩
    · have := hF.1
      rw [h0] at this
      exact Nat.le_trans hS.1 this
    · rw [hF.2 q (by rw [h0]; exact Nat.lt_of_lt_of_le h1 hS.1) h2, h0]
      exact hS.2.1 q h1 h2
    · rcases List.mem_append.mp hq with h | h
      · exact hS.2.2 q h
      · exact hL q h
  obtain ⟨t2, a1, b1⟩ := kk f' hF' p e s m args below meth c t.heap (locs ++ L) ls F1 hX ⟨hsz, by have := hz.2; omega⟩ hP1 hS1 hl T' e1 X'
  exact ⟨t2, stp t2 a1, b1⟩
theorem x_ctorE {y' : MethodName} {cc' : ByteArray} {nL' idx a mc ms : Nat} {rm' : Room} {F1 : (Nat → va_E) → Prop} (hd : decode cc pc = .ok (.invokespecial idx, 3)) (hlink : Cond.methodLink y.cls idx y' ∈ gtbl) (hinst : Cond.instanceMethod y' ∈ gtbl) (hini : Cond.initialized y'.cls ∈ gtbl) (hcode : Cond.code y' cc' nL' none ∈ gtbl) (hnm : y'.name = "<init>") (hn : y'.cls ≠ "java/lang/invoke/MethodHandle" ∧ y'.cls ≠ "java/lang/invoke/VarHandle" ∧ (parseMethodDescriptor y'.desc).map (fun d => d.parameters.length) = some 0) (hroom : rm'.cells = mc ∧ rm'.slots = ms ∧ rm'.frames + 1 ≤ rm.frames ∧ 8 + (nL' + 11) + rm'.locals ≤ rm.locals) (hf : ce + mc ≤ rm.cells ∧ sl + ms ≤ rm.slots) (hrest : (st.map fun v => v.category).sum ≤ 8) (hX0 : ∀ s meth, X s meth → AOs s) (hcall : CallsE g y' cc' nL' rm' a N f mc ms F1) (k : ∀ f', F1 f' → WG g y cc nL ret rm X (N + mc) (ce + mc) (sl + ms) (pc + 3) lv st f' Z) : WG g y cc nL ret rm X N ce sl pc lv (vr g a :: st) f Z := by
  intro p e s m args below meth c H locs ls F hX hz hP hS hl
  obtain ⟨hr1c, hr2c, hr3c, hr4c⟩ := hroom
  have hG : GoodIn gtbl (.code y' cc' nL' none :: gtbl) := gWs hcode
  have hrun := va_runI (p := p) (l := gl g) (e := e) (R := rm) (s := s) (m := m) (args := args) (below := below) (meth := meth) (c := c) (H := H) (locs := locs) (cells := ce) (slots := sl) (b := gB g + a) (As := []) (rest := st) (nL := nL) (g := F0 m pc ls (vr g a :: st)) ⟨F.1, F.2.1, F.2.2.2.1, F.2.2.2.2.1, F.2.2.2.2.2.1⟩ hcall (cwI 0 F.2.2.2.2.2.1 hG rfl hr1c hr2c (F.2.2.2.2.2.1 _ hini) (F.2.2.2.2.2.1 _ hlink) (F.2.2.2.2.2.1 _ hinst) hnm hn ⟨hr3c, hr4c⟩) ⟨fun a U f mk q => ⟨q.1, q.2.1, q.2.2.1, q.2.2.2.1.blind f mk a, AOs.moved (u := U) (U := U.calling f mk a) (Vm.Alike.refl U.vm) q.2.2.2.2⟩, fun U hU hW => ⟨rfl, by rw [hU]; exact hz.1, by rw [hU]; exact hP, F.2.2.2.2.2.2.2.at hS hU hW, (hX0 s meth hX).moved hW.alike⟩⟩ rfl rfl hl.1 rfl (lv_room hrest) hd hf
  exact x_runE F hX hl hz hrun hS k
theorem x_ctorEN {y' : MethodName} {cc' : ByteArray} {nL' idx a mc ms : Nat} {rm' : Room} {F1 : (Nat → va_E) → Prop} {host : String} (hd : decode cc pc = .ok (.invokespecial idx, 3)) (hlink : Cond.methodLinkNest y.cls idx y' host ∈ ntbl) (hinst : Cond.instanceMethod y' ∈ gtbl) (hini : Cond.initialized y'.cls ∈ gtbl) (hcode : Cond.code y' cc' nL' none ∈ gtbl) (hnm : y'.name = "<init>") (hn : y'.cls ≠ "java/lang/invoke/MethodHandle" ∧ y'.cls ≠ "java/lang/invoke/VarHandle" ∧ (parseMethodDescriptor y'.desc).map (fun d => d.parameters.length) = some 0) (hroom : rm'.cells = mc ∧ rm'.slots = ms ∧ rm'.frames + 1 ≤ rm.frames ∧ 8 + (nL' + 11) + rm'.locals ≤ rm.locals) (hf : ce + mc ≤ rm.cells ∧ sl + ms ≤ rm.slots) (hrest : (st.map fun v => v.category).sum ≤ 8) (hX0 : ∀ s meth, X s meth → AOs s) (hcall : CallsE g y' cc' nL' rm' a N f mc ms F1) (k : ∀ f', F1 f' → WG g y cc nL ret rm X (N + mc) (ce + mc) (sl + ms) (pc + 3) lv st f' Z) : WG g y cc nL ret rm X N ce sl pc lv (vr g a :: st) f Z := by
  intro p e s m args below meth c H locs ls F hX hz hP hS hl
  obtain ⟨hr1c, hr2c, hr3c, hr4c⟩ := hroom
  have hG : GoodIn gtbl (.code y' cc' nL' none :: gtbl) := gWs hcode
  have hrun := va_runIN (p := p) (l := gl g) (e := e) (R := rm) (s := s) (m := m) (args := args) (below := below) (meth := meth) (c := c) (H := H) (locs := locs) (cells := ce) (slots := sl) (b := gB g + a) (As := []) (rest := st) (nL := nL) (g := F0 m pc ls (vr g a :: st)) ⟨F.1, F.2.1, F.2.2.2.1, F.2.2.2.2.1, F.2.2.2.2.2.1⟩ hcall ⟨va_cnB 0 F.2.2.2.2.2.1 hG rfl hr1c hr2c (F.2.2.2.2.2.2.2.2.1 _ hlink) (F.2.2.2.2.2.1 _ hini) hn ⟨hr3c, hr4c⟩, hnm, F.2.2.2.2.2.1 _ hinst⟩ ⟨fun a U f mk q => ⟨q.1, q.2.1, q.2.2.1, q.2.2.2.1.blind f mk a, AOs.moved (u := U) (U := U.calling f mk a) (Vm.Alike.refl U.vm) q.2.2.2.2⟩, fun U hU hW => ⟨rfl, by rw [hU]; exact hz.1, by rw [hU]; exact hP, F.2.2.2.2.2.2.2.at hS hU hW, (hX0 s meth hX).moved hW.alike⟩⟩ rfl rfl hl.1 rfl (lv_room hrest) hd hf
  exact x_runE F hX hl hz hrun hS k
end XC
/-! the memory as it is made: ints 0, references in their order -/
def R0 (a k : Nat) : Nat := if a = 0 then (if k = 2 then 4 else 0) else if a = 5 ∨ a = 277 then (if k < 12 then a + 1 + 21 * k else 0) else if (8 ≤ a ∧ a < 258 ∧ (a - 8) % 21 = 0) ∨ (280 ≤ a ∧ a < 530 ∧ (a - 280) % 21 = 0) then (if k < 8 then a + 3 + 2 * k else 0) else if a = 261 then (if k < 4 then 262 + 2 * k else 0) else if a = 271 then (if k < 4 then 272 + k else 0) else 0
def M0 : Mem := (fun _ _ => 0, R0)
theorem R0_rec {b k : Nat} (h : isRec b) : R0 (b + 1) k = if k < 12 then b + 2 + 21 * k else 0 := by
  unfold R0
  rcases h with rfl | rfl
  · rw [if_neg (by omega), if_pos (by omega)]
  · rw [if_neg (by omega), if_pos (by omega)]
theorem R0_dom {d k : Nat} (h : isDom d) : R0 (d + 2) k = if k < 8 then d + 5 + 2 * k else 0 := by
  unfold R0
  obtain ⟨b, q, hb, hq, rfl⟩ := h
  rcases hb with rfl | rfl
  · rw [if_neg (by omega), if_neg (by omega), if_pos (Or.inl ⟨by omega, by omega, by omega⟩)]
  · rw [if_neg (by omega), if_neg (by omega), if_pos (Or.inr ⟨by omega, by omega, by omega⟩)]
theorem M0_WT : WT M0 := by
  refine ⟨fun _ _ => ⟨by show (-2147483648 : Int) ≤ 0; omega, by show (0 : Int) ≤ 2147483647; omega⟩, fun b k hb hk => ?_, fun d k hd hk => ?_, fun k hk => ?_, fun k hk => ?_⟩
  · show isDom (R0 (b + 1) k)
    rw [R0_rec hb, if_pos hk]
    exact ⟨b, k, hb, hk, rfl⟩
  · show isRul (R0 (d + 2) k)
    rw [R0_dom hd, if_pos hk]
    exact ⟨d, k, hd, hk, rfl⟩
  · show isKc (R0 261 k)
    rw [show R0 261 k = if k < 4 then 262 + 2 * k else 0 from rfl, if_pos hk]
    exact ⟨k, hk, rfl⟩
  · show isCh (R0 271 k)
    rw [show R0 271 k = if k < 4 then 272 + k else 0 from rfl, if_pos hk]
    exact ⟨k, hk, rfl⟩
def blkF (g : Ctx) (f : Nat → va_E) (a n : Nat) : Nat → va_E := fun q => if a ≤ q ∧ q < a + n then cellOf g M0 q else f q
def Lay0 (g : Ctx) (f : Nat → va_E) (a n : Nat) : (Nat → va_E) → Prop := fun f' => f' = blkF g f a n
theorem i32_0 : Int32.ofInt 0 = 0 := by decide
theorem c0_arr (g : Ctx) {a t n : Nat} (h : shp a = .inr (t, n)) (ht : t < 2) : cellOf g M0 a = .inl (gcy g t, n, .inl (fun _ => 0)) := by
  unfold cellOf
  rw [h]
  show Sum.inl (gcy g t, arrOf g M0 a t n) = _
  unfold arrOf
  rw [if_pos ht]
  show Sum.inl (gcy g t, n, Sum.inl (fun j => Int32.ofInt 0)) = _
  rw [i32_0]
theorem c0_ref (g : Ctx) {a t n : Nat} (h : shp a = .inr (t, n)) (ht : ¬ t < 2) : cellOf g M0 a = .inl (gcy g t, n, .inr (.inr (.inr (.inr (fun j => oq g (R0 a j)))))) := by
  unfold cellOf
  rw [h]
  show Sum.inl (gcy g t, arrOf g M0 a t n) = _
  unfold arrOf
  rw [if_neg ht]
  rfl
theorem c0_obj (g : Ctx) {a ci : Nat} {ks : List (Option (Option Nat))} (h : shp a = .inl (ci, ks)) : cellOf g M0 a = .inr (ci, ks.mapIdx (fvl g M0 a)) := by
  unfold cellOf
  rw [h]
/-- i elements of a reference array made: es cells each, from e0 on -/
def lpF (g : Ctx) (f0 : Nat → va_E) (A t n es e0 i : Nat) : Nat → va_E := fun q => if q = A then .inl (gcy g t, n, .inr (.inr (.inr (.inr (fun j => if j < i then oq g (e0 + es * j) else none))))) else if e0 ≤ q ∧ q < e0 + es * i then cellOf g M0 q else f0 q
theorem lpF_step (g : Ctx) (f0 : Nat → va_E) {A t n es e0 i : Nat} {bl : va_E} (hA : A < e0) (he : 0 < es) : upE (blkF g (upE (lpF g f0 A t n es e0 i) (e0 + es * i) bl) (e0 + es * i) es) A (.inl (gcy g t, n, .inr (.inr (.inr (.inr (va_up (fun j => if j < i then oq g (e0 + es * j) else none) i (some (gB g + (e0 + es * i))))))))) = lpF g f0 A t n es e0 (i + 1) := by
  funext q
  have hm : es * (i + 1) = es * i + es := Nat.mul_succ es i
  by_cases z : q = A
  · subst z
    unfold lpF
    rw [upE_at, if_pos rfl]
    have : (va_up (fun j => if j < i then oq g (e0 + es * j) else none) i (some (gB g + (e0 + es * i)))) = (fun j => if j < i + 1 then oq g (e0 + es * j) else none) := by
      funext j
      unfold va_up
      by_cases y : j = i
      · subst y
        rw [if_pos rfl, if_pos (by omega)]
        unfold oq
        rw [if_neg (by omega)]
      · rw [if_neg y]
        dsimp only
        by_cases y2 : j < i
        · rw [if_pos y2, if_pos (by omega)]
        · rw [if_neg y2, if_neg (by omega)]
    rw [this]
  · rw [upE_ne _ _ z]
    unfold blkF
    by_cases y : e0 + es * i ≤ q ∧ q < e0 + es * i + es
    · rw [if_pos y]
      unfold lpF
      rw [if_neg z, if_pos (by rw [hm]; omega)]
    · rw [if_neg y, upE_ne _ _ (by omega)]
      unfold lpF
      rw [if_neg z, if_neg z]
      by_cases y2 : e0 ≤ q ∧ q < e0 + es * i
      · rw [if_pos y2, if_pos (by rw [hm]; omega)]
      · rw [if_neg y2, if_neg (by rw [hm]; omega)]
theorem lpF_A (g : Ctx) (f0 : Nat → va_E) (A t n es e0 i : Nat) : lpF g f0 A t n es e0 i A = .inl (gcy g t, n, .inr (.inr (.inr (.inr (fun j => if j < i then oq g (e0 + es * j) else none))))) := by unfold lpF; rw [if_pos rfl]
theorem lpF_lo (g : Ctx) (f0 : Nat → va_E) {A t n es e0 i q : Nat} (h : q ≠ A) (h2 : q < e0) : lpF g f0 A t n es e0 i q = f0 q := by unfold lpF; rw [if_neg h, if_neg (by omega)]
theorem lpF_0 (g : Ctx) {f0 : Nat → va_E} {A t n es e0 : Nat} (h : f0 A = .inl (gcy g t, n, .inr (.inr (.inr (.inr (fun _ => none)))))) : f0 = lpF g f0 A t n es e0 0 := by
  funext q
  unfold lpF
  by_cases z : q = A
  · subst z
    rw [if_pos rfl, h]
    simp
  · rw [if_neg z, if_neg (by omega)]
def rmK (d mc ms : Nat) : Room := { frames := d, cells := mc, slots := ms, locals := 40 * d }
theorem blk_obj (g : Ctx) (f : Nat → va_E) {a n ci : Nat} {ks : List (Option (Option Nat))} (h : shp a = .inl (ci, ks)) (hn : 0 < n) : blkF g f a n a = .inr (ci, ks.mapIdx (fvl g M0 a)) := by
  unfold blkF
  rw [if_pos ⟨Nat.le_refl _, by omega⟩]
  exact c0_obj g h
theorem lp_hfa (g : Ctx) (f0 : Nat → va_E) {A t n es e0 i : Nat} {bl : va_E} (hA : A < e0) : blkF g (upE (lpF g f0 A t n es e0 i) (e0 + es * i) bl) (e0 + es * i) es A = .inl (gcy g t, n, .inr (.inr (.inr (.inr (fun j => if j < i then oq g (e0 + es * j) else none))))) := by
  unfold blkF
  rw [if_neg (by omega), upE_ne _ _ (by omega), lpF_A]
theorem lp_end (g : Ctx) {f f0 : Nat → va_E} {a A t n es e0 n' : Nat} (hA : a ≤ A) (hA2 : A < e0) (hs : shp A = .inr (t, n)) (ht : ¬ t < 2) (hR : ∀ j, R0 A j = if j < n then e0 + es * j else 0) (he : ∀ q, a ≤ q → q < e0 → q ≠ A → f0 q = cellOf g M0 q) (hlo : ∀ q, q < a → f0 q = f q) (hl : e0 + es * n = a + n') : ∀ q, q < a + n' → lpF g f0 A t n es e0 n q = blkF g f a n' q := by
  intro q hq
  unfold blkF
  by_cases z : q = A
  · subst z
    rw [lpF_A, if_pos ⟨hA, hq⟩, c0_ref g hs ht]
    have : (fun j => if j < n then oq g (e0 + es * j) else none) = (fun j => oq g (R0 q j)) := by
      funext j
      rw [hR j]
      split
      · rfl
      · rfl
    rw [this]
  · by_cases y : a ≤ q
    · rw [if_pos ⟨y, hq⟩]
      by_cases y2 : q < e0
      · rw [lpF_lo g f0 z y2]; exact he q y y2 z
      · unfold lpF
        rw [if_neg z, if_pos (by omega)]
    · rw [if_neg (by omega), lpF_lo g f0 z (by omega)]; exact hlo q (by omega)
theorem x_lp {g : Ctx} {y : MethodName} {cc : ByteArray} {nL : Nat} {ret : Option FieldType} {rm : Room} {X : State → Method → Prop} {N ce sl pc : Nat} {lv : List (Nat × Value)} {st : List Value} {f0 : Nat → va_E} {Z : Array Value → List Frame → State → State → Prop} (A t n es e0 : Nat) (h : f0 A = .inl (gcy g t, n, .inr (.inr (.inr (.inr (fun _ => none)))))) (k : WG g y cc nL ret rm X N ce sl pc lv st (lpF g f0 A t n es e0 0) Z) : WG g y cc nL ret rm X N ce sl pc lv st f0 Z := x_f (fun q _ => congrFun (lpF_0 g h) q) k
