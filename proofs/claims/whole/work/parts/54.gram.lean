/-! ===== the grammar of a text, apart from any memory ===== -/
/-- a text: its signs, 0 behind its end -/
def TxT (t : Nat → Int) (L : Nat) : Prop := L ≤ 240 ∧ (∀ p, p < L → 32 ≤ t p ∧ t p ≤ 126) ∧ ∀ p, L ≤ p → t p = 0
theorem TxT.in {t : Nat → Int} {L p : Nat} (h : TxT t L) (hp : t p ≠ 0) : p < L := by
  by_cases q : p < L
  · exact q
  · exact absurd (h.2.2 p (by omega)) hp
theorem TxT.rng {t : Nat → Int} {L : Nat} (h : TxT t L) (p : Nat) : 0 ≤ t p ∧ t p ≤ 126 := by
  by_cases q : p < L
  · have := h.2.1 p q; omega
  · rw [h.2.2 p (by omega)]; omega
abbrev isL (x : Int) : Prop := 97 ≤ x ∧ x ≤ 112
abbrev isD (x : Int) : Prop := 48 ≤ x ∧ x ≤ 57
def cntL (t : Nat → Int) : Nat → Nat → Nat
  | 0, _ => 0
  | f + 1, p => if isL (t p) then cntL t f (p + 1) + 1 else 0
def cntD (t : Nat → Int) : Nat → Nat → Nat
  | 0, _ => 0
  | f + 1, p => if isD (t p) then cntD t f (p + 1) + 1 else 0
theorem cntL_spec (t : Nat → Int) : ∀ (f p : Nat), cntL t f p ≤ f ∧ (∀ i, i < cntL t f p → isL (t (p + i))) ∧ (cntL t f p < f → ¬ isL (t (p + cntL t f p)))
  | 0, p => ⟨Nat.le_refl _, fun i hi => absurd hi (Nat.not_lt_zero _), fun h => absurd h (Nat.not_lt_zero _)⟩
  | f + 1, p => by
    obtain ⟨h1, h2, h3⟩ := cntL_spec t f (p + 1)
    unfold cntL
    by_cases q : isL (t p)
    · rw [if_pos q]
      refine ⟨by omega, fun i hi => ?_, fun h => ?_⟩
      · cases i with
        | zero => exact q
        | succ i => rw [show p + (i + 1) = p + 1 + i by omega]; exact h2 i (by omega)
      · rw [show p + (cntL t f (p + 1) + 1) = p + 1 + cntL t f (p + 1) by omega]; exact h3 (by omega)
    · rw [if_neg q]
      exact ⟨by omega, fun i hi => absurd hi (Nat.not_lt_zero _), fun _ => q⟩
theorem cntD_spec (t : Nat → Int) : ∀ (f p : Nat), cntD t f p ≤ f ∧ (∀ i, i < cntD t f p → isD (t (p + i))) ∧ (cntD t f p < f → ¬ isD (t (p + cntD t f p)))
  | 0, p => ⟨Nat.le_refl _, fun i hi => absurd hi (Nat.not_lt_zero _), fun h => absurd h (Nat.not_lt_zero _)⟩
  | f + 1, p => by
    obtain ⟨h1, h2, h3⟩ := cntD_spec t f (p + 1)
    unfold cntD
    by_cases q : isD (t p)
    · rw [if_pos q]
      refine ⟨by omega, fun i hi => ?_, fun h => ?_⟩
      · cases i with
        | zero => exact q
        | succ i => rw [show p + (i + 1) = p + 1 + i by omega]; exact h2 i (by omega)
      · rw [show p + (cntD t f (p + 1) + 1) = p + 1 + cntD t f (p + 1) by omega]; exact h3 (by omega)
    · rw [if_neg q]
      exact ⟨by omega, fun i hi => absurd hi (Nat.not_lt_zero _), fun _ => q⟩
/-- the letters from p on, n of them, the last one first -/
def lsR (t : Nat → Int) (p : Nat) : Nat → List Int
  | 0 => []
  | n + 1 => (t (p + n) - 97) :: lsR t p n
theorem lsR_len (t : Nat → Int) (p : Nat) : ∀ n, (lsR t p n).length = n
  | 0 => rfl
  | n + 1 => by rw [lsR, List.length_cons, lsR_len t p n]
theorem lsR_ok {t : Nat → Int} {p : Nat} : ∀ {n : Nat}, (∀ i, i < n → isL (t (p + i))) → okL (lsR t p n)
  | 0, _ => okL_nil
  | n + 1, h => okL_cons (by have := h n (by omega); omega) (lsR_ok (fun i hi => h i (by omega)))
def valD (t : Nat → Int) (p : Nat) : Nat → Int
  | 0 => 0
  | n + 1 => 10 * valD t p n + t (p + n) - 48
theorem valD_bd {t : Nat → Int} {p : Nat} : ∀ {n : Nat}, n ≤ 3 → (∀ i, i < n → isD (t (p + i))) → 0 ≤ valD t p n ∧ (n = 0 → valD t p n = 0) ∧ (n = 1 → valD t p n ≤ 9) ∧ (n = 2 → valD t p n ≤ 99) ∧ valD t p n ≤ 999
  | 0, _, _ => by simp [valD]
  | n + 1, h3, h => by
    have ih := valD_bd (t := t) (p := p) (n := n) (by omega) (fun i hi => h i (by omega))
    have := h n (by omega)
    unfold valD
    omega
def namL (t : Nat → Int) (p : Nat) : Nat := cntL t 8 p
def nameP (t : Nat → Int) (p : Nat) : Option (Int × Nat) := if 1 ≤ namL t p ∧ namL t p ≤ 7 then some (enc7 7 (lsR t p (namL t p)), p + namL t p) else none
def numP (t : Nat → Int) (hi : Int) (p : Nat) : Option (Int × Nat) := if 1 ≤ cntD t 3 p ∧ valD t p (cntD t 3 p) ≤ hi then some (valD t p (cntD t 3 p), p + cntD t 3 p) else none
def srtV (x : Int) : Int := if x = 100 then 0 else if x = 111 then 1 else if x = 115 then 2 else if x = 108 then 3 else -4
def sgnV (x : Int) : Int := if x = 43 then 0 else if x = 45 then 1 else if x = 126 then 2 else if x = 63 then 3 else -4
theorem srtV_rng (x : Int) : srtV x = -4 ∨ (0 ≤ srtV x ∧ srtV x ≤ 3) := by
  unfold srtV
  split; omega; split; omega; split; omega; split <;> omega
theorem sgnV_rng (x : Int) : sgnV x = -4 ∨ (0 ≤ sgnV x ∧ sgnV x ≤ 3) := by
  unfold sgnV
  split; omega; split; omega; split; omega; split <;> omega
def minV (t : Nat → Int) (p : Nat) : Nat := if t p = 45 then 1 else 0
def fgN (t : Nat → Int) (p : Nat) : Nat := if 49 ≤ t p ∧ t p ≤ 55 then 1 else 0
def fgV (t : Nat → Int) (p : Nat) : Int := if 49 ≤ t p ∧ t p ≤ 55 then t p - 48 else 0
/-- behind a % sign -/
def prtQ (t : Nat → Int) (p : Nat) : Option (Int × Nat) :=
  if srtV (t (p + minV t p + fgN t (p + minV t p))) = -4 then none
  else some (16 + 4 * (minV t p : Int) + 8 * fgV t (p + minV t p) + srtV (t (p + minV t p + fgN t (p + minV t p))), p + minV t p + fgN t (p + minV t p) + 1)
def prtP (t : Nat → Int) (p : Nat) : Option (Int × Nat) := if isL (t p) then some (t p - 97, p + 1) else if t p = 37 then prtQ t (p + 1) else none
abbrev sepT (x : Int) : Prop := x = 44 ∨ x = 59
def macP (t : Nat → Int) : Nat → Nat → Option (List Int × Nat)
  | 0, p => if sepT (t p) then some ([], p) else none
  | f + 1, p => if sepT (t p) then some ([], p) else
    match prtP t p with
    | none => none
    | some r => match macP t f r.2 with
      | none => none
      | some s => some (r.1 :: s.1, s.2)
/-- sign, kind, address, bits, name, parts -/
abbrev RuP : Type := Int × Int × Int × Int × Int × List Int
def rulP (t : Nat → Int) (p : Nat) : Option (RuP × Nat) :=
  if sgnV (t p) = -4 then none
  else if t (p + 1) = 97 then some ((sgnV (t p), 0, 0, 0, 0, []), p + 2)
  else if t (p + 1) = 112 then
    match numP t 255 (p + 2) with
    | none => none
    | some r => if t r.2 = 47 then
        match numP t 8 (r.2 + 1) with
        | none => none
        | some s => some ((sgnV (t p), 1, r.1, s.1, 0, []), s.2)
      else none
  else if t (p + 1) = 101 then
    match macP t 8 (p + 2) with
    | none => none
    | some r => if r.1 = [] then none else some ((sgnV (t p), 5, 0, 0, 0, r.1), r.2)
  else if t (p + 1) = 105 ∨ t (p + 1) = 104 ∨ t (p + 1) = 109 then
    match nameP t (p + 2) with
    | none => none
    | some r => some ((sgnV (t p), (if t (p + 1) = 105 then 2 else if t (p + 1) = 104 then 3 else 4), 0, 0, r.1, []), r.2)
  else none
def polP (t : Nat → Int) : Nat → Nat → Nat → Option ((List RuP × Int) × Nat)
  | 0, _, _ => none
  | f + 1, k, p => if 0 < k ∧ t p = 114 then
      match nameP t (p + 1) with
      | none => none
      | some r => some (([], r.1), r.2)
    else if k = 8 then none
    else match rulP t p with
      | none => none
      | some r => if t r.2 = 44 then
          match polP t f (k + 1) (r.2 + 1) with
          | none => none
          | some s => some ((r.1 :: s.1.1, s.1.2), s.2)
        else some (([r.1], 0), r.2)
def hstP (t : Nat → Int) : Nat → Nat → Option (List Int × Nat)
  | 0, _ => none
  | f + 1, p => match numP t 255 p with
    | none => none
    | some r => if t r.2 = 44 then
        match hstP t f (r.2 + 1) with
        | none => none
        | some s => some (r.1 :: s.1, s.2)
      else some ([r.1], r.2)
def excP (t : Nat → Int) : Nat → Nat → Option (List Int × Nat)
  | 0, _ => none
  | f + 1, p => match nameP t p with
    | none => none
    | some r => if t r.2 = 44 then
        match excP t f (r.2 + 1) with
        | none => none
        | some s => some (r.1 :: s.1, s.2)
      else some ([r.1], r.2)
/-- rules, another name, hosts, exchangers -/
abbrev ReP : Type := List RuP × Int × List Int × List Int
def itmB (t : Nat → Int) (s : Int) (p : Nat) : Option ((ReP → ReP) × Nat) :=
  if s = 110 then
    match polP t 9 0 p with
    | none => none
    | some r => some (fun R => (r.1.1, r.1.2, R.2.2.1, R.2.2.2), r.2)
  else if s = 97 then
    match hstP t 4 p with
    | none => none
    | some r => some (fun R => (R.1, R.2.1, r.1, R.2.2.2), r.2)
  else if s = 120 then
    match excP t 3 p with
    | none => none
    | some r => some (fun R => (R.1, R.2.1, R.2.2.1, r.1), r.2)
  else none
def itmP (t : Nat → Int) (p : Nat) : Option (Int × (ReP → ReP) × Nat) :=
  match nameP t (p + 1) with
  | none => none
  | some r => if t r.2 = 58 then
      match itmB t (t p) (r.2 + 1) with
      | none => none
      | some s => if t s.2 = 59 then some (r.1, s.1, s.2 + 1) else none
    else none
def empR : ReP := ([], 0, [], [])
def updR (P : Int → ReP) (c : Int) (R : ReP) : Int → ReP := fun x => if x = c then R else P x
def allP (t : Nat → Int) (L : Nat) : Nat → Nat → List Int → (Int → ReP) → Int × List Int × (Int → ReP)
  | 0, _, ks, P => (-4, ks, P)
  | f + 1, p, ks, P => if L ≤ p then (-4, ks, P) else
    match itmP t p with
    | none => (p, ks, P)
    | some r => if r.1 ∈ ks then allP t L f r.2.2 ks (updR P r.1 (r.2.1 (P r.1)))
      else if ks.length = 12 then (p, ks, P)
      else allP t L f r.2.2 (ks ++ [r.1]) (updR P r.1 (r.2.1 empR))
/-! what the pieces leave behind -/
section GR
variable {t : Nat → Int} {L : Nat}
theorem cntL_le (hT : TxT t L) {f p : Nat} (h : 1 ≤ cntL t f p) : p + cntL t f p ≤ L := by
  have := (cntL_spec t f p).2.1 (cntL t f p - 1) (by omega)
  have := hT.in (p := p + (cntL t f p - 1)) (by omega)
  omega
theorem cntD_le (hT : TxT t L) {f p : Nat} (h : 1 ≤ cntD t f p) : p + cntD t f p ≤ L := by
  have := (cntD_spec t f p).2.1 (cntD t f p - 1) (by omega)
  have := hT.in (p := p + (cntD t f p - 1)) (by omega)
  omega
theorem nameP_ok (hT : TxT t L) {p : Nat} {r : Int × Nat} (h : nameP t p = some r) : (∃ n, vcode r.1 n) ∧ r.2 ≤ L ∧ p < r.2 ∧ ¬ isL (t r.2) := by
  unfold nameP at h
  by_cases q : 1 ≤ namL t p ∧ namL t p ≤ 7
  · rw [if_pos q] at h
    cases h
    have s := cntL_spec t 8 p
    refine ⟨⟨_, vcode_enc (lsR_ok (fun i hi => s.2.1 i hi)) (by rw [lsR_len]; exact q.1) (by rw [lsR_len]; exact q.2)⟩, cntL_le hT q.1, by show p < p + namL t p; omega, s.2.2 (by have := q.2; unfold namL at this; omega)⟩
  · rw [if_neg q] at h; cases h
theorem numP_ok (hT : TxT t L) {p : Nat} {hi : Int} {r : Int × Nat} (h : numP t hi p = some r) : 0 ≤ r.1 ∧ r.1 ≤ hi ∧ r.1 ≤ 999 ∧ r.2 ≤ L ∧ p < r.2 := by
  unfold numP at h
  by_cases q : 1 ≤ cntD t 3 p ∧ valD t p (cntD t 3 p) ≤ hi
  · rw [if_pos q] at h
    cases h
    have s := cntD_spec t 3 p
    have b := valD_bd (t := t) (p := p) (n := cntD t 3 p) s.1 s.2.1
    have := cntD_le hT q.1
    exact ⟨b.1, q.2, by omega, this, by show p < p + cntD t 3 p; omega⟩
  · rw [if_neg q] at h; cases h
theorem prtP_ok (hT : TxT t L) {p : Nat} {r : Int × Nat} (h : prtP t p = some r) : okP r.1 ∧ r.2 ≤ L ∧ p < r.2 := by
  unfold prtP at h
  by_cases q : isL (t p)
  · rw [if_pos q] at h
    cases h
    have := hT.in (p := p) (by omega)
    refine ⟨?_, by show p + 1 ≤ L; omega, by show p < p + 1; omega⟩
    unfold okP
    dsimp only
    omega
  · rw [if_neg q] at h
    by_cases q2 : t p = 37
    · rw [if_pos q2] at h
      unfold prtQ at h
      generalize hk : p + 1 + minV t (p + 1) + fgN t (p + 1 + minV t (p + 1)) = k at h
      by_cases q3 : srtV (t k) = -4
      · rw [if_pos q3] at h; cases h
      · rw [if_neg q3] at h
        cases h
        have h0 : t k ≠ 0 := fun z => q3 (by rw [z]; rfl)
        have := hT.in h0
        have sr := srtV_rng (t k)
        have m1 : minV t (p + 1) = 0 ∨ minV t (p + 1) = 1 := by unfold minV; split <;> omega
        have f1 : 0 ≤ fgV t (p + 1 + minV t (p + 1)) ∧ fgV t (p + 1 + minV t (p + 1)) ≤ 7 := by unfold fgV; split <;> omega
        refine ⟨?_, by show k + 1 ≤ L; omega, by show p < k + 1; omega⟩
        unfold okP
        dsimp only
        omega
    · rw [if_neg q2] at h; cases h
end GR
