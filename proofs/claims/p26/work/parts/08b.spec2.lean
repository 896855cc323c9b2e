/-- there is such an entry: as the class tests it, of any number -/
abbrev bHas (la : Nat → Int32) (x : Int32) : Prop := ¬ x < 1 ∧ ¬ 128 ≤ x ∧ ¬ la x.toNatClampNeg = -1
theorem bHas_in {x : Int32} (c1 : ¬ x < 1) (c2 : ¬ 128 ≤ x) : vp_in x 128 := by
  rw [vp_in_iff]
  have h1 : ¬ x.toInt < (1 : Int32).toInt := fun h => c1 (Int32.lt_iff_toInt_lt.mpr h)
  have h2 : ¬ (128 : Int32).toInt ≤ x.toInt := fun h => c2 (Int32.le_iff_toInt_le.mpr h)
  have e1 : (1 : Int32).toInt = 1 := rfl
  have e2 : (128 : Int32).toInt = 128 := rfl
  omega
def bLeast (fi la g : Nat → Int32) (x : Int32) : Nat → Int32
  | 0 => g 1
  | n + 1 => if bHas la (nI (n + 2)) ∧ ¬ bAp fi la (n + 2) x x then bMin (bLeast fi la g x n) (g (n + 2)) else bLeast fi la g x n
theorem bLeast_s (fi la g : Nat → Int32) (x : Int32) {kk : Nat} (h : 2 ≤ kk) : bLeast fi la g x (kk + 1 - 2) = if bHas la (nI kk) ∧ ¬ bAp fi la kk x x then bMin (bLeast fi la g x (kk - 2)) (g kk) else bLeast fi la g x (kk - 2) := by
  obtain ⟨j, rfl⟩ : ∃ j, kk = j + 2 := ⟨kk - 2, by omega⟩
  rw [show j + 2 + 1 - 2 = j + 1 by omega, show j + 2 - 2 = j by omega]
  rfl
def bLags (la : Nat → Int32) (B : BK) : Nat → Int32
  | 0 => 0
  | n + 1 => if bHas la (nI (n + 2)) ∧ bLag B (n + 2) then bLags la B n + 1 else bLags la B n
theorem bLags_s (la : Nat → Int32) (B : BK) {kk : Nat} (h : 2 ≤ kk) : bLags la B (kk + 1 - 2) = if bHas la (nI kk) ∧ bLag B kk then bLags la B (kk - 2) + 1 else bLags la B (kk - 2) := by
  obtain ⟨j, rfl⟩ : ∃ j, kk = j + 2 := ⟨kk - 2, by omega⟩
  rw [show j + 2 + 1 - 2 = j + 1 by omega, show j + 2 - 2 = j by omega]
  rfl
def sSplit (fi la : Nat → Int32) (e : Nat) : (Nat → Int32) × (Nat → Int32) :=
  if bHp fi la e then (upd (upd fi (2 * e) (fi e)) (2 * e + 1) ((fi e + la e) / 2 + 1), upd (upd la (2 * e) ((fi e + la e) / 2)) (2 * e + 1) ((upd la (2 * e) ((fi e + la e) / 2)) e))
  else (upd (upd fi (2 * e) 0) (2 * e + 1) 0, upd (upd la (2 * e) (-1)) (2 * e + 1) (-1))
def sIter (S : (Nat → Int32) × (Nat → Int32)) : Nat → (Nat → Int32) × (Nat → Int32)
  | 0 => S
  | k + 1 => sSplit (sIter S k).1 (sIter S k).2 (k + 1)
theorem sIter_s {S : (Nat → Int32) × (Nat → Int32)} {kk : Nat} (h : 1 ≤ kk) : sSplit (sIter S (kk - 1)).1 (sIter S (kk - 1)).2 kk = sIter S (kk + 1 - 1) := by
  obtain ⟨j, rfl⟩ : ∃ j, kk = j + 1 := ⟨kk - 1, by omega⟩
  rw [show j + 1 + 1 - 1 = j + 1 by omega, show j + 1 - 1 = j by omega]
  rfl
def bFill (fi la : Nat → Int32) (v0 : Int32) (B : BK) : Nat → BK
  | 0 => B
  | k + 1 => (upd (bFill fi la v0 B k).1 (k + 1) v0, upd (bFill fi la v0 B k).2.1 (k + 1) (-1), upd (bFill fi la v0 B k).2.2.1 (k + 1) (la (k + 1) - fi (k + 1) + 1), upd (bFill fi la v0 B k).2.2.2.1 (k + 1) ((la (k + 1) - fi (k + 1) + 1) * v0), (bFill fi la v0 B k).2.2.2.2)
theorem bFill_s (fi la : Nat → Int32) (v0 : Int32) (B : BK) {kk : Nat} (h : 1 ≤ kk) : bFill fi la v0 B (kk + 1 - 1) = (upd (bFill fi la v0 B (kk - 1)).1 kk v0, upd (bFill fi la v0 B (kk - 1)).2.1 kk (-1), upd (bFill fi la v0 B (kk - 1)).2.2.1 kk (la kk - fi kk + 1), upd (bFill fi la v0 B (kk - 1)).2.2.2.1 kk ((la kk - fi kk + 1) * v0), (bFill fi la v0 B (kk - 1)).2.2.2.2) := by
  obtain ⟨j, rfl⟩ : ∃ j, kk = j + 1 := ⟨kk - 1, by omega⟩
  rw [show j + 1 + 1 - 1 = j + 1 by omega, show j + 1 - 1 = j by omega]
  rfl
def bNew (X : (Nat → Int32) × (Nat → Int32)) (v0 : Int32) (B : BK) : BK := ((bFill X.1 X.2 v0 B 127).1, (bFill X.1 X.2 v0 B 127).2.1, (bFill X.1 X.2 v0 B 127).2.2.1, (bFill X.1 X.2 v0 B 127).2.2.2.1, 0, 0, 0)
