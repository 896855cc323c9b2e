/-! the columns, kept one by one: heights, ceilings, count, given -/
abbrev GK : Type := (Nat → Int32) × (Nat → Int32) × Int32 × Int32
def grW (g b0 b1 : Nat) (cI : ClassId) (G : GK) : va_W :=
  [(g, .inr (1, [.ref b0, .ref b1, .int G.2.2.1, .int G.2.2.2])), (b0, .inl (cI, 64, .inl G.1)), (b1, .inl (cI, 64, .inl G.2.1))]
def gSum (w : Nat → Int32) (f : Nat) : Nat → Int32
  | 0 => 0
  | n + 1 => gSum w f n + w (f + n)
theorem gSum_s (w : Nat → Int32) (f : Nat) {kk : Nat} (h : f ≤ kk) : gSum w f (kk + 1 - f) = gSum w f (kk - f) + w kk := by
  obtain ⟨j, rfl⟩ : ∃ j, kk = f + j := ⟨kk - f, by omega⟩
  rw [show f + j + 1 - f = j + 1 by omega, show f + j - f = j by omega]
  rfl
def gAbove (hs : Nat → Int32) (f n : Nat) (c : Int32) : Int32 := gSum (fun k => bMax (hs k - c) 0) f n
def gFillH (n0 v0 : Int32) (hs : Nat → Int32) : Nat → Nat → Int32
  | 0 => hs
  | k + 1 => upd (gFillH n0 v0 hs k) k (if n0 ≤ nI k then 0 else v0)
def gFillC (cs : Nat → Int32) : Nat → Nat → Int32
  | 0 => cs
  | k + 1 => upd (gFillC cs k) k (-1)
def gPressH (c : Int32) (f : Nat) (hs : Nat → Int32) : Nat → Nat → Int32
  | 0 => hs
  | n + 1 => upd (gPressH c f hs n) (f + n) (bMin (gPressH c f hs n (f + n)) c)
theorem gPressH_s (c : Int32) (f : Nat) (hs : Nat → Int32) {kk : Nat} (h : f ≤ kk) : gPressH c f hs (kk + 1 - f) = upd (gPressH c f hs (kk - f)) kk (bMin (gPressH c f hs (kk - f) kk) c) := by
  obtain ⟨j, rfl⟩ : ∃ j, kk = f + j := ⟨kk - f, by omega⟩
  rw [show f + j + 1 - f = j + 1 by omega, show f + j - f = j by omega]
  rfl
def gPressC (c : Int32) (f : Nat) (cs : Nat → Int32) : Nat → Nat → Int32
  | 0 => cs
  | n + 1 => if gPressC c f cs n (f + n) = -1 ∨ c < gPressC c f cs n (f + n) then upd (gPressC c f cs n) (f + n) c else gPressC c f cs n
theorem gPressC_s (c : Int32) (f : Nat) (cs : Nat → Int32) {kk : Nat} (h : f ≤ kk) : gPressC c f cs (kk + 1 - f) = if gPressC c f cs (kk - f) kk = -1 ∨ c < gPressC c f cs (kk - f) kk then upd (gPressC c f cs (kk - f)) kk c else gPressC c f cs (kk - f) := by
  obtain ⟨j, rfl⟩ : ∃ j, kk = f + j := ⟨kk - f, by omega⟩
  rw [show f + j + 1 - f = j + 1 by omega, show f + j - f = j by omega]
  rfl
def gHi (A : Int32 → Int32) (w : Int32) : Nat → Int32 → Int32
  | 0, c => c
  | j + 1, c => gHi A w j (if w ≤ A (c + nI (2 ^ j)) then c + nI (2 ^ j) else c)
theorem gHi_s {A : Int32 → Int32} {w : Int32} {j st : Nat} (hst : st = 2 ^ j / 2) (h0 : 0 < st) (c : Int32) : gHi A w j c = gHi A w (j - 1) (if w ≤ A (c + nI st) then c + nI st else c) := by
  cases j with
  | zero => simp at hst; omega
  | succ j =>
    have e : st = 2 ^ j := by rw [hst, Nat.pow_succ, Nat.mul_div_cancel _ (by decide)]
    rw [e]
    rfl
theorem pw_h {j st : Nat} (hst : st = 2 ^ j / 2) (h0 : 0 < st) : st / 2 = 2 ^ (j - 1) / 2 := by
  cases j with
  | zero => simp at hst; omega
  | succ j =>
    have e : st = 2 ^ j := by rw [hst, Nat.pow_succ, Nat.mul_div_cancel _ (by decide)]
    rw [e]
    rfl
theorem pw_j {j st : Nat} (hst : st = 2 ^ j / 2) (h0 : 0 < st) : 1 ≤ j := by
  cases j with
  | zero => simp at hst; omega
  | succ j => omega
theorem pw_z {j st : Nat} (hst : st = 2 ^ j / 2) (h0 : st ≤ 0) : j = 0 := by
  cases j with
  | zero => rfl
  | succ j =>
    have e : st = 2 ^ j := by rw [hst, Nat.pow_succ, Nat.mul_div_cancel _ (by decide)]
    have := Nat.two_pow_pos j
    omega
