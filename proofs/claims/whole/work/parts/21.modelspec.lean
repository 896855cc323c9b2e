/-! the reference's own state and steps -/
/-- columns; height, ceiling; first, last; the book; todo; left; laid, piled, pressed, thrown -/
def mdW (mo z1 z2 z3 z4 z5 z6 z7 z8 z9 : Nat) (cI : ClassId) (col : Int32) (hs cs fi la : Nat → Int32) (B : BK) (td : Nat → Int32) (lf laid piled prs thr : Int32) : va_W :=
  [(mo, .inr (3, [.int col, .ref z1, .ref z2, .ref z3, .ref z4, .ref z5, .ref z6, .ref z7, .ref z8, .ref z9, .int lf, .int B.2.2.2.2.1, .int B.2.2.2.2.2.1, .int B.2.2.2.2.2.2, .int laid, .int piled, .int prs, .int thr])), (z1, .inl (cI, 64, .inl hs)), (z2, .inl (cI, 64, .inl cs)), (z3, .inl (cI, 128, .inl fi)), (z4, .inl (cI, 128, .inl la)), (z5, .inl (cI, 128, .inl B.1)), (z6, .inl (cI, 128, .inl B.2.1)), (z7, .inl (cI, 128, .inl B.2.2.1)), (z8, .inl (cI, 128, .inl B.2.2.2.1)), (z9, .inl (cI, 64, .inl td))]
def mCatch (B : BK) (k e : Nat) : BK := if ¬ B.1 k ≤ B.1 e then bPress B k (B.1 e) else B
def mCatch2 (B : BK) (e : Nat) : BK := mCatch (mCatch B (2 * e) e) (2 * e + 1) e
def mMax (x y : Int32) : Int32 := if x ≤ y then y else x
def mLow (g : Nat → Int32) (e : Nat) (top lo : Int32) : Int32 := if top ≤ g e then lo else if g e ≤ lo then lo else g e
def mTop (B : BK) (e : Nat) : Int32 := mMax (B.1 (2 * e)) (B.1 (2 * e + 1))
def mTell (B : BK) (e : Nat) : BK :=
  (upd B.1 e (mTop B e),
   upd B.2.1 e (mLow (upd B.1 e (mTop B e)) (2 * e + 1) (mTop B e) (mLow (upd B.1 e (mTop B e)) (2 * e) (mTop B e) (mMax (B.2.1 (2 * e)) (B.2.1 (2 * e + 1))))),
   upd B.2.2.1 e (bMany (upd B.1 e (mTop B e)) B.2.2.1 (2 * e) (mTop B e) + bMany (upd B.1 e (mTop B e)) B.2.2.1 (2 * e + 1) (mTop B e)),
   upd B.2.2.2.1 e (B.2.2.2.1 (2 * e) + B.2.2.2.1 (2 * e + 1)), B.2.2.2.2)
abbrev mNo (fi la : Nat → Int32) (e : Nat) (a b : Int32) : Prop := b < fi e ∨ la e < a
abbrev mAll (fi la : Nat → Int32) (e : Nat) (a b : Int32) : Prop := ¬ fi e < a ∧ ¬ b < la e
def mPress (fi la : Nat → Int32) (a b c : Int32) : Nat → BK → Nat → BK
  | 0, B, _ => B
  | d + 1, B, e =>
    if mNo fi la e a b ∨ ¬ c < (bVisit B).1 e then bVisit B
    else if (mAll fi la e a b ∧ ¬ c ≤ (bVisit B).2.1 e) ∨ fi e = la e then bPress (bVisit B) e c
    else mTell (mPress fi la a b c d (mPress fi la a b c d (mCatch2 (bVisit B) e) (2 * e)) (2 * e + 1)) e
def mSum (fi la : Nat → Int32) (a b : Int32) : Nat → Int32 × BK → Nat → Int32 × BK
  | 0, X, _ => X
  | d + 1, X, e =>
    if mNo fi la e a b then (X.1, bVisit X.2)
    else if mAll fi la e a b then (X.1 + (bVisit X.2).2.2.2.1 e, bVisit X.2)
    else mSum fi la a b d (mSum fi la a b d (X.1, mCatch2 (bVisit X.2) e) (2 * e)) (2 * e + 1)
def mGrt (fi la : Nat → Int32) (a b : Int32) : Nat → Int32 × BK → Nat → Int32 × BK
  | 0, X, _ => X
  | d + 1, X, e =>
    if mNo fi la e a b then (X.1, bVisit X.2)
    else if mAll fi la e a b then (if (bVisit X.2).1 e ≤ X.1 then X.1 else (bVisit X.2).1 e, bVisit X.2)
    else mGrt fi la a b d (mGrt fi la a b d (X.1, mCatch2 (bVisit X.2) e) (2 * e)) (2 * e + 1)
def mDown (fi la : Nat → Int32) (x : Int32) : Nat → BK → Nat → BK × Nat
  | 0, B, e => (B, e)
  | d + 1, B, e => if ¬ la e ≤ fi e then mDown fi la x d (bVisit (mCatch2 B e)) (bKid la x e) else (B, e)
def mUps : Nat → BK → Nat → BK
  | 0, B, _ => B
  | n + 1, B, e => if e ≤ 1 then B else mUps n (mTell B (e / 2)) (e / 2)
def mAdd (B : BK) (e : Nat) (w : Int32) : BK := (upd B.1 e (B.1 e + w), B.2.1, B.2.2.1, upd B.2.2.2.1 e (B.2.2.2.1 e + w), B.2.2.2.2)
def mAbove (hs : Nat → Int32) (f n : Nat) (c : Int32) : Int32 := gSum (fun k => if hs k ≤ c then 0 else hs k - c) f n
def mPressH (c : Int32) (f : Nat) (hs : Nat → Int32) : Nat → Nat → Int32
  | 0 => hs
  | n + 1 => upd (mPressH c f hs n) (f + n) (if mPressH c f hs n (f + n) ≤ c then mPressH c f hs n (f + n) else c)
theorem mPressH_s (c : Int32) (f : Nat) (hs : Nat → Int32) {kk : Nat} (h : f ≤ kk) : mPressH c f hs (kk + 1 - f) = upd (mPressH c f hs (kk - f)) kk (if mPressH c f hs (kk - f) kk ≤ c then mPressH c f hs (kk - f) kk else c) := by
  obtain ⟨j, rfl⟩ : ∃ j, kk = f + j := ⟨kk - f, by omega⟩
  rw [show f + j + 1 - f = j + 1 by omega, show f + j - f = j by omega]
  rfl
def mPressC (c : Int32) (f : Nat) (cs : Nat → Int32) : Nat → Nat → Int32
  | 0 => cs
  | n + 1 => upd (mPressC c f cs n) (f + n) (if mPressC c f cs n (f + n) = -1 ∨ c < mPressC c f cs n (f + n) then c else mPressC c f cs n (f + n))
theorem mPressC_s (c : Int32) (f : Nat) (cs : Nat → Int32) {kk : Nat} (h : f ≤ kk) : mPressC c f cs (kk + 1 - f) = upd (mPressC c f cs (kk - f)) kk (if mPressC c f cs (kk - f) kk = -1 ∨ c < mPressC c f cs (kk - f) kk then c else mPressC c f cs (kk - f) kk) := by
  obtain ⟨j, rfl⟩ : ∃ j, kk = f + j := ⟨kk - f, by omega⟩
  rw [show f + j + 1 - f = j + 1 by omega, show f + j - f = j by omega]
  rfl
abbrev mThere (fi la : Nat → Int32) (kk : Nat) : Prop := kk = 1 ∨ (¬ fi (kk / 2) < 0 ∧ ¬ la (kk / 2) ≤ fi (kk / 2))
def mF (fi la : Nat → Int32) (kk : Nat) : Int32 := if ¬ mThere fi la kk then -1 else if kk = 1 then 0 else if kk % 2 = 0 then fi (kk / 2) else (fi (kk / 2) + la (kk / 2)) / 2 + 1
def mL (n0 : Int32) (fi la : Nat → Int32) (kk : Nat) : Int32 := if ¬ mThere fi la kk then -1 else if kk = 1 then n0 - 1 else if kk % 2 = 0 then (fi (kk / 2) + la (kk / 2)) / 2 else la (kk / 2)
abbrev MZ : Type := (Nat → Int32) × (Nat → Int32) × BK
def mStep (n0 v0 : Int32) (Z : MZ) (kk : Nat) : MZ :=
  (upd Z.1 kk (mF Z.1 Z.2.1 kk), upd Z.2.1 kk (mL n0 Z.1 Z.2.1 kk),
   (upd Z.2.2.1 kk v0, upd Z.2.2.2.1 kk (-1), upd Z.2.2.2.2.1 kk (upd Z.2.1 kk (mL n0 Z.1 Z.2.1 kk) kk - upd Z.1 kk (mF Z.1 Z.2.1 kk) kk + 1),
    upd Z.2.2.2.2.2.1 kk (upd Z.2.2.2.2.1 kk (upd Z.2.1 kk (mL n0 Z.1 Z.2.1 kk) kk - upd Z.1 kk (mF Z.1 Z.2.1 kk) kk + 1) kk * v0), Z.2.2.2.2.2.2))
def mIter (n0 v0 : Int32) (Z : MZ) : Nat → MZ
  | 0 => Z
  | k + 1 => mStep n0 v0 (mIter n0 v0 Z k) (k + 1)
theorem mIter_s (n0 v0 : Int32) (Z : MZ) {kk : Nat} (h : 1 ≤ kk) : mIter n0 v0 Z (kk + 1 - 1) = mStep n0 v0 (mIter n0 v0 Z (kk - 1)) kk := by
  obtain ⟨j, rfl⟩ : ∃ j, kk = j + 1 := ⟨kk - 1, by omega⟩
  rw [show j + 1 + 1 - 1 = j + 1 by omega, show j + 1 - 1 = j by omega]
  rfl
def mNew (Z : MZ) : BK := (Z.2.2.1, Z.2.2.2.1, Z.2.2.2.2.1, Z.2.2.2.2.2.1, 0, 0, 0)
def mLags (fi : Nat → Int32) (B : BK) : Nat → Int32
  | 0 => 0
  | n + 1 => mLags fi B n + (if ¬ fi (n + 2) < 0 ∧ bLag B (n + 2) then 1 else 0)
theorem mLags_s (fi : Nat → Int32) (B : BK) {kk : Nat} (h : 2 ≤ kk) : mLags fi B (kk + 1 - 2) = mLags fi B (kk - 2) + (if ¬ fi kk < 0 ∧ bLag B kk then 1 else 0) := by
  obtain ⟨j, rfl⟩ : ∃ j, kk = j + 2 := ⟨kk - 2, by omega⟩
  rw [show j + 2 + 1 - 2 = j + 1 by omega, show j + 2 - 2 = j by omega]
  rfl
def mSeek (A : Int32 → Int32) (w : Int32) : Nat → Nat
  | 0 => 0
  | c + 1 => if w ≤ A (nI (c + 1)) then c + 1 else mSeek A w c
theorem pq_half {e : Nat} (h : e < 1000) : nI (2 * e) / 2 = nI e := by
  rw [show (2 : Int32) = nI 2 from rfl, pk_div (by omega) (by decide) (by decide), Nat.mul_div_cancel_left _ (by decide)]
theorem pq_half1 {e : Nat} (h : e < 1000) : nI (2 * e + 1) / 2 = nI e := by
  rw [show (2 : Int32) = nI 2 from rfl, pk_div (by omega) (by decide) (by decide), show (2 * e + 1) / 2 = e by omega]
theorem pq_even {e : Nat} (h : e < 1000) : nI (2 * e) - nI (2 * e) / 2 * 2 = 0 := by
  rw [show (2 : Int32) = nI 2 from rfl, pk_rem (by omega) (by decide) (by decide), show (2 * e) % 2 = 0 by omega]
  rfl
theorem pq_odd {e : Nat} (h : e < 1000) : nI (2 * e + 1) - nI (2 * e + 1) / 2 * 2 = 1 := by
  rw [show (2 : Int32) = nI 2 from rfl, pk_rem (by omega) (by decide) (by decide), show (2 * e + 1) % 2 = 1 by omega]
  rfl
theorem pq_lt_of {x y : Int32} (h1 : x ≤ y) (h2 : ¬ x = y) : ¬ y ≤ x := fun h => h2 (Int32.le_antisymm h1 h)
theorem pq_ltN {x : Int32} {N : Nat} (h1 : 1 ≤ N) (h2 : N ≤ 64) (h : ¬ bRng x 0 (nI (N - 1))) : x < nI N := by
  have h3 : x ≤ nI (N - 1) := by
    rcases Int32.le_total x (nI (N - 1)) with q | q
    · exact q
    · by_cases e : x ≤ nI (N - 1)
      · exact e
      · exact absurd (Or.inr e) h
  have h4 : nI (N - 1) < nI N := nI_lt (by omega) (by omega)
  exact Int32.lt_of_le_of_lt h3 h4
theorem pq_leN {x : Int32} {N : Nat} (h1 : 1 ≤ N) (h2 : N ≤ 64) (h : ¬ bCol (nI N) x) : x ≤ nI (N - 1) := by
  obtain ⟨k, hk, rfl⟩ := colN h rfl h2
  exact nI_le (by omega) (by omega)
