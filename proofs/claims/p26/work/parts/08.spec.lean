/-! What the rows of the book hold, and what its methods make of it: words of Int32, as the program has them. -/
/-- greatest, second, many, sum; latestVisits, totalVisits, calls -/
abbrev BK : Type := (Nat → Int32) × (Nat → Int32) × (Nat → Int32) × (Nat → Int32) × Int32 × Int32 × Int32
def bkW (h a0 a1 a2 a3 a4 a5 : Nat) (cI : ClassId) (fi la : Nat → Int32) (B : BK) : va_W :=
  [(h, .inr (0, [.ref a0, .ref a1, .ref a2, .ref a3, .ref a4, .ref a5, .int B.2.2.2.2.1, .int B.2.2.2.2.2.1, .int B.2.2.2.2.2.2])), (a0, .inl (cI, 128, .inl fi)), (a1, .inl (cI, 128, .inl la)), (a2, .inl (cI, 128, .inl B.1)), (a3, .inl (cI, 128, .inl B.2.1)), (a4, .inl (cI, 128, .inl B.2.2.1)), (a5, .inl (cI, 128, .inl B.2.2.2.1))]
abbrev bHp (fi la : Nat → Int32) (e : Nat) : Prop := ¬ 64 ≤ nI e ∧ ¬ la e ≤ fi e
abbrev bAp (fi la : Nat → Int32) (e : Nat) (a b : Int32) : Prop := la e < a ∨ ¬ fi e ≤ b
abbrev bWi (fi la : Nat → Int32) (e : Nat) (a b : Int32) : Prop := ¬ fi e < a ∧ ¬ b < la e
abbrev bLag (B : BK) (e : Nat) : Prop := ¬ B.1 e ≤ B.1 (e / 2)
theorem bHp_lt {fi la : Nat → Int32} {e : Nat} (he : e < 128) (h : bHp fi la e) : e < 64 := by
  rcases Nat.lt_or_ge e 64 with q | q
  · exact q
  · exact absurd (nI_le q (by omega)) h.1
theorem pw_1 {e d : Nat} (h : 128 ≤ e * 2 ^ (d + 1)) : 128 ≤ 2 * e * 2 ^ d := by
  rw [Nat.pow_succ] at h
  calc 128 ≤ e * (2 ^ d * 2) := h
    _ = 2 * e * 2 ^ d := by rw [Nat.mul_comm (2 ^ d) 2, ← Nat.mul_assoc, Nat.mul_comm e 2]
theorem pw_2 {e d : Nat} (h : 128 ≤ e * 2 ^ (d + 1)) : 128 ≤ (2 * e + 1) * 2 ^ d := Nat.le_trans (pw_1 h) (Nat.mul_le_mul_right _ (Nat.le_succ _))
def bPress (B : BK) (e : Nat) (c : Int32) : BK := (upd B.1 e c, B.2.1, B.2.2.1, upd B.2.2.2.1 e (B.2.2.2.1 e - (B.1 e - c) * B.2.2.1 e), B.2.2.2.2)
def bCatch (B : BK) (e : Nat) : BK := if bLag B e then bPress B e (B.1 (e / 2)) else B
def bCatch2 (B : BK) (e : Nat) : BK := bCatch (bCatch B (2 * e)) (2 * e + 1)
def bMax (x y : Int32) : Int32 := if x < y then y else x
def bMin (x y : Int32) : Int32 := if y < x then y else x
def bMany (g m : Nat → Int32) (e : Nat) (top : Int32) : Int32 := if g e = top then m e else 0
def bLess (g s : Nat → Int32) (top : Int32) (e : Nat) : Int32 := if top ≤ g e then s e else g e
def bTop (B : BK) (e : Nat) : Int32 := bMax (B.1 (2 * e)) (B.1 (2 * e + 1))
def bTell (B : BK) (e : Nat) : BK :=
  (upd B.1 e (bTop B e),
   upd B.2.1 e (bMax (bLess (upd B.1 e (bTop B e)) B.2.1 (bTop B e) (2 * e)) (bLess (upd B.1 e (bTop B e)) B.2.1 (bTop B e) (2 * e + 1))),
   upd B.2.2.1 e (bMany (upd B.1 e (bTop B e)) B.2.2.1 (2 * e) (bTop B e) + bMany (upd B.1 e (bTop B e)) B.2.2.1 (2 * e + 1) (bTop B e)),
   upd B.2.2.2.1 e (B.2.2.2.1 (2 * e) + B.2.2.2.1 (2 * e + 1)), B.2.2.2.2)
def bVisit (B : BK) : BK := (B.1, B.2.1, B.2.2.1, B.2.2.2.1, B.2.2.2.2.1 + 1, B.2.2.2.2.2.1 + 1, B.2.2.2.2.2.2)
def bBegin (B : BK) : BK := (B.1, B.2.1, B.2.2.1, B.2.2.2.1, 0, B.2.2.2.2.2.1, B.2.2.2.2.2.2 + 1)
def bPressFrom (fi la : Nat → Int32) (a b c : Int32) : Nat → BK → Nat → BK
  | 0, B, _ => B
  | d + 1, B, e =>
    if bAp fi la e a b ∨ ¬ c < (bVisit B).1 e then bVisit B
    else if (bWi fi la e a b ∧ ¬ c ≤ (bVisit B).2.1 e) ∨ ¬ bHp fi la e then bPress (bVisit B) e c
    else bTell (bPressFrom fi la a b c d (bPressFrom fi la a b c d (bCatch2 (bVisit B) e) (2 * e)) (2 * e + 1)) e
def bKid (la : Nat → Int32) (x : Int32) (e : Nat) : Nat := if x ≤ la (2 * e) then 2 * e else 2 * e + 1
def bSet (B : BK) (e : Nat) (v : Int32) : BK := (upd B.1 e v, B.2.1, B.2.2.1, upd B.2.2.2.1 e v, B.2.2.2.2)
def bRaiseFrom (fi la : Nat → Int32) (x v : Int32) : Nat → BK → Nat → BK
  | 0, B, _ => B
  | d + 1, B, e =>
    if bHp fi la e then bTell (bRaiseFrom fi la x v d (bCatch2 (bVisit B) e) (bKid la x e)) e else bSet (bVisit B) e v
def bSumFrom (fi la : Nat → Int32) (a b : Int32) : Nat → BK → Nat → Int32 × BK
  | 0, B, _ => (0, B)
  | d + 1, B, e =>
    if bAp fi la e a b then (0, bVisit B)
    else if bWi fi la e a b ∨ ¬ bHp fi la e then ((bVisit B).2.2.2.1 e, bVisit B)
    else ((bSumFrom fi la a b d (bCatch2 (bVisit B) e) (2 * e)).1 + (bSumFrom fi la a b d (bSumFrom fi la a b d (bCatch2 (bVisit B) e) (2 * e)).2 (2 * e + 1)).1, (bSumFrom fi la a b d (bSumFrom fi la a b d (bCatch2 (bVisit B) e) (2 * e)).2 (2 * e + 1)).2)
def bTopFrom (fi la : Nat → Int32) (a b : Int32) : Nat → BK → Nat → Int32 × BK
  | 0, B, _ => (0, B)
  | d + 1, B, e =>
    if bAp fi la e a b then (-1, bVisit B)
    else if bWi fi la e a b ∨ ¬ bHp fi la e then ((bVisit B).1 e, bVisit B)
    else (bMax (bTopFrom fi la a b d (bCatch2 (bVisit B) e) (2 * e)).1 (bTopFrom fi la a b d (bTopFrom fi la a b d (bCatch2 (bVisit B) e) (2 * e)).2 (2 * e + 1)).1, (bTopFrom fi la a b d (bTopFrom fi la a b d (bCatch2 (bVisit B) e) (2 * e)).2 (2 * e + 1)).2)
