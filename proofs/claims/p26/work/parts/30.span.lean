/-! the spans of the entries, in naturals: from .. up to, not with, the second number; (0, 0) where there is no such entry -/
def spS (p : Nat × Nat) (e : Nat) : Nat × Nat :=
  if p.1 + 1 < p.2 then (if e % 2 = 0 then (p.1, (p.1 + p.2 - 1) / 2 + 1) else ((p.1 + p.2 - 1) / 2 + 1, p.2)) else (0, 0)
def spF : Nat → Nat → Nat → Nat × Nat
  | 0, N, _ => (0, N)
  | k + 1, N, e => if e ≤ 1 then (0, N) else spS (spF k N (e / 2)) e
def slo (N e : Nat) : Nat := (spF 7 N e).1
def shi (N e : Nat) : Nat := (spF 7 N e).2
set_option maxRecDepth 100000 in
theorem sp_kids : ∀ N, N < 65 → ∀ e, e < 64 → 1 ≤ e → spF 7 N (2 * e) = spS (spF 7 N e) (2 * e) ∧ spF 7 N (2 * e + 1) = spS (spF 7 N e) (2 * e + 1) := by decide +kernel
set_option maxRecDepth 100000 in
theorem sp_in : ∀ N, N < 65 → ∀ e, e < 128 → 1 ≤ e → (slo N e + 1 < shi N e → e < 64) ∧ slo N e ≤ shi N e ∧ shi N e ≤ 64 := by decide +kernel
theorem sp_root (N : Nat) : slo N 1 = 0 ∧ shi N 1 = N := ⟨rfl, rfl⟩
theorem sp_split {N e : Nat} (hN : N < 65) (he1 : 1 ≤ e) (he : e < 64) (h : slo N e + 1 < shi N e) :
    slo N (2 * e) = slo N e ∧ shi N (2 * e) = (slo N e + shi N e - 1) / 2 + 1 ∧ slo N (2 * e + 1) = (slo N e + shi N e - 1) / 2 + 1 ∧ shi N (2 * e + 1) = shi N e := by
  obtain ⟨h1, h2⟩ := sp_kids N hN e he he1
  have h' : (spF 7 N e).1 + 1 < (spF 7 N e).2 := h
  unfold slo shi
  rw [h1, h2, spS, spS, if_pos h', if_pos h', if_pos (by omega), if_neg (by omega)]
  exact ⟨rfl, rfl, rfl, rfl⟩
theorem sp_none {N e : Nat} (hN : N < 65) (he1 : 1 ≤ e) (he : e < 64) (h : ¬ slo N e + 1 < shi N e) :
    slo N (2 * e) = 0 ∧ shi N (2 * e) = 0 ∧ slo N (2 * e + 1) = 0 ∧ shi N (2 * e + 1) = 0 := by
  obtain ⟨h1, h2⟩ := sp_kids N hN e he he1
  have h' : ¬ (spF 7 N e).1 + 1 < (spF 7 N e).2 := h
  unfold slo shi
  rw [h1, h2, spS, spS, if_neg h', if_neg h']
  exact ⟨rfl, rfl, rfl, rfl⟩
/-- a number and the one before the other -/
theorem n_m1 {b : Nat} (h : 1 ≤ b) : nI b - 1 = nI (b - 1) := pk_sub (b := 1) h
theorem n_le1 {a b : Nat} (ha : a < 1000) (hb : b < 1000) : nI b - 1 ≤ nI a ↔ b ≤ a + 1 := by
  rw [Int32.le_iff_toInt_le, show (1 : Int32) = nI 1 from rfl, pk_sub_toInt (by omega) (by omega), nI_toInt (by omega)]
  omega
theorem n_lt1 {a b : Nat} (ha : a < 1000) (hb : b < 1000) : nI b - 1 < nI a ↔ b ≤ a := by
  rw [Int32.lt_iff_toInt_lt, show (1 : Int32) = nI 1 from rfl, pk_sub_toInt (by omega) (by omega), nI_toInt (by omega)]
  omega
theorem n_gt1 {a b : Nat} (ha : a < 1000) (hb : b < 1000) : nI a < nI b - 1 ↔ a + 1 < b := by
  rw [Int32.lt_iff_toInt_lt, show (1 : Int32) = nI 1 from rfl, pk_sub_toInt (by omega) (by omega), nI_toInt (by omega)]
  omega
theorem n_ne1 {b : Nat} (hb : b < 1000) : nI b - 1 = -1 ↔ b = 0 := by
  constructor
  · intro h
    have h2 := congrArg Int32.toInt h
    rw [show (1 : Int32) = nI 1 from rfl, pk_sub_toInt (by omega) (by omega)] at h2
    have h3 : (-(nI 1)).toInt = -1 := rfl
    omega
  · rintro rfl; rfl
theorem n_mid {a b : Nat} (h : 1 ≤ b) (ha : a < 1000) (hb : b < 1000) : (nI a + (nI b - 1)) / 2 = nI ((a + b - 1) / 2) := by
  rw [n_m1 h, nI_add, show (2 : Int32) = nI 2 from rfl, pk_div (by omega) (by decide) (by decide), show a + (b - 1) = a + b - 1 by omega]
theorem n_wid {a b : Nat} (h : a ≤ b) : nI b - 1 - nI a + 1 = nI (b - a) := by
  rw [← pk_sub h]
  grind
/-- the spans as the class has them -/
def SpC (N : Nat) (fi la : Nat → Int32) : Prop := ∀ e, 1 ≤ e → e < 128 → fi e = nI (slo N e) ∧ la e = nI (shi N e) - 1
/-- as the reference has them -/
theorem spC_hp {N e : Nat} {fi la : Nat → Int32} (hN : N < 65) (h : SpC N fi la) (he1 : 1 ≤ e) (he : e < 128) : bHp fi la e ↔ slo N e + 1 < shi N e := by
  obtain ⟨h1, h2⟩ := h e he1 he
  obtain ⟨s1, s2, s3⟩ := sp_in N hN e he he1
  rw [bHp, h1, h2, n_le1 (by omega) (by omega)]
  constructor
  · intro q; omega
  · intro q
    have := s1 q
    exact ⟨nI_ge (b := 64) (by omega) (by omega), by omega⟩
theorem spC_fin {N : Nat} (hN1 : 1 ≤ N) (hN : N < 65) (z1 z2 : Nat → Int32) : ∀ k, k ≤ 63 → ∀ e, 1 ≤ e → e < 2 * (k + 1) → (sIter (upd z1 1 0, upd z2 1 (nI N - 1)) k).1 e = nI (slo N e) ∧ (sIter (upd z1 1 0, upd z2 1 (nI N - 1)) k).2 e = nI (shi N e) - 1 := by
  intro k
  induction k with
  | zero =>
    intro _ e h1 h2
    obtain rfl : e = 1 := by omega
    exact ⟨rfl, rfl⟩
  | succ k ih =>
    intro hk e h1 h2
    have ih := ih (by omega)
    rw [sIter]
    generalize hX : sIter (upd z1 1 0, upd z2 1 (nI N - 1)) k = X at ih
    obtain ⟨p1, p2⟩ := ih (k + 1) (by omega) (by omega)
    obtain ⟨s1, s2, s3⟩ := sp_in N hN (k + 1) (by omega) (by omega)
    have hle : (X.2 (k + 1) ≤ X.1 (k + 1)) ↔ shi N (k + 1) ≤ slo N (k + 1) + 1 := by rw [p1, p2]; exact n_le1 (by omega) (by omega)
    have h64 : ¬ (64 : Int32) ≤ nI (k + 1) := nI_ge (b := 64) (by omega) (by omega)
    by_cases hh : slo N (k + 1) + 1 < shi N (k + 1)
    · have hp : bHp X.1 X.2 (k + 1) := ⟨h64, fun q => by have := hle.mp q; omega⟩
      obtain ⟨k1, k2, k3, k4⟩ := sp_split hN (by omega) (by omega) hh
      rw [sSplit, if_pos hp]
      have hm : (X.1 (k + 1) + X.2 (k + 1)) / 2 = nI ((slo N (k + 1) + shi N (k + 1) - 1) / 2) := by rw [p1, p2]; exact n_mid (by omega) (by omega) (by omega)
      rw [hm]
      by_cases e1 : e = 2 * (k + 1) + 1
      · subst e1
        dsimp only
        rw [pk_us, pk_us, pk_un (by omega), k3, k4, p2]
        exact ⟨nI_1 _, rfl⟩
      · by_cases e2 : e = 2 * (k + 1)
        · subst e2
          dsimp only
          rw [pk_un e1, pk_us, pk_un e1, pk_us, k1, k2, p1]
          exact ⟨rfl, (nI_pred _).symm⟩
        · dsimp only
          rw [pk_un e1, pk_un e2, pk_un e1, pk_un e2]
          exact ih e h1 (by omega)
    · have hp : ¬ bHp X.1 X.2 (k + 1) := fun q => q.2 (hle.mpr (by omega))
      obtain ⟨k1, k2, k3, k4⟩ := sp_none hN (by omega) (by omega) hh
      rw [sSplit, if_neg hp]
      by_cases e1 : e = 2 * (k + 1) + 1
      · subst e1
        dsimp only
        rw [pk_us, pk_us, k3, k4]
        exact ⟨rfl, rfl⟩
      · by_cases e2 : e = 2 * (k + 1)
        · subst e2
          dsimp only
          rw [pk_un e1, pk_us, pk_un e1, pk_us, k1, k2]
          exact ⟨rfl, rfl⟩
        · dsimp only
          rw [pk_un e1, pk_un e2, pk_un e1, pk_un e2]
          exact ih e h1 (by omega)
theorem spC_new {N : Nat} (hN1 : 1 ≤ N) (hN : N < 65) (z1 z2 : Nat → Int32) : SpC N (sIter (upd z1 1 0, upd z2 1 (nI N - 1)) 63).1 (sIter (upd z1 1 0, upd z2 1 (nI N - 1)) 63).2 :=
  fun e h1 h2 => spC_fin hN1 hN z1 z2 63 (by decide) e h1 (by omega)
/-- what the rows of a new book hold -/
theorem bFill_at (fi la : Nat → Int32) (v0 : Int32) (B : BK) : ∀ k e, 1 ≤ e → e ≤ k → (bFill fi la v0 B k).1 e = v0 ∧ (bFill fi la v0 B k).2.1 e = -1 ∧ (bFill fi la v0 B k).2.2.1 e = la e - fi e + 1 ∧ (bFill fi la v0 B k).2.2.2.1 e = (la e - fi e + 1) * v0 := by
  intro k
  induction k with
  | zero => intro e h1 h2; omega
  | succ k ih =>
    intro e h1 h2
    rw [bFill]
    by_cases h : e = k + 1
    · subst h
      dsimp only
      rw [pk_us, pk_us, pk_us, pk_us]
      exact ⟨rfl, rfl, rfl, rfl⟩
    · dsimp only
      rw [pk_un h, pk_un h, pk_un h, pk_un h]
      exact ih e h1 (by omega)
