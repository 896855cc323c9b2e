/-! the class's own state -/
def ppW (q h a0 a1 a2 a3 a4 a5 g b0 b1 : Nat) (cI : ClassId) (fi la : Nat → Int32) (B : BK) (G : GK) (pr : Int32) : va_W :=
  [(q, .inr (2, [.ref h, .ref g, .int pr])), (h, .inr (0, [.ref a0, .ref a1, .ref a2, .ref a3, .ref a4, .ref a5, .int B.2.2.2.2.1, .int B.2.2.2.2.2.1, .int B.2.2.2.2.2.2])), (a0, .inl (cI, 128, .inl fi)), (a1, .inl (cI, 128, .inl la)), (a2, .inl (cI, 128, .inl B.1)), (a3, .inl (cI, 128, .inl B.2.1)), (a4, .inl (cI, 128, .inl B.2.2.1)), (a5, .inl (cI, 128, .inl B.2.2.2.1)), (g, .inr (1, [.ref b0, .ref b1, .int G.2.2.1, .int G.2.2.2])), (b0, .inl (cI, 64, .inl G.1)), (b1, .inl (cI, 64, .inl G.2.1))]
abbrev bCol (cnt x : Int32) : Prop := x < 0 ∨ ¬ x < cnt
abbrev bRng (v lo hi : Int32) : Prop := v < lo ∨ ¬ v ≤ hi
theorem entN {la : Nat → Int32} {x : Int32} (h : bHas la x) : ∃ k, 1 ≤ k ∧ k < 128 ∧ x = nI k := by
  obtain ⟨j, h1, rfl⟩ := vp_in_of (bHas_in h.1 h.2.1) (by decide)
  refine ⟨j, ?_, h1, rfl⟩
  rcases Nat.lt_or_ge j 1 with q | q
  · exact absurd (nI_lt (b := 1) q (by decide)) h.1
  · exact q
theorem gHi_n {A : Int32 → Int32} {w : Int32} : ∀ (j c : Nat), ∃ c' : Nat, gHi A w j (nI c) = nI c' ∧ c ≤ c' ∧ c' < c + 2 ^ j := by
  intro j
  induction j with
  | zero => intro c; exact ⟨c, rfl, Nat.le_refl _, by simp⟩
  | succ j ih =>
    intro c
    rw [gHi]
    by_cases h : w ≤ A (nI c + nI (2 ^ j))
    · rw [if_pos h, nI_add]
      obtain ⟨c', h1, h2, h3⟩ := ih (c + 2 ^ j)
      exact ⟨c', h1, by omega, by rw [Nat.pow_succ]; omega⟩
    · rw [if_neg h]
      obtain ⟨c', h1, h2, h3⟩ := ih c
      exact ⟨c', h1, h2, by rw [Nat.pow_succ]; omega⟩
theorem gHi_ne {A : Int32 → Int32} {w : Int32} : ¬ gHi A w 10 0 = -1 := by
  obtain ⟨c', h1, -, h3⟩ := gHi_n (A := A) (w := w) 10 0
  rw [show (0 : Int32) = nI 0 from rfl, h1]
  intro h
  have h4 := congrArg Int32.toInt h
  rw [nI_toInt (by omega)] at h4
  have h5 : (-1 : Int32).toInt = -1 := rfl
  omega

