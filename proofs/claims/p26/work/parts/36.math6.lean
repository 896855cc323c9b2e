/-! the book as it is laid out; the least greatest height over a column -/
/-! the books as they are laid out -/
set_option maxRecDepth 100000 in
theorem sp_z : ∀ N, N < 65 → ∀ e, e < 128 → 1 ≤ e → (slo N e < shi N e ∨ shi N e = 0) := by decide +kernel
theorem sp_par {N e : Nat} (hN : N < 65) (h2 : 2 ≤ e) (h : Ex N e) : Ex N (e / 2) ∧ Pt N (e / 2) := by
  obtain ⟨h1, h3, h4⟩ := h
  by_cases hp : Pt N (e / 2)
  · exact ⟨⟨by omega, by omega, by unfold Pt at hp; omega⟩, hp⟩
  · obtain ⟨q1, q2, q3, q4⟩ := sp_none (N := N) (e := e / 2) hN (by omega) (by omega) hp
    rcases Nat.mod_two_eq_zero_or_one e with z | z
    · rw [show 2 * (e / 2) = e by omega] at q1 q2; omega
    · rw [show 2 * (e / 2) + 1 = e by omega] at q3 q4; omega
theorem row_new (X : (Nat → Int32) × (Nat → Int32)) (v0 : Int32) (B : BK) {e : Nat} (h1 : 1 ≤ e) (h2 : e < 128) : row (bNew X v0 B) e = (v0, -1, X.2 e - X.1 e + 1, (X.2 e - X.1 e + 1) * v0) := by
  obtain ⟨a1, a2, a3, a4⟩ := bFill_at X.1 X.2 v0 B 127 e h1 (by omega)
  unfold row bNew
  dsimp only
  rw [a1, a2, a3, a4]
theorem hv_new {N : Nat} {R : Nat → RW} {v0 : Int32} (hN : N < 65) (h : ∀ e, Ex N e → (R e).1 = v0) : ∀ d e, Ex N e → ∀ k, hv N R d e k = v0 := by
  intro d
  induction d with
  | zero => intro e he k; exact h e he
  | succ d ih =>
    intro e he k
    rw [hv, h e he]
    split
    · rename_i hp
      obtain ⟨E0, E1, -⟩ := Ex_kids hN he hp
      have hk : Ex N (kid N e k) := by
        rcases kid_e (N := N) (e := e) (k := k) with q | q
        · rw [q]; exact E0
        · rw [q]; exact E1
      rw [ih _ hk]
      exact bMin_r (Int32.le_refl _)
    · rfl
theorem Ok_new {N : Nat} {R : Nat → RW} {v0 : Int32} (hN : N < 65) (h0 : 0 ≤ v0) (h : ∀ e, Ex N e → R e = (v0, -1, nI (shi N e - slo N e), nI (shi N e - slo N e) * v0)) : ∀ d e, Ex N e → Ok N R d e := by
  intro d
  induction d with
  | zero => intro e _; exact True.intro
  | succ d ih =>
    intro e he
    have hh := hv_new (R := R) (v0 := v0) hN (fun e he => by rw [h e he]) (d + 1) e he
    refine ⟨?_, fun hp => ?_, fun _ => by rw [h e he]⟩
    · rw [h e he]
      refine ⟨h0, Int32.le_refl _, Int32.lt_of_lt_of_le (show (-1 : Int32) < 0 by decide) h0, fun k _ _ => Or.inl (hh k), ?_, ?_, ⟨slo N e, Nat.le_refl _, he.2.2, hh _⟩, Or.inl rfl⟩
      · dsimp only
        rw [gSum_k (v := 1) (fun k _ _ => if_pos (hh k))]
        grind
      · dsimp only
        rw [gSum_k (v := v0) (fun k _ _ => hh k)]
    · obtain ⟨E0, E1, -⟩ := Ex_kids hN he hp
      exact ⟨ih _ E0, ih _ E1, by rw [h e he, h _ E0]; exact Int32.le_refl _, by rw [h e he, h _ E1]; exact Int32.le_refl _⟩
theorem new_c2 (X : (Nat → Int32) × (Nat → Int32)) (v0 : Int32) (B0 : BK) : (bNew X v0 B0).2.2.2.2 = (0, 0, 0) := rfl
theorem hv_pt {N d e k : Nat} {R : Nat → RW} (hp : Pt N e) : hv N R (d + 1) e k = bMin (hv N R d (kid N e k) k) (R e).1 := if_pos hp
/-- a new book, the class's and the reference's -/
theorem new_main {N : Nat} (hN1 : 1 ≤ N) (hN : N < 65) {v0 : Int32} (h0 : 0 ≤ v0) (X : (Nat → Int32) × (Nat → Int32)) (S : SpC N X.1 X.2) (B0 : BK) :
    Ok N (row (bNew X v0 B0)) 7 1 ∧ (∀ k, hv N (row (bNew X v0 B0)) 7 1 k = v0) := by
  have hr : ∀ e, Ex N e → row (bNew X v0 B0) e = (v0, -1, nI (shi N e - slo N e), nI (shi N e - slo N e) * v0) := by
    intro e he
    obtain ⟨s1, s2⟩ := S e he.1 he.2.1
    rw [row_new X v0 B0 he.1 he.2.1, s1, s2, n_wid (by have := he.2.2; omega)]
  have hE1 : Ex N 1 := ⟨by decide, by decide, by rw [(sp_root N).1, (sp_root N).2]; omega⟩
  exact ⟨Ok_new hN h0 hr 7 1 hE1, hv_new hN (fun e he => by rw [hr e he]) 7 1 hE1⟩
/-! the least greatest height over a column -/
theorem hv_path {N k : Nat} {R : Nat → RW} (hN : N < 65) : ∀ e, Ex N e → slo N e ≤ k → k < shi N e → ∃ d, 128 ≤ e * 2 ^ d ∧ hv N R 7 1 k ≤ hv N R d e k := by
  intro e
  induction e using Nat.strongRecOn with
  | ind e ih =>
    intro he h1 h2
    rcases Nat.lt_or_ge e 2 with q | q
    · obtain rfl : e = 1 := by have := he.1; omega
      exact ⟨7, by decide, Int32.le_refl _⟩
    · obtain ⟨E, hp⟩ := sp_par hN q he
      obtain ⟨E0, E1, s1, s2, s3, s4, s5⟩ := Ex_kids hN E hp
      have hk : kid N (e / 2) k = e := by
        unfold kid
        rcases Nat.mod_two_eq_zero_or_one e with z | z
        · rw [show 2 * (e / 2) = e by omega] at *
          rw [if_pos h2]
        · rw [show 2 * (e / 2) + 1 = e by omega] at *
          rw [if_neg (by omega)]
      have hin : slo N (e / 2) ≤ k ∧ k < shi N (e / 2) := by
        rcases Nat.mod_two_eq_zero_or_one e with z | z
        · rw [show 2 * (e / 2) = e by omega] at *; omega
        · rw [show 2 * (e / 2) + 1 = e by omega] at *; omega
      obtain ⟨d, d1, d2⟩ := ih (e / 2) (by omega) E hin.1 hin.2
      cases d with
      | zero => have := E.2.1; simp at d1; omega
      | succ d =>
        rw [hv_pt (d := d) hp, hk] at d2
        refine ⟨d, ?_, Int32.le_trans d2 (bMin_ll _ _)⟩
        rcases Nat.mod_two_eq_zero_or_one e with z | z
        · have := pw_1 d1; rw [show 2 * (e / 2) = e by omega] at this; exact this
        · have := pw_2 d1; rw [show 2 * (e / 2) + 1 = e by omega] at this; exact this
theorem hv_ex {N k : Nat} {R : Nat → RW} (hN : N < 65) : ∀ d e, Ex N e → slo N e ≤ k → k < shi N e → ∃ x, Ex N x ∧ slo N x ≤ k ∧ k < shi N x ∧ hv N R d e k = (R x).1 := by
  intro d
  induction d with
  | zero => intro e he h1 h2; exact ⟨e, he, h1, h2, rfl⟩
  | succ d ih =>
    intro e he h1 h2
    rw [hv]
    split
    · rename_i hp
      obtain ⟨i1, i2, i3⟩ := kid_in hN he hp h1 h2
      unfold bMin
      split
      · exact ⟨e, he, h1, h2, rfl⟩
      · exact ih _ i1 i2 i3
    · exact ⟨e, he, h1, h2, rfl⟩
theorem has_ex {N e : Nat} {fi la : Nat → Int32} (hN : N < 65) (S : SpC N fi la) (h1 : 1 ≤ e) (h2 : e < 128) : bHas la (nI e) ↔ Ex N e := by
  obtain ⟨-, s2⟩ := S e h1 h2
  obtain ⟨q1, q2, q3⟩ := sp_in N hN e h2 h1
  unfold bHas
  rw [nI_clamp (by omega), s2, n_ne1 (by omega)]
  constructor
  · rintro ⟨-, -, q⟩
    rcases sp_z N hN e h2 h1 with z | z
    · exact ⟨h1, h2, z⟩
    · exact absurd z q
  · intro q
    refine ⟨i_nlt (nI_le (a := 1) h1 (by omega)), i_nle (nI_lt (b := 128) h2 (by decide)), ?_⟩
    have := q.2.2
    omega
theorem least_le {N k : Nat} {fi la g : Nat → Int32} (hN : N < 65) (S : SpC N fi la) (hk : k < 64) : ∀ n, n ≤ 126 → ∀ e, Ex N e → slo N e ≤ k → k < shi N e → e ≤ n + 1 → bLeast fi la g (nI k) n ≤ g e := by
  intro n
  induction n with
  | zero => intro _ e he _ _ h; obtain rfl : e = 1 := by have := he.1; omega
            exact Int32.le_refl _
  | succ n ih =>
    intro hn e he h1 h2 h
    rw [bLeast]
    by_cases q : e = n + 2
    · subst q
      rw [if_pos ⟨(has_ex hN S he.1 he.2.1).mpr he, fun z => by have := (c_ap hN S he hk hk).mp z; omega⟩]
      exact bMin_lr _ _
    · have := ih (by omega) e he h1 h2 (by omega)
      split
      · exact Int32.le_trans (bMin_ll _ _) this
      · exact this
theorem least_ex {N k : Nat} {fi la g : Nat → Int32} (hN : N < 65) (S : SpC N fi la) (hk : k < N) : ∀ n, n ≤ 126 → ∃ e, Ex N e ∧ slo N e ≤ k ∧ k < shi N e ∧ bLeast fi la g (nI k) n = g e := by
  intro n
  induction n with
  | zero => intro _; exact ⟨1, ⟨by decide, by decide, by rw [(sp_root N).1, (sp_root N).2]; omega⟩, by rw [(sp_root N).1]; omega, by rw [(sp_root N).2]; omega, rfl⟩
  | succ n ih =>
    intro hn
    rw [bLeast]
    split
    · rename_i q
      unfold bMin
      split
      · have he := (has_ex hN S (by omega) (by omega)).mp q.1
        have z : ¬ (shi N (n + 2) ≤ k ∨ k < slo N (n + 2)) := fun w => q.2 ((c_ap hN S he (by omega) (by omega)).mpr w)
        exact ⟨n + 2, he, by omega, by omega, rfl⟩
      · exact ih (by omega)
    · exact ih (by omega)
theorem least_main {N k : Nat} {fi la : Nat → Int32} {B : BK} (hN1 : 1 ≤ N) (hN : N < 65) (S : SpC N fi la) (hk : k < N) : bLeast fi la B.1 (nI k) 126 = hv N (row B) 7 1 k := by
  obtain ⟨e, e1, e2, e3, e4⟩ := least_ex (g := B.1) hN S hk 126 (Nat.le_refl _)
  have hE1 : Ex N 1 := ⟨by decide, by decide, by rw [(sp_root N).1, (sp_root N).2]; omega⟩
  obtain ⟨x, x1, x2, x3, x4⟩ := hv_ex (R := row B) hN 7 1 hE1 (k := k) (by rw [(sp_root N).1]; omega) (by rw [(sp_root N).2]; omega)
  obtain ⟨d, -, d2⟩ := hv_path (R := row B) hN e e1 e2 e3
  refine Int32.le_antisymm ?_ ?_
  · rw [x4]
    exact least_le hN S (by omega) 126 (Nat.le_refl _) x x1 x2 x3 (by have := x1.2.1; omega)
  · rw [e4]
    exact Int32.le_trans d2 (hv_le d e k)
