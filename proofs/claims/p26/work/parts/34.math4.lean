/-! the tests of a span, as numbers -/
theorem c_ap {N e a b : Nat} {fi la : Nat → Int32} (hN : N < 65) (S : SpC N fi la) (hE : Ex N e) (ha : a < 64) (hb : b < 64) : bAp fi la e (nI a) (nI b) ↔ (shi N e ≤ a ∨ b < slo N e) := by
  obtain ⟨h1, h2⟩ := S e hE.1 hE.2.1
  obtain ⟨s1, s2, s3⟩ := sp_in N hN e hE.2.1 hE.1
  rw [bAp, h1, h2, n_lt1 (by omega) (by omega)]
  constructor
  · rintro (q | q)
    · exact Or.inl q
    · right
      rcases Nat.lt_or_ge b (slo N e) with z | z
      · exact z
      · exact absurd (nI_le z (by omega)) q
  · rintro (q | q)
    · exact Or.inl q
    · exact Or.inr (i_nle (nI_lt q (by omega)))
theorem n_nlt {a b : Nat} (h : a < 1000) : ¬ nI a < nI b ∨ a < b := by
  by_cases q : a < b
  · exact Or.inr q
  · exact Or.inl (i_nlt (nI_le (by omega) (by omega)))
theorem c_wi {N e a b : Nat} {fi la : Nat → Int32} (hN : N < 65) (S : SpC N fi la) (hE : Ex N e) (ha : a < 64) (hb : b < 64) : bWi fi la e (nI a) (nI b) ↔ (a ≤ slo N e ∧ shi N e ≤ b + 1) := by
  obtain ⟨h1, h2⟩ := S e hE.1 hE.2.1
  obtain ⟨s1, s2, s3⟩ := sp_in N hN e hE.2.1 hE.1
  rw [bWi, h1, h2, n_gt1 (by omega) (by omega)]
  constructor
  · rintro ⟨q1, q2⟩
    refine ⟨?_, by omega⟩
    rcases Nat.lt_or_ge (slo N e) a with z | z
    · exact absurd (nI_lt z (by omega)) q1
    · exact z
  · rintro ⟨q1, q2⟩
    exact ⟨i_nlt (nI_le q1 (by omega)), by omega⟩
theorem c_kid {N e k : Nat} {la : Nat → Int32} (hN : N < 65) (S : ∀ e, 1 ≤ e → e < 128 → la e = nI (shi N e) - 1) (h0 : Ex N (2 * e)) (hk : k < 64) : bKid la (nI k) e = kid N e k := by
  obtain ⟨s1, s2, s3⟩ := sp_in N hN (2 * e) h0.2.1 h0.1
  have h2 := S (2 * e) h0.1 h0.2.1
  unfold bKid kid
  rw [h2]
  by_cases q : k < shi N (2 * e)
  · rw [if_pos q, if_pos]
    apply i_le
    intro z
    rw [n_lt1 (by omega) (by omega)] at z
    omega
  · rw [if_neg q, if_neg]
    apply i_nle
    rw [n_lt1 (by omega) (by omega)]
    omega
theorem kid_in {N e k : Nat} (hN : N < 65) (h : Ex N e) (hp : Pt N e) (h1 : slo N e ≤ k) (h2 : k < shi N e) : Ex N (kid N e k) ∧ slo N (kid N e k) ≤ k ∧ k < shi N (kid N e k) := by
  obtain ⟨E0, E1, s1, s2, s3, s4, s5⟩ := Ex_kids hN h hp
  unfold kid
  split
  · exact ⟨E0, by omega, by omega⟩
  · exact ⟨E1, by omega, by omega⟩
theorem kid_e {N e k : Nat} : kid N e k = 2 * e ∨ kid N e k = 2 * e + 1 := by
  unfold kid
  split
  · exact Or.inl rfl
  · exact Or.inr rfl
/-- two steps below, one after the other -/
theorem Ok_f0 {N d e : Nat} {A B : BK} (he : 1 ≤ e) (h : Fr (2 * e) A B) (H : Ok N (row A) d (2 * e + 1)) : Ok N (row B) d (2 * e + 1) := Ok_c d _ (by omega) (fun x hx => h x (fun q => sub_x he q hx)) H
theorem Ok_f1 {N d e : Nat} {A B : BK} (he : 1 ≤ e) (h : Fr (2 * e + 1) A B) (H : Ok N (row A) d (2 * e)) : Ok N (row B) d (2 * e) := Ok_c d _ (by omega) (fun x hx => h x (fun q => sub_x he hx q)) H
theorem hv_f0 {N d e : Nat} {A B : BK} (he : 1 ≤ e) (h : Fr (2 * e) A B) (k : Nat) : hv N (row B) d (2 * e + 1) k = hv N (row A) d (2 * e + 1) k := hv_c d _ (by omega) (fun x hx => h x (fun q => sub_x he q hx)) k
theorem hv_f1 {N d e : Nat} {A B : BK} (he : 1 ≤ e) (h : Fr (2 * e + 1) A B) (k : Nat) : hv N (row B) d (2 * e) k = hv N (row A) d (2 * e) k := hv_c d _ (by omega) (fun x hx => h x (fun q => sub_x he hx q)) k
theorem Fr_e {e : Nat} {A B : BK} (he : 1 ≤ e) (h : Fr (2 * e) A B) : row B e = row A e := h e (fun q => by have := sub_le q; omega)
theorem Fr_e1 {e : Nat} {A B : BK} (he : 1 ≤ e) (h : Fr (2 * e + 1) A B) : row B e = row A e := h e (fun q => by have := sub_le q; omega)
theorem Fr_c2 {e : Nat} {B : BK} (h : ∀ x, x ≠ 2 * e → x ≠ 2 * e + 1 → row (bCatch2 B e) x = row B x) : Fr e B (bCatch2 B e) :=
  fun x hx => h x (fun q => hx (by rw [q]; exact sub_0 (sub_r _))) (fun q => hx (by rw [q]; exact sub_1 (sub_r _)))
theorem press_main {N a b : Nat} {fi la : Nat → Int32} {c : Int32} (hN : N < 65) (SC : SpC N fi la) (ha : a < 64) (hb : b < 64) (hc : 0 ≤ c) :
    ∀ (d : Nat) (B : BK) (e : Nat), Ex N e → 128 ≤ e * 2 ^ d → Ok N (row B) d e →
      Ok N (row (bPressFrom fi la (nI a) (nI b) c d B e)) d e ∧ Fr e B (bPressFrom fi la (nI a) (nI b) c d B e) ∧
      (∀ k, slo N e ≤ k → k < shi N e → hv N (row (bPressFrom fi la (nI a) (nI b) c d B e)) d e k = if a ≤ k ∧ k ≤ b then bMin (hv N (row B) d e k) c else hv N (row B) d e k) := by
  intro d
  induction d with
  | zero => intro B e hE hd; have := hE.2.1; simp at hd; omega
  | succ d ih =>
    intro B e hE hd H
    have he := hE.1
    rw [bPressFrom]
    by_cases c1 : (shi N e ≤ a ∨ b < slo N e) ∨ ¬ c < B.1 e
    · have t1 : bAp fi la e (nI a) (nI b) ∨ ¬ c < (bVisit B).1 e := c1.imp (c_ap hN SC hE ha hb).mpr id
      rw [if_pos t1]
      refine ⟨H, fun _ _ => rfl, fun k h1 h2 => ?_⟩
      show hv N (row B) (d + 1) e k = _
      split
      · rename_i q
        rcases c1 with z | z
        · omega
        · exact (bMin_r (Int32.le_trans (hv_le (d + 1) e k) (i_le z))).symm
      · rfl
    · have t1 : ¬ (bAp fi la e (nI a) (nI b) ∨ ¬ c < (bVisit B).1 e) := fun q => c1 (q.imp (c_ap hN SC hE ha hb).mp id)
      rw [if_neg t1]
      have hcg : c < B.1 e := Classical.not_not.mp (fun q => c1 (Or.inr q))
      by_cases c2 : ((a ≤ slo N e ∧ shi N e ≤ b + 1) ∧ ¬ c ≤ B.2.1 e) ∨ ¬ Pt N e
      · have t1 : (bWi fi la e (nI a) (nI b) ∧ ¬ c ≤ (bVisit B).2.1 e) ∨ ¬ bHp fi la e := c2.imp (fun q => ⟨(c_wi hN SC hE ha hb).mpr q.1, q.2⟩) (fun q z => q ((spC_hp hN SC he hE.2.1).mp z))
        rw [if_pos t1]
        have r1 : row (bPress (bVisit B) e c) e = rPress (row B e) c := row_p_s (bVisit B) e c
        have r2 : ∀ x, x ≠ e → row (bPress (bVisit B) e c) x = row B x := fun x hx => row_p_n (B := bVisit B) hx
        have hs : (row B e).2.1 < c := by
          rcases c2 with z | z
          · exact i_lt z.2
          · rw [H.2.2 z]
            exact Int32.lt_of_lt_of_le (show (-1 : Int32) < 0 by decide) hc
        refine ⟨Ok_p he H r1 r2 hs hcg hc, Fr_s r2, fun k h1 h2 => ?_⟩
        rw [hv_p he r1 r2 (Int32.le_of_lt hcg) k, if_pos]
        have c1' : ¬ (shi N e ≤ a ∨ b < slo N e) := fun q => c1 (Or.inl q)
        rcases c2 with z | z
        · omega
        · unfold Pt at z; omega
      · have t1 : ¬ ((bWi fi la e (nI a) (nI b) ∧ ¬ c ≤ (bVisit B).2.1 e) ∨ ¬ bHp fi la e) := fun q => c2 (q.imp (fun z => ⟨(c_wi hN SC hE ha hb).mp z.1, z.2⟩) (fun z w => z ((spC_hp hN SC he hE.2.1).mpr w)))
        rw [if_neg t1]
        have hp : Pt N e := Classical.not_not.mp (fun q => c2 (Or.inr q))
        obtain ⟨E0, E1, s1, s2, s3, s4, s5⟩ := Ex_kids hN hE hp
        obtain ⟨k1, k2, k3, k4, -, -⟩ := cat2 (B := bVisit B) he hp H
        have F0 := Fr_c2 k4
        obtain ⟨p1, p3, p4⟩ := ih (bCatch2 (bVisit B) e) (2 * e) E0 (pw_1 hd) k1
        obtain ⟨q1, q3, q4⟩ := ih _ (2 * e + 1) E1 (pw_2 hd) (Ok_f0 he p3 k2)
        have o0 := Ok_f1 he q3 p1
        obtain ⟨u1, u2⟩ := told hN hE hp hd o0 q1
        refine ⟨u1, ?_, fun k h1 h2 => ?_⟩
        · refine Fr_t (Fr_t (Fr_t (B := bCatch2 (bVisit B) e) F0 (Fr_0 p3)) (Fr_1 q3)) (Fr_s (fun x hx => row_t_n hx))
        · rw [u2 k h1 h2]
          have k3 := k3 k
          unfold kid at k3 ⊢
          by_cases z : k < shi N (2 * e)
          · rw [if_pos z] at k3 ⊢
            rw [hv_f1 he q3 k, p4 k (by omega) z, k3]
            rfl
          · rw [if_neg z] at k3 ⊢
            rw [q4 k (by omega) (by omega), hv_f0 he p3 k, k3]
            rfl
