/-! a column raised, and the questions -/
/-- a column raised -/
theorem raise_main {N kx : Nat} {fi la : Nat → Int32} {v : Int32} (hN : N < 65) (SC : SpC N fi la) (hkx : kx < 64) (hvp : 0 ≤ v) :
    ∀ (d : Nat) (B : BK) (e : Nat), Ex N e → 128 ≤ e * 2 ^ d → Ok N (row B) d e → slo N e ≤ kx → kx < shi N e →
        Ok N (row (bRaiseFrom fi la (nI kx) v d B e)) d e ∧ Fr e B (bRaiseFrom fi la (nI kx) v d B e) ∧
        (∀ k, slo N e ≤ k → k < shi N e → hv N (row (bRaiseFrom fi la (nI kx) v d B e)) d e k = if k = kx then v else hv N (row B) d e k) := by
  intro d
  induction d with
  | zero => intro B e hE hd; have := hE.2.1; simp at hd; omega
  | succ d ih =>
    intro B e hE hd H hx1 hx2
    have he := hE.1
    by_cases hp : Pt N e
    · obtain ⟨E0, E1, s1, s2, s3, s4, s5⟩ := Ex_kids hN hE hp
      obtain ⟨k1, k2, k3, k4, -, -⟩ := cat2 (B := bVisit B) he hp H
      have F0 := Fr_c2 k4
      obtain ⟨i1, i2, i3⟩ := kid_in hN hE hp hx1 hx2
      have hk1 : bKid la (nI kx) e = kid N e kx := c_kid hN (fun e a b => (SC e a b).2) E0 hkx
      have hok : Ok N (row (bCatch2 (bVisit B) e)) d (kid N e kx) := by
        rcases kid_e (N := N) (e := e) (k := kx) with q | q
        · rw [q]; exact k1
        · rw [q]; exact k2
      have hfu : 128 ≤ kid N e kx * 2 ^ d := by
        rcases kid_e (N := N) (e := e) (k := kx) with q | q
        · rw [q]; exact pw_1 hd
        · rw [q]; exact pw_2 hd
      obtain ⟨p1, p3, p4⟩ := ih (bCatch2 (bVisit B) e) (kid N e kx) i1 hfu hok i2 i3
      have hcl : bRaiseFrom fi la (nI kx) v (d + 1) B e = bTell (bRaiseFrom fi la (nI kx) v d (bCatch2 (bVisit B) e) (kid N e kx)) e := by
        rw [bRaiseFrom, if_pos ((spC_hp hN SC he hE.2.1).mpr hp), hk1]
      rw [hcl]
      generalize bRaiseFrom fi la (nI kx) v d (bCatch2 (bVisit B) e) (kid N e kx) = X at p1 p3 p4 ⊢
      have o0 : Ok N (row X) d (2 * e) := by
        rcases kid_e (N := N) (e := e) (k := kx) with q | q
        · rw [q] at p1; exact p1
        · rw [q] at p3; exact Ok_f1 he p3 k1
      have o1 : Ok N (row X) d (2 * e + 1) := by
        rcases kid_e (N := N) (e := e) (k := kx) with q | q
        · rw [q] at p3; exact Ok_f0 he p3 k2
        · rw [q] at p1; exact p1
      obtain ⟨u1, u2⟩ := told hN hE hp hd o0 o1
      refine ⟨u1, ?_, fun k h1 h2 => ?_⟩
      · refine Fr_t (Fr_t (B := bCatch2 (bVisit B) e) F0 ?_) (Fr_s (fun x hx => row_t_n hx))
        rcases kid_e (N := N) (e := e) (k := kx) with q | q
        · rw [q] at p3; exact Fr_0 p3
        · rw [q] at p3; exact Fr_1 p3
      · rw [u2 k h1 h2]
        have k3 := k3 k
        by_cases z : kid N e k = kid N e kx
        · obtain ⟨-, y1, y2⟩ := kid_in hN hE hp h1 h2
          rw [z] at y1 y2
          rw [z, p4 k y1 y2, ← z, k3]
          rfl
        · have z2 : k ≠ kx := fun q => z (by rw [q])
          rw [if_neg z2]
          have k3' : hv N (row (bCatch2 (bVisit B) e)) d (kid N e k) k = hv N (row B) (d + 1) e k := k3
          rw [← k3']
          rcases kid_e (N := N) (e := e) (k := kx) with q | q
          · rcases kid_e (N := N) (e := e) (k := k) with r | r
            · exact absurd (r.trans q.symm) z
            · rw [r]; rw [q] at p3; exact hv_f0 he p3 k
          · rcases kid_e (N := N) (e := e) (k := k) with r | r
            · rw [r]; rw [q] at p3; exact hv_f1 he p3 k
            · exact absurd (r.trans q.symm) z
    · have hcl : bRaiseFrom fi la (nI kx) v (d + 1) B e = bSet (bVisit B) e v := by
        rw [bRaiseFrom, if_neg (fun q => hp ((spC_hp hN SC he hE.2.1).mp q))]
      have hlo : slo N e = kx ∧ shi N e = kx + 1 := by unfold Pt at hp; omega
      obtain ⟨a1, a2, a3, a4, a5, a6, a7, a8⟩ := H.1
      have hg : hv N (row B) (d + 1) e kx = (row B e).1 := by rw [hv, if_neg hp]
      rw [hlo.1, hlo.2, show kx + 1 - kx = 1 by omega] at a5
      have hm : (row B e).2.2.1 = 1 := by
        rw [a5]
        show (0 : Int32) + (if hv N (row B) (d + 1) e kx = (row B e).1 then 1 else 0) = 1
        rw [if_pos hg]
        rfl
      have hs : (row B e).2.1 = -1 := H.2.2 hp
      rw [hcl]
      have r1 : row (bSet (bVisit B) e v) e = (v, -1, 1, v) := by
        rw [row_s_s]
        show (v, (row B e).2.1, (row B e).2.2.1, v) = _
        rw [hs, hm]
      have r2 : ∀ x, x ≠ e → row (bSet (bVisit B) e v) x = row B x := fun x hx => row_s_n (B := bVisit B) hx
      have hh : ∀ k, hv N (row (bSet (bVisit B) e v)) (d + 1) e k = v := by
        intro k
        rw [hv, if_neg hp, r1]
      refine ⟨⟨?_, fun q => absurd q hp, fun _ => by rw [r1]⟩, Fr_s r2, fun k h1 h2 => ?_⟩
      · rw [r1, hlo.1, hlo.2]
        refine ⟨hvp, Int32.le_refl _, Int32.lt_of_lt_of_le (show (-1 : Int32) < 0 by decide) hvp, fun k _ _ => Or.inl (hh k), ?_, ?_, ⟨kx, Nat.le_refl _, Nat.lt_succ_self _, hh kx⟩, Or.inl rfl⟩
        · rw [show kx + 1 - kx = 1 by omega]
          show (1 : Int32) = 0 + (if hv N (row (bSet (bVisit B) e v)) (d + 1) e kx = v then 1 else 0)
          rw [if_pos (hh kx)]
          rfl
        · rw [show kx + 1 - kx = 1 by omega]
          show v = 0 + hv N (row (bSet (bVisit B) e v)) (d + 1) e kx
          rw [hh kx]
          grind
      · rw [hh k, if_pos (by omega)]
/-- a question asked of the book -/
theorem sum_main {N a b : Nat} {fi la : Nat → Int32} (hN : N < 65) (SC : SpC N fi la) (ha : a < 64) (hb : b < 64) :
    ∀ (d : Nat) (B : BK) (e : Nat), Ex N e → 128 ≤ e * 2 ^ d → Ok N (row B) d e →
      (bSumFrom fi la (nI a) (nI b) d B e).1 = gSum (fun k => if a ≤ k ∧ k ≤ b then hv N (row B) d e k else 0) (slo N e) (shi N e - slo N e) ∧ Ok N (row (bSumFrom fi la (nI a) (nI b) d B e).2) d e ∧ Fr e B (bSumFrom fi la (nI a) (nI b) d B e).2 ∧ (row (bSumFrom fi la (nI a) (nI b) d B e).2 e).2.1 = (row B e).2.1 ∧
      (∀ k, slo N e ≤ k → k < shi N e → hv N (row (bSumFrom fi la (nI a) (nI b) d B e).2) d e k = hv N (row B) d e k) := by
  intro d
  induction d with
  | zero => intro B e hE hd; have := hE.2.1; simp at hd; omega
  | succ d ih =>
    intro B e hE hd H
    have he := hE.1
    rw [bSumFrom]
    by_cases c1 : shi N e ≤ a ∨ b < slo N e
    · rw [if_pos ((c_ap hN SC hE ha hb).mpr c1)]
      exact ⟨(gSum_z (fun k _ _ => if_neg (by omega))).symm, H, fun _ _ => rfl, rfl, fun _ _ _ => rfl⟩
    · rw [if_neg (fun q => c1 ((c_ap hN SC hE ha hb).mp q))]
      by_cases c2 : (a ≤ slo N e ∧ shi N e ≤ b + 1)
      · rw [if_pos (Or.inl ((c_wi hN SC hE ha hb).mpr c2))]
        refine ⟨?_, H, fun _ _ => rfl, rfl, fun _ _ _ => rfl⟩
        show B.2.2.2.1 e = _
        rw [show B.2.2.2.1 e = gSum (hv N (row B) (d + 1) e) (slo N e) (shi N e - slo N e) from H.1.2.2.2.2.2.1]
        exact gSum_c (fun k h1 h2 => (if_pos (by omega)).symm)
      · have hp : Pt N e := by have := hE.2.2; unfold Pt; omega
        have t1 : ¬ (bWi fi la e (nI a) (nI b) ∨ ¬ bHp fi la e) := fun q => q.elim (fun z => c2 ((c_wi hN SC hE ha hb).mp z)) (fun z => z ((spC_hp hN SC he hE.2.1).mpr hp))
        rw [if_neg t1]
        obtain ⟨E0, E1, s1, s2, s3, s4, s5⟩ := Ex_kids hN hE hp
        obtain ⟨k1, k2, k3, k4, k5, k6⟩ := cat2 (B := bVisit B) he hp H
        have F0 := Fr_c2 k4
        obtain ⟨p0, p2, p3, p5, p4⟩ := ih (bCatch2 (bVisit B) e) (2 * e) E0 (pw_1 hd) k1
        obtain ⟨q0, q2, q3, q5, q4⟩ := ih _ (2 * e + 1) E1 (pw_2 hd) (Ok_f0 he p3 k2)
        have o0 := Ok_f1 he q3 p2
        have re : row (bSumFrom fi la (nI a) (nI b) d (bSumFrom fi la (nI a) (nI b) d (bCatch2 (bVisit B) e) (2 * e)).2 (2 * e + 1)).2 e = row B e := (Fr_e1 he q3).trans ((Fr_e he p3).trans (k4 e (by omega) (by omega)))
        have S0 : (row (bSumFrom fi la (nI a) (nI b) d (bSumFrom fi la (nI a) (nI b) d (bCatch2 (bVisit B) e) (2 * e)).2 (2 * e + 1)).2 (2 * e)).2.1 ≤ (row B e).2.1 := by
          rw [q3 (2 * e) (fun z => by have := sub_le z; omega), p5]; exact k5
        have S1 : (row (bSumFrom fi la (nI a) (nI b) d (bSumFrom fi la (nI a) (nI b) d (bCatch2 (bVisit B) e) (2 * e)).2 (2 * e + 1)).2 (2 * e + 1)).2.1 ≤ (row B e).2.1 := by
          rw [q5, p3 (2 * e + 1) (fun z => sub_x he z (sub_r _))]; exact k6
        have hk : ∀ k, slo N e ≤ k → k < shi N e → hv N (row (bSumFrom fi la (nI a) (nI b) d (bSumFrom fi la (nI a) (nI b) d (bCatch2 (bVisit B) e) (2 * e)).2 (2 * e + 1)).2) d (kid N e k) k = hv N (row B) (d + 1) e k := by
          intro k h1 h2
          have k3 := k3 k
          unfold kid at k3 ⊢
          by_cases z : k < shi N (2 * e)
          · rw [if_pos z] at k3 ⊢
            rw [hv_f1 he q3 k, p4 k (by omega) z, k3]
            rfl
          · rw [if_neg z] at k3 ⊢
            rw [q4 k (by omega) (by omega), hv_f0 he p3 k, k3]
            rfl
        obtain ⟨u1, u2⟩ := untold (B := B) hp H re o0 q2 S0 S1 hk
        refine ⟨?_, u1, Fr_t (Fr_t (B := bCatch2 (bVisit B) e) F0 (Fr_0 p3)) (Fr_1 q3), by rw [re], u2⟩
        rw [gSum_sp (fun k => if a ≤ k ∧ k ≤ b then hv N (row B) (d + 1) e k else 0) (show slo N e ≤ shi N (2 * e) by omega) (show shi N (2 * e) ≤ shi N e by omega)]
        have v0 : (bSumFrom fi la (nI a) (nI b) d (bCatch2 (bVisit B) e) (2 * e)).1 = gSum (fun k => if a ≤ k ∧ k ≤ b then hv N (row B) (d + 1) e k else 0) (slo N e) (shi N (2 * e) - slo N e) := by
          rw [p0, s1]
          refine gSum_c (fun k h1 h2 => ?_)
          have k3 := k3 k
          unfold kid at k3
          rw [if_pos (by omega)] at k3
          rw [k3]
          rfl
        have v1 : (bSumFrom fi la (nI a) (nI b) d (bSumFrom fi la (nI a) (nI b) d (bCatch2 (bVisit B) e) (2 * e)).2 (2 * e + 1)).1 = gSum (fun k => if a ≤ k ∧ k ≤ b then hv N (row B) (d + 1) e k else 0) (shi N (2 * e)) (shi N e - shi N (2 * e)) := by
          rw [q0, s3, ← s2]
          refine gSum_c (fun k h1 h2 => ?_)
          have k3 := k3 k
          unfold kid at k3
          rw [if_neg (by omega)] at k3
          rw [hv_f0 he p3 k, k3]
          rfl
        rw [← v0, ← v1]
/-- a question asked of the book -/
theorem top_main {N a b : Nat} {fi la : Nat → Int32} (hN : N < 65) (SC : SpC N fi la) (ha : a < 64) (hb : b < 64) :
    ∀ (d : Nat) (B : BK) (e : Nat), Ex N e → 128 ≤ e * 2 ^ d → Ok N (row B) d e →
      (bTopFrom fi la (nI a) (nI b) d B e).1 = gTop (fun k => if a ≤ k ∧ k ≤ b then hv N (row B) d e k else -1) (slo N e) (shi N e - slo N e) ∧ Ok N (row (bTopFrom fi la (nI a) (nI b) d B e).2) d e ∧ Fr e B (bTopFrom fi la (nI a) (nI b) d B e).2 ∧ (row (bTopFrom fi la (nI a) (nI b) d B e).2 e).2.1 = (row B e).2.1 ∧
      (∀ k, slo N e ≤ k → k < shi N e → hv N (row (bTopFrom fi la (nI a) (nI b) d B e).2) d e k = hv N (row B) d e k) := by
  intro d
  induction d with
  | zero => intro B e hE hd; have := hE.2.1; simp at hd; omega
  | succ d ih =>
    intro B e hE hd H
    have he := hE.1
    rw [bTopFrom]
    by_cases c1 : shi N e ≤ a ∨ b < slo N e
    · rw [if_pos ((c_ap hN SC hE ha hb).mpr c1)]
      exact ⟨(gTop_z (fun k _ _ => if_neg (by omega))).symm, H, fun _ _ => rfl, rfl, fun _ _ _ => rfl⟩
    · rw [if_neg (fun q => c1 ((c_ap hN SC hE ha hb).mp q))]
      by_cases c2 : (a ≤ slo N e ∧ shi N e ≤ b + 1)
      · rw [if_pos (Or.inl ((c_wi hN SC hE ha hb).mpr c2))]
        have H1 := H.1
        have hB : gTop (fun k => if a ≤ k ∧ k ≤ b then hv N (row B) (d + 1) e k else -1) (slo N e) (shi N e - slo N e) = B.1 e := by
          refine gTop_eq (Int32.le_trans (show (-1 : Int32) ≤ 0 by decide) H1.1) (fun k h1 h2 => ?_) ?_
          · rw [if_pos (by omega)]
            exact hv_le (d + 1) e k
          · obtain ⟨k, i, j, w⟩ := H1.2.2.2.2.2.2.1
            exact ⟨k, i, by omega, by rw [if_pos (by omega)]; exact w⟩
        exact ⟨hB.symm, H, fun _ _ => rfl, rfl, fun _ _ _ => rfl⟩
      · have hp : Pt N e := by have := hE.2.2; unfold Pt; omega
        have t1 : ¬ (bWi fi la e (nI a) (nI b) ∨ ¬ bHp fi la e) := fun q => q.elim (fun z => c2 ((c_wi hN SC hE ha hb).mp z)) (fun z => z ((spC_hp hN SC he hE.2.1).mpr hp))
        rw [if_neg t1]
        obtain ⟨E0, E1, s1, s2, s3, s4, s5⟩ := Ex_kids hN hE hp
        obtain ⟨k1, k2, k3, k4, k5, k6⟩ := cat2 (B := bVisit B) he hp H
        have F0 := Fr_c2 k4
        obtain ⟨p0, p2, p3, p5, p4⟩ := ih (bCatch2 (bVisit B) e) (2 * e) E0 (pw_1 hd) k1
        obtain ⟨q0, q2, q3, q5, q4⟩ := ih _ (2 * e + 1) E1 (pw_2 hd) (Ok_f0 he p3 k2)
        have o0 := Ok_f1 he q3 p2
        have re : row (bTopFrom fi la (nI a) (nI b) d (bTopFrom fi la (nI a) (nI b) d (bCatch2 (bVisit B) e) (2 * e)).2 (2 * e + 1)).2 e = row B e := (Fr_e1 he q3).trans ((Fr_e he p3).trans (k4 e (by omega) (by omega)))
        have S0 : (row (bTopFrom fi la (nI a) (nI b) d (bTopFrom fi la (nI a) (nI b) d (bCatch2 (bVisit B) e) (2 * e)).2 (2 * e + 1)).2 (2 * e)).2.1 ≤ (row B e).2.1 := by
          rw [q3 (2 * e) (fun z => by have := sub_le z; omega), p5]; exact k5
        have S1 : (row (bTopFrom fi la (nI a) (nI b) d (bTopFrom fi la (nI a) (nI b) d (bCatch2 (bVisit B) e) (2 * e)).2 (2 * e + 1)).2 (2 * e + 1)).2.1 ≤ (row B e).2.1 := by
          rw [q5, p3 (2 * e + 1) (fun z => sub_x he z (sub_r _))]; exact k6
        have hk : ∀ k, slo N e ≤ k → k < shi N e → hv N (row (bTopFrom fi la (nI a) (nI b) d (bTopFrom fi la (nI a) (nI b) d (bCatch2 (bVisit B) e) (2 * e)).2 (2 * e + 1)).2) d (kid N e k) k = hv N (row B) (d + 1) e k := by
          intro k h1 h2
          have k3 := k3 k
          unfold kid at k3 ⊢
          by_cases z : k < shi N (2 * e)
          · rw [if_pos z] at k3 ⊢
            rw [hv_f1 he q3 k, p4 k (by omega) z, k3]
            rfl
          · rw [if_neg z] at k3 ⊢
            rw [q4 k (by omega) (by omega), hv_f0 he p3 k, k3]
            rfl
        obtain ⟨u1, u2⟩ := untold (B := B) hp H re o0 q2 S0 S1 hk
        refine ⟨?_, u1, Fr_t (Fr_t (B := bCatch2 (bVisit B) e) F0 (Fr_0 p3)) (Fr_1 q3), by rw [re], u2⟩
        rw [gTop_sp (fun k => if a ≤ k ∧ k ≤ b then hv N (row B) (d + 1) e k else -1) (show slo N e ≤ shi N (2 * e) by omega) (show shi N (2 * e) ≤ shi N e by omega)]
        have v0 : (bTopFrom fi la (nI a) (nI b) d (bCatch2 (bVisit B) e) (2 * e)).1 = gTop (fun k => if a ≤ k ∧ k ≤ b then hv N (row B) (d + 1) e k else -1) (slo N e) (shi N (2 * e) - slo N e) := by
          rw [p0, s1]
          refine gTop_c (fun k h1 h2 => ?_)
          have k3 := k3 k
          unfold kid at k3
          rw [if_pos (by omega)] at k3
          rw [k3]
          rfl
        have v1 : (bTopFrom fi la (nI a) (nI b) d (bTopFrom fi la (nI a) (nI b) d (bCatch2 (bVisit B) e) (2 * e)).2 (2 * e + 1)).1 = gTop (fun k => if a ≤ k ∧ k ≤ b then hv N (row B) (d + 1) e k else -1) (shi N (2 * e)) (shi N e - shi N (2 * e)) := by
          rw [q0, s3, ← s2]
          refine gTop_c (fun k h1 h2 => ?_)
          have k3 := k3 k
          unfold kid at k3
          rw [if_neg (by omega)] at k3
          rw [hv_f0 he p3 k, k3]
          rfl
        rw [← v0, ← v1]

/-! how many entries a call visits -/
def Cn (n : Nat) (A B : BK) : Prop := B.2.2.2.2.1 = A.2.2.2.2.1 + nI n ∧ B.2.2.2.2.2.1 = A.2.2.2.2.2.1 + nI n ∧ B.2.2.2.2.2.2 = A.2.2.2.2.2.2
theorem Cn_v (B : BK) : Cn 1 B (bVisit B) := ⟨rfl, rfl, rfl⟩
theorem Cn_t {n m : Nat} {A B C : BK} (h1 : Cn n A B) (h2 : Cn m B C) : Cn (n + m) A C :=
  ⟨by rw [h2.1, h1.1, Int32.add_assoc, nI_add], by rw [h2.2.1, h1.2.1, Int32.add_assoc, nI_add], h2.2.2.trans h1.2.2⟩
theorem Cn_s {n : Nat} {A B C : BK} (h1 : Cn n A B) (h2 : C.2.2.2.2 = B.2.2.2.2) : Cn n A C := by
  unfold Cn
  rw [h2]
  exact h1
theorem cs_p (B : BK) (e : Nat) (c : Int32) : (bPress B e c).2.2.2.2 = B.2.2.2.2 := rfl
theorem cs_t (B : BK) (e : Nat) : (bTell B e).2.2.2.2 = B.2.2.2.2 := rfl
theorem cs_c (B : BK) (e : Nat) : (bCatch B e).2.2.2.2 = B.2.2.2.2 := by unfold bCatch; split <;> rfl
theorem cs_c2 (B : BK) (e : Nat) : (bCatch2 B e).2.2.2.2 = B.2.2.2.2 := (cs_c _ _).trans (cs_c _ _)
theorem cn_press {N : Nat} {fi la : Nat → Int32} {a b c : Int32} (hN : N < 65) (SC : SpC N fi la) : ∀ (d : Nat) (B : BK) (e : Nat), Ex N e → ∃ n, Cn n B (bPressFrom fi la a b c d B e) ∧ n + 1 ≤ 2 * (shi N e - slo N e) ∧ (0 < d → 1 ≤ n) := by
  intro d
  induction d with
  | zero => intro B e hE; exact ⟨0, ⟨(Int32.add_zero _).symm, (Int32.add_zero _).symm, rfl⟩, by have := hE.2.2; omega, fun h => absurd h (by decide)⟩
  | succ d ih =>
    intro B e hE
    have hw := hE.2.2
    rw [bPressFrom]
    split
    · exact ⟨1, Cn_v B, by omega, fun _ => Nat.le_refl _⟩
    · split
      · exact ⟨1, Cn_s (Cn_v B) (cs_p _ _ _), by omega, fun _ => Nat.le_refl _⟩
      · rename_i h1 h2
        have hp : Pt N e := (spC_hp hN SC hE.1 hE.2.1).mp (Classical.not_not.mp (fun q => h2 (Or.inr q)))
        obtain ⟨E0, E1, s1, s2, s3, s4, s5⟩ := Ex_kids hN hE hp
        obtain ⟨n0, c0, l0, -⟩ := ih (bCatch2 (bVisit B) e) (2 * e) E0
        obtain ⟨n1, c1, l1, -⟩ := ih (bPressFrom fi la a b c d (bCatch2 (bVisit B) e) (2 * e)) (2 * e + 1) E1
        exact ⟨1 + n0 + n1, Cn_s (Cn_t (Cn_t (Cn_s (Cn_v B) (cs_c2 (bVisit B) e)) c0) c1) (cs_t _ _), by omega, fun _ => by omega⟩
theorem cn_raise {fi la : Nat → Int32} {x v : Int32} : ∀ (d : Nat) (B : BK) (e : Nat), ∃ n, Cn n B (bRaiseFrom fi la x v d B e) ∧ n ≤ d ∧ (0 < d → 1 ≤ n) := by
  intro d
  induction d with
  | zero => intro B e; exact ⟨0, ⟨(Int32.add_zero _).symm, (Int32.add_zero _).symm, rfl⟩, Nat.le_refl _, fun h => h⟩
  | succ d ih =>
    intro B e
    rw [bRaiseFrom]
    split
    · obtain ⟨n0, c0, l0, -⟩ := ih (bCatch2 (bVisit B) e) (bKid la x e)
      exact ⟨1 + n0, Cn_s (Cn_t (Cn_s (Cn_v B) (cs_c2 (bVisit B) e)) c0) (cs_t _ _), by omega, fun _ => by omega⟩
    · exact ⟨1, Cn_s (Cn_v B) rfl, by omega, fun _ => Nat.le_refl _⟩
theorem cn_sum {N : Nat} {fi la : Nat → Int32} {a b : Int32} (hN : N < 65) (SC : SpC N fi la) : ∀ (d : Nat) (B : BK) (e : Nat), Ex N e → ∃ n, Cn n B (bSumFrom fi la a b d B e).2 ∧ n + 1 ≤ 2 * (shi N e - slo N e) ∧ (0 < d → 1 ≤ n) := by
  intro d
  induction d with
  | zero => intro B e hE; exact ⟨0, ⟨(Int32.add_zero _).symm, (Int32.add_zero _).symm, rfl⟩, by have := hE.2.2; omega, fun h => absurd h (by decide)⟩
  | succ d ih =>
    intro B e hE
    have hw := hE.2.2
    rw [bSumFrom]
    split
    · exact ⟨1, Cn_v B, by omega, fun _ => Nat.le_refl _⟩
    · split
      · exact ⟨1, Cn_v B, by omega, fun _ => Nat.le_refl _⟩
      · rename_i h1 h2
        have hp : Pt N e := (spC_hp hN SC hE.1 hE.2.1).mp (Classical.not_not.mp (fun q => h2 (Or.inr q)))
        obtain ⟨E0, E1, s1, s2, s3, s4, s5⟩ := Ex_kids hN hE hp
        obtain ⟨n0, c0, l0, -⟩ := ih (bCatch2 (bVisit B) e) (2 * e) E0
        obtain ⟨n1, c1, l1, -⟩ := ih (bSumFrom fi la a b d (bCatch2 (bVisit B) e) (2 * e)).2 (2 * e + 1) E1
        exact ⟨1 + n0 + n1, Cn_t (Cn_t (Cn_s (Cn_v B) (cs_c2 (bVisit B) e)) c0) c1, by omega, fun _ => by omega⟩
theorem cn_top {N : Nat} {fi la : Nat → Int32} {a b : Int32} (hN : N < 65) (SC : SpC N fi la) : ∀ (d : Nat) (B : BK) (e : Nat), Ex N e → ∃ n, Cn n B (bTopFrom fi la a b d B e).2 ∧ n + 1 ≤ 2 * (shi N e - slo N e) ∧ (0 < d → 1 ≤ n) := by
  intro d
  induction d with
  | zero => intro B e hE; exact ⟨0, ⟨(Int32.add_zero _).symm, (Int32.add_zero _).symm, rfl⟩, by have := hE.2.2; omega, fun h => absurd h (by decide)⟩
  | succ d ih =>
    intro B e hE
    have hw := hE.2.2
    rw [bTopFrom]
    split
    · exact ⟨1, Cn_v B, by omega, fun _ => Nat.le_refl _⟩
    · split
      · exact ⟨1, Cn_v B, by omega, fun _ => Nat.le_refl _⟩
      · rename_i h1 h2
        have hp : Pt N e := (spC_hp hN SC hE.1 hE.2.1).mp (Classical.not_not.mp (fun q => h2 (Or.inr q)))
        obtain ⟨E0, E1, s1, s2, s3, s4, s5⟩ := Ex_kids hN hE hp
        obtain ⟨n0, c0, l0, -⟩ := ih (bCatch2 (bVisit B) e) (2 * e) E0
        obtain ⟨n1, c1, l1, -⟩ := ih (bTopFrom fi la a b d (bCatch2 (bVisit B) e) (2 * e)).2 (2 * e + 1) E1
        exact ⟨1 + n0 + n1, Cn_t (Cn_t (Cn_s (Cn_v B) (cs_c2 (bVisit B) e)) c0) c1, by omega, fun _ => by omega⟩
/-! no entry's greatest height is more than 1000 -/
def Bd (g : Nat → Int32) : Prop := ∀ e, 1 ≤ e → e < 128 → g e ≤ 1000
theorem bd_u {g : Nat → Int32} {e : Nat} {v : Int32} (h : Bd g) (hv : v ≤ 1000) : Bd (upd g e v) := by
  intro x h1 h2
  by_cases q : x = e
  · subst q; rw [pk_us]; exact hv
  · rw [pk_un q]; exact h x h1 h2
theorem bd_c {B : BK} {c : Nat} (h : Bd B.1) (h1 : 2 ≤ c) (h2 : c < 128) : Bd (bCatch B c).1 := by
  unfold bCatch
  split
  · exact bd_u h (h _ (by omega) (by omega))
  · exact h
theorem bd_c2 {B : BK} {e : Nat} (h : Bd B.1) (h1 : 1 ≤ e) (h2 : e < 64) : Bd (bCatch2 B e).1 := bd_c (bd_c h (by omega) (by omega)) (by omega) (by omega)
theorem bd_t {B : BK} {e : Nat} (h : Bd B.1) (h1 : 1 ≤ e) (h2 : e < 64) : Bd (bTell B e).1 := bd_u h (bMax_le (h _ (by omega) (by omega)) (h _ (by omega) (by omega)))
theorem bd_press {fi la : Nat → Int32} {a b c : Int32} : ∀ (d : Nat) (B : BK) (e : Nat), 1 ≤ e → e < 128 → Bd B.1 → Bd (bPressFrom fi la a b c d B e).1 := by
  intro d
  induction d with
  | zero => intro B e _ _ h; exact h
  | succ d ih =>
    intro B e h1 h2 h
    rw [bPressFrom]
    split
    · exact h
    · rename_i q1
      split
      · exact bd_u h (Int32.le_trans (Int32.le_of_lt (Classical.not_not.mp (fun q => q1 (Or.inr q)))) (h e h1 h2))
      · rename_i q2
        have h3 := bHp_lt h2 (Classical.not_not.mp (fun q => q2 (Or.inr q)))
        exact bd_t (ih _ _ (by omega) (by omega) (ih _ _ (by omega) (by omega) (bd_c2 (B := bVisit B) h h1 h3))) h1 h3
theorem bd_raise {fi la : Nat → Int32} {x v : Int32} (hv : v ≤ 1000) : ∀ (d : Nat) (B : BK) (e : Nat), 1 ≤ e → e < 128 → Bd B.1 → Bd (bRaiseFrom fi la x v d B e).1 := by
  intro d
  induction d with
  | zero => intro B e _ _ h; exact h
  | succ d ih =>
    intro B e h1 h2 h
    rw [bRaiseFrom]
    split
    · rename_i q2
      have h3 := bHp_lt h2 q2
      have hk : 1 ≤ bKid la x e ∧ bKid la x e < 128 := by unfold bKid; split <;> omega
      exact bd_t (ih _ _ hk.1 hk.2 (bd_c2 (B := bVisit B) h h1 h3)) h1 h3
    · exact bd_u h hv
theorem bd_sum {fi la : Nat → Int32} {a b : Int32} : ∀ (d : Nat) (B : BK) (e : Nat), 1 ≤ e → e < 128 → Bd B.1 → Bd (bSumFrom fi la a b d B e).2.1 := by
  intro d
  induction d with
  | zero => intro B e _ _ h; exact h
  | succ d ih =>
    intro B e h1 h2 h
    rw [bSumFrom]
    split
    · exact h
    · split
      · exact h
      · rename_i q2
        have h3 := bHp_lt h2 (Classical.not_not.mp (fun q => q2 (Or.inr q)))
        exact ih _ _ (by omega) (by omega) (ih _ _ (by omega) (by omega) (bd_c2 (B := bVisit B) h h1 h3))
theorem bd_top {fi la : Nat → Int32} {a b : Int32} : ∀ (d : Nat) (B : BK) (e : Nat), 1 ≤ e → e < 128 → Bd B.1 → Bd (bTopFrom fi la a b d B e).2.1 := by
  intro d
  induction d with
  | zero => intro B e _ _ h; exact h
  | succ d ih =>
    intro B e h1 h2 h
    rw [bTopFrom]
    split
    · exact h
    · split
      · exact h
      · rename_i q2
        have h3 := bHp_lt h2 (Classical.not_not.mp (fun q => q2 (Or.inr q)))
        exact ih _ _ (by omega) (by omega) (ih _ _ (by omega) (by omega) (bd_c2 (B := bVisit B) h h1 h3))
