/-! a column raised, and the questions -/
theorem bMax_m {t : Int32} (h : 0 ≤ t) : bMax t (-1) = t := by
  rw [Int32.le_iff_toInt_le] at h
  rw [← Int32.toInt_inj, bMax_i]
  have e0 : (-1 : Int32).toInt = -1 := rfl
  have e1 : (0 : Int32).toInt = 0 := rfl
  omega
theorem bMax_0 {t x : Int32} (h : 0 ≤ t) : 0 ≤ bMax t x := by
  rw [Int32.le_iff_toInt_le] at h ⊢
  rw [bMax_i]
  omega
theorem bMax_0r {t x : Int32} (h : 0 ≤ x) : 0 ≤ bMax t x := by
  rw [Int32.le_iff_toInt_le] at h ⊢
  rw [bMax_i]
  omega
theorem bMax_as (x y z : Int32) : bMax (bMax x y) z = bMax x (bMax y z) := by rw [← Int32.toInt_inj, bMax_i, bMax_i, bMax_i, bMax_i]; omega
theorem bMax_f (t y : Int32) : (if y ≤ t then t else y) = bMax t y := by
  rw [← Int32.toInt_inj, bMax_i]
  split
  · rename_i h; rw [Int32.le_iff_toInt_le] at h; omega
  · rename_i h; rw [Int32.le_iff_toInt_le] at h; omega
/-- a column raised -/
theorem raise_main {N kx : Nat} {fi la mf ml : Nat → Int32} {w : Int32} (hN : N < 65) (SC : SpC N fi la) (SM : SpM N mf ml) (hkx : kx < 64) :
    ∀ (d : Nat) (B M : BK) (e : Nat) (v : Int32), Ex N e → 128 ≤ e * 2 ^ d → Ok N (row B) d e → Ag N (bVisit B) M → slo N e ≤ kx → kx < shi N e → v = hv N (row B) d e kx + w → 0 ≤ v →
      ∃ (M2 : BK) (j : Nat), j ≤ d ∧ (∀ n, mUps (n + j) (mAdd (mDown mf ml (nI kx) d M e).1 (mDown mf ml (nI kx) d M e).2 w) (mDown mf ml (nI kx) d M e).2 = mUps n M2 e) ∧
        Ok N (row (bRaiseFrom fi la (nI kx) v d B e)) d e ∧ Ag N (bRaiseFrom fi la (nI kx) v d B e) M2 ∧ Fr e B (bRaiseFrom fi la (nI kx) v d B e) ∧
        (∀ k, slo N e ≤ k → k < shi N e → hv N (row (bRaiseFrom fi la (nI kx) v d B e)) d e k = if k = kx then v else hv N (row B) d e k) := by
  intro d
  induction d with
  | zero => intro B M e v hE hd; have := hE.2.1; simp at hd; omega
  | succ d ih =>
    intro B M e v hE hd H A hx1 hx2 hv0 hvp
    have he := hE.1
    by_cases hp : Pt N e
    · obtain ⟨E0, E1, s1, s2, s3, s4, s5⟩ := Ex_kids hN hE hp
      obtain ⟨k1, k2, k3, k4, -, -⟩ := cat2 (B := bVisit B) he hp H
      have F0 := Fr_c2 k4
      have A0 := ag_v (ag_c2 A hE E0 E1)
      obtain ⟨i1, i2, i3⟩ := kid_in hN hE hp hx1 hx2
      have hk1 : bKid la (nI kx) e = kid N e kx := c_kid hN (fun e a b => (SC e a b).2) E0 hkx
      have hk2 : bKid ml (nI kx) e = kid N e kx := c_kid hN (fun e a b => (SM e a b).2) E0 hkx
      have hok : Ok N (row (bCatch2 (bVisit B) e)) d (kid N e kx) := by
        rcases kid_e (N := N) (e := e) (k := kx) with q | q
        · rw [q]; exact k1
        · rw [q]; exact k2
      have hfu : 128 ≤ kid N e kx * 2 ^ d := by
        rcases kid_e (N := N) (e := e) (k := kx) with q | q
        · rw [q]; exact pw_1 hd
        · rw [q]; exact pw_2 hd
      obtain ⟨M2, j, j1, j2, p1, p2, p3, p4⟩ := ih (bCatch2 (bVisit B) e) (bVisit (mCatch2 M e)) (kid N e kx) v i1 hfu hok A0 i2 i3 (by rw [k3 kx]; exact hv0) hvp
      have hcl : bRaiseFrom fi la (nI kx) v (d + 1) B e = bTell (bRaiseFrom fi la (nI kx) v d (bCatch2 (bVisit B) e) (kid N e kx)) e := by
        rw [bRaiseFrom, if_pos ((spC_hp hN SC he hE.2.1).mpr hp), hk1]
      have hmo : mDown mf ml (nI kx) (d + 1) M e = mDown mf ml (nI kx) d (bVisit (mCatch2 M e)) (kid N e kx) := by
        rw [mDown, if_pos (fun q => (m_pt hN SM hE).mp q hp), hk2]
      rw [hcl, hmo]
      generalize bRaiseFrom fi la (nI kx) v d (bCatch2 (bVisit B) e) (kid N e kx) = X at p1 p2 p3 p4 ⊢
      have o0 : Ok N (row X) d (2 * e) := by
        rcases kid_e (N := N) (e := e) (k := kx) with q | q
        · rw [q] at p1; exact p1
        · rw [q] at p3; exact Ok_f1 he p3 k1
      have o1 : Ok N (row X) d (2 * e + 1) := by
        rcases kid_e (N := N) (e := e) (k := kx) with q | q
        · rw [q] at p3; exact Ok_f0 he p3 k2
        · rw [q] at p1; exact p1
      obtain ⟨u1, u2⟩ := told hN hE hp hd o0 o1
      refine ⟨mTell M2 e, j + 1, by omega, fun n => ?_, u1, ag_t p2 he E0 E1 (Ok_s E0.2.1 (pw_1 hd) o0) (Ok_s E1.2.1 (pw_2 hd) o1), ?_, fun k h1 h2 => ?_⟩
      · have h3 := j2 (n + 1)
        rw [show n + (j + 1) = n + 1 + j by omega, h3, mUps]
        rcases kid_e (N := N) (e := e) (k := kx) with q | q
        · rw [if_neg (by omega), q, show 2 * e / 2 = e by omega]
        · rw [if_neg (by omega), q, show (2 * e + 1) / 2 = e by omega]
      · refine Fr_t (Fr_t (B := bCatch2 (bVisit B) e) F0 ?_) (Fr_s (fun x hx => row_t_n hx))
        rcases kid_e (N := N) (e := e) (k := kx) with q | q
        · rw [q] at p3; exact Fr_0 p3
        · rw [q] at p3; exact Fr_1 p3
      · rw [u2 k h1 h2]
        have k3 := k3 k
        by_cases z : kid N e k = kid N e kx
        · obtain ⟨-, y1, y2⟩ := kid_in hN hE hp h1 h2
          rw [z] at y1 y2
          rw [z, p4 k y1 y2, ← z, k3]
          rfl
        · have z2 : k ≠ kx := fun q => z (by rw [q])
          rw [if_neg z2]
          have k3' : hv N (row (bCatch2 (bVisit B) e)) d (kid N e k) k = hv N (row B) (d + 1) e k := k3
          rw [← k3']
          rcases kid_e (N := N) (e := e) (k := kx) with q | q
          · rcases kid_e (N := N) (e := e) (k := k) with r | r
            · exact absurd (r.trans q.symm) z
            · rw [r]; rw [q] at p3; exact hv_f0 he p3 k
          · rcases kid_e (N := N) (e := e) (k := k) with r | r
            · rw [r]; rw [q] at p3; exact hv_f1 he p3 k
            · exact absurd (r.trans q.symm) z
    · have hcl : bRaiseFrom fi la (nI kx) v (d + 1) B e = bSet (bVisit B) e v := by
        rw [bRaiseFrom, if_neg (fun q => hp ((spC_hp hN SC he hE.2.1).mp q))]
      have hmo : mDown mf ml (nI kx) (d + 1) M e = (M, e) := by
        rw [mDown, if_neg (fun q => q ((m_pt hN SM hE).mpr hp))]
      have hlo : slo N e = kx ∧ shi N e = kx + 1 := by unfold Pt at hp; omega
      obtain ⟨a1, a2, a3, a4, a5, a6⟩ := H.1
      have hg : hv N (row B) (d + 1) e kx = (row B e).1 := by rw [hv, if_neg hp]
      rw [hlo.1, hlo.2, show kx + 1 - kx = 1 by omega] at a5 a6
      have hm : (row B e).2.2.1 = 1 := by
        rw [a5]
        show (0 : Int32) + (if hv N (row B) (d + 1) e kx = (row B e).1 then 1 else 0) = 1
        rw [if_pos hg]
        rfl
      have hu : (row B e).2.2.2 = (row B e).1 := by
        rw [a6]
        show (0 : Int32) + hv N (row B) (d + 1) e kx = _
        rw [hg]
        grind
      have hs : (row B e).2.1 = -1 := H.2.2 hp
      have hv1 : v = (row B e).1 + w := by rw [hv0, hg]
      rw [hcl, hmo]
      have r1 : row (bSet (bVisit B) e v) e = (v, -1, 1, v) := by
        rw [row_s_s]
        show (v, (row B e).2.1, (row B e).2.2.1, v) = _
        rw [hs, hm]
      have r2 : ∀ x, x ≠ e → row (bSet (bVisit B) e v) x = row B x := fun x hx => row_s_n (B := bVisit B) hx
      have hh : ∀ k, hv N (row (bSet (bVisit B) e v)) (d + 1) e k = v := by
        intro k
        rw [hv, if_neg hp, r1]
      refine ⟨mAdd M e w, 0, Nat.zero_le _, fun n => rfl, ⟨?_, fun q => absurd q hp, fun _ => by rw [r1]⟩, ⟨fun x hx => ?_, A.2⟩, Fr_s r2, fun k h1 h2 => ?_⟩
      · rw [r1, hlo.1, hlo.2]
        refine ⟨hvp, Int32.le_refl _, Int32.lt_of_lt_of_le (show (-1 : Int32) < 0 by decide) hvp, fun k _ _ => Or.inl (hh k), ?_, ?_⟩
        · rw [show kx + 1 - kx = 1 by omega]
          show (1 : Int32) = 0 + (if hv N (row (bSet (bVisit B) e v)) (d + 1) e kx = v then 1 else 0)
          rw [if_pos (hh kx)]
          rfl
        · rw [show kx + 1 - kx = 1 by omega]
          show v = 0 + hv N (row (bSet (bVisit B) e v)) (d + 1) e kx
          rw [hh kx]
          grind
      · by_cases q : x = e
        · subst q
          have hM : row M x = row B x := A.1 x hx
          rw [row_a_s, r1, hM, hs, hm, hu, ← hv1]
        · rw [row_a_n q, r2 x q]
          exact A.1 x hx
      · rw [hh k, if_pos (by omega)]
/-- a question asked of the book -/
theorem sum_main {N a b : Nat} {fi la mf ml : Nat → Int32} (hN : N < 65) (SC : SpC N fi la) (SM : SpM N mf ml) (ha : a < 64) (hb : b < 64) :
    ∀ (d : Nat) (B M : BK) (e : Nat) (t : Int32), Ex N e → 128 ≤ e * 2 ^ d → Ok N (row B) d e → Ag N B M →
      (mSum mf ml (nI a) (nI b) d (t, M) e).1 = t + (bSumFrom fi la (nI a) (nI b) d B e).1 ∧ Ag N (bSumFrom fi la (nI a) (nI b) d B e).2 (mSum mf ml (nI a) (nI b) d (t, M) e).2 ∧ Ok N (row (bSumFrom fi la (nI a) (nI b) d B e).2) d e ∧ Fr e B (bSumFrom fi la (nI a) (nI b) d B e).2 ∧ (row (bSumFrom fi la (nI a) (nI b) d B e).2 e).2.1 = (row B e).2.1 ∧
      (∀ k, slo N e ≤ k → k < shi N e → hv N (row (bSumFrom fi la (nI a) (nI b) d B e).2) d e k = hv N (row B) d e k) := by
  intro d
  induction d with
  | zero => intro B M e t hE hd; have := hE.2.1; simp at hd; omega
  | succ d ih =>
    intro B M e t hE hd H A
    have he := hE.1
    rw [bSumFrom, mSum]
    by_cases c1 : shi N e ≤ a ∨ b < slo N e
    · rw [if_pos ((c_ap hN SC hE ha hb).mpr c1), if_pos ((m_no hN SM hE ha hb).mpr c1)]
      exact ⟨(by show t = t + 0; grind), ag_v A, H, fun _ _ => rfl, rfl, fun _ _ _ => rfl⟩
    · rw [if_neg (fun q => c1 ((c_ap hN SC hE ha hb).mp q)), if_neg (fun q => c1 ((m_no hN SM hE ha hb).mp q))]
      by_cases c2 : (a ≤ slo N e ∧ shi N e ≤ b + 1)
      · rw [if_pos (Or.inl ((c_wi hN SC hE ha hb).mpr c2)), if_pos ((m_all hN SM hE ha hb).mpr c2)]
        exact ⟨(by show t + M.2.2.2.1 e = t + B.2.2.2.1 e; rw [(ag_g A hE).2.2.2]), ag_v A, H, fun _ _ => rfl, rfl, fun _ _ _ => rfl⟩
      · have hp : Pt N e := by have := hE.2.2; unfold Pt; omega
        have t1 : ¬ (bWi fi la e (nI a) (nI b) ∨ ¬ bHp fi la e) := fun q => q.elim (fun z => c2 ((c_wi hN SC hE ha hb).mp z)) (fun z => z ((spC_hp hN SC he hE.2.1).mpr hp))
        have t2 : ¬ mAll mf ml e (nI a) (nI b) := fun q => c2 ((m_all hN SM hE ha hb).mp q)
        rw [if_neg t1, if_neg t2]
        obtain ⟨E0, E1, s1, s2, s3, s4, s5⟩ := Ex_kids hN hE hp
        obtain ⟨k1, k2, k3, k4, k5, k6⟩ := cat2 (B := bVisit B) he hp H
        have F0 := Fr_c2 k4
        have A0 := ag_c2 (ag_v A) hE E0 E1
        obtain ⟨p0, p1, p2, p3, p5, p4⟩ := ih (bCatch2 (bVisit B) e) (mCatch2 (bVisit M) e) (2 * e) t E0 (pw_1 hd) k1 A0
        obtain ⟨q0, q1, q2, q3, q5, q4⟩ := ih _ _ (2 * e + 1) _ E1 (pw_2 hd) (Ok_f0 he p3 k2) p1
        have o0 := Ok_f1 he q3 p2
        have re : row (bSumFrom fi la (nI a) (nI b) d (bSumFrom fi la (nI a) (nI b) d (bCatch2 (bVisit B) e) (2 * e)).2 (2 * e + 1)).2 e = row B e := (Fr_e1 he q3).trans ((Fr_e he p3).trans (k4 e (by omega) (by omega)))
        have S0 : (row (bSumFrom fi la (nI a) (nI b) d (bSumFrom fi la (nI a) (nI b) d (bCatch2 (bVisit B) e) (2 * e)).2 (2 * e + 1)).2 (2 * e)).2.1 ≤ (row B e).2.1 := by
          rw [q3 (2 * e) (fun z => by have := sub_le z; omega), p5]; exact k5
        have S1 : (row (bSumFrom fi la (nI a) (nI b) d (bSumFrom fi la (nI a) (nI b) d (bCatch2 (bVisit B) e) (2 * e)).2 (2 * e + 1)).2 (2 * e + 1)).2.1 ≤ (row B e).2.1 := by
          rw [q5, p3 (2 * e + 1) (fun z => sub_x he z (sub_r _))]; exact k6
        have hk : ∀ k, slo N e ≤ k → k < shi N e → hv N (row (bSumFrom fi la (nI a) (nI b) d (bSumFrom fi la (nI a) (nI b) d (bCatch2 (bVisit B) e) (2 * e)).2 (2 * e + 1)).2) d (kid N e k) k = hv N (row B) (d + 1) e k := by
          intro k h1 h2
          have k3 := k3 k
          unfold kid at k3 ⊢
          by_cases z : k < shi N (2 * e)
          · rw [if_pos z] at k3 ⊢
            rw [hv_f1 he q3 k, p4 k (by omega) z, k3]
            rfl
          · rw [if_neg z] at k3 ⊢
            rw [q4 k (by omega) (by omega), hv_f0 he p3 k, k3]
            rfl
        obtain ⟨u1, u2⟩ := untold (B := B) hp H re o0 q2 S0 S1 hk
        refine ⟨?_, q1, u1, Fr_t (Fr_t (B := bCatch2 (bVisit B) e) F0 (Fr_0 p3)) (Fr_1 q3), by rw [re], u2⟩
        rw [p0] at q0
        rw [← Int32.add_assoc, ← q0, ← p0]
/-- a question asked of the book -/
theorem top_main {N a b : Nat} {fi la mf ml : Nat → Int32} (hN : N < 65) (SC : SpC N fi la) (SM : SpM N mf ml) (ha : a < 64) (hb : b < 64) :
    ∀ (d : Nat) (B M : BK) (e : Nat) (t : Int32), 0 ≤ t → Ex N e → 128 ≤ e * 2 ^ d → Ok N (row B) d e → Ag N B M →
      (mGrt mf ml (nI a) (nI b) d (t, M) e).1 = bMax t (bTopFrom fi la (nI a) (nI b) d B e).1 ∧ 0 ≤ (mGrt mf ml (nI a) (nI b) d (t, M) e).1 ∧ (a ≤ b → ¬ (shi N e ≤ a ∨ b < slo N e) → 0 ≤ (bTopFrom fi la (nI a) (nI b) d B e).1) ∧ Ag N (bTopFrom fi la (nI a) (nI b) d B e).2 (mGrt mf ml (nI a) (nI b) d (t, M) e).2 ∧ Ok N (row (bTopFrom fi la (nI a) (nI b) d B e).2) d e ∧ Fr e B (bTopFrom fi la (nI a) (nI b) d B e).2 ∧ (row (bTopFrom fi la (nI a) (nI b) d B e).2 e).2.1 = (row B e).2.1 ∧
      (∀ k, slo N e ≤ k → k < shi N e → hv N (row (bTopFrom fi la (nI a) (nI b) d B e).2) d e k = hv N (row B) d e k) := by
  intro d
  induction d with
  | zero => intro B M e t ht hE hd; have := hE.2.1; simp at hd; omega
  | succ d ih =>
    intro B M e t ht hE hd H A
    have he := hE.1
    rw [bTopFrom, mGrt]
    by_cases c1 : shi N e ≤ a ∨ b < slo N e
    · rw [if_pos ((c_ap hN SC hE ha hb).mpr c1), if_pos ((m_no hN SM hE ha hb).mpr c1)]
      exact ⟨(by show t = bMax t (-1); exact (bMax_m ht).symm), ht, fun _ q => absurd c1 q, ag_v A, H, fun _ _ => rfl, rfl, fun _ _ _ => rfl⟩
    · rw [if_neg (fun q => c1 ((c_ap hN SC hE ha hb).mp q)), if_neg (fun q => c1 ((m_no hN SM hE ha hb).mp q))]
      by_cases c2 : (a ≤ slo N e ∧ shi N e ≤ b + 1)
      · rw [if_pos (Or.inl ((c_wi hN SC hE ha hb).mpr c2)), if_pos ((m_all hN SM hE ha hb).mpr c2)]
        have hB : 0 ≤ B.1 e := H.1.1
        have hM : (if M.1 e ≤ t then t else M.1 e) = bMax t (B.1 e) := by rw [(ag_g A hE).1]; exact bMax_f _ _
        exact ⟨hM, (by show 0 ≤ (if M.1 e ≤ t then t else M.1 e); rw [hM]; exact bMax_0 ht), fun _ _ => hB, ag_v A, H, fun _ _ => rfl, rfl, fun _ _ _ => rfl⟩
      · have hp : Pt N e := by have := hE.2.2; unfold Pt; omega
        have t1 : ¬ (bWi fi la e (nI a) (nI b) ∨ ¬ bHp fi la e) := fun q => q.elim (fun z => c2 ((c_wi hN SC hE ha hb).mp z)) (fun z => z ((spC_hp hN SC he hE.2.1).mpr hp))
        have t2 : ¬ mAll mf ml e (nI a) (nI b) := fun q => c2 ((m_all hN SM hE ha hb).mp q)
        rw [if_neg t1, if_neg t2]
        obtain ⟨E0, E1, s1, s2, s3, s4, s5⟩ := Ex_kids hN hE hp
        obtain ⟨k1, k2, k3, k4, k5, k6⟩ := cat2 (B := bVisit B) he hp H
        have F0 := Fr_c2 k4
        have A0 := ag_c2 (ag_v A) hE E0 E1
        obtain ⟨p0, p6, p7, p1, p2, p3, p5, p4⟩ := ih (bCatch2 (bVisit B) e) (mCatch2 (bVisit M) e) (2 * e) t ht E0 (pw_1 hd) k1 A0
        obtain ⟨q0, q6, q7, q1, q2, q3, q5, q4⟩ := ih _ _ (2 * e + 1) _ p6 E1 (pw_2 hd) (Ok_f0 he p3 k2) p1
        have o0 := Ok_f1 he q3 p2
        have re : row (bTopFrom fi la (nI a) (nI b) d (bTopFrom fi la (nI a) (nI b) d (bCatch2 (bVisit B) e) (2 * e)).2 (2 * e + 1)).2 e = row B e := (Fr_e1 he q3).trans ((Fr_e he p3).trans (k4 e (by omega) (by omega)))
        have S0 : (row (bTopFrom fi la (nI a) (nI b) d (bTopFrom fi la (nI a) (nI b) d (bCatch2 (bVisit B) e) (2 * e)).2 (2 * e + 1)).2 (2 * e)).2.1 ≤ (row B e).2.1 := by
          rw [q3 (2 * e) (fun z => by have := sub_le z; omega), p5]; exact k5
        have S1 : (row (bTopFrom fi la (nI a) (nI b) d (bTopFrom fi la (nI a) (nI b) d (bCatch2 (bVisit B) e) (2 * e)).2 (2 * e + 1)).2 (2 * e + 1)).2.1 ≤ (row B e).2.1 := by
          rw [q5, p3 (2 * e + 1) (fun z => sub_x he z (sub_r _))]; exact k6
        have hk : ∀ k, slo N e ≤ k → k < shi N e → hv N (row (bTopFrom fi la (nI a) (nI b) d (bTopFrom fi la (nI a) (nI b) d (bCatch2 (bVisit B) e) (2 * e)).2 (2 * e + 1)).2) d (kid N e k) k = hv N (row B) (d + 1) e k := by
          intro k h1 h2
          have k3 := k3 k
          unfold kid at k3 ⊢
          by_cases z : k < shi N (2 * e)
          · rw [if_pos z] at k3 ⊢
            rw [hv_f1 he q3 k, p4 k (by omega) z, k3]
            rfl
          · rw [if_neg z] at k3 ⊢
            rw [q4 k (by omega) (by omega), hv_f0 he p3 k, k3]
            rfl
        obtain ⟨u1, u2⟩ := untold (B := B) hp H re o0 q2 S0 S1 hk
        refine ⟨?_, q6, fun hab hmeet => ?_, q1, u1, Fr_t (Fr_t (B := bCatch2 (bVisit B) e) F0 (Fr_0 p3)) (Fr_1 q3), by rw [re], u2⟩
        · rw [p0] at q0
          rw [← bMax_as, ← q0, ← p0]
        · by_cases z : shi N (2 * e) ≤ a ∨ b < slo N (2 * e)
          · exact bMax_0r (q7 hab (by omega))
          · exact bMax_0 (p7 hab z)
