/-! The reference's image and restore -/
def off : Nat → Nat
  | 0 => 0
  | k + 1 => off k + mlen k
theorem off_le : ∀ k, k ≤ 21 → off k ≤ 2500 := by decide
theorem off_mo {j : Nat} : ∀ k, j < k → off (j + 1) ≤ off k
  | 0, h => absurd h (by omega)
  | k + 1, h => by
    by_cases e : j = k
    · subst e; exact Nat.le_refl _
    · have := off_mo (j := j) k (by omega)
      have e2 : off (k + 1) = off k + mlen k := rfl
      omega
theorem mlen_le : ∀ k, k ≤ 20 → mlen k ≤ 600 := by decide
/-- rows before k are kept; rows before k are put back -/
def IK (m : Nat) (M0 : gk_M) (k : Nat) (M : gk_M) : Prop := M.1 m 28 = nI (off k) ∧ M.2 = M0.2 ∧ (∀ a j, ¬ (a = m ∧ j = 28) → a ≠ m + 22 → M.1 a j = M0.1 a j) ∧ ∀ j i, j < k → i < mlen j → M.1 (m + 22) (off j + i) = M0.1 (m + 1 + j) i
def IR (m : Nat) (M0 : gk_M) (k : Nat) (M : gk_M) : Prop := M.1 m 28 = nI (off k) ∧ M.2 = M0.2 ∧ (∀ a j, ¬ (a = m ∧ j = 28) → (a ≤ m ∨ m + 22 ≤ a) → M.1 a j = M0.1 a j) ∧ ∀ j i, j < k → i < mlen j → M.1 (m + 1 + j) i = M0.1 (m + 22) (off j + i)
section KP
variable {LN : Nat → Nat} {RF : Nat → Nat → Nat} {m : Nat} {W S : zS}
theorem lp_kp_s {v L p : Nat} (hL : LN (m + 22) = 2500) (hv : LN v = L) (hp : p + L ≤ 2500) (hvm : v ≠ m ∧ v ≠ m + 22) {K : gk_M → Option gk_M} : ∀ (r q i : Nat) (M : gk_M), M.1 m 28 = nI (p + i) → i + r = L → r < q → ∃ M', lp_X8_keeps_3 LN RF m (m + 22) v 1 K q (nI i, M) = K M' ∧ M'.1 m 28 = nI (p + L) ∧ M'.2 = M.2 ∧ (∀ a j, ¬ (a = m ∧ j = 28) → ¬ (a = m + 22 ∧ p + i ≤ j ∧ j < p + L) → M'.1 a j = M.1 a j) ∧ ∀ j, i ≤ j → j < L → M'.1 (m + 22) (p + j) = M.1 v j
  | r, 0, i, M, _, _, g => absurd g (by omega)
  | 0, q + 1, i, M, h28, g1, g2 => by
    refine ⟨M, ?_, by rw [h28]; congr 1; omega, rfl, fun _ _ _ _ => rfl, fun j j1 j2 => by omega⟩
    rw [lp_X8_keeps_3, hv, if_pos (nI_le (by omega) (by omega))]
  | r + 1, q + 1, i, M, h28, g1, g2 => by
    rw [lp_X8_keeps_3, hv, if_neg (nI_ge (by omega) (by omega))]
    simp only [gk_jn, i10, if_false, nI_1, gk_put]
    rw [ald_n (by rw [hv]; omega) (by omega), h28, ast_n (by rw [hL]; omega) (by omega)]
    have e28 : (gk_wr M (m + 22) (p + i) (M.1 v i)).1 m 28 = nI (p + i) := by rw [wr_1, if_neg (by omega)]; exact h28
    rw [e28, nI_1]
    obtain ⟨M', q1, q2, q3, q4, q5⟩ := lp_kp_s hL hv hp hvm (K := K) r q (i + 1) (gk_wr (gk_wr M (m + 22) (p + i) (M.1 v i)) m 28 (nI (p + i + 1))) (by rw [wr_1, if_pos ⟨rfl, rfl⟩, Nat.add_assoc]) (by omega) (by omega)
    refine ⟨M', q1, q2, q3, fun a j a1 a2 => ?_, fun j j1 j2 => ?_⟩
    · rw [q4 a j a1 (by omega), wr_1, if_neg a1, wr_1, if_neg (by omega)]
    · by_cases e : j = i
      · subst e
        rw [q4 (m + 22) (p + j) (by omega) (by omega), wr_1, if_neg (by omega), wr_1, if_pos ⟨rfl, rfl⟩]
      · rw [q5 j (by omega) j2, wr_1, if_neg (by omega), wr_1, if_neg (by omega)]
theorem lp_rs_s {v L p : Nat} (hL : LN (m + 22) = 2500) (hv : LN v = L) (hp : p + L ≤ 2500) (hvm : v ≠ m ∧ v ≠ m + 22) {K : gk_M → Option gk_M} : ∀ (r q i : Nat) (M : gk_M), M.1 m 28 = nI (p + i) → i + r = L → r < q → ∃ M', lp_X8_keeps_3 LN RF m (m + 22) v 0 K q (nI i, M) = K M' ∧ M'.1 m 28 = nI (p + L) ∧ M'.2 = M.2 ∧ (∀ a j, ¬ (a = m ∧ j = 28) → ¬ (a = v ∧ i ≤ j ∧ j < L) → M'.1 a j = M.1 a j) ∧ ∀ j, i ≤ j → j < L → M'.1 v j = M.1 (m + 22) (p + j)
  | r, 0, i, M, _, _, g => absurd g (by omega)
  | 0, q + 1, i, M, h28, g1, g2 => by
    refine ⟨M, ?_, by rw [h28]; congr 1; omega, rfl, fun _ _ _ _ => rfl, fun j j1 j2 => by omega⟩
    rw [lp_X8_keeps_3, hv, if_pos (nI_le (by omega) (by omega))]
  | r + 1, q + 1, i, M, h28, g1, g2 => by
    rw [lp_X8_keeps_3, hv, if_neg (nI_ge (by omega) (by omega))]
    simp only [gk_jn, if_true, nI_1, gk_put]
    rw [h28, ald_n (by rw [hL]; omega) (by omega), ast_n (by rw [hv]; omega) (by omega)]
    have e28 : (gk_wr M v i (M.1 (m + 22) (p + i))).1 m 28 = nI (p + i) := by rw [wr_1, if_neg (by omega)]; exact h28
    rw [e28, nI_1]
    obtain ⟨M', q1, q2, q3, q4, q5⟩ := lp_rs_s hL hv hp hvm (K := K) r q (i + 1) (gk_wr (gk_wr M v i (M.1 (m + 22) (p + i))) m 28 (nI (p + i + 1))) (by rw [wr_1, if_pos ⟨rfl, rfl⟩, Nat.add_assoc]) (by omega) (by omega)
    refine ⟨M', q1, q2, q3, fun a j a1 a2 => ?_, fun j j1 j2 => ?_⟩
    · rw [q4 a j a1 (by omega), wr_1, if_neg a1, wr_1, if_neg (by omega)]
    · by_cases e : j = i
      · subst e
        rw [q4 v j (by omega) (by omega), wr_1, if_neg (by omega), wr_1, if_pos ⟨rfl, rfl⟩]
      · rw [q5 j (by omega) j2, wr_1, if_neg (by omega), wr_1, if_neg (by omega)]
theorem kp_step (hm : mL LN RF m) {M0 M : gk_M} {k : Nat} (hk : k ≤ 20) (hI : IK m M0 k M) : ∃ M', f_X8_keeps LN RF m (RF m 21) (RF m k) 1 M = some M' ∧ IK m M0 (k + 1) M' := by
  obtain ⟨g1, g2, g3, g4⟩ := hI
  have h6 := mlen_le k hk
  have ho := off_le (k + 1) (by omega)
  have hoe : off (k + 1) = off k + mlen k := rfl
  unfold f_X8_keeps
  rw [hm.1 21 (by decide), hm.1 k (by omega), show m + 1 + 21 = m + 22 by omega]
  simp only [gk_jn]
  obtain ⟨M', q1, q2, q3, q4, q5⟩ := lp_kp_s (RF := RF) (m := m) (v := m + 1 + k) (L := mlen k) (p := off k) (hm.2.1 21 (by decide)) (hm.2.1 k (by omega)) (by omega) ⟨by omega, by omega⟩ (K := fun y => some y) (mlen k) gk_fuel 0 M g1 (by omega) (fuel_gt (by omega))
  refine ⟨M', by rw [show ((0 : Int32), M) = (nI 0, M) from rfl, q1], q2, by rw [q3, g2], fun a j a1 a2 => by rw [q4 a j a1 (by omega)]; exact g3 a j a1 a2, fun j i hj hi => ?_⟩
  by_cases e : j = k
  · subst e; rw [q5 i (by omega) hi]; exact g3 (m + 1 + j) i (by omega) (by omega)
  · have := off_mo (j := j) k (by omega)
    have e2 : off (j + 1) = off j + mlen j := rfl
    rw [q4 (m + 22) (off j + i) (by omega) (by omega)]; exact g4 j i (by omega) hi
theorem rs_step (hm : mL LN RF m) {M0 M : gk_M} {k : Nat} (hk : k ≤ 20) (hI : IR m M0 k M) : ∃ M', f_X8_keeps LN RF m (RF m 21) (RF m k) 0 M = some M' ∧ IR m M0 (k + 1) M' := by
  obtain ⟨g1, g2, g3, g4⟩ := hI
  have h6 := mlen_le k hk
  have ho := off_le (k + 1) (by omega)
  have hoe : off (k + 1) = off k + mlen k := rfl
  unfold f_X8_keeps
  rw [hm.1 21 (by decide), hm.1 k (by omega), show m + 1 + 21 = m + 22 by omega]
  simp only [gk_jn]
  obtain ⟨M', q1, q2, q3, q4, q5⟩ := lp_rs_s (RF := RF) (m := m) (v := m + 1 + k) (L := mlen k) (p := off k) (hm.2.1 21 (by decide)) (hm.2.1 k (by omega)) (by omega) ⟨by omega, by omega⟩ (K := fun y => some y) (mlen k) gk_fuel 0 M g1 (by omega) (fuel_gt (by omega))
  refine ⟨M', by rw [show ((0 : Int32), M) = (nI 0, M) from rfl, q1], q2, by rw [q3, g2], fun a j a1 a2 => by rw [q4 a j a1 (by omega)]; exact g3 a j a1 a2, fun j i hj hi => ?_⟩
  by_cases e : j = k
  · subst e; rw [q5 i (by omega) hi]; exact g3 (m + 22) (off j + i) (by omega) (by omega)
  · rw [q4 (m + 1 + j) i (by omega) (by omega)]; exact g4 j i (by omega) hi
theorem bnd_ex {a : Option gk_M} {f : gk_M → Option gk_M} {P Q : gk_M → Prop} (h : ∃ M1, a = some M1 ∧ Q M1) (g : ∀ M1, Q M1 → ∃ M', f M1 = some M' ∧ P M') : ∃ M', a.bind f = some M' ∧ P M' := by
  obtain ⟨M1, h1, h2⟩ := h
  rw [h1]
  exact g M1 h2
theorem t_keep (hm : mL LN RF m) (M : gk_M) : ∃ M', f_X8_keepsAll LN RF m (RF m 21) 1 M = some M' ∧ IK m M 21 M' := by
  have i0 : IK m M 0 (gk_wr M m 28 0) := ⟨by rw [wr_1, if_pos ⟨rfl, rfl⟩]; rfl, rfl, fun a j a1 _ => by rw [wr_1, if_neg a1], fun j i hj => by omega⟩
  unfold f_X8_keepsAll gk_put
  refine bnd_ex (Q := IK m M 1) (kp_step hm (k := 0) (by decide) i0) (fun K1 i1 => ?_)
  refine bnd_ex (Q := IK m M 2) (kp_step hm (k := 1) (by decide) i1) (fun K2 i2 => ?_)
  refine bnd_ex (Q := IK m M 3) (kp_step hm (k := 2) (by decide) i2) (fun K3 i3 => ?_)
  refine bnd_ex (Q := IK m M 4) (kp_step hm (k := 3) (by decide) i3) (fun K4 i4 => ?_)
  refine bnd_ex (Q := IK m M 5) (kp_step hm (k := 4) (by decide) i4) (fun K5 i5 => ?_)
  refine bnd_ex (Q := IK m M 6) (kp_step hm (k := 5) (by decide) i5) (fun K6 i6 => ?_)
  refine bnd_ex (Q := IK m M 7) (kp_step hm (k := 6) (by decide) i6) (fun K7 i7 => ?_)
  refine bnd_ex (Q := IK m M 8) (kp_step hm (k := 7) (by decide) i7) (fun K8 i8 => ?_)
  refine bnd_ex (Q := IK m M 9) (kp_step hm (k := 8) (by decide) i8) (fun K9 i9 => ?_)
  refine bnd_ex (Q := IK m M 10) (kp_step hm (k := 9) (by decide) i9) (fun K10 i10 => ?_)
  refine bnd_ex (Q := IK m M 11) (kp_step hm (k := 10) (by decide) i10) (fun K11 i11 => ?_)
  refine bnd_ex (Q := IK m M 12) (kp_step hm (k := 11) (by decide) i11) (fun K12 i12 => ?_)
  refine bnd_ex (Q := IK m M 13) (kp_step hm (k := 12) (by decide) i12) (fun K13 i13 => ?_)
  refine bnd_ex (Q := IK m M 14) (kp_step hm (k := 13) (by decide) i13) (fun K14 i14 => ?_)
  refine bnd_ex (Q := IK m M 15) (kp_step hm (k := 14) (by decide) i14) (fun K15 i15 => ?_)
  refine bnd_ex (Q := IK m M 16) (kp_step hm (k := 15) (by decide) i15) (fun K16 i16 => ?_)
  refine bnd_ex (Q := IK m M 17) (kp_step hm (k := 16) (by decide) i16) (fun K17 i17 => ?_)
  refine bnd_ex (Q := IK m M 18) (kp_step hm (k := 17) (by decide) i17) (fun K18 i18 => ?_)
  refine bnd_ex (Q := IK m M 19) (kp_step hm (k := 18) (by decide) i18) (fun K19 i19 => ?_)
  refine bnd_ex (Q := IK m M 20) (kp_step hm (k := 19) (by decide) i19) (fun K20 i20 => ?_)
  refine bnd_ex (Q := IK m M 21) (kp_step hm (k := 20) (by decide) i20) (fun K21 i21 => ?_)
  exact ⟨K21, rfl, i21⟩
theorem t_back (hm : mL LN RF m) (M : gk_M) : ∃ M', f_X8_keepsAll LN RF m (RF m 21) 0 M = some M' ∧ IR m M 21 M' := by
  have i0 : IR m M 0 (gk_wr M m 28 0) := ⟨by rw [wr_1, if_pos ⟨rfl, rfl⟩]; rfl, rfl, fun a j a1 _ => by rw [wr_1, if_neg a1], fun j i hj => by omega⟩
  unfold f_X8_keepsAll gk_put
  refine bnd_ex (Q := IR m M 1) (rs_step hm (k := 0) (by decide) i0) (fun K1 i1 => ?_)
  refine bnd_ex (Q := IR m M 2) (rs_step hm (k := 1) (by decide) i1) (fun K2 i2 => ?_)
  refine bnd_ex (Q := IR m M 3) (rs_step hm (k := 2) (by decide) i2) (fun K3 i3 => ?_)
  refine bnd_ex (Q := IR m M 4) (rs_step hm (k := 3) (by decide) i3) (fun K4 i4 => ?_)
  refine bnd_ex (Q := IR m M 5) (rs_step hm (k := 4) (by decide) i4) (fun K5 i5 => ?_)
  refine bnd_ex (Q := IR m M 6) (rs_step hm (k := 5) (by decide) i5) (fun K6 i6 => ?_)
  refine bnd_ex (Q := IR m M 7) (rs_step hm (k := 6) (by decide) i6) (fun K7 i7 => ?_)
  refine bnd_ex (Q := IR m M 8) (rs_step hm (k := 7) (by decide) i7) (fun K8 i8 => ?_)
  refine bnd_ex (Q := IR m M 9) (rs_step hm (k := 8) (by decide) i8) (fun K9 i9 => ?_)
  refine bnd_ex (Q := IR m M 10) (rs_step hm (k := 9) (by decide) i9) (fun K10 i10 => ?_)
  refine bnd_ex (Q := IR m M 11) (rs_step hm (k := 10) (by decide) i10) (fun K11 i11 => ?_)
  refine bnd_ex (Q := IR m M 12) (rs_step hm (k := 11) (by decide) i11) (fun K12 i12 => ?_)
  refine bnd_ex (Q := IR m M 13) (rs_step hm (k := 12) (by decide) i12) (fun K13 i13 => ?_)
  refine bnd_ex (Q := IR m M 14) (rs_step hm (k := 13) (by decide) i13) (fun K14 i14 => ?_)
  refine bnd_ex (Q := IR m M 15) (rs_step hm (k := 14) (by decide) i14) (fun K15 i15 => ?_)
  refine bnd_ex (Q := IR m M 16) (rs_step hm (k := 15) (by decide) i15) (fun K16 i16 => ?_)
  refine bnd_ex (Q := IR m M 17) (rs_step hm (k := 16) (by decide) i16) (fun K17 i17 => ?_)
  refine bnd_ex (Q := IR m M 18) (rs_step hm (k := 17) (by decide) i17) (fun K18 i18 => ?_)
  refine bnd_ex (Q := IR m M 19) (rs_step hm (k := 18) (by decide) i18) (fun K19 i19 => ?_)
  refine bnd_ex (Q := IR m M 20) (rs_step hm (k := 19) (by decide) i19) (fun K20 i20 => ?_)
  refine bnd_ex (Q := IR m M 21) (rs_step hm (k := 20) (by decide) i20) (fun K21 i21 => ?_)
  exact ⟨K21, rfl, i21⟩
/-- what the reference keeps: rows that once told of W and S -/
def KR (m : Nat) (M : gk_M) (W S : zS) : Prop := ∃ M0, MR m M0 W S ∧ ∀ k i, k ≤ 20 → i < mlen k → M.1 (m + 22) (off k + i) = M0.1 (m + 1 + k) i
theorem MR.ext {M M' : gk_M} (h : MR m M W S) (he : ∀ k i, k ≤ 20 → i < mlen k → M'.1 (m + 1 + k) i = M.1 (m + 1 + k) i) : MR m M' W S := by
  obtain ⟨h1, h2, h3, h4, h5, h6, h7, h8⟩ := h
  have e20 : ∀ i, i < 5 → M'.1 (m + 21) i = M.1 (m + 21) i := fun i hi => he 20 i (by decide) hi
  refine ⟨fun k i hk hi => ?_, fun k i a b c d => by rw [he k i (by omega) d]; exact h2 k i a b c d, fun i hi => ?_, by rw [e20 0 (by decide)]; exact h4, by rw [e20 1 (by decide)]; exact h5, by rw [e20 2 (by decide)]; exact h6, by rw [e20 3 (by decide)]; exact h7, by rw [e20 4 (by decide)]; exact h8⟩
  · have : mlen k = 24 := by
      have : k = 0 ∨ k = 1 ∨ k = 2 ∨ k = 3 ∨ k = 4 ∨ k = 5 := by omega
      rcases this with rfl | rfl | rfl | rfl | rfl | rfl <;> rfl
    rw [he k i (by omega) (by omega)]; exact h1 k i hk hi
  · have := he 13 i (by decide) hi
    rw [show m + 1 + 13 = m + 14 by omega] at this
    rw [this]; exact h3 i hi
theorem t_image (hm : mL LN RF m) {M : gk_M} (h : MR m M W S) : ∃ M', f_X8_image LN RF m M = some (1, M') ∧ MR m M' W S ∧ KR m M' W S ∧ M'.1 m 23 = 1 ∧ M'.1 m 25 = 0 ∧ M'.2 = M.2 ∧ ∀ a j, ¬ (a = m ∧ (j = 28 ∨ j = 23 ∨ j = 25)) → a ≠ m + 22 → M'.1 a j = M.1 a j := by
  unfold f_X8_image
  obtain ⟨M1, q1, g1, g2, g3, g4⟩ := t_keep hm M
  rw [q1]
  unfold f_X8_done
  simp only [Option.bind_some, gk_putz, gk_put, or_true, if_true]
  have hf : ∀ a j, ¬ (a = m ∧ (j = 28 ∨ j = 23 ∨ j = 25)) → a ≠ m + 22 → (gk_wr (gk_wr M1 m 23 1) m 25 0).1 a j = M.1 a j := fun a j a1 a2 => by rw [wr_1, if_neg (fun g => a1 ⟨g.1, by omega⟩), wr_1, if_neg (fun g => a1 ⟨g.1, by omega⟩)]; exact g3 a j (fun g => a1 ⟨g.1, by omega⟩) a2
  refine ⟨_, rfl, h.ext (fun k i hk _ => hf _ _ (by omega) (by omega)), ⟨M, h, fun k i hk hi => ?_⟩, by rw [wr_1, if_neg (by omega), wr_1, if_pos ⟨rfl, rfl⟩], by rw [wr_1, if_pos ⟨rfl, rfl⟩], g2, hf⟩
  rw [wr_1, if_neg (by omega), wr_1, if_neg (by omega)]; exact g4 k i (by omega) hi
theorem t_restore (hm : mL LN RF m) {M : gk_M} (hK : KR m M W S) {k : Nat} (hk : M.1 m 24 = nI k) (hk10 : k < 10) (h23 : M.1 m 23 ≠ 0) : ∃ M', f_X8_restore LN RF m M = some (nI (S 20 3), M') ∧ MR m M' W S ∧ KR m M' W S ∧ M'.1 m 24 = nI (k + 1) ∧ M'.1 m 25 = 0 ∧ M'.2 = M.2 ∧ ∀ a j, ¬ (a = m ∧ (j = 28 ∨ j = 24 ∨ j = 25)) → (a ≤ m ∨ m + 22 ≤ a) → M'.1 a j = M.1 a j := by
  unfold f_X8_restore
  rw [hk]
  simp only [nI_e10 (show k < 2 ^ 31 by omega)]
  rw [if_neg (by omega), if_neg h23]
  simp only [gk_put, nI_1]
  obtain ⟨M1, q1, g1, g2, g3, g4⟩ := t_back hm (gk_wr M m 24 (nI (k + 1)))
  rw [q1]
  obtain ⟨M0, hM0, hKe⟩ := hK
  have hrow : ∀ k' i, k' ≤ 20 → i < mlen k' → M1.1 (m + 1 + k') i = M0.1 (m + 1 + k') i := fun k' i h1 h2 => by rw [g4 k' i (by omega) h2, wr_1, if_neg (by omega)]; exact hKe k' i h1 h2
  have h1 : MR m M1 W S := hM0.ext hrow
  simp only [Option.bind_some]
  rw [mr_T hm h1]
  unfold f_X8_done
  simp only [gk_put, Option.bind_some]
  refine ⟨_, rfl, h1.st, ⟨M0, hM0, fun k' i h1 h2 => ?_⟩, ?_, by rw [wr_1, if_pos ⟨rfl, rfl⟩], g2, fun a j a1 a2 => ?_⟩
  · rw [wr_1, if_neg (by omega), g3 (m + 22) _ (by omega) (by omega), wr_1, if_neg (by omega)]; exact hKe k' i h1 h2
  · rw [wr_1, if_neg (by omega), g3 m 24 (by omega) (by omega), wr_1, if_pos ⟨rfl, rfl⟩]
  · rw [wr_1, if_neg (fun g => a1 ⟨g.1, by omega⟩), g3 a j (fun g => a1 ⟨g.1, by omega⟩) a2, wr_1, if_neg (fun g => a1 ⟨g.1, by omega⟩)]
end KP
