/-! The reference puts its rows aside while it tries, and back (written by program out of part 56) -/
/-- rows before k are kept; rows before k are put back -/
def IKa (m : Nat) (M0 : gk_M) (k : Nat) (M : gk_M) : Prop := M.1 m 28 = nI (off k) ∧ M.2 = M0.2 ∧ (∀ a j, ¬ (a = m ∧ j = 28) → a ≠ m + 23 → M.1 a j = M0.1 a j) ∧ ∀ j i, j < k → i < mlen j → M.1 (m + 23) (off j + i) = M0.1 (m + 1 + j) i
def IRa (m : Nat) (M0 : gk_M) (k : Nat) (M : gk_M) : Prop := M.1 m 28 = nI (off k) ∧ M.2 = M0.2 ∧ (∀ a j, ¬ (a = m ∧ j = 28) → (a ≤ m ∨ m + 22 ≤ a) → M.1 a j = M0.1 a j) ∧ ∀ j i, j < k → i < mlen j → M.1 (m + 1 + j) i = M0.1 (m + 23) (off j + i)
section KPA
variable {LN : Nat → Nat} {RF : Nat → Nat → Nat} {m : Nat} {W S : zS}
theorem lp_kp_sa {v L p : Nat} (hL : LN (m + 23) = 2500) (hv : LN v = L) (hp : p + L ≤ 2500) (hvm : v ≠ m ∧ v ≠ m + 23) {K : gk_M → Option gk_M} : ∀ (r q i : Nat) (M : gk_M), M.1 m 28 = nI (p + i) → i + r = L → r < q → ∃ M', lp_X8_keeps_3 LN RF m (m + 23) v 1 K q (nI i, M) = K M' ∧ M'.1 m 28 = nI (p + L) ∧ M'.2 = M.2 ∧ (∀ a j, ¬ (a = m ∧ j = 28) → ¬ (a = m + 23 ∧ p + i ≤ j ∧ j < p + L) → M'.1 a j = M.1 a j) ∧ ∀ j, i ≤ j → j < L → M'.1 (m + 23) (p + j) = M.1 v j
  | r, 0, i, M, _, _, g => absurd g (by omega)
  | 0, q + 1, i, M, h28, g1, g2 => by
    refine ⟨M, ?_, by rw [h28]; congr 1; omega, rfl, fun _ _ _ _ => rfl, fun j j1 j2 => by omega⟩
    rw [lp_X8_keeps_3, hv, if_pos (nI_le (by omega) (by omega))]
  | r + 1, q + 1, i, M, h28, g1, g2 => by
    rw [lp_X8_keeps_3, hv, if_neg (nI_ge (by omega) (by omega))]
    simp only [gk_jn, i10, if_false, nI_1, gk_put]
    rw [ald_n (by rw [hv]; omega) (by omega), h28, ast_n (by rw [hL]; omega) (by omega)]
    have e28 : (gk_wr M (m + 23) (p + i) (M.1 v i)).1 m 28 = nI (p + i) := by rw [wr_1, if_neg (by omega)]; exact h28
    rw [e28, nI_1]
    obtain ⟨M', q1, q2, q3, q4, q5⟩ := lp_kp_sa hL hv hp hvm (K := K) r q (i + 1) (gk_wr (gk_wr M (m + 23) (p + i) (M.1 v i)) m 28 (nI (p + i + 1))) (by rw [wr_1, if_pos ⟨rfl, rfl⟩, Nat.add_assoc]) (by omega) (by omega)
    refine ⟨M', q1, q2, q3, fun a j a1 a2 => ?_, fun j j1 j2 => ?_⟩
    · rw [q4 a j a1 (by omega), wr_1, if_neg a1, wr_1, if_neg (by omega)]
    · by_cases e : j = i
      · subst e
        rw [q4 (m + 23) (p + j) (by omega) (by omega), wr_1, if_neg (by omega), wr_1, if_pos ⟨rfl, rfl⟩]
      · rw [q5 j (by omega) j2, wr_1, if_neg (by omega), wr_1, if_neg (by omega)]
theorem lp_rs_sa {v L p : Nat} (hL : LN (m + 23) = 2500) (hv : LN v = L) (hp : p + L ≤ 2500) (hvm : v ≠ m ∧ v ≠ m + 23) {K : gk_M → Option gk_M} : ∀ (r q i : Nat) (M : gk_M), M.1 m 28 = nI (p + i) → i + r = L → r < q → ∃ M', lp_X8_keeps_3 LN RF m (m + 23) v 0 K q (nI i, M) = K M' ∧ M'.1 m 28 = nI (p + L) ∧ M'.2 = M.2 ∧ (∀ a j, ¬ (a = m ∧ j = 28) → ¬ (a = v ∧ i ≤ j ∧ j < L) → M'.1 a j = M.1 a j) ∧ ∀ j, i ≤ j → j < L → M'.1 v j = M.1 (m + 23) (p + j)
  | r, 0, i, M, _, _, g => absurd g (by omega)
  | 0, q + 1, i, M, h28, g1, g2 => by
    refine ⟨M, ?_, by rw [h28]; congr 1; omega, rfl, fun _ _ _ _ => rfl, fun j j1 j2 => by omega⟩
    rw [lp_X8_keeps_3, hv, if_pos (nI_le (by omega) (by omega))]
  | r + 1, q + 1, i, M, h28, g1, g2 => by
    rw [lp_X8_keeps_3, hv, if_neg (nI_ge (by omega) (by omega))]
    simp only [gk_jn, if_true, nI_1, gk_put]
    rw [h28, ald_n (by rw [hL]; omega) (by omega), ast_n (by rw [hv]; omega) (by omega)]
    have e28 : (gk_wr M v i (M.1 (m + 23) (p + i))).1 m 28 = nI (p + i) := by rw [wr_1, if_neg (by omega)]; exact h28
    rw [e28, nI_1]
    obtain ⟨M', q1, q2, q3, q4, q5⟩ := lp_rs_sa hL hv hp hvm (K := K) r q (i + 1) (gk_wr (gk_wr M v i (M.1 (m + 23) (p + i))) m 28 (nI (p + i + 1))) (by rw [wr_1, if_pos ⟨rfl, rfl⟩, Nat.add_assoc]) (by omega) (by omega)
    refine ⟨M', q1, q2, q3, fun a j a1 a2 => ?_, fun j j1 j2 => ?_⟩
    · rw [q4 a j a1 (by omega), wr_1, if_neg a1, wr_1, if_neg (by omega)]
    · by_cases e : j = i
      · subst e
        rw [q4 v j (by omega) (by omega), wr_1, if_neg (by omega), wr_1, if_pos ⟨rfl, rfl⟩]
      · rw [q5 j (by omega) j2, wr_1, if_neg (by omega), wr_1, if_neg (by omega)]
theorem kp_stepa (hm : mL LN RF m) {M0 M : gk_M} {k : Nat} (hk : k ≤ 20) (hI : IKa m M0 k M) : ∃ M', f_X8_keeps LN RF m (RF m 22) (RF m k) 1 M = some M' ∧ IKa m M0 (k + 1) M' := by
  obtain ⟨g1, g2, g3, g4⟩ := hI
  have h6 := mlen_le k hk
  have ho := off_le (k + 1) (by omega)
  have hoe : off (k + 1) = off k + mlen k := rfl
  unfold f_X8_keeps
  rw [hm.1 22 (by decide), hm.1 k (by omega), show m + 1 + 22 = m + 23 by omega]
  simp only [gk_jn]
  obtain ⟨M', q1, q2, q3, q4, q5⟩ := lp_kp_sa (RF := RF) (m := m) (v := m + 1 + k) (L := mlen k) (p := off k) (hm.2.1 22 (by decide)) (hm.2.1 k (by omega)) (by omega) ⟨by omega, by omega⟩ (K := fun y => some y) (mlen k) gk_fuel 0 M g1 (by omega) (fuel_gt (by omega))
  refine ⟨M', by rw [show ((0 : Int32), M) = (nI 0, M) from rfl, q1], q2, by rw [q3, g2], fun a j a1 a2 => by rw [q4 a j a1 (by omega)]; exact g3 a j a1 a2, fun j i hj hi => ?_⟩
  by_cases e : j = k
  · subst e; rw [q5 i (by omega) hi]; exact g3 (m + 1 + j) i (by omega) (by omega)
  · have := off_mo (j := j) k (by omega)
    have e2 : off (j + 1) = off j + mlen j := rfl
    rw [q4 (m + 23) (off j + i) (by omega) (by omega)]; exact g4 j i (by omega) hi
theorem rs_stepa (hm : mL LN RF m) {M0 M : gk_M} {k : Nat} (hk : k ≤ 20) (hI : IRa m M0 k M) : ∃ M', f_X8_keeps LN RF m (RF m 22) (RF m k) 0 M = some M' ∧ IRa m M0 (k + 1) M' := by
  obtain ⟨g1, g2, g3, g4⟩ := hI
  have h6 := mlen_le k hk
  have ho := off_le (k + 1) (by omega)
  have hoe : off (k + 1) = off k + mlen k := rfl
  unfold f_X8_keeps
  rw [hm.1 22 (by decide), hm.1 k (by omega), show m + 1 + 22 = m + 23 by omega]
  simp only [gk_jn]
  obtain ⟨M', q1, q2, q3, q4, q5⟩ := lp_rs_sa (RF := RF) (m := m) (v := m + 1 + k) (L := mlen k) (p := off k) (hm.2.1 22 (by decide)) (hm.2.1 k (by omega)) (by omega) ⟨by omega, by omega⟩ (K := fun y => some y) (mlen k) gk_fuel 0 M g1 (by omega) (fuel_gt (by omega))
  refine ⟨M', by rw [show ((0 : Int32), M) = (nI 0, M) from rfl, q1], q2, by rw [q3, g2], fun a j a1 a2 => by rw [q4 a j a1 (by omega)]; exact g3 a j a1 a2, fun j i hj hi => ?_⟩
  by_cases e : j = k
  · subst e; rw [q5 i (by omega) hi]; exact g3 (m + 23) (off j + i) (by omega) (by omega)
  · rw [q4 (m + 1 + j) i (by omega) (by omega)]; exact g4 j i (by omega) hi
theorem t_keepa (hm : mL LN RF m) (M : gk_M) : ∃ M', f_X8_keepsAll LN RF m (RF m 22) 1 M = some M' ∧ IKa m M 21 M' := by
  have i0 : IKa m M 0 (gk_wr M m 28 0) := ⟨by rw [wr_1, if_pos ⟨rfl, rfl⟩]; rfl, rfl, fun a j a1 _ => by rw [wr_1, if_neg a1], fun j i hj => by omega⟩
  unfold f_X8_keepsAll gk_put
  refine bnd_ex (Q := IKa m M 1) (kp_stepa hm (k := 0) (by decide) i0) (fun K1 i1 => ?_)
  refine bnd_ex (Q := IKa m M 2) (kp_stepa hm (k := 1) (by decide) i1) (fun K2 i2 => ?_)
  refine bnd_ex (Q := IKa m M 3) (kp_stepa hm (k := 2) (by decide) i2) (fun K3 i3 => ?_)
  refine bnd_ex (Q := IKa m M 4) (kp_stepa hm (k := 3) (by decide) i3) (fun K4 i4 => ?_)
  refine bnd_ex (Q := IKa m M 5) (kp_stepa hm (k := 4) (by decide) i4) (fun K5 i5 => ?_)
  refine bnd_ex (Q := IKa m M 6) (kp_stepa hm (k := 5) (by decide) i5) (fun K6 i6 => ?_)
  refine bnd_ex (Q := IKa m M 7) (kp_stepa hm (k := 6) (by decide) i6) (fun K7 i7 => ?_)
  refine bnd_ex (Q := IKa m M 8) (kp_stepa hm (k := 7) (by decide) i7) (fun K8 i8 => ?_)
  refine bnd_ex (Q := IKa m M 9) (kp_stepa hm (k := 8) (by decide) i8) (fun K9 i9 => ?_)
  refine bnd_ex (Q := IKa m M 10) (kp_stepa hm (k := 9) (by decide) i9) (fun K10 i10 => ?_)
  refine bnd_ex (Q := IKa m M 11) (kp_stepa hm (k := 10) (by decide) i10) (fun K11 i11 => ?_)
  refine bnd_ex (Q := IKa m M 12) (kp_stepa hm (k := 11) (by decide) i11) (fun K12 i12 => ?_)
  refine bnd_ex (Q := IKa m M 13) (kp_stepa hm (k := 12) (by decide) i12) (fun K13 i13 => ?_)
  refine bnd_ex (Q := IKa m M 14) (kp_stepa hm (k := 13) (by decide) i13) (fun K14 i14 => ?_)
  refine bnd_ex (Q := IKa m M 15) (kp_stepa hm (k := 14) (by decide) i14) (fun K15 i15 => ?_)
  refine bnd_ex (Q := IKa m M 16) (kp_stepa hm (k := 15) (by decide) i15) (fun K16 i16 => ?_)
  refine bnd_ex (Q := IKa m M 17) (kp_stepa hm (k := 16) (by decide) i16) (fun K17 i17 => ?_)
  refine bnd_ex (Q := IKa m M 18) (kp_stepa hm (k := 17) (by decide) i17) (fun K18 i18 => ?_)
  refine bnd_ex (Q := IKa m M 19) (kp_stepa hm (k := 18) (by decide) i18) (fun K19 i19 => ?_)
  refine bnd_ex (Q := IKa m M 20) (kp_stepa hm (k := 19) (by decide) i19) (fun K20 i20 => ?_)
  refine bnd_ex (Q := IKa m M 21) (kp_stepa hm (k := 20) (by decide) i20) (fun K21 i21 => ?_)
  exact ⟨K21, rfl, i21⟩
theorem t_backa (hm : mL LN RF m) (M : gk_M) : ∃ M', f_X8_keepsAll LN RF m (RF m 22) 0 M = some M' ∧ IRa m M 21 M' := by
  have i0 : IRa m M 0 (gk_wr M m 28 0) := ⟨by rw [wr_1, if_pos ⟨rfl, rfl⟩]; rfl, rfl, fun a j a1 _ => by rw [wr_1, if_neg a1], fun j i hj => by omega⟩
  unfold f_X8_keepsAll gk_put
  refine bnd_ex (Q := IRa m M 1) (rs_stepa hm (k := 0) (by decide) i0) (fun K1 i1 => ?_)
  refine bnd_ex (Q := IRa m M 2) (rs_stepa hm (k := 1) (by decide) i1) (fun K2 i2 => ?_)
  refine bnd_ex (Q := IRa m M 3) (rs_stepa hm (k := 2) (by decide) i2) (fun K3 i3 => ?_)
  refine bnd_ex (Q := IRa m M 4) (rs_stepa hm (k := 3) (by decide) i3) (fun K4 i4 => ?_)
  refine bnd_ex (Q := IRa m M 5) (rs_stepa hm (k := 4) (by decide) i4) (fun K5 i5 => ?_)
  refine bnd_ex (Q := IRa m M 6) (rs_stepa hm (k := 5) (by decide) i5) (fun K6 i6 => ?_)
  refine bnd_ex (Q := IRa m M 7) (rs_stepa hm (k := 6) (by decide) i6) (fun K7 i7 => ?_)
  refine bnd_ex (Q := IRa m M 8) (rs_stepa hm (k := 7) (by decide) i7) (fun K8 i8 => ?_)
  refine bnd_ex (Q := IRa m M 9) (rs_stepa hm (k := 8) (by decide) i8) (fun K9 i9 => ?_)
  refine bnd_ex (Q := IRa m M 10) (rs_stepa hm (k := 9) (by decide) i9) (fun K10 i10 => ?_)
  refine bnd_ex (Q := IRa m M 11) (rs_stepa hm (k := 10) (by decide) i10) (fun K11 i11 => ?_)
  refine bnd_ex (Q := IRa m M 12) (rs_stepa hm (k := 11) (by decide) i11) (fun K12 i12 => ?_)
  refine bnd_ex (Q := IRa m M 13) (rs_stepa hm (k := 12) (by decide) i12) (fun K13 i13 => ?_)
  refine bnd_ex (Q := IRa m M 14) (rs_stepa hm (k := 13) (by decide) i13) (fun K14 i14 => ?_)
  refine bnd_ex (Q := IRa m M 15) (rs_stepa hm (k := 14) (by decide) i14) (fun K15 i15 => ?_)
  refine bnd_ex (Q := IRa m M 16) (rs_stepa hm (k := 15) (by decide) i15) (fun K16 i16 => ?_)
  refine bnd_ex (Q := IRa m M 17) (rs_stepa hm (k := 16) (by decide) i16) (fun K17 i17 => ?_)
  refine bnd_ex (Q := IRa m M 18) (rs_stepa hm (k := 17) (by decide) i17) (fun K18 i18 => ?_)
  refine bnd_ex (Q := IRa m M 19) (rs_stepa hm (k := 18) (by decide) i18) (fun K19 i19 => ?_)
  refine bnd_ex (Q := IRa m M 20) (rs_stepa hm (k := 19) (by decide) i19) (fun K20 i20 => ?_)
  refine bnd_ex (Q := IRa m M 21) (rs_stepa hm (k := 20) (by decide) i20) (fun K21 i21 => ?_)
  exact ⟨K21, rfl, i21⟩
end KPA
