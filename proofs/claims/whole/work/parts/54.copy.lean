/-! Copies: a house out of another, a book out of another -/
def Dj (h o n h' o' n' : Nat) : Prop := ∀ a, (a = h' ∨ (h' + o' ≤ a ∧ a < h' + o' + 6 + n')) → a ≠ h ∧ (a < h + o ∨ h + o + 6 + n ≤ a)
section CP
variable {LN : Nat → Nat} {RF : Nat → Nat → Nat} {h o n b h' o' n' b' : Nat}
theorem lp_cp42_s (hl : hL LN RF h o n b) (hl' : hL LN RF h' o' n' b') (dj : Dj h o n h' o' n') {K : gk_M → Option gk_M} : ∀ (r q i : Nat) (M : gk_M), i + r = 8 → r < q → ∃ M', lp_X2_copyFrom_42 LN RF h h' K q (nI i, M) = K M' ∧ (∀ a, a ≠ h + o → a ≠ h + o + 1 → a ≠ h + o + 2 → M'.1 a = M.1 a) ∧ M'.2 = M.2 ∧ ∀ x, M'.1 (h + o) x = (if i ≤ x ∧ x < 8 then M.1 (h' + o') x else M.1 (h + o) x) ∧ M'.1 (h + o + 1) x = (if i ≤ x ∧ x < 8 then M.1 (h' + o' + 1) x else M.1 (h + o + 1) x) ∧ M'.1 (h + o + 2) x = if i ≤ x ∧ x < 8 then M.1 (h' + o' + 2) x else M.1 (h + o + 2) x
  | r, 0, i, M, _, g => absurd g (by omega)
  | 0, q + 1, i, M, g1, g2 => by
    refine ⟨M, ?_, fun _ _ _ _ => rfl, rfl, fun x => by rw [if_neg (by omega), if_neg (by omega), if_neg (by omega)]; exact ⟨rfl, rfl, rfl⟩⟩
    rw [lp_X2_copyFrom_42, show (8 : Int32) = nI 8 from rfl, if_pos (nI_le (by omega) (by omega))]
  | r + 1, q + 1, i, M, g1, g2 => by
    have d0 := dj (h' + o') (by omega)
    have d1 := dj (h' + o' + 1) (by omega)
    have d2 := dj (h' + o' + 2) (by omega)
    rw [lp_X2_copyFrom_42, show (8 : Int32) = nI 8 from rfl, if_neg (nI_ge (by omega) (by omega)), ha_2 hl' (by omega), hw_2 hl (by omega), ha_3 hl' (by omega), hw_3 hl (by omega), ha_4 hl' (by omega), hw_4 hl (by omega)]
    simp only [nI_1]
    have e1 : (gk_wr M (h + o) i (M.1 (h' + o') i)).1 (h' + o' + 1) i = M.1 (h' + o' + 1) i := by rw [wr_1, if_neg (by omega)]
    have e2 : (gk_wr (gk_wr M (h + o) i (M.1 (h' + o') i)) (h + o + 1) i (M.1 (h' + o' + 1) i)).1 (h' + o' + 2) i = M.1 (h' + o' + 2) i := by rw [wr_1, if_neg (by omega), wr_1, if_neg (by omega)]
    rw [e1, e2]
    obtain ⟨M', q1, q2, q3, q4⟩ := lp_cp42_s hl hl' dj (K := K) r q (i + 1) (gk_wr (gk_wr (gk_wr M (h + o) i (M.1 (h' + o') i)) (h + o + 1) i (M.1 (h' + o' + 1) i)) (h + o + 2) i (M.1 (h' + o' + 2) i)) (by omega) (by omega)
    refine ⟨M', q1, fun a a1 a2 a3 => ?_, q3, fun x => ?_⟩
    · rw [q2 a a1 a2 a3]; funext j; simp [wr_1, a1, a2, a3]
    · obtain ⟨p0, p1, p2⟩ := q4 x
      rw [p0, p1, p2]
      simp only [wr_1, show ¬ h' + o' = h + o by omega, show ¬ h' + o' = h + o + 1 by omega, show ¬ h' + o' = h + o + 2 by omega, show ¬ h' + o' + 1 = h + o by omega, show ¬ h' + o' + 1 = h + o + 1 by omega, show ¬ h' + o' + 1 = h + o + 2 by omega, show ¬ h' + o' + 2 = h + o by omega, show ¬ h' + o' + 2 = h + o + 1 by omega, show ¬ h' + o' + 2 = h + o + 2 by omega, show ¬ h + o = h + o + 1 by omega, show ¬ h + o = h + o + 2 by omega, show ¬ h + o + 1 = h + o by omega, show ¬ h + o + 1 = h + o + 2 by omega, show ¬ h + o + 2 = h + o by omega, show ¬ h + o + 2 = h + o + 1 by omega, false_and, if_false, true_and]
      by_cases ex : x = i
      · subst ex
        refine ⟨?_, ?_, ?_⟩ <;> simp [show x < 8 by omega]
      · rw [if_neg ex, if_neg ex, if_neg ex]
        by_cases g : i + 1 ≤ x ∧ x < 8
        · rw [if_pos g, if_pos g, if_pos g, if_pos (by omega), if_pos (by omega), if_pos (by omega)]; exact ⟨rfl, rfl, rfl⟩
        · rw [if_neg g, if_neg g, if_neg g, if_neg (by omega), if_neg (by omega), if_neg (by omega)]; exact ⟨rfl, rfl, rfl⟩
theorem u_copyc {M : gk_M} {a c : Nat} (hac : c ≠ a) : ∃ M', f_X1_copyFrom LN RF a c M = some M' ∧ (∀ x, x ≠ a → M'.1 x = M.1 x ∧ M'.2 x = M.2 x) ∧ M'.2 a = M.2 c ∧ ∀ j, M'.1 a j = if j < 10 then M.1 c j else M.1 a j := by
  unfold f_X1_copyFrom
  simp only [gk_put, gk_putl]
  refine ⟨_, rfl, fun x hx => ⟨?_, ?_⟩, ?_, fun j => ?_⟩
  · funext j; simp [wl_1, wr_1, hx]
  · simp [wl_2, wr_2, hx]
  · simp [wl_2, wr_2]
  · rw [wl_1]
    simp only [wr_1, hac, false_and, if_false, true_and]
    by_cases g : j < 10
    · have : j = 0 ∨ j = 1 ∨ j = 2 ∨ j = 3 ∨ j = 4 ∨ j = 5 ∨ j = 6 ∨ j = 7 ∨ j = 8 ∨ j = 9 := by omega
      rcases this with rfl | rfl | rfl | rfl | rfl | rfl | rfl | rfl | rfl | rfl <;> rfl
    · rw [if_neg (by omega), if_neg (by omega), if_neg (by omega), if_neg (by omega), if_neg (by omega), if_neg (by omega), if_neg (by omega), if_neg (by omega), if_neg (by omega), if_neg (by omega), if_neg g]
theorem lp_cp92_s (hl : hL LN RF h o n b) (hl' : hL LN RF h' o' n' b') (dj : Dj h o n h' o' n') {nC : Nat} (hC : nC ≤ n) (hC' : nC ≤ n') {K : gk_M → Option gk_M} : ∀ (r q i : Nat) (M : gk_M), M.1 h 8 = nI nC → i + r = nC → r < q → ∃ M', lp_X2_copyFrom_92 LN RF h h' K q (nI i, M) = K M' ∧ (∀ a, (a < h + o + 6 + i ∨ h + o + 6 + nC ≤ a) → M'.1 a = M.1 a ∧ M'.2 a = M.2 a) ∧ ∀ c, i ≤ c → c < nC → M'.2 (h + o + 6 + c) = M.2 (h' + o' + 6 + c) ∧ ∀ j, j < 10 → M'.1 (h + o + 6 + c) j = M.1 (h' + o' + 6 + c) j
  | r, 0, i, M, _, _, g => absurd g (by omega)
  | 0, q + 1, i, M, h8, g1, g2 => by
    have hn := hl.2.2.2.1.2.2
    refine ⟨M, ?_, fun _ _ => ⟨rfl, rfl⟩, fun c c1 c2 => by omega⟩
    rw [lp_X2_copyFrom_92, h8, if_pos (nI_le (by omega) (by omega))]
  | r + 1, q + 1, i, M, h8, g1, g2 => by
    have hn := hl.2.2.2.1.2.2
    have ho := hl.2.2.2.1.1
    have di := dj (h' + o' + 6 + i) (by omega)
    rw [lp_X2_copyFrom_92, h8, if_neg (nI_ge (by omega) (by omega)), ha_c hl (by omega), ha_c hl' (by omega)]
    obtain ⟨M1, p1, p2, p3, p4⟩ := u_copyc (LN := LN) (RF := RF) (M := M) (a := h + o + 6 + i) (c := h' + o' + 6 + i) (by omega)
    rw [p1]
    simp only [Option.bind_some, nI_1]
    obtain ⟨M', q1, q2, q3⟩ := lp_cp92_s hl hl' dj hC hC' (K := K) r q (i + 1) M1 (by rw [(p2 h (by omega)).1]; exact h8) (by omega) (by omega)
    refine ⟨M', q1, fun a ha => ?_, fun c c1 c2 => ?_⟩
    · rw [(q2 a (by omega)).1, (q2 a (by omega)).2]; exact p2 a (by omega)
    · by_cases e : c = i
      · subst e
        rw [(q2 _ (by omega)).1, (q2 _ (by omega)).2]
        exact ⟨p3, fun j hj => by rw [p4, if_pos hj]⟩
      · have dc := dj (h' + o' + 6 + c) (by omega)
        obtain ⟨r1, r2⟩ := q3 c (by omega) c2
        rw [(p2 (h' + o' + 6 + c) (by omega)).2] at r1
        refine ⟨r1, fun j hj => ?_⟩
        rw [r2 j hj, (p2 (h' + o' + 6 + c) (by omega)).1]
theorem lp_cp123_s (hl : hL LN RF h o n b) (hl' : hL LN RF h' o' n' b') (dj : Dj h o n h' o' n') {nB : Nat} (hB : nB ≤ 8) {K : gk_M → Option gk_M} : ∀ (r q i : Nat) (M : gk_M), M.1 h 9 = nI nB → i + r = nB → r < q → ∃ M', lp_X2_copyFrom_123 LN RF h h' K q (nI i, M) = K M' ∧ (∀ a, a ≠ h + o + 3 → a ≠ h + o + 4 → M'.1 a = M.1 a) ∧ M'.2 = M.2 ∧ ∀ x, M'.1 (h + o + 3) x = (if i ≤ x ∧ x < nB then M.1 (h' + o' + 3) x else M.1 (h + o + 3) x) ∧ M'.1 (h + o + 4) x = if i ≤ x ∧ x < nB then M.1 (h' + o' + 4) x else M.1 (h + o + 4) x
  | r, 0, i, M, _, _, g => absurd g (by omega)
  | 0, q + 1, i, M, h9, g1, g2 => by
    refine ⟨M, ?_, fun _ _ _ => rfl, rfl, fun x => by rw [if_neg (by omega), if_neg (by omega)]; exact ⟨rfl, rfl⟩⟩
    rw [lp_X2_copyFrom_123, h9, if_pos (nI_le (by omega) (by omega))]
  | r + 1, q + 1, i, M, h9, g1, g2 => by
    have ho := hl.2.2.2.1.1
    have d3 := dj (h' + o' + 3) (by omega)
    have d4 := dj (h' + o' + 4) (by omega)
    rw [lp_X2_copyFrom_123, h9, if_neg (nI_ge (by omega) (by omega)), ha_5 hl' (by omega), hw_5 hl (by omega), ha_6 hl' (by omega), hw_6 hl (by omega)]
    simp only [nI_1]
    have e1 : (gk_wr M (h + o + 3) i (M.1 (h' + o' + 3) i)).1 (h' + o' + 4) i = M.1 (h' + o' + 4) i := by rw [wr_1, if_neg (by omega)]
    rw [e1]
    obtain ⟨M', q1, q2, q3, q4⟩ := lp_cp123_s hl hl' dj hB (K := K) r q (i + 1) (gk_wr (gk_wr M (h + o + 3) i (M.1 (h' + o' + 3) i)) (h + o + 4) i (M.1 (h' + o' + 4) i)) (by rw [wr_1, if_neg (by omega), wr_1, if_neg (by omega)]; exact h9) (by omega) (by omega)
    refine ⟨M', q1, fun a a1 a2 => ?_, q3, fun x => ?_⟩
    · rw [q2 a a1 a2]; funext j; simp [wr_1, a1, a2]
    · obtain ⟨p0, p1⟩ := q4 x
      rw [p0, p1]
      simp only [wr_1, show ¬ h' + o' + 3 = h + o + 3 by omega, show ¬ h' + o' + 3 = h + o + 4 by omega, show ¬ h' + o' + 4 = h + o + 3 by omega, show ¬ h' + o' + 4 = h + o + 4 by omega, show ¬ h + o + 3 = h + o + 4 by omega, show ¬ h + o + 4 = h + o + 3 by omega, false_and, if_false, true_and]
      by_cases ex : x = i
      · subst ex
        refine ⟨?_, ?_⟩ <;> simp [show x < nB by omega]
      · rw [if_neg ex, if_neg ex]
        by_cases g : i + 1 ≤ x ∧ x < nB
        · rw [if_pos g, if_pos g, if_pos (by omega), if_pos (by omega)]; exact ⟨rfl, rfl⟩
        · rw [if_neg g, if_neg g, if_neg (by omega), if_neg (by omega)]; exact ⟨rfl, rfl⟩
theorem u_min {M : gk_M} {a c : Nat} (ha : a < 2 ^ 31) (hc : c < 2 ^ 31) (hle : a ≤ c) : f_J9_min_7cf53 LN RF (nI a) (nI c) M = some (nI a) := by
  unfold f_J9_min_7cf53
  simp only [gk_jn, nI_ltI hc ha]
  rw [if_neg (by omega)]
theorem u_copyH (hl : hL LN RF h o n b) (hl' : hL LN RF h' o' n' b') (dj : Dj h o n h' o' n') {M : gk_M} {S : zS} (hH : HR h' o' M S) (hC : S 20 2 ≤ n) (hC' : S 20 2 ≤ n') (h4 : S 20 4 ≤ 8) : ∃ M', f_X2_copyFrom LN RF h h' M = some M' ∧ HR h o M' S ∧ HFr h o n M M' := by
  have hn := hl.2.2.2.1.2.2
  have ho := hl.2.2.2.1.1
  have ho' := hl'.2.2.2.1.1
  have d0 := dj h' (Or.inl rfl)
  obtain ⟨⟨g7, g8, g9, g10⟩, gc, gl, gb⟩ := hH
  unfold f_X2_copyFrom
  simp only [gk_put, gk_jn]
  have hw : ∀ (Mx : gk_M) (k j : Nat) (v : Int32), (gk_wr Mx h k v).1 h' j = Mx.1 h' j := fun Mx k j v => by rw [wr_1, if_neg (fun g => d0.1 g.1)]
  simp only [hw, g7, g8, g9, g10]
  rw [hl.1.2.1, hl.2.2.1.2.2.2.2.2, u_min (by omega) (by omega) hC]
  simp only [Option.bind_some]
  obtain ⟨M0, hM0⟩ : ∃ M0, M0 = gk_wr (gk_wr (gk_wr (gk_wr M h 7 (nI (S 20 0))) h 8 (nI (S 20 2))) h 9 (nI (S 20 4))) h 10 (nI (S 20 3)) := ⟨_, rfl⟩
  rw [← hM0]
  have m0 : ∀ a, a ≠ h → M0.1 a = M.1 a ∧ M0.2 a = M.2 a := fun a ha => by rw [hM0]; exact ⟨by funext j; simp [wr_1, ha], rfl⟩
  have m7 : M0.1 h 7 = nI (S 20 0) ∧ M0.1 h 8 = nI (S 20 2) ∧ M0.1 h 9 = nI (S 20 4) ∧ M0.1 h 10 = nI (S 20 3) := by rw [hM0]; simp [wr_1]
  obtain ⟨M1, q1, q2, q3, q4⟩ := lp_cp42_s hl hl' dj (K := fun y27 => lp_X2_copyFrom_92 LN RF h h' (fun y29 => lp_X2_copyFrom_123 LN RF h h' (fun y31 => some y31) gk_fuel (0, y29)) gk_fuel (0, y27)) 8 gk_fuel 0 M0 (by omega) (fuel_gt (by omega))
  have e1 : M1.1 h = M0.1 h := q2 h (by omega) (by omega) (by omega)
  obtain ⟨M2, p1, p2, p3⟩ := lp_cp92_s hl hl' dj hC hC' (K := fun y29 => lp_X2_copyFrom_123 LN RF h h' (fun y31 => some y31) gk_fuel (0, y29)) (S 20 2) gk_fuel 0 M1 (by rw [e1]; exact m7.2.1) (by omega) (fuel_gt (by omega))
  have e2 : M2.1 h = M0.1 h := by rw [(p2 h (by omega)).1, e1]
  obtain ⟨M3, r1, r2, r3, r4⟩ := lp_cp123_s hl hl' dj h4 (K := fun y31 => some y31) (S 20 4) gk_fuel 0 M2 (by rw [e2]; exact m7.2.2.1) (by omega) (fuel_gt (by omega))
  rw [show ((0 : Int32), M0) = (nI 0, M0) from rfl, q1, show ((0 : Int32), M1) = (nI 0, M1) from rfl, p1, show ((0 : Int32), M2) = (nI 0, M2) from rfl, r1]
  have src1 : ∀ a, (a = h' ∨ (h' + o' ≤ a ∧ a < h' + o' + 6 + n')) → M1.1 a = M.1 a ∧ M1.2 a = M.2 a := fun a ha => by
    have da := dj a ha
    rw [q2 a (by omega) (by omega) (by omega), q3]; exact m0 a da.1
  have src2 : ∀ a, (a = h' ∨ (h' + o' ≤ a ∧ a < h' + o' + 6 + n')) → M2.1 a = M.1 a := fun a ha => by
    have da := dj a ha
    rw [(p2 a (by omega)).1]; exact (src1 a ha).1
  refine ⟨M3, rfl, ⟨?_, fun c hc => ?_, fun l hl8 => ?_, fun i hi => ?_⟩, fun a a1 a2 => ?_⟩
  · rw [r2 h (by omega) (by omega), e2]; exact m7
  · obtain ⟨s1, s2⟩ := p3 c (by omega) hc
    have hcr := gc c hc
    unfold CR at hcr ⊢
    rw [r2 _ (by omega) (by omega), r3, s1, s2 0 (by decide), s2 1 (by decide), s2 2 (by decide), s2 3 (by decide), s2 4 (by decide), s2 5 (by decide), s2 6 (by decide), s2 7 (by decide), s2 8 (by decide), s2 9 (by decide), (src1 _ (by omega)).1, (src1 _ (by omega)).2]
    exact hcr
  · obtain ⟨t0, t1, t2⟩ := q4 l
    rw [r2 _ (by omega) (by omega), r2 _ (by omega) (by omega), r2 _ (by omega) (by omega), (p2 _ (by omega)).1, (p2 _ (by omega)).1, (p2 _ (by omega)).1, t0, t1, t2, if_pos (by omega), if_pos (by omega), if_pos (by omega)]
    rw [(m0 _ (dj (h' + o') (by omega)).1).1, (m0 _ (dj (h' + o' + 1) (by omega)).1).1, (m0 _ (dj (h' + o' + 2) (by omega)).1).1]
    exact gl l hl8
  · obtain ⟨t3, t4⟩ := r4 i
    rw [t3, t4, if_pos (by omega), if_pos (by omega), src2 _ (by omega), src2 _ (by omega)]
    exact gb i hi
  · rw [r2 a (by omega) (by omega), r3, (p2 a (by omega)).1, (p2 a (by omega)).2, q2 a (by omega) (by omega) (by omega), q3]
    exact m0 a a1
end CP
