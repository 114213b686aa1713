/-! Copies of books; image and restore of the class -/
section IM
variable {LN : Nat → Nat} {RF : Nat → Nat → Nat} {h o n b h' o' n' b' x : Nat} {W S : zS}
theorem u_copyw {M : gk_M} {a c : Nat} {f : Nat → Nat} (hac : c ≠ a) (hf : ∀ k, k < 6 → M.1 c k = nI (f k)) (h5 : f 5 ≤ 1) : ∃ M', f_X5_copyFrom LN RF a c M = some M' ∧ (∀ y, y ≠ a → M'.1 y = M.1 y) ∧ M'.2 = M.2 ∧ ∀ k, k < 6 → M'.1 a k = nI (f k) := by
  unfold f_X5_copyFrom
  simp only [gk_put, gk_putz, wr_1, hac, false_and, if_false]
  have e5 : M.1 c 5 = 0 ∨ M.1 c 5 = 1 := by
    rw [hf 5 (by decide)]
    rcases Nat.lt_or_ge (f 5) 1 with g | g
    · left; rw [show f 5 = 0 by omega]; rfl
    · right; rw [show f 5 = 1 by omega]; rfl
  rw [if_pos e5]
  refine ⟨_, rfl, fun y hy => ?_, rfl, fun k hk => ?_⟩
  · funext j; simp [wr_1, hy]
  · have : k = 0 ∨ k = 1 ∨ k = 2 ∨ k = 3 ∨ k = 4 ∨ k = 5 := by omega
    rw [← hf k hk]
    rcases this with rfl | rfl | rfl | rfl | rfl | rfl <;> simp [wr_1]
theorem lp_cpB_s (hl : hL LN RF h o n b) (hl' : hL LN RF h' o' n' b') (dj : b + 26 ≤ b' ∨ b' + 26 ≤ b) (hW : WB W) {K : gk_M → Option gk_M} : ∀ (r q i : Nat) (M : gk_M), M.1 b 1 = nI (W 6 0) → BR b' M W → i + r = W 6 0 → r < q → ∃ M', lp_X6_copyFrom_10 LN RF b b' K q (nI i, M) = K M' ∧ (∀ a, (a < b + 2 + i ∨ b + 2 + W 6 0 ≤ a) → M'.1 a = M.1 a) ∧ M'.2 = M.2 ∧ ∀ w k, i ≤ w → w < W 6 0 → k < 6 → M'.1 (b + 2 + w) k = nI (W k w)
  | r, 0, i, M, _, _, _, g => absurd g (by omega)
  | 0, q + 1, i, M, h1, hB, g1, g2 => by
    have hn := hW.1
    refine ⟨M, ?_, fun _ _ => rfl, rfl, fun w k w1 w2 _ => by omega⟩
    rw [lp_X6_copyFrom_10, h1, if_pos (nI_le (by omega) (by omega))]
  | r + 1, q + 1, i, M, h1, hB, g1, g2 => by
    have hn := hW.1
    have hb := hW.2 i (by omega)
    rw [lp_X6_copyFrom_10, h1, if_neg (nI_ge (by omega) (by omega)), ha_w hl (by omega), ha_w hl' (by omega)]
    obtain ⟨M1, p1, p2, p3, p4⟩ := u_copyw (LN := LN) (RF := RF) (M := M) (a := b + 2 + i) (c := b' + 2 + i) (f := fun k => W k i) (by omega) (fun k hk => hB.2 i k (by omega) hk) hb.2.2.2.2.2
    rw [p1]
    simp only [Option.bind_some, nI_1]
    obtain ⟨M', q1, q2, q3, q4⟩ := lp_cpB_s hl hl' dj hW (K := K) r q (i + 1) M1 (by rw [p2 b (by omega)]; exact h1) (hB.out hW (fun a a1 a2 => p2 a (by omega))) (by omega) (by omega)
    refine ⟨M', q1, fun a ha => by rw [q2 a (by omega), p2 a (by omega)], by rw [q3, p3], fun w k w1 w2 hk => ?_⟩
    by_cases e : w = i
    · subst e; rw [q2 _ (by omega)]; exact p4 k hk
    · exact q4 w k (by omega) w2 hk
theorem u_copyB (hl : hL LN RF h o n b) (hl' : hL LN RF h' o' n' b') (dj : b + 26 ≤ b' ∨ b' + 26 ≤ b) (hW : WB W) {M : gk_M} (hB : BR b' M W) : ∃ M', f_X6_copyFrom LN RF b b' M = some M' ∧ BR b M' W ∧ (∀ a, (a < b ∨ b + 26 ≤ a) → M'.1 a = M.1 a) ∧ M'.2 = M.2 := by
  have hn := hW.1
  unfold f_X6_copyFrom
  simp only [gk_put, gk_jn, hB.1]
  obtain ⟨M', q1, q2, q3, q4⟩ := lp_cpB_s hl hl' dj hW (K := fun y => some y) (W 6 0) gk_fuel 0 (gk_wr M b 1 (nI (W 6 0))) (by rw [wr_1, if_pos ⟨rfl, rfl⟩]) (hB.out hW (fun a a1 a2 => by funext j; rw [wr_1, if_neg (by omega)])) (by omega) (fuel_gt (by omega))
  refine ⟨M', q1, ⟨?_, fun w k hw hk => q4 w k (by omega) hw hk⟩, fun a ha => ?_, q3⟩
  · rw [q2 b (by omega), wr_1, if_pos ⟨rfl, rfl⟩]
  · rw [q2 a (by omega)]; funext j; rw [wr_1, if_neg (by omega)]
/-- image: what is kept; all else stays, but for the mark and the status -/
theorem c_image (hx : xL LN RF x) {M : gk_M} (hH : HR (x + 1) 27 M S) (hB : BR (x + 2) M W) (hW : WB W) (hI : SI 60 S) : ∃ M', f_X7_image LN RF x M = some (1, M') ∧ HR (x + 94) 27 M' S ∧ BR (x + 95) M' W ∧ M'.1 x 7 = 1 ∧ M'.1 x 9 = 0 ∧ (∀ j, j ≠ 7 → j ≠ 9 → M'.1 x j = M.1 x j) ∧ ∀ a, a ≠ x → (a < x + 94 ∨ x + 187 ≤ a) → M'.1 a = M.1 a ∧ M'.2 a = M.2 a := by
  have h1 := hI.1
  unfold f_X7_image
  rw [hx.2.2.1, hx.1]
  obtain ⟨M1, q1, q2, q3⟩ := u_copyH hx.2.2.2 hx.2.1 (fun a ha => by omega) hH (by omega) (by omega) (by omega)
  rw [q1]
  simp only [Option.bind_some, hx.2.2.2.1.1, hx.2.1.1.1]
  obtain ⟨M2, p1, p2, p3, p4⟩ := u_copyB hx.2.2.2 hx.2.1 (by omega) hW (M := M1) (hB.out hW (fun a a1 a2 => (q3 a (by omega) (by omega)).1))
  rw [p1]
  simp only [Option.bind_some, gk_putz, or_true, if_true]
  unfold f_X7_done
  simp only [gk_put, Option.bind_some]
  refine ⟨_, rfl, ?_, ?_, ?_, ?_, fun j j7 j9 => ?_, fun a ha hb => ⟨?_, ?_⟩⟩
  · exact q2.out (fun a ha => ⟨by rw [← p3 a (by omega)]; funext j; rw [wr_1, if_neg (by omega), wr_1, if_neg (by omega)], by rw [wr_2, wr_2, p4]⟩)
  · exact p2.out hW (fun a a1 a2 => by funext j; rw [wr_1, if_neg (by omega), wr_1, if_neg (by omega)])
  · rw [wr_1, if_neg (by omega), wr_1, if_pos ⟨rfl, rfl⟩]
  · rw [wr_1, if_pos ⟨rfl, rfl⟩]
  · rw [wr_1, if_neg (fun g => j9 g.2), wr_1, if_neg (fun g => j7 g.2), p3 x (by omega), (q3 x (by omega) (by omega)).1]
  · rw [← (q3 a (by omega) (by omega)).1, ← p3 a (by omega)]; funext j; rw [wr_1, if_neg (fun g => ha g.1), wr_1, if_neg (fun g => ha g.1)]
  · rw [wr_2, wr_2, p4, (q3 a (by omega) (by omega)).2]
/-- restore, when it is done -/
theorem c_restore (hx : xL LN RF x) {M : gk_M} (hH : HR (x + 94) 27 M S) (hB : BR (x + 95) M W) (hW : WB W) (hI : SI 60 S) {k : Nat} (hk : M.1 x 8 = nI k) (hk10 : k < 10) (h7 : M.1 x 7 ≠ 0) : ∃ M', f_X7_restore LN RF x M = some (nI (S 20 3), M') ∧ HR (x + 1) 27 M' S ∧ BR (x + 2) M' W ∧ M'.1 x 8 = nI (k + 1) ∧ M'.1 x 9 = 0 ∧ (∀ j, j ≠ 8 → j ≠ 9 → M'.1 x j = M.1 x j) ∧ ∀ a, a ≠ x → (a < x + 1 ∨ x + 94 ≤ a) → M'.1 a = M.1 a ∧ M'.2 a = M.2 a := by
  have h1 := hI.1
  unfold f_X7_restore
  rw [hk, show (10 : Int32) = nI 10 from rfl, if_pos (nI_lt hk10 (by omega)), if_neg h7, hx.2.2.1, hx.1]
  obtain ⟨M1, q1, q2, q3⟩ := u_copyH hx.2.1 hx.2.2.2 (fun a ha => by omega) hH (by omega) (by omega) (by omega)
  rw [q1]
  simp only [Option.bind_some, hx.2.2.2.1.1, hx.2.1.1.1]
  obtain ⟨M2, p1, p2, p3, p4⟩ := u_copyB hx.2.1 hx.2.2.2 (by omega) hW (M := M1) (hB.out hW (fun a a1 a2 => (q3 a (by omega) (by omega)).1))
  rw [p1]
  have e8 : M2.1 x 8 = nI k := by rw [p3 x (by omega), (q3 x (by omega) (by omega)).1]; exact hk
  have e10 : M2.1 (x + 1) 10 = nI (S 20 3) := by rw [p3 (x + 1) (by omega)]; exact q2.1.2.2.2
  unfold f_X7_done
  simp only [Option.bind_some, gk_put, e8, nI_1]
  refine ⟨_, by rw [wr_1, if_neg (by omega), e10], ?_, ?_, ?_, ?_, fun j j8 j9 => ?_, fun a ha hb => ⟨?_, ?_⟩⟩
  · exact q2.out (fun a ha => ⟨by rw [← p3 a (by omega)]; funext j; rw [wr_1, if_neg (by omega), wr_1, if_neg (by omega)], by rw [wr_2, wr_2, p4]⟩)
  · exact p2.out hW (fun a a1 a2 => by funext j; rw [wr_1, if_neg (by omega), wr_1, if_neg (by omega)])
  · rw [wr_1, if_neg (by omega), wr_1, if_pos ⟨rfl, rfl⟩]
  · rw [wr_1, if_pos ⟨rfl, rfl⟩]
  · rw [wr_1, if_neg (fun g => j9 g.2), wr_1, if_neg (fun g => j8 g.2), p3 x (by omega), (q3 x (by omega) (by omega)).1]
  · rw [← (q3 a (by omega) (by omega)).1, ← p3 a (by omega)]; funext j; rw [wr_1, if_neg (fun g => ha g.1), wr_1, if_neg (fun g => ha g.1)]
  · rw [wr_2, wr_2, p4, (q3 a (by omega) (by omega)).2]
end IM
