/-! Sheets: T 0 s the sort + 1 (0: missing), T 1 s the size, V the cells -/
def sL (LN : Nat → Nat) (RF : Nat → Nat → Nat) (x : Nat) : Prop := RF x 4 = x + 279 ∧ RF (x + 279) 0 = x + 280 ∧ RF (x + 279) 1 = x + 281 ∧ RF (x + 279) 2 = x + 282 ∧ LN (x + 280) = 4 ∧ LN (x + 281) = 4 ∧ LN (x + 282) = 160
def SR (x : Nat) (M : gk_M) (T : zS) (V : Nat → Int32) : Prop := (∀ s, s < 4 → M.1 (x + 280) s = nN (T 0 s) ∧ M.1 (x + 281) s = nI (T 1 s)) ∧ ∀ i, i < 160 → M.1 (x + 282) i = V i
def TR (m : Nat) (M : gk_M) (T : zS) (V : Nat → Int32) : Prop := (∀ s, s < 4 → M.1 (m + 31) s = nI (T 0 s) ∧ M.1 (m + 32) s = nI (T 1 s)) ∧ ∀ i, i < 160 → M.1 (m + 33) i = V i
def layT (T : zS) (s k z : Nat) : zS := su (su T 0 s k) 1 s z
def layV (V : Nat → Int32) (s : Nat) : Nat → Int32 := fun i => if 40 * s ≤ i ∧ i < 40 * s + 40 then 0 else V i
def sheetR (T : zS) (V : Nat → Int32) (a1 a2 a3 : Int32) : Int32 × Nat × zS × (Nat → Int32) := if isL 4 a1 = false then (-1, 1, T, V) else if a2 = -1 then (1, 0, layT T (tN a1) 0 0, layV V (tN a1)) else if isL 3 a2 = false ∨ isL 41 a3 = false then (-1, 1, T, V) else (1, 0, layT T (tN a1) (tN a2 + 1) (tN a3), layV V (tN a1))
def CS (x : Nat) (M : gk_M) (o : Option (Int32 × gk_M)) (R : Int32 × Nat × zS × (Nat → Int32)) : Prop := ∃ M', o = some (R.1, M') ∧ SR x M' R.2.2.1 R.2.2.2 ∧ M'.1 x 9 = nI R.2.1 ∧ M'.2 = M.2 ∧ ∀ a j, (a < x + 280 ∨ x + 282 < a) → ¬ (a = x ∧ j = 9) → M'.1 a j = M.1 a j
def MS (m : Nat) (M : gk_M) (o : Option (Int32 × gk_M)) (R : Int32 × Nat × zS × (Nat → Int32)) : Prop := ∃ M', o = some (R.1, M') ∧ TR m M' R.2.2.1 R.2.2.2 ∧ M'.1 m 25 = nI R.2.1 ∧ M'.2 = M.2 ∧ ∀ a j, (a < m + 31 ∨ m + 33 < a) → ¬ (a = m ∧ j = 25) → M'.1 a j = M.1 a j
theorem nI_m40 (s i : Nat) : nI s * 40 + nI i = nI (40 * s + i) := by
  unfold nI
  rw [show (40 : Int32) = Int32.ofNat 40 from rfl, ← Int32.ofNat_mul, ← Int32.ofNat_add, Nat.mul_comm]
theorem nI_40m (s i : Nat) : (40 : Int32) * nI s + nI i = nI (40 * s + i) := by
  unfold nI
  rw [show (40 : Int32) = Int32.ofNat 40 from rfl, ← Int32.ofNat_mul, ← Int32.ofNat_add]
section SH
variable {LN : Nat → Nat} {RF : Nat → Nat → Nat} {x m : Nat}
theorem lp_lay_s (hs : sL LN RF x) {s : Nat} (h4 : s < 4) {K : gk_M → Option gk_M} : ∀ (r q i : Nat) (M : gk_M), i + r = 40 → r < q → ∃ M', lp_X4_lay_26 LN RF (x + 279) (nI s) K q (nI i, M) = K M' ∧ (∀ a, a ≠ x + 282 → M'.1 a = M.1 a) ∧ M'.2 = M.2 ∧ ∀ j, M'.1 (x + 282) j = if 40 * s + i ≤ j ∧ j < 40 * s + 40 then 0 else M.1 (x + 282) j
  | r, 0, i, M, _, g => absurd g (by omega)
  | 0, q + 1, i, M, g1, g2 => by
    refine ⟨M, ?_, fun _ _ => rfl, rfl, fun j => by rw [if_neg (by omega)]⟩
    rw [lp_X4_lay_26, show (40 : Int32) = nI 40 from rfl, if_pos (nI_le (by omega) (by omega))]
  | r + 1, q + 1, i, M, g1, g2 => by
    have c1 : ¬ (40 : Int32) ≤ nI i := by rw [show (40 : Int32) = nI 40 from rfl]; exact nI_ge (by omega) (by omega)
    rw [lp_X4_lay_26, if_neg c1]
    simp only [nI_m40, nI_1]
    rw [hs.2.2.2.1, ast_n (by rw [hs.2.2.2.2.2.2]; omega) (by omega)]
    obtain ⟨M', q1, q2, q3, q4⟩ := lp_lay_s hs h4 (K := K) r q (i + 1) (gk_wr M (x + 282) (40 * s + i) 0) (by omega) (by omega)
    refine ⟨M', q1, fun a ha => ?_, q3, fun j => ?_⟩
    · rw [q2 a ha]; funext j; rw [wr_1, if_neg (fun g => ha g.1)]
    · rw [q4 j, wr_1]
      by_cases e : j = 40 * s + i
      · rw [if_neg (by omega), if_pos ⟨rfl, e⟩, if_pos (by omega)]
      · rw [if_neg (show ¬ (x + 282 = x + 282 ∧ j = 40 * s + i) from fun g => e g.2)]
        by_cases g : 40 * s + (i + 1) ≤ j ∧ j < 40 * s + 40
        · rw [if_pos g, if_pos (by omega)]
        · rw [if_neg g, if_neg (by omega)]
theorem lp_she_s (hm : mL LN RF m) {s : Nat} (h4 : s < 4) {K : gk_M → Option (Int32 × gk_M)} : ∀ (r q i : Nat) (M : gk_M), i + r = 40 * s + 40 → r < q → ∃ M', lp_X8_sheet_78 LN RF m (nI s) K q (nI i, M) = K M' ∧ (∀ a, a ≠ m + 33 → M'.1 a = M.1 a) ∧ M'.2 = M.2 ∧ ∀ j, M'.1 (m + 33) j = if i ≤ j ∧ j < 40 * s + 40 then 0 else M.1 (m + 33) j
  | r, 0, i, M, _, g => absurd g (by omega)
  | 0, q + 1, i, M, g1, g2 => by
    refine ⟨M, ?_, fun _ _ => rfl, rfl, fun j => by rw [if_neg (by omega)]⟩
    rw [lp_X8_sheet_78, show (40 : Int32) * nI s + 40 = nI (40 * s + 40) from nI_40m s 40, if_pos (nI_le (by omega) (by omega))]
  | r + 1, q + 1, i, M, g1, g2 => by
    rw [lp_X8_sheet_78, show (40 : Int32) * nI s + 40 = nI (40 * s + 40) from nI_40m s 40, if_neg (nI_ge (by omega) (by omega)), hm.2.2.1.2.2.2.2.2.2.2.2.2, ast_n (by rw [hm.2.2.2.2.2.2.2.2.2.2.2.2]; omega) (by omega)]
    simp only [nI_1]
    obtain ⟨M', q1, q2, q3, q4⟩ := lp_she_s hm h4 (K := K) r q (i + 1) (gk_wr M (m + 33) i 0) (by omega) (by omega)
    refine ⟨M', q1, fun a ha => ?_, q3, fun j => ?_⟩
    · rw [q2 a ha]; funext j; rw [wr_1, if_neg (fun g => ha g.1)]
    · rw [q4 j, wr_1]
      by_cases e : j = i
      · rw [if_neg (by omega), if_pos ⟨rfl, e⟩, if_pos (by omega)]
      · rw [if_neg (show ¬ (m + 33 = m + 33 ∧ j = i) from fun g => e g.2)]
        by_cases g : i + 1 ≤ j ∧ j < 40 * s + 40
        · rw [if_pos g, if_pos (by omega)]
        · rw [if_neg g, if_neg (by omega)]
theorem sh_lay (hs : sL LN RF x) {M : gk_M} {T : zS} {V : Nat → Int32} (hS : SR x M T V) {s k z : Nat} {a2 a3 : Int32} (h4 : s < 4) (h2 : a2 = nN k) (hz : (if a2 = -1 then 0 else a3) = nI z) : ∃ M', f_X4_lay LN RF (x + 279) (nI s) a2 a3 M = some M' ∧ SR x M' (layT T s k z) (layV V s) ∧ (∀ a, (a < x + 280 ∨ x + 282 < a) → M'.1 a = M.1 a) ∧ M'.2 = M.2 := by
  unfold f_X4_lay
  rw [hs.2.1, ast_n (by rw [hs.2.2.2.2.1]; omega) (by omega)]
  simp only [gk_jn]
  have key : ∃ M', (gk_ast LN (gk_wr M (x + 280) s a2) (RF (x + 279) 1) (nI s) (nI z) fun M26 => lp_X4_lay_26 LN RF (x + 279) (nI s) (fun y27 => some y27) gk_fuel (0, M26)) = some M' ∧ SR x M' (layT T s k z) (layV V s) ∧ (∀ a, (a < x + 280 ∨ x + 282 < a) → M'.1 a = M.1 a) ∧ M'.2 = M.2 := by
    rw [hs.2.2.1, ast_n (by rw [hs.2.2.2.2.2.1]; omega) (by omega)]
    obtain ⟨M', q1, q2, q3, q4⟩ := lp_lay_s hs h4 (K := fun y => some y) 40 gk_fuel 0 (gk_wr (gk_wr M (x + 280) s a2) (x + 281) s (nI z)) (by omega) (fuel_gt (by omega))
    refine ⟨M', q1, ⟨fun t ht => ?_, fun i hi => ?_⟩, fun a ha => ?_, q3⟩
    · rw [q2 _ (by omega), q2 _ (by omega), wr_1, if_neg (by omega), wr_1, wr_1]
      unfold layT
      rw [su_k (by decide), su_i, su_i, su_k (by decide)]
      by_cases e : t = s
      · rw [if_pos ⟨rfl, e⟩, if_pos e, if_pos ⟨rfl, e⟩, if_pos e]; exact ⟨h2, rfl⟩
      · rw [if_neg (fun g => e g.2), if_neg e, if_neg (fun g => e g.2), if_neg e, wr_1, if_neg (by omega)]; exact hS.1 t ht
    · rw [q4 i, wr_1, if_neg (show ¬ (x + 282 = x + 281 ∧ i = s) by omega), wr_1, if_neg (show ¬ (x + 282 = x + 280 ∧ i = s) by omega), hS.2 i hi]
      rfl
    · rw [q2 a (by omega)]; funext j; rw [wr_1, if_neg (by omega), wr_1, if_neg (by omega)]
  by_cases e : a2 = -1
  · rw [if_pos e] at hz ⊢; rw [← hz] at key; exact key
  · rw [if_neg e] at hz ⊢; rw [hz]; exact key
theorem SR.out {M M' : gk_M} {T : zS} {V : Nat → Int32} (h : SR x M T V) (he : ∀ a, x + 280 ≤ a → a ≤ x + 282 → M'.1 a = M.1 a) : SR x M' T V := ⟨fun s hs => by rw [he (x + 280) (by omega) (by omega), he (x + 281) (by omega) (by omega)]; exact h.1 s hs, fun i hi => by rw [he (x + 282) (by omega) (by omega)]; exact h.2 i hi⟩
theorem TR.out {M M' : gk_M} {T : zS} {V : Nat → Int32} (h : TR m M T V) (he : ∀ a, m + 31 ≤ a → a ≤ m + 33 → M'.1 a = M.1 a) : TR m M' T V := ⟨fun s hs => by rw [he (m + 31) (by omega) (by omega), he (m + 32) (by omega) (by omega)]; exact h.1 s hs, fun i hi => by rw [he (m + 33) (by omega) (by omega)]; exact h.2 i hi⟩
theorem ref_CS {M : gk_M} {T : zS} {V : Nat → Int32} (h : SR x M T V) (s : Nat) {y : Int32} (hy : y = nI s) : CS x M ((f_X7_refused LN RF x y M).bind fun r => some (r.1, r.2)) (-1, s, T, V) := by
  subst hy
  unfold f_X7_refused gk_put
  exact ⟨_, rfl, h.out (fun a _ _ => by funext j; rw [wr_1, if_neg (by omega)]), by rw [wr_1, if_pos ⟨rfl, rfl⟩], rfl, fun a j _ w => by rw [wr_1, if_neg w]⟩
theorem done_CS {M M1 : gk_M} {T : zS} {V : Nat → Int32} (h : SR x M1 T V) (r : Int32) (h2 : M1.2 = M.2) (hf : ∀ a, (a < x + 280 ∨ x + 282 < a) → M1.1 a = M.1 a) : CS x M ((f_X7_done LN RF x r M1).bind fun r => some (r.1, r.2)) (r, 0, T, V) := by
  unfold f_X7_done gk_put
  exact ⟨_, rfl, h.out (fun a _ _ => by funext j; rw [wr_1, if_neg (by omega)]), by rw [wr_1, if_pos ⟨rfl, rfl⟩]; rfl, h2, fun a j ha w => by rw [wr_1, if_neg w, hf a ha]⟩
theorem ref_MS {M : gk_M} {T : zS} {V : Nat → Int32} (h : TR m M T V) (s : Nat) {y : Int32} (hy : y = nI s) : MS m M ((f_X8_refused LN RF m y M).bind fun r => some (r.1, r.2)) (-1, s, T, V) := by
  subst hy
  unfold f_X8_refused gk_put
  exact ⟨_, rfl, h.out (fun a _ _ => by funext j; rw [wr_1, if_neg (by omega)]), by rw [wr_1, if_pos ⟨rfl, rfl⟩], rfl, fun a j _ w => by rw [wr_1, if_neg w]⟩
theorem done_MS {M M1 : gk_M} {T : zS} {V : Nat → Int32} (h : TR m M1 T V) (r : Int32) (h2 : M1.2 = M.2) (hf : ∀ a, (a < m + 31 ∨ m + 33 < a) → M1.1 a = M.1 a) : MS m M ((f_X8_done LN RF m r M1).bind fun r => some (r.1, r.2)) (r, 0, T, V) := by
  unfold f_X8_done gk_put
  exact ⟨_, rfl, h.out (fun a _ _ => by funext j; rw [wr_1, if_neg (by omega)]), by rw [wr_1, if_pos ⟨rfl, rfl⟩]; rfl, h2, fun a j ha w => by rw [wr_1, if_neg w, hf a ha]⟩
theorem u_isSheet (y : Int32) {M : gk_M} : f_X4_isSheet LN RF y M = some (bI (isL 4 y)) := by
  unfold f_X4_isSheet
  simp only [gk_jn, zz_0, zz_1]
  rw [show (4 : Int32) = nI 4 from rfl, rg_if]
  cases isL 4 y <;> rfl
theorem u_isSort (y : Int32) {M : gk_M} : f_X4_isSort LN RF y M = some (bI (isL 3 y)) := by
  unfold f_X4_isSort
  simp only [gk_jn, zz_0, zz_1]
  rw [rg_if3 y 2 3 (by decide)]
  cases isL 3 y <;> rfl
theorem c_sheet (hs : sL LN RF x) {M : gk_M} {T : zS} {V : Nat → Int32} (hS : SR x M T V) (a1 a2 a3 : Int32) : CS x M (f_X7_sheet LN RF x a1 a2 a3 M) (sheetR T V a1 a2 a3) := by
  unfold f_X7_sheet sheetR
  rw [u_isSheet, u_isSort, hs.1]
  simp only [gk_jn, Option.bind_some, bI_0, i10, i00, if_true, if_false]
  rw [rg_if3 a3 40 41 (by decide)]
  cases e1 : isL 4 a1 with
  | false =>
    rw [if_pos (show false = false from rfl)]
    have hr := ref_CS (LN := LN) (RF := RF) hS 1 (y := 1) rfl
    cases isL 41 a3 <;> cases isL 3 a2 <;> exact hr
  | true =>
    rw [if_neg tf]
    obtain ⟨s, h4, rfl⟩ := isL_s (by omega) e1
    rw [tN_n (by omega)]
    by_cases e2 : a2 = -1
    · subst e2
      obtain ⟨M', q1, q2, q3, q4⟩ := sh_lay hs hS (s := s) (k := 0) (z := 0) (a2 := -1) (a3 := a3) h4 nN_0.symm (by rw [if_pos rfl]; rfl)
      have hd := done_CS (LN := LN) (RF := RF) (M := M) q2 1 q4 q3
      rw [if_pos (show (-1 : Int32) = -1 from rfl), q1]
      cases isL 41 a3 <;> cases isL 3 (-1) <;> exact hd
    · rw [if_neg e2]
      have hr := ref_CS (LN := LN) (RF := RF) hS 1 (y := 1) rfl
      cases e3 : isL 41 a3 with
      | false =>
        rw [if_pos (Or.inr rfl)]
        simp only [e2, if_false]
        exact hr
      | true =>
        cases e4 : isL 3 a2 with
        | false =>
          rw [if_pos (Or.inl rfl)]
          simp only [e2, if_false]
          exact hr
        | true =>
          rw [if_neg (show ¬ (true = false ∨ true = false) by simp)]
          obtain ⟨k, hk, rfl⟩ := isL_s (by omega) e4
          obtain ⟨z, hz, rfl⟩ := isL_s (by omega) e3
          rw [tN_n (by omega), tN_n (by omega)]
          obtain ⟨M', q1, q2, q3, q4⟩ := sh_lay hs hS (s := s) (k := k + 1) (z := z) (a2 := nI k) (a3 := nI z) h4 (nN_s k).symm (by rw [if_neg e2])
          have hd := done_CS (LN := LN) (RF := RF) (M := M) q2 1 q4 q3
          simp only [e2, if_false, q1]
          exact hd
end SH
