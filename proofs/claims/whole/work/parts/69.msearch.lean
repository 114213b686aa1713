/-! The reference's search -/
def FrJ (m : Nat) (M M' : gk_M) : Prop := M'.2 = M.2 ∧ ∀ a i, (a ≤ m + 6 ∨ m + 22 ≤ a) → a ≠ m + 24 → a ≠ m + 25 → a ≠ m + 27 → ¬ (a = m ∧ i = 25) → M'.1 a i = M.1 a i
theorem FrJ.rf {m : Nat} {M : gk_M} : FrJ m M M := ⟨rfl, fun _ _ _ _ _ _ _ => rfl⟩
theorem FrJ.tr {m : Nat} {A B C : gk_M} (h1 : FrJ m A B) (h2 : FrJ m B C) : FrJ m A C := ⟨h2.1.trans h1.1, fun a i p q r s t => (h2.2 a i p q r s t).trans (h1.2 a i p q r s t)⟩
theorem FrU.j {m : Nat} {M M' : gk_M} (h : FrU m M M') : FrJ m M M' := ⟨h.1, fun a i p q r _ t => h.2 a i p q r t⟩
theorem LR.fr {m : Nat} {M M' : gk_M} {l : List Nat} (h : LR (M.1 m 32) (M.1 (m + 26)) l) (hf : FrJ m M M') : LR (M'.1 m 32) (M'.1 (m + 26)) l := by
  have e : M'.1 (m + 26) = M.1 (m + 26) := by funext i; exact hf.2 _ _ (by omega) (by omega) (by omega) (by omega) (by omega)
  rw [hf.2 m 32 (by omega) (by omega) (by omega) (by omega) (by omega), e]; exact h
theorem pw_13 {n len : Nat} (h : n ≤ 13) (h3 : len ≤ 3) : n ^ len ≤ 2197 :=
  Nat.le_trans (Nat.pow_le_pow_left h len) (Nat.le_trans (Nat.pow_le_pow_right (by decide) h3) (by decide))
theorem nN_m (k : Nat) : nI k + (-1) = nN k := by unfold nN; rw [Int32.sub_eq_add_neg]
section MSE
variable {LN : Nat → Nat} {RF : Nat → Nat → Nat} {m : Nat} {W S : zS} {l : List Nat} {kd a b : Nat} {z : Int32}
theorem lp_12_s (hm : mL LN RF m) (hn0 : 0 < l.length) (hn13 : l.length ≤ 13) {v2 v3 v4 v5 : Int32} {K : gk_M → Option (Int32 × gk_M)} : ∀ (k n' rest : Nat) (M : gk_M), LR (M.1 m 32) (M.1 (m + 26)) l → k ≤ 3 → rest < 3000 → k < n' → ∃ M', lp_X8_breaks_12 LN RF m v2 v3 v4 v5 K n' (nI rest, nN k, M) = K M' ∧ M'.2 = M.2 ∧ (∀ a i, ¬ (a = m + 27 ∧ i < k) → M'.1 a i = M.1 a i) ∧ ∀ q, q < k → M'.1 (m + 27) q = nI (l.getD (rest / l.length ^ (k - 1 - q) % l.length) 0)
  | k, 0, rest, M, _, _, _, g => absurd g (by omega)
  | 0, n' + 1, rest, M, h, g1, g2, g3 => by
    rw [lp_X8_breaks_12, if_pos (show nN 0 < 0 by decide)]
    exact ⟨M, rfl, rfl, fun _ _ _ => rfl, fun q hq => by omega⟩
  | k + 1, n' + 1, rest, M, h, g1, g2, g3 => by
    have hlt := Nat.mod_lt rest hn0
    have hdv : rest / l.length ≤ rest := Nat.div_le_self _ _
    rw [lp_X8_breaks_12, nN_s, if_neg (nI_pos (by omega)), h.1, if_neg (nI_ne0 hn0 (by omega)), pk_rem (by omega) hn0 (by omega), hm.2.2.1.2.2.1, ald_n (by rw [hm.2.2.2.2.2.1]; omega) (by omega), h.2 _ hlt, hm.2.2.1.2.2.2.1, ast_n (by rw [hm.2.2.2.2.2.2.1]; omega) (by omega)]
    have e32 : (gk_wr M (m + 27) k (nI (l.getD (rest % l.length) 0))).1 m 32 = nI l.length := by rw [wr_1, if_neg (by omega)]; exact h.1
    simp only [e32]
    rw [if_neg (nI_ne0 hn0 (by omega)), pk_div (by omega) hn0 (by omega), nN_m]
    obtain ⟨M', q1, q2, q3, q4⟩ := lp_12_s hm hn0 hn13 (v2 := v2) (v3 := v3) (v4 := v4) (v5 := v5) (K := K) k n' (rest / l.length) (gk_wr M (m + 27) k (nI (l.getD (rest % l.length) 0))) (by
      have e : (gk_wr M (m + 27) k (nI (l.getD (rest % l.length) 0))).1 (m + 26) = M.1 (m + 26) := by funext i; rw [wr_1, if_neg (by omega)]
      rw [e32, e]; exact ⟨rfl, h.2⟩) (by omega) (by omega) (by omega)
    refine ⟨M', q1, q2, fun a i p => ?_, fun q hq => ?_⟩
    · rw [q3 a i (by omega), wr_1, if_neg (by omega)]
    · by_cases e : q = k
      · subst e
        rw [q3 (m + 27) q (by omega), wr_1, if_pos ⟨rfl, rfl⟩, show q + 1 - 1 - q = 0 by omega, Nat.pow_zero, Nat.div_one]
      · rw [q4 q (by omega), Nat.div_div_eq_div_mul, ← Nat.pow_succ', show (k - 1 - q).succ = k + 1 - 1 - q by omega]
theorem lp_54_s (hm : mL LN RF m) (hV : IV W S) (hn0 : 0 < l.length) (hD : ∀ i, i < l.length → l.getD i 0 < 5000 ∧ gA (S 20 0) (l.getD i 0)) {len jj : Nat} (h3 : len ≤ 3) {v3 v4 v5 : Int32} {K : gk_M → Option (Int32 × gk_M)} : ∀ (r n' q : Nat) (M : gk_M) (T : zS), q + r = len → trS W (fun i => l.getD i 0) l.length S q (jj / l.length ^ r) = some T → MR m M W T → (∀ q, q < len → M.1 (m + 27) q = nI (l.getD (jj / l.length ^ (len - 1 - q) % l.length) 0)) → r < n' →
    (∃ M' T', lp_X8_breaks_54 LN RF m (nI len) v3 v4 v5 K n' (nI q, M) = some (0, M') ∧ trS W (fun i => l.getD i 0) l.length S len jj = none ∧ MR m M' W T' ∧ IV W T' ∧ T' 20 0 = S 20 0 ∧ FrU m M M') ∨ (∃ M' T', lp_X8_breaks_54 LN RF m (nI len) v3 v4 v5 K n' (nI q, M) = K M' ∧ trS W (fun i => l.getD i 0) l.length S len jj = some T' ∧ MR m M' W T' ∧ IV W T' ∧ T' 20 0 = S 20 0 ∧ FrU m M M')
  | r, 0, q, M, T, _, _, _, _, g => absurd g (by omega)
  | 0, n' + 1, q, M, T, g1, ht, h, hq, g2 => by
    rw [Nat.pow_zero, Nat.div_one, show q = len by omega] at ht
    obtain ⟨tV, tL, tC⟩ := tr_ok hV hn0 (fun i hi => (hD i hi).2) len jj T h3 ht
    refine Or.inr ⟨M, T, ?_, ht, h, tV, tL, ⟨rfl, fun _ _ _ _ _ _ => rfl⟩⟩
    rw [lp_X8_breaks_54, if_pos (nI_le (by omega) (by omega))]
  | r + 1, n' + 1, q, M, T, g1, ht, h, hq, g2 => by
    obtain ⟨tV, tL, tC⟩ := tr_ok hV hn0 (fun i hi => (hD i hi).2) q _ T (by omega) ht
    have hlt := Nat.mod_lt (jj / l.length ^ r) hn0
    obtain ⟨d1, d2⟩ := hD _ hlt
    have et : trS W (fun i => l.getD i 0) l.length S (q + 1) (jj / l.length ^ r) = if ali 60 T (l.getD (jj / l.length ^ r % l.length) 0) = true then some (stp W 60 T (l.getD (jj / l.length ^ r % l.length) 0)) else none := by
      rw [trS, Nat.div_div_eq_div_mul, ← Nat.pow_succ, ht]; rfl
    obtain ⟨M1, p1, p2, p3⟩ := t_isDone hm h tV d1 (by rw [tL]; exact d2)
    rw [lp_X8_breaks_54, if_neg (nI_ge (by omega) (by omega)), hm.2.2.1.2.2.2.1, ald_n (by rw [hm.2.2.2.2.2.2.1]; omega) (by omega), hq q (by omega), show len - 1 - q = r by omega, p1, Option.bind_some]
    simp only [bI_0, nI_1]
    cases ea : ali 60 T (l.getD (jj / l.length ^ r % l.length) 0) with
    | false =>
      rw [ea, if_neg (by decide)] at p2
      rw [ea, if_neg (by decide)] at et
      rw [if_pos rfl]
      refine Or.inl ⟨M1, T, rfl, ?_, p2, tV, tL, p3⟩
      rw [show len = (q + 1) + r by omega]
      exact tr_none (q + 1) r jj et
    | true =>
      rw [ea, if_pos rfl] at p2 et
      rw [if_neg tf]
      have hq' : ∀ q, q < len → M1.1 (m + 27) q = nI (l.getD (jj / l.length ^ (len - 1 - q) % l.length) 0) := fun q' h' => by
        rw [p3.2 (m + 27) q' (by omega) (by omega) (by omega) (by omega)]; exact hq q' h'
      rcases lp_54_s hm hV hn0 hD h3 (v3 := v3) (v4 := v4) (v5 := v5) (K := K) r n' (q + 1) M1 _ (by omega) et p2 hq' (by omega) with ⟨M2, T2, s1, s2, s3, s4, s5, s6⟩ | ⟨M2, T2, s1, s2, s3, s4, s5, s6⟩
      · exact Or.inl ⟨M2, T2, s1, s2, s3, s4, s5, p3.tr s6⟩
      · exact Or.inr ⟨M2, T2, s1, s2, s3, s4, s5, p3.tr s6⟩
theorem t_breaks (hm : mL LN RF m) {M : gk_M} (h : MR m M W S) (hV : IV W S) (hn0 : 0 < l.length) (hn13 : l.length ≤ 13) (hD : ∀ i, i < l.length → l.getD i 0 < 5000 ∧ gA (S 20 0) (l.getD i 0)) (hlr : LR (M.1 m 32) (M.1 (m + 26)) l) (hkd : kd < 3) (ha : a < S 20 0) (hz : kd = 1 ∨ (z = nI b ∧ b < S 20 0)) {len jj : Nat} (h3 : len ≤ 3) (hj : jj < 3000) :
    ∃ M' T', f_X8_breaks LN RF m (nI jj) (nI len) (nI kd) (nI a) z M = some (bI (tst W (fun i => l.getD i 0) l.length S kd a b len jj), M') ∧ MR m M' W T' ∧ IV W T' ∧ T' 20 0 = S 20 0 ∧ FrJ m M M' ∧ ∀ q, q < len → M'.1 (m + 27) q = nI (l.getD (jj / l.length ^ (len - 1 - q) % l.length) 0) := by
  obtain ⟨M1, p1, p2, p3⟩ := t_empties hm h
  unfold f_X8_breaks
  rw [p1, Option.bind_some]
  simp only [gk_jn]
  obtain ⟨M2, q1, q2, q3, q4⟩ := lp_12_s hm hn0 hn13 (v2 := nI len) (v3 := nI kd) (v4 := nI a) (v5 := z) (K := fun y22 => lp_X8_breaks_54 LN RF m (nI len) (nI kd) (nI a) z (fun y24 => (f_X8_isBroken LN RF m (nI kd) (nI a) z y24).bind fun r26 => gk_zz r26 (some (r26, y24))) gk_fuel (0, y22)) len gk_fuel jj M1 (hlr.fr p3.t.u.j) h3 hj (fuel_gt (by omega))
  rw [show nI len - 1 = nN len from rfl, q1]
  have m2 : MR m M2 W (empS S) := MR_out p2 (fun x x1 x2 => by funext i; exact q3 x i (by omega))
  have f2 : FrJ m M M2 := p3.t.u.j.tr ⟨q2, fun x i a1 a2 a3 a4 a5 => q3 x i (by omega)⟩
  rcases lp_54_s hm hV hn0 hD h3 (v3 := nI kd) (v4 := nI a) (v5 := z) (K := fun y24 => (f_X8_isBroken LN RF m (nI kd) (nI a) z y24).bind fun r26 => gk_zz r26 (some (r26, y24))) len gk_fuel 0 M2 (empS S) (by omega) (by rw [trS]) m2 q4 (fuel_gt (by omega)) with ⟨M3, T3, s1, s2, s3, s4, s5, s6⟩ | ⟨M3, T3, s1, s2, s3, s4, s5, s6⟩
  · refine ⟨M3, T3, ?_, s3, s4, s5, f2.tr s6.j, fun q hq => by rw [s6.2 _ _ (by omega) (by omega) (by omega) (by omega)]; exact q4 q hq⟩
    rw [show ((0 : Int32), M2) = (nI 0, M2) from rfl, s1]
    unfold tst
    rw [s2]; rfl
  · refine ⟨M3, T3, ?_, s3, s4, s5, f2.tr s6.j, fun q hq => by rw [s6.2 _ _ (by omega) (by omega) (by omega) (by omega)]; exact q4 q hq⟩
    rw [show ((0 : Int32), M2) = (nI 0, M2) from rfl, s1, t_isBroken hm s3 s4.1 s4.2.1 hkd (by rw [s5]; exact ha) (y := b) (by rw [s5]; exact hz), Option.bind_some, zz_b]
    unfold tst
    rw [s2]
theorem lp_s54_s (hm : mL LN RF m) {L : Nat} (hn0 : 0 < l.length) (hn13 : l.length ≤ 13) (hD : ∀ i, i < l.length → l.getD i 0 < 5000 ∧ gA L (l.getD i 0)) (hkd : kd < 3) (ha : a < L) (hz : kd = 1 ∨ (z = nI b ∧ b < L)) {len : Nat} (h1 : 1 ≤ len) (h3 : len ≤ 3) {p : Nat → Bool} (hinv : ∀ S', IV W S' → S' 20 0 = L → ∀ jj, tst W (fun i => l.getD i 0) l.length S' kd a b len jj = p jj) {v5 v6 : Int32} {K : Int32 × gk_M → Option (Int32 × gk_M)} :
    ∀ (r n' dd : Nat) (M : gk_M) (T : zS), dd + r = l.length ^ len → r < n' → MR m M W T → IV W T → T 20 0 = L → LR (M.1 m 32) (M.1 (m + 26)) l → ∃ M' T', lp_X8_search_54 LN RF m (nI kd) (nI a) z v5 v6 (nI (l.length ^ len)) (nI len) K n' (0, nI dd, M) = K (if fsf p r dd = 0 then 0 else nI len, M') ∧ MR m M' W T' ∧ IV W T' ∧ T' 20 0 = L ∧ FrJ m M M' ∧ ∀ u, fsf p r dd = u + 1 → ∀ q, q < len → M'.1 (m + 27) q = nI (l.getD (u / l.length ^ (len - 1 - q) % l.length) 0)
  | r, 0, dd, M, T, _, g, _, _, _, _ => absurd g (by omega)
  | 0, n' + 1, dd, M, T, g1, g2, h, hV, hT, hlr => by
    have := pw_13 hn13 h3
    refine ⟨M, T, ?_, h, hV, hT, FrJ.rf, fun u hu => by rw [fsf] at hu; omega⟩
    rw [lp_X8_search_54, if_pos (nI_le (by omega) (by omega))]; rfl
  | r + 1, n' + 1, dd, M, T, g1, g2, h, hV, hT, hlr => by
    have hpw := pw_13 hn13 h3
    obtain ⟨M1, T1, q1, q2, q3, q4, q5, q6⟩ := t_breaks hm h hV hn0 hn13 (by rw [hT]; exact hD) hlr hkd (by rw [hT]; exact ha) (b := b) (by rw [hT]; exact hz) h3 (show dd < 3000 by omega)
    rw [lp_X8_search_54, if_neg (nI_ge (by omega) (by omega)), if_pos rfl, q1, Option.bind_some, hinv T hV hT]
    simp only [gk_jn, bI_0, nI_1, fsf]
    by_cases ep : p dd = true
    · simp only [ep, if_neg tf, if_true]
      refine ⟨M1, T1, ?_, q2, q3, q4.trans hT, q5, fun u hu q hq => by rw [show u = dd by omega]; exact q6 q hq⟩
      rw [if_neg (by omega)]
      obtain ⟨n2, rfl⟩ : ∃ n2, n' = n2 + 1 := ⟨n' - 1, by omega⟩
      rw [lp_X8_search_54, if_neg (nI_ne0 (by omega) (by omega)), ite_self]
    · have ep' : p dd = false := by simpa using ep
      obtain ⟨M2, T2, s1, s2, s3, s4, s5, s6⟩ := lp_s54_s hm hn0 hn13 hD hkd ha hz h1 h3 hinv (v5 := v5) (v6 := v6) (K := K) r n' (dd + 1) M1 T1 (by omega) (by omega) q2 q3 (q4.trans hT) (hlr.fr q5)
      simp only [ep', Bool.false_eq_true, if_false, if_true]
      exact ⟨M2, T2, s1, s2, s3, s4, q5.tr s5, s6⟩
theorem lp_s30_s (hm : mL LN RF m) {L : Nat} (hn0 : 0 < l.length) (hn13 : l.length ≤ 13) (hD : ∀ i, i < l.length → l.getD i 0 < 5000 ∧ gA L (l.getD i 0)) (hkd : kd < 3) (ha : a < L) (hz : kd = 1 ∨ (z = nI b ∧ b < L)) {depth : Nat} (h3 : depth ≤ 3) {p : Nat → Nat → Bool} (hinv : ∀ S', IV W S' → S' 20 0 = L → ∀ len jj, len ≤ 3 → tst W (fun i => l.getD i 0) l.length S' kd a b len jj = p len jj) {v6 : Int32} {K : Int32 × gk_M → Option (Int32 × gk_M)} :
    ∀ (r n' len : Nat) (M : gk_M) (T : zS), len + r = depth + 1 → 1 ≤ len → r < n' → MR m M W T → IV W T → T 20 0 = L → LR (M.1 m 32) (M.1 (m + 26)) l → ∃ M' T', lp_X8_search_30 LN RF m (nI kd) (nI a) z (nI depth) v6 K n' (0, nI (l.length ^ (len - 1)), nI len, M) = K (nI (fnd p l.length r len), M') ∧ MR m M' W T' ∧ IV W T' ∧ T' 20 0 = L ∧ FrJ m M M' ∧ (fnd p l.length r len ≠ 0 → ∀ q, q < fnd p l.length r len → M'.1 (m + 27) q = nI (pck p l (fnd p l.length r len) q))
  | r, 0, len, M, T, _, _, g, _, _, _, _ => absurd g (by omega)
  | 0, n' + 1, len, M, T, g1, g0, g2, h, hV, hT, hlr => by
    refine ⟨M, T, ?_, h, hV, hT, FrJ.rf, fun hu => absurd rfl hu⟩
    rw [lp_X8_search_30, if_pos (nI_lt (by omega) (by omega))]; rfl
  | r + 1, n' + 1, len, M, T, g1, g0, g2, h, hV, hT, hlr => by
    have hpw := pw_13 hn13 (show len ≤ 3 by omega)
    have hall : nI (l.length ^ (len - 1)) * nI l.length = nI (l.length ^ len) := by
      rw [pk_mul, ← Nat.pow_succ, show (len - 1).succ = len by omega]
    rw [lp_X8_search_30, if_neg (nI_nlt (by omega) (by omega)), if_pos rfl]
    simp only [gk_jn, hlr.1, hall, nI_1]
    obtain ⟨M1, T1, q1, q2, q3, q4, q5, q6⟩ := lp_s54_s hm hn0 hn13 hD hkd ha hz g0 (show len ≤ 3 by omega) (fun S' V' e' jj => hinv S' V' e' len jj (by omega)) (v5 := nI depth) (v6 := v6) (K := fun y1 => lp_X8_search_30 LN RF m (nI kd) (nI a) z (nI depth) v6 K n' (y1.1, nI (l.length ^ len), nI (len + 1), y1.2)) (l.length ^ len) gk_fuel 0 M T (by omega) (fuel_gt (by omega)) h hV hT hlr
    rw [show ((0 : Int32), (0 : Int32), M) = ((0 : Int32), nI 0, M) from rfl, q1, fnd]
    cases e : fsf (p len) (l.length ^ len) 0 with
    | zero =>
      rw [if_pos rfl, if_pos rfl]
      obtain ⟨M2, T2, s1, s2, s3, s4, s5, s6⟩ := lp_s30_s hm hn0 hn13 hD hkd ha hz h3 hinv (v6 := v6) (K := K) r n' (len + 1) M1 T1 (by omega) (by omega) (by omega) q2 q3 q4 (hlr.fr q5)
      rw [Nat.add_sub_cancel] at s1
      exact ⟨M2, T2, s1, s2, s3, s4, q5.tr s5, s6⟩
    | succ u =>
      rw [if_neg (by omega), if_neg (by omega)]
      refine ⟨M1, T1, ?_, q2, q3, q4, q5, fun _ q hq => ?_⟩
      · obtain ⟨n2, rfl⟩ : ∃ n2, n' = n2 + 1 := ⟨n' - 1, by omega⟩
        rw [lp_X8_search_30]
        simp only
        rw [if_neg (nI_ne0 (by omega) (by omega)), ite_self]
      · rw [q6 u e q hq]
        unfold pck
        rw [e, Nat.add_sub_cancel]
theorem t_search (hm : mL LN RF m) {M : gk_M} (h : MR m M W S) (hV : IV W S) {s : Nat} (hs : s < 256) (hl : odd s = some l) (hn0 : 0 < l.length) (hn13 : l.length ≤ 13) (hD : ∀ i, i < l.length → l.getD i 0 < 5000 ∧ gA (S 20 0) (l.getD i 0)) (hkd : kd < 3) (ha : a < S 20 0) (hz : kd = 1 ∨ (z = nI b ∧ b < S 20 0)) {depth : Nat} (h3 : depth ≤ 3) {p : Nat → Nat → Bool} (hinv : ∀ S', IV W S' → S' 20 0 = S 20 0 → ∀ len jj, len ≤ 3 → tst W (fun i => l.getD i 0) l.length S' kd a b len jj = p len jj) :
    ∃ M', f_X8_search LN RF m (nI kd) (nI a) z (nI s) (nI depth) M = some (nI (fnd p l.length depth 1), M') ∧ MR m M' W S ∧ M'.2 = M.2 ∧ (∀ a i, (a ≤ m ∨ m + 22 ≤ a) → (a < m + 23 ∨ m + 27 < a) → ¬ (a = m ∧ (i = 28 ∨ i = 32)) → M'.1 a i = M.1 a i) ∧ (fnd p l.length depth 1 ≠ 0 → ∀ q, q < fnd p l.length depth 1 → M'.1 (m + 27) q = nI (pck p l (fnd p l.length depth 1) q)) := by
  obtain ⟨M1, p1, i1, i2, i3, i4⟩ := t_keepa hm M
  have m1 : MR m M1 W S := MR_out h (fun x x1 x2 => by funext i; exact i3 x i (by omega) (by omega))
  obtain ⟨M2, q1, q2, q3⟩ := t_findDeeds hm (M := M1) hs hl
  have m2 : MR m M2 W S := MR_out m1 (fun x x1 x2 => by funext i; exact q3.2 x i (by omega) (by omega))
  unfold f_X8_search
  rw [p1, Option.bind_some, q1, Option.bind_some]
  simp only [gk_jn, gk_put]
  obtain ⟨M3, T3, r1, r2, r3, r4, r5, r6⟩ := lp_s30_s hm hn0 hn13 hD hkd ha hz h3 hinv (v6 := M.1 m 25) (K := fun y24 => (f_X8_keepsAll LN RF m (RF m 22) 0 y24.2).bind fun r27 => some (y24.1, gk_wr r27 m 25 (M.1 m 25))) depth gk_fuel 1 M2 S (by omega) (by omega) (fuel_gt (by omega)) m2 hV rfl q2
  rw [show ((0 : Int32), (1 : Int32), (1 : Int32), M2) = ((0 : Int32), nI (l.length ^ (1 - 1)), nI 1, M2) from rfl, r1]
  obtain ⟨M4, s1, k1, k2, k3, k4⟩ := t_backa hm M3
  simp only [s1, Option.bind_some]
  refine ⟨_, rfl, ?_, ?_, fun x i x1 x2 x3 => ?_, fun hf q hq => ?_⟩
  · refine MR.st (MR.ext h (fun k i hk hi => ?_))
    have hoe : off (k + 1) = off k + mlen k := rfl
    rw [k4 k i (by omega) hi, r5.2 (m + 23) _ (by omega) (by omega) (by omega) (by omega) (by omega), q3.2 (m + 23) _ (by omega) (by omega), i4 k i (by omega) hi]
  · show M4.2 = M.2
    rw [k2, r5.1, q3.1, i2]
  · rw [wr_1]
    by_cases e : x = m ∧ i = 25
    · rw [if_pos e, e.1, e.2]
    · rw [if_neg e, k3 x i (by omega) x1, r5.2 x i (by omega) (by omega) (by omega) (by omega) e, q3.2 x i (by omega) (by omega), i3 x i (by omega) (by omega)]
  · rw [wr_1, if_neg (by omega), k3 (m + 27) q (by omega) (by omega)]
    exact r6 hf q hq
end MSE
