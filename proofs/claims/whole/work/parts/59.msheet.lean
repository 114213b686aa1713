/-! The reference's sheets -/
theorem inR_m (y : Int32) : inR y (-1) 2 = (decide (y = -1) || isL 3 y) := by
  by_cases e : y = -1
  · subst e; decide
  · have ht : y.toInt ≠ -1 := fun g => e (Int32.toInt_inj.mp (by rw [g]; rfl))
    unfold isL inR
    rw [decide_eq_false e, Bool.false_or, show (nI 3).toInt - 1 = 2 from by decide, Bool.eq_iff_iff]
    simp only [Bool.and_eq_true, decide_eq_true_eq]
    omega
section MSH
variable {LN : Nat → Nat} {RF : Nat → Nat → Nat} {m : Nat}
theorem ts_lay (hm : mL LN RF m) {M : gk_M} {T : zS} {V : Nat → Int32} (hT : TR m M T V) {s k z : Nat} (h4 : s < 4) : MS m M (gk_ast LN M (RF m 37) (nI s) (nI k) fun M29 => gk_ast LN M29 (RF m 38) (nI s) (nI z) fun M33 => lp_X8_sheet_78 LN RF m (nI s) (fun y34 => (f_X8_done LN RF m 1 y34).bind fun r36 => some (r36.1, r36.2)) gk_fuel (40 * nI s, M33)) (1, 0, layT T s k z, layV V s) := by
  rw [hm.2.2.1.2.2.2.2.2.2.2.1, hm.2.2.1.2.2.2.2.2.2.2.2.1, ast_n (by rw [hm.2.2.2.2.2.2.2.2.2.2.1]; omega) (by omega), ast_n (by rw [hm.2.2.2.2.2.2.2.2.2.2.2.1]; omega) (by omega), show (40 : Int32) * nI s = nI (40 * s) from by have := nI_40m s 0; rwa [show nI 0 = (0 : Int32) from rfl, Int32.add_zero] at this]
  obtain ⟨M', q1, q2, q3, q4⟩ := lp_she_s hm h4 (K := fun y34 => (f_X8_done LN RF m 1 y34).bind fun r36 => some (r36.1, r36.2)) 40 gk_fuel (40 * s) (gk_wr (gk_wr M (m + 31) s (nI k)) (m + 32) s (nI z)) (by omega) (fuel_gt (by omega))
  rw [q1]
  refine done_MS ⟨fun t ht => ?_, fun i hi => ?_⟩ 1 q3 (fun a ha => ?_)
  · rw [q2 _ (by omega), q2 _ (by omega), wr_1, if_neg (by omega), wr_1, wr_1]
    unfold layT
    rw [su_k (by decide), su_i, su_i, su_k (by decide)]
    by_cases e : t = s
    · rw [if_pos ⟨rfl, e⟩, if_pos e, if_pos ⟨rfl, e⟩, if_pos e]; exact ⟨rfl, rfl⟩
    · rw [if_neg (fun g => e g.2), if_neg e, if_neg (fun g => e g.2), if_neg e, wr_1, if_neg (by omega)]; exact hT.1 t ht
  · rw [q4 i, wr_1, if_neg (show ¬ (m + 33 = m + 32 ∧ i = s) by omega), wr_1, if_neg (show ¬ (m + 33 = m + 31 ∧ i = s) by omega), hT.2 i hi]
    rfl
  · rw [q2 a (by omega)]; funext j; rw [wr_1, if_neg (by omega), wr_1, if_neg (by omega)]
theorem t_sheet (hm : mL LN RF m) {M : gk_M} {T : zS} {V : Nat → Int32} (hT : TR m M T V) (a1 a2 a3 : Int32) : MS m M (f_X8_sheet LN RF m a1 a2 a3 M) (sheetR T V a1 a2 a3) := by
  unfold f_X8_sheet sheetR
  have hr := ref_MS (LN := LN) (RF := RF) hT 1 (y := 1) rfl
  rw [t_isInK a1 (n := 4) (by decide), t_isInK a3 (n := 41) (by decide), t_isInI, show ((-1 : Int64)).toInt = -1 from by decide, show ((2 : Int64)).toInt = 2 from by decide, inR_m]
  simp only [gk_jn, Option.bind_some, bI_0]
  cases e1 : isL 4 a1 with
  | false => rw [if_pos rfl, if_pos rfl]; exact hr
  | true =>
    rw [if_neg tf, if_neg tf]
    obtain ⟨s, h4, rfl⟩ := isL_s (by omega) e1
    rw [tN_n (by omega)]
    by_cases e2 : a2 = -1
    · subst e2
      rw [if_neg (by simp), if_pos (show (-1 : Int32) < 0 by decide)]
      simp only [show ((0 : Int32) ≤ -1) = False from eq_false (by decide), if_false, if_true]
      rw [show (-1 : Int32) + 1 = nI 0 from by decide]
      exact ts_lay hm hT (k := 0) (z := 0) h4
    · rw [if_neg e2, decide_eq_false e2, Bool.false_or]
      cases e4 : isL 3 a2 with
      | false => rw [if_pos rfl, if_pos (Or.inl rfl)]; exact hr
      | true =>
        rw [if_neg tf]
        obtain ⟨k, hk, rfl⟩ := isL_s (by omega) e4
        rw [if_neg (nI_pos (by omega))]
        cases e3 : isL 41 a3 with
        | false => rw [if_pos rfl, if_pos (Or.inr rfl)]; exact hr
        | true =>
          rw [if_neg tf, if_neg (show ¬ (true = false ∨ true = false) by simp)]
          obtain ⟨z, hz, rfl⟩ := isL_s (by omega) e3
          rw [tN_n (by omega), tN_n (by omega)]
          simp only [nI_ge0 (show k < 2 ^ 31 by omega), if_true, nI_1]
          exact ts_lay hm hT (k := k + 1) (z := z) h4
end MSH
