/-! The reference's steps: ends, rings, notes, comesTo, wishesBack, arrives, goes, settles -/
/-- what the reference's house may write: its rows 6 to 20 -/
def Fr (m : Nat) (M M' : gk_M) : Prop := M'.2 = M.2 ∧ ∀ a, (a ≤ m + 6 ∨ m + 22 ≤ a) → M'.1 a = M.1 a
theorem Fr.rf {m : Nat} {M : gk_M} : Fr m M M := ⟨rfl, fun _ _ => rfl⟩
theorem Fr.tr {m : Nat} {A B C : gk_M} (h1 : Fr m A B) (h2 : Fr m B C) : Fr m A C := ⟨h2.1.trans h1.1, fun a x => (h2.2 a x).trans (h1.2 a x)⟩
theorem Fr.wr {m : Nat} {M M' : gk_M} (h : Fr m M M') {a i : Nat} {v : Int32} (ha : m + 7 ≤ a ∧ a ≤ m + 21) : Fr m M (gk_wr M' a i v) := by
  refine ⟨h.1, fun b x => ?_⟩
  rw [← h.2 b x]
  funext j
  rw [wr_1, if_neg (by omega)]
section MWR
variable {LN : Nat → Nat} {RF : Nat → Nat → Nat} {m : Nat} {M : gk_M} {W S : zS}
theorem t_ends (hL : mL LN RF m) (h : MR m M W S) {c why : Nat} (hc : c < 60) : ∃ M', f_X8_ends LN RF m (nI c) (nI why) M = some M' ∧ MR m M' W (endS S c why) ∧ Fr m M M' := by
  unfold f_X8_ends
  rw [mw_7 hL hc, mw_8 hL hc, mw_12 hL hc, mw_13 hL hc]
  refine ⟨_, rfl, ?_, ?_⟩
  · exact MR_wr13 (v := 0) (MR_wr (k := 12) (v := 0) (MR_wr (k := 8) (MR_wr (k := 7) (v := 3) h (by decide) (by decide) (by decide)) (by decide) (by decide) (by decide)) (by decide) (by decide) (by decide))
  · exact (((Fr.rf.wr (by omega)).wr (by omega)).wr (by omega)).wr (by omega)
theorem t_rings (hL : mL LN RF m) (h : MR m M W S) {c ls : Nat} (hc : c < 60) : ∃ M', f_X8_rings LN RF m (nI c) (nI ls) M = some M' ∧ MR m M' W (rngS S c ls) ∧ Fr m M M' := by
  unfold f_X8_rings
  rw [mw_7 hL hc, mw_12 hL hc, mw_13 hL hc, mw_14 hL hc]
  refine ⟨_, rfl, ?_, ?_⟩
  · exact MR_wr (k := 14) (v := 0) (MR_wr13 (v := 0) (MR_wr (k := 12) (MR_wr (k := 7) (v := 0) h (by decide) (by decide) (by decide)) (by decide) (by decide) (by decide))) (by decide) (by decide) (by decide)
  · exact (((Fr.rf.wr (by omega)).wr (by omega)).wr (by omega)).wr (by omega)
theorem t_notes (hL : mL LN RF m) (h : MR m M W S) {c w : Nat} (hc : c < 60) (ha : S 15 c < 1000) : ∃ M', f_X8_notes LN RF m (nI c) (nI w) M = some M' ∧ MR m M' W (notS S c w) ∧ Fr m M M' := by
  unfold f_X8_notes
  rw [mr_15 hL h hc]
  simp only [gk_jn, show (10 : Int32) = nI 10 from rfl, nI_leI (show 10 < 2 ^ 31 by omega) (show S 15 c < 2 ^ 31 by omega)]
  unfold notS
  by_cases e : 10 ≤ S 15 c
  · rw [if_pos e, if_neg (by omega), mr_15 hL h hc, nI_1, mw_15 hL hc]
    exact ⟨_, rfl, MR_wr (k := 15) h (by decide) (by decide) (by decide), Fr.rf.wr (by omega)⟩
  · rw [if_neg e, if_pos (by omega), mr_15 hL h hc, pk_mul, nI_add, mw_16 hL (by omega)]
    have h2 := MR_wr (k := 16) (i := 10 * c + S 15 c) (v := w) h (by decide) (by decide) (by decide)
    rw [mr_15 hL h2 hc, nI_1, mw_15 hL hc]
    refine ⟨_, rfl, ?_, (Fr.rf.wr (by omega)).wr (by omega)⟩
    have h3 := MR_wr (k := 15) (i := c) (v := su S 16 (10 * c + S 15 c) w 15 c + 1) h2 (by decide) (by decide) (by decide)
    rw [su_k (by decide)] at h3 ⊢
    exact h3
theorem t_comesTo (hL : mL LN RF m) (h : MR m M W S) (hW : WB W) {c t s : Nat} (hc : c < 60) (hr : S 9 c ≤ 8) (ht : t < 8) (hs : s < 8) : ∃ M', f_X8_comesTo LN RF m (nI c) (nI t) (nI s) M = some M' ∧ MR m M' W (comS W S c t s) ∧ Fr m M M' := by
  unfold f_X8_comesTo
  rw [mr_9 hL h hc, n9, mw_10 hL (by omega)]
  have h2 := MR_wr (k := 10) (i := 9 * c + S 9 c) (v := t) h (by decide) (by decide) (by decide)
  rw [mr_9 hL h2 hc, su_k (by decide)]
  simp only [gk_jn, show (7 : Int32) = nI 7 from rfl, t_has hL h2 hW (show t < 100 by omega) (show 7 < 100 by omega), Option.bind_some, bI_0, nI_e0 (show S 9 c < 2 ^ 31 by omega)]
  have key : ∀ y : Nat, ∃ M', (gk_ast LN (gk_wr M (m + (10 + 1)) (9 * c + S 9 c) (nI t)) (RF m 11) (nI (9 * c + S 9 c)) (nI y) fun M30 => gk_ald LN M30 (RF m 9) (nI c) fun x32 => gk_ast LN M30 (RF m 9) (nI c) (x32 + 1) fun M33 => some M33) = some M' ∧ MR m M' W (su (su (su S 10 (9 * c + S 9 c) t) 11 (9 * c + S 9 c) y) 9 c (S 9 c + 1)) ∧ Fr m M M' := by
    intro y
    have h3 := MR_wr (k := 11) (i := 9 * c + S 9 c) (v := y) h2 (by decide) (by decide) (by decide)
    rw [mw_11 hL (by omega), mr_9 hL h3 hc, su_k (by decide), su_k (by decide), nI_1, mw_9 hL hc]
    exact ⟨_, rfl, MR_wr (k := 9) h3 (by decide) (by decide) (by decide), ((Fr.rf.wr (by omega)).wr (by omega)).wr (by omega)⟩
  unfold comS
  by_cases e : S 9 c = 0
  · rw [if_pos e]
    cases hh : hasW W t 7 with
    | false =>
      rw [if_pos rfl]
      simp only [Bool.false_eq_true, and_false, if_false]
      exact key s
    | true =>
      rw [if_neg (by decide)]
      simp only [e, and_self, if_true]
      have := key t
      rw [e] at this
      exact this
  · rw [if_neg e]
    simp only [e, false_and, if_false]
    exact key s
theorem lp_wback_s (hL : mL LN RF m) (h : MR m M W S) (hn : S 20 4 ≤ 8) (hB : ∀ i, i < S 20 4 → S 17 i < 8 ∧ S 18 i < 8) {f t : Nat} (hf : f < 8) (ht : t < 8) {K : Unit → Option gk_M} : ∀ r n i, i + r = S 20 4 → r < n → lp_X8_wishesBack_14 LN RF m (nI f) (nI t) M K n (nI i) = if anf (fun i => S 17 i == f && S 18 i == t) r i false = true then some M else K ()
  | r, 0, i, _, g => absurd g (by omega)
  | 0, n + 1, i, g1, g2 => by
    rw [lp_X8_wishesBack_14, mr_B hL h, if_pos (nI_le (by omega) (by omega))]; rfl
  | r + 1, n + 1, i, g1, g2 => by
    have hb := hB i (by omega)
    have ih := lp_wback_s hL h hn hB hf ht (K := K) r n (i + 1) (by omega) (by omega)
    rw [lp_X8_wishesBack_14, mr_B hL h, if_neg (nI_ge (by omega) (by omega)), mr_17 hL h (by omega)]
    simp only [gk_jn, nI_1, mr_18 hL h (show i < 8 by omega), nI_eq (show S 17 i < 2 ^ 31 by omega) (show f < 2 ^ 31 by omega), nI_eq (show S 18 i < 2 ^ 31 by omega) (show t < 2 ^ 31 by omega)]
    rw [anf]
    by_cases e1 : S 17 i = f
    · by_cases e2 : S 18 i = t
      · simp only [e1, e2, if_true, beq_self_eq_true, Bool.and_self, Bool.or_true]
        rw [if_pos ((anf_iff _ _ _ _).mpr (Or.inl rfl))]
      · simp only [e1, e2, if_true, if_false, beq_eq_false_iff_ne.mpr e2, Bool.and_false, Bool.or_false]; exact ih
    · simp only [e1, if_false, beq_eq_false_iff_ne.mpr e1, Bool.false_and, Bool.or_false]; exact ih
theorem t_wishesBack (hL : mL LN RF m) (h : MR m M W S) (hn : S 20 4 ≤ 8) (hB : ∀ i, i < S 20 4 → S 17 i < 8 ∧ S 18 i < 8) {f t : Nat} (hf : f < 8) (ht : t < 8) : ∃ M', f_X8_wishesBack LN RF m (nI f) (nI t) M = some M' ∧ MR m M' W (bckS S f t) ∧ Fr m M M' := by
  unfold f_X8_wishesBack
  rw [mr_B hL h]
  simp only [gk_jn, nI_e8 (show S 20 4 < 2 ^ 31 by omega)]
  unfold bckS isBk
  by_cases e : S 20 4 = 8
  · rw [if_pos e, if_pos (Or.inl e)]; exact ⟨M, rfl, h, Fr.rf⟩
  · rw [if_neg e, show (0 : Int32) = nI 0 from rfl, lp_wback_s hL h hn hB hf ht (S 20 4) gk_fuel 0 (by omega) (fuel_gt (by omega))]
    by_cases e2 : anf (fun i => S 17 i == f && S 18 i == t) (S 20 4) 0 false = true
    · rw [if_pos e2, if_pos (Or.inr e2)]; exact ⟨M, rfl, h, Fr.rf⟩
    · rw [if_neg e2, if_neg (fun g => g.elim e e2), mr_B hL h, mw_17 hL (by omega)]
      have h2 := MR_wr (k := 17) (i := S 20 4) (v := f) h (by decide) (by decide) (by decide)
      rw [mr_B hL h2, su_k (by decide), mw_18 hL (by omega)]
      have h3 := MR_wr (k := 18) (i := S 20 4) (v := t) h2 (by decide) (by decide) (by decide)
      rw [mr_B hL h3, su_k (by decide), su_k (by decide), nI_1, mw_20_4 hL]
      exact ⟨_, rfl, MR_wr20 h3 (by decide), ((Fr.rf.wr (by omega)).wr (by omega)).wr (by omega)⟩
end MWR
