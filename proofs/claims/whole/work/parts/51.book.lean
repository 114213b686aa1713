/-! Lines and wishes: line, wish, on, rank -/
def XFw (x : Nat) (M M' : gk_M) : Prop := ∀ a, (a < x + 1 ∨ x + 94 ≤ a) → M'.2 a = M.2 a ∧ ∀ j, ¬ (a = x ∧ j = 9) → M'.1 a j = M.1 a j
theorem XFw.tr {x : Nat} {A B C : gk_M} (h1 : XFw x A B) (h2 : XFw x B C) : XFw x A C := fun a ha => ⟨(h2 a ha).1.trans (h1 a ha).1, fun j hj => ((h2 a ha).2 j hj).trans ((h1 a ha).2 j hj)⟩
theorem XFw.rf {x : Nat} {M : gk_M} : XFw x M M := fun _ _ => ⟨rfl, fun _ _ => rfl⟩
theorem XFw.wr {x : Nat} {M M' : gk_M} (h : XFw x M M') {a k : Nat} {v : Int32} (ha : x + 1 ≤ a ∧ a < x + 94) : XFw x M (gk_wr M' a k v) := fun b hb => ⟨(h b hb).1, fun j hj => by rw [wr_1, if_neg (by omega)]; exact (h b hb).2 j hj⟩
theorem XFw.st {x : Nat} {M M' : gk_M} (h : XFw x M M') {v : Int32} : XFw x M (gk_wr M' x 9 v) := fun b hb => ⟨(h b hb).1, fun j hj => by rw [wr_1, if_neg hj]; exact (h b hb).2 j hj⟩
theorem XFr.w {x : Nat} {M M' : gk_M} (h : XFr x M M') : XFw x M M' := fun a ha => h a (by omega)
def FrW (m : Nat) (M M' : gk_M) : Prop := M'.2 = M.2 ∧ ∀ a j, (a ≤ m ∨ m + 22 ≤ a) → a ≠ m + 24 → a ≠ m + 25 → ¬ (a = m ∧ j = 25) → M'.1 a j = M.1 a j
theorem FrW.rf {m : Nat} {M : gk_M} : FrW m M M := ⟨rfl, fun _ _ _ _ _ _ => rfl⟩
theorem FrW.wr {m : Nat} {M M' : gk_M} (h : FrW m M M') {a k : Nat} {v : Int32} (ha : m + 1 ≤ a ∧ a < m + 22) : FrW m M (gk_wr M' a k v) := ⟨h.1, fun b j p q r s => by rw [wr_1, if_neg (by omega)]; exact h.2 b j p q r s⟩
theorem FrW.st {m : Nat} {M M' : gk_M} (h : FrW m M M') {v : Int32} : FrW m M (gk_wr M' m 25 v) := ⟨h.1, fun b j p q r s => by rw [wr_1, if_neg s]; exact h.2 b j p q r s⟩
theorem FrU.w {m : Nat} {M M' : gk_M} (h : FrU m M M') : FrW m M M' := ⟨h.1, fun a j p q r s => h.2 a j (by omega) q r s⟩
/-- answer, status, wishes, house -/
def CW (x : Nat) (M : gk_M) (o : Option (Int32 × gk_M)) (R : Int32 × Nat × zS × zS) : Prop := ∃ M', o = some (R.1, M') ∧ HR (x + 1) 27 M' R.2.2.2 ∧ BR (x + 2) M' R.2.2.1 ∧ M'.1 x 9 = nI R.2.1 ∧ XFw x M M'
def MW (m : Nat) (M : gk_M) (o : Option (Int32 × gk_M)) (R : Int32 × Nat × zS × zS) : Prop := ∃ M', o = some (R.1, M') ∧ MR m M' R.2.2.1 R.2.2.2 ∧ M'.1 m 25 = nI R.2.1 ∧ FrW m M M'
def newW (W : zS) (a b c d e : Nat) : zS := su (su (su (su (su (su (su W 0 (W 6 0) a) 1 (W 6 0) b) 2 (W 6 0) c) 3 (W 6 0) d) 4 (W 6 0) e) 5 (W 6 0) 1) 6 0 (W 6 0 + 1)
def goodW (n : Nat) (a1 a2 a3 a4 a5 : Int32) : Bool := isL n a1 && isL 8 a2 && isL 10 a3 && isL n a4 && isL 32 a5 && (!decide (a2 = 1) || (!decide (a5 = 2) && decide (a5 ≤ 11)))
def lineR (W S : zS) : Int32 × Nat × zS × zS := if S 20 0 < 8 then (nI (S 20 0), 0, W, su S 20 0 (S 20 0 + 1)) else (-1, 2, W, S)
def wishR (W S : zS) (a1 a2 a3 a4 a5 : Int32) : Int32 × Nat × zS × zS := if goodW (S 20 0) a1 a2 a3 a4 a5 = false then (-1, 1, W, S) else if W 6 0 < 24 then (nI (W 6 0), 0, newW W (tN a1) (tN a2) (tN a3) (tN a4) (tN a5), S) else (-1, 2, W, S)
def onR (W S : zS) (y : Int32) (z : Bool) : Int32 × Nat × zS × zS := if isL (W 6 0) y = false then (-1, 1, W, S) else (bI (!decide (W 5 (tN y) = z.toNat)), 0, su W 5 (tN y) z.toNat, S)
def rankR (W S : zS) (y z : Int32) : Int32 × Nat × zS × zS := if isL (W 6 0) y = false ∨ isL 10 z = false then (-1, 1, W, S) else (nI (W 2 (tN y)), 0, su W 2 (tN y) (tN z), S)
theorem tf : ¬ (true = false) := by decide
theorem i11 (a : Int32) : (11 < a) ↔ ¬ a ≤ 11 := by
  constructor
  · intro h g; have := Int32.lt_iff_toInt_lt.mp h; have := Int32.le_iff_toInt_le.mp g; omega
  · intro h; exact Int32.lt_iff_toInt_lt.mpr (by have : ¬ a.toInt ≤ (11 : Int32).toInt := fun g => h (Int32.le_iff_toInt_le.mpr g); omega)
theorem rg_if3 (y c : Int32) (n : Nat) (hc : c.toInt = (nI n).toInt - 1) {α : Type} (A B : α) : (if y < 0 then A else if c < y then A else B) = if isL n y = true then B else A := by
  rw [← rg_if y n A B]
  by_cases h1 : y < 0
  · rw [if_pos h1, if_pos h1]
  · rw [if_neg h1, if_neg h1]
    by_cases h2 : nI n ≤ y
    · rw [if_pos h2, if_pos (Int32.lt_iff_toInt_lt.mpr (by have := Int32.le_iff_toInt_le.mp h2; omega))]
    · rw [if_neg h2, if_neg (fun g => h2 (Int32.le_iff_toInt_le.mpr (by have := Int32.lt_iff_toInt_lt.mp g; omega)))]
section BK
variable {LN : Nat → Nat} {RF : Nat → Nat → Nat} {x m : Nat} {M : gk_M} {W S : zS}
theorem CO.w {o : Option (Int32 × gk_M)} {R : Int32 × Nat × zS} (h : CO x M o R) (hB : BR (x + 2) M W) (hW : WB W) : CW x M o (R.1, R.2.1, W, R.2.2) := by
  obtain ⟨M', q1, q2, q3, q4⟩ := h
  have hn := hW.1
  refine ⟨M', q1, q2, ⟨?_, fun w k hw hk => ?_⟩, q3, q4.w⟩
  · rw [(q4 (x + 2) (by omega)).2 1 (by omega)]; exact hB.1
  · have hw' : w < W 6 0 := hw
    rw [(q4 (x + 2 + 2 + w) (by omega)).2 k (by omega)]; exact hB.2 w k hw' hk
theorem MO.w {o : Option (Int32 × gk_M)} {R : Int32 × Nat × zS} (h : MO m W M o R) : MW m M o (R.1, R.2.1, W, R.2.2) := by
  obtain ⟨M', q1, q2, q3, q4⟩ := h
  exact ⟨M', q1, q2, q3, q4.w⟩
theorem BR.out {b : Nat} {M' : gk_M} (hB : BR b M W) (hW : WB W) (hm : ∀ a, b ≤ a → a < b + 26 → M'.1 a = M.1 a) : BR b M' W := by
  have hn := hW.1
  exact ⟨by rw [hm b (by omega) (by omega)]; exact hB.1, fun w k hw hk => by rw [hm _ (by omega) (by omega)]; exact hB.2 w k hw hk⟩
theorem ref_CW (hH : HR (x + 1) 27 M S) (hB : BR (x + 2) M W) (hW : WB W) (s : Nat) {y : Int32} (hy : y = nI s) : CW x M ((f_X7_refused LN RF x y M).bind fun r => some (r.1, r.2)) (-1, s, W, S) := by
  subst hy
  unfold f_X7_refused gk_put
  exact ⟨_, rfl, hH.xs, hB.out hW (fun a _ _ => by funext j; rw [wr_1, if_neg (by omega)]), by rw [wr_1, if_pos ⟨rfl, rfl⟩], XFw.rf.st⟩
theorem done_CW {M1 : gk_M} (hH : HR (x + 1) 27 M1 S) (hB : BR (x + 2) M1 W) (hW : WB W) (hf : XFw x M M1) (r : Int32) : CW x M ((f_X7_done LN RF x r M1).bind fun r => some (r.1, r.2)) (r, 0, W, S) := by
  unfold f_X7_done gk_put
  exact ⟨_, rfl, hH.xs, hB.out hW (fun a _ _ => by funext j; rw [wr_1, if_neg (by omega)]), by rw [wr_1, if_pos ⟨rfl, rfl⟩]; rfl, hf.st⟩
theorem ref_MW (h : MR m M W S) (s : Nat) {y : Int32} (hy : y = nI s) : MW m M ((f_X8_refused LN RF m y M).bind fun r => some (r.1, r.2)) (-1, s, W, S) := (ref_MO h s hy).w
theorem done_MW {M1 : gk_M} (h : MR m M1 W S) (hf : FrW m M M1) (r : Int32) : MW m M ((f_X8_done LN RF m r M1).bind fun r => some (r.1, r.2)) (r, 0, W, S) := by
  unfold f_X8_done gk_put
  exact ⟨_, rfl, h.st, by rw [wr_1, if_pos ⟨rfl, rfl⟩]; rfl, hf.st⟩
theorem u_isWish (hx : xL LN RF x) (hH : HR (x + 1) 27 M S) (a1 a2 a3 a4 a5 : Int32) : f_X7_isWish LN RF x a1 a2 a3 a4 a5 M = some (bI (goodW (S 20 0) a1 a2 a3 a4 a5)) := by
  unfold f_X7_isWish f_X7_isRank
  rw [hx.1, u_isLine hH]
  simp only [Option.bind_some, u_isLine hH, gk_jn, zz_0, zz_1, i10, i00, if_true, if_false, ite_self, bI_0]
  rw [show (8 : Int32) = nI 8 from rfl, rg_if a2 8, rg_if3 a3 9 10 (by decide), rg_if3 a5 31 32 (by decide)]
  unfold goodW
  cases isL (S 20 0) a1 <;> cases isL (S 20 0) a4 <;> cases isL 8 a2 <;> cases isL 10 a3 <;> cases isL 32 a5 <;> simp [bI]
  by_cases e2 : a2 = 1 <;> by_cases e5 : a5 = 2 <;> by_cases e6 : a5 ≤ 11 <;> simp [e2, e5, e6]
theorem t_isGood (hm : mL LN RF m) (h : MR m M W S) (a1 a2 a3 a4 a5 : Int32) : f_X8_isGood LN RF m a1 a2 a3 a4 a5 M = some (bI (goodW (S 20 0) a1 a2 a3 a4 a5)) := by
  unfold f_X8_isGood
  rw [t_isLine hm h, t_isLine hm h, t_isInK a2 (n := 8) (by decide), t_isInK a3 (n := 10) (by decide), t_isInK a5 (n := 32) (by decide)]
  rw [show inR a1 0 ((nI (S 20 0)).toInt - 1) = isL (S 20 0) a1 from rfl, show inR a4 0 ((nI (S 20 0)).toInt - 1) = isL (S 20 0) a4 from rfl]
  simp only [Option.bind_some, gk_jn, zz_0, zz_1, bI_0, i11]
  unfold goodW
  cases isL (S 20 0) a1 <;> cases isL (S 20 0) a4 <;> cases isL 8 a2 <;> cases isL 10 a3 <;> cases isL 32 a5 <;> simp [bI]
  by_cases e2 : a2 = 1 <;> by_cases e5 : a5 = 2 <;> by_cases e6 : a5 ≤ 11 <;> simp [e2, e5, e6]
theorem c_line (hx : xL LN RF x) (hH : HR (x + 1) 27 M S) (hB : BR (x + 2) M W) (hW : WB W) (hI : SI 60 S) : CW x M (f_X7_line LN RF x M) (lineR W S) := by
  have h1 := hI.1
  unfold f_X7_line lineR
  rw [hx.1, hH.1.1]
  simp only [show (8 : Int32) = nI 8 from rfl, nI_ltI (show S 20 0 < 2 ^ 31 by omega) (show 8 < 2 ^ 31 by omega), gk_put, nI_1]
  by_cases e : S 20 0 < 8
  · rw [if_pos e, if_pos e, wr_1, if_pos ⟨rfl, rfl⟩, nI_pred]
    refine done_CW ?_ (hB.out hW (fun a _ _ => by funext j; rw [wr_1, if_neg (by omega)])) hW (XFw.rf.wr (by omega)) _
    obtain ⟨⟨g1, g1b, g1c, g1d⟩, g2, g3, g4⟩ := hH
    have eu : ∀ k, k ≠ 20 → su S 20 0 (S 20 0 + 1) k = S k := fun k hk => by funext i; exact su_k hk
    have e2 : su S 20 0 (S 20 0 + 1) 20 2 = S 20 2 := by rw [su_i]; rfl
    have e3 : su S 20 0 (S 20 0 + 1) 20 3 = S 20 3 := by rw [su_i]; rfl
    have e4 : su S 20 0 (S 20 0 + 1) 20 4 = S 20 4 := by rw [su_i]; rfl
    have ei : inn (su S 20 0 (S 20 0 + 1)) = inn S := by funext l c; show Bool.and _ _ = Bool.and _ _; rw [eu 7 (by decide), eu 6 (by decide), eu 12 (by decide), eu 13 (by decide)]
    have ek : knk (su S 20 0 (S 20 0 + 1)) = knk S := by funext l c; show Bool.and _ _ = Bool.and _ _; rw [eu 7 (by decide), eu 13 (by decide)]
    have hmm : ∀ a, a ≠ x + 1 → (gk_wr M (x + 1) 7 (nI (S 20 0 + 1))).1 a = M.1 a := fun a ha => by funext j; rw [wr_1, if_neg (fun g => ha g.1)]
    have hj : ∀ j, j ≠ 7 → (gk_wr M (x + 1) 7 (nI (S 20 0 + 1))).1 (x + 1) j = M.1 (x + 1) j := fun j hj => by rw [wr_1, if_neg (fun g => hj g.2)]
    refine ⟨⟨by rw [wr_1, if_pos ⟨rfl, rfl⟩, su_s], by rw [hj 8 (by decide), e2]; exact g1b, by rw [hj 9 (by decide), e4]; exact g1c, by rw [hj 10 (by decide), e3]; exact g1d⟩, fun c hc => ?_, fun l hl => ?_, fun i hi => ?_⟩
    · rw [e2] at hc
      have := (g2 c hc).mv (hmm (x + 1 + 27 + 6 + c) (by omega)) (by rw [wr_2])
      unfold CR at this ⊢
      rw [eu 6 (by decide), eu 7 (by decide), eu 8 (by decide), eu 9 (by decide), eu 10 (by decide), eu 11 (by decide), eu 12 (by decide), eu 13 (by decide), eu 14 (by decide), eu 15 (by decide), eu 16 (by decide)]
      exact this
    · unfold cOf kAt
      rw [ei, ek, e2, eu 19 (by decide), hmm _ (by omega), hmm _ (by omega), hmm _ (by omega)]
      exact g3 l hl
    · rw [e4] at hi
      rw [hmm _ (by omega), hmm _ (by omega), eu 17 (by decide), eu 18 (by decide)]; exact g4 i hi
  · rw [if_neg e, if_neg e]; exact ref_CW hH hB hW 2 rfl
theorem t_line (hm : mL LN RF m) (h : MR m M W S) (hI : SI 60 S) : MW m M (f_X8_line LN RF m M) (lineR W S) := by
  have h1 := hI.1
  unfold f_X8_line lineR
  rw [mr_L hm h]
  simp only [nI_e8 (show S 20 0 < 2 ^ 31 by omega)]
  by_cases e : S 20 0 = 8
  · rw [if_pos e, if_neg (by omega)]; exact ref_MW h 2 rfl
  · rw [if_neg e, if_pos (by omega), mr_L hm h, nI_1, mw_20_0 hm]
    have h2 := MR_wr20 (i := 0) (v := S 20 0 + 1) h (by decide)
    rw [mr_L hm h2, su_s, nI_pred]
    exact done_MW h2 (FrW.rf.wr (by omega)) _
theorem newW_b {a b c d e : Nat} (hW : WB W) (hn : W 6 0 < 24) (ha : a < 8) (hb : b < 8) (hc : c < 10) (hd : d < 8) (he : e < 32) : WB (newW W a b c d e) := by
  have h6 : newW W a b c d e 6 0 = W 6 0 + 1 := by unfold newW; rw [su_s]
  have hv : ∀ k w, k < 6 → newW W a b c d e k w = if w = W 6 0 then (if k = 0 then a else if k = 1 then b else if k = 2 then c else if k = 3 then d else if k = 4 then e else 1) else W k w := by
    intro k w hk
    have : k = 0 ∨ k = 1 ∨ k = 2 ∨ k = 3 ∨ k = 4 ∨ k = 5 := by omega
    unfold newW
    rcases this with rfl | rfl | rfl | rfl | rfl | rfl <;> simp [su_eq]
  refine ⟨by rw [h6]; omega, fun w hw => ?_⟩
  rw [h6] at hw
  rw [hv 0 w (by decide), hv 1 w (by decide), hv 2 w (by decide), hv 3 w (by decide), hv 4 w (by decide), hv 5 w (by decide)]
  by_cases e : w = W 6 0
  · simp only [if_pos e]; simp; omega
  · simp only [if_neg e]; exact hW.2 w (by omega)
theorem u_added (hx : xL LN RF x) (hB : BR (x + 2) M W) (hW : WB W) (hn : W 6 0 < 24) (a b c d e : Nat) : ∃ M1, f_X6_added LN RF (x + 2) (nI a) (nI b) (nI c) (nI d) (nI e) M = some (nI (W 6 0), M1) ∧ BR (x + 2) M1 (newW W a b c d e) ∧ (∀ y, (y < x + 2 ∨ x + 28 ≤ y) → M1.1 y = M.1 y) ∧ M1.2 = M.2 := by
  unfold f_X6_added f_X6_isFull
  simp only [gk_jn, zz_0, zz_1, hB.1, show (24 : Int32) = nI 24 from rfl, nI_ltI (show W 6 0 < 2 ^ 31 by omega) (show 24 < 2 ^ 31 by omega)]
  rw [if_pos hn]
  simp only [Option.bind_some, if_true]
  rw [ha_w hx.2.1 hn]
  simp only [gk_put, gk_putz, or_true, if_true]
  have e1 : (gk_wr (gk_wr (gk_wr (gk_wr (gk_wr (gk_wr M (x + 2 + 2 + W 6 0) 0 (nI a)) (x + 2 + 2 + W 6 0) 1 (nI b)) (x + 2 + 2 + W 6 0) 2 (nI c)) (x + 2 + 2 + W 6 0) 3 (nI d)) (x + 2 + 2 + W 6 0) 4 (nI e)) (x + 2 + 2 + W 6 0) 5 1).1 (x + 2) 1 = nI (W 6 0) := by
    simp only [wr_1, show ¬ x + 2 = x + 2 + 2 + W 6 0 by omega, false_and, if_false]; exact hB.1
  rw [e1, nI_1]
  have e2 : ∀ Mx : gk_M, (gk_wr Mx (x + 2) 1 (nI (W 6 0 + 1))).1 (x + 2) 1 - 1 = nI (W 6 0) := fun Mx => by rw [wr_1, if_pos ⟨rfl, rfl⟩, nI_pred]
  rw [e2]
  refine ⟨_, rfl, ⟨?_, fun w k hw hk => ?_⟩, fun y hy => ?_, rfl⟩
  · rw [wr_1, if_pos ⟨rfl, rfl⟩]; unfold newW; rw [su_s]
  · have h6 : newW W a b c d e 6 0 = W 6 0 + 1 := by unfold newW; rw [su_s]
    rw [h6] at hw
    rw [wr_1, if_neg (by omega)]
    have : k = 0 ∨ k = 1 ∨ k = 2 ∨ k = 3 ∨ k = 4 ∨ k = 5 := by omega
    by_cases ew : w = W 6 0
    · subst ew
      unfold newW
      rcases this with rfl | rfl | rfl | rfl | rfl | rfl <;> simp [wr_1, su_eq] <;> rfl
    · have hne : ¬ x + 2 + 2 + w = x + 2 + 2 + W 6 0 := by omega
      have hv : newW W a b c d e k w = W k w := by
        unfold newW
        rcases this with rfl | rfl | rfl | rfl | rfl | rfl <;> simp [su_eq, ew]
      rw [hv]
      simp only [wr_1, hne, false_and, if_false]
      exact hB.2 w k (by omega) hk
  · funext j
    simp only [wr_1, show ¬ y = x + 2 by omega, show ¬ y = x + 2 + 2 + W 6 0 by omega, false_and, if_false]
theorem good_n {n : Nat} {a1 a2 a3 a4 a5 : Int32} (hn : n ≤ 8) (h : goodW n a1 a2 a3 a4 a5 = true) : (a1 = nI (tN a1) ∧ tN a1 < n) ∧ (a2 = nI (tN a2) ∧ tN a2 < 8) ∧ (a3 = nI (tN a3) ∧ tN a3 < 10) ∧ (a4 = nI (tN a4) ∧ tN a4 < n) ∧ a5 = nI (tN a5) ∧ tN a5 < 32 := by
  unfold goodW at h
  simp only [Bool.and_eq_true] at h
  have key : ∀ (k : Nat) (y : Int32), k < 1000 → isL k y = true → y = nI (tN y) ∧ tN y < k := by
    intro k y hk hy
    obtain ⟨l, hl, rfl⟩ := isL_s hk hy
    rw [tN_n (by omega)]; exact ⟨rfl, hl⟩
  exact ⟨key n a1 (by omega) h.1.1.1.1.1, key 8 a2 (by omega) h.1.1.1.1.2, key 10 a3 (by omega) h.1.1.1.2, key n a4 (by omega) h.1.1.2, key 32 a5 (by omega) h.1.2⟩
theorem c_wish (hx : xL LN RF x) (hH : HR (x + 1) 27 M S) (hB : BR (x + 2) M W) (hW : WB W) (hI : SI 60 S) (a1 a2 a3 a4 a5 : Int32) : CW x M (f_X7_wish LN RF x a1 a2 a3 a4 a5 M) (wishR W S a1 a2 a3 a4 a5) := by
  have h1 := hI.1
  have hn := hW.1
  unfold f_X7_wish wishR
  rw [u_isWish hx hH]
  simp only [Option.bind_some, bI_0]
  cases eg : goodW (S 20 0) a1 a2 a3 a4 a5 with
  | false => rw [if_pos rfl, if_pos rfl]; exact ref_CW hH hB hW 1 rfl
  | true =>
    rw [if_neg tf, if_neg tf, hx.1, hx.2.1.1.1]
    obtain ⟨⟨p1, q1⟩, ⟨p2, q2⟩, ⟨p3, q3⟩, ⟨p4, q4⟩, p5, q5⟩ := good_n h1.1 eg
    have hfull : f_X6_isFull LN RF (x + 2) M = some (bI (!decide (W 6 0 < 24))) := by
      unfold f_X6_isFull
      simp only [gk_jn, zz_0, zz_1, hB.1, show (24 : Int32) = nI 24 from rfl, nI_ltI (show W 6 0 < 2 ^ 31 by omega) (show 24 < 2 ^ 31 by omega)]
      by_cases e : W 6 0 < 24 <;> simp [e, bI]
    rw [hfull]
    simp only [Option.bind_some, bI_0]
    by_cases e : W 6 0 < 24
    · rw [if_pos (by simp [e]), if_pos e]
      obtain ⟨M1, r1, r2, r3, r4⟩ := u_added hx hB hW e (tN a1) (tN a2) (tN a3) (tN a4) (tN a5)
      rw [← p1, ← p2, ← p3, ← p4, ← p5] at r1
      rw [r1]
      simp only [Option.bind_some]
      refine done_CW (hH.out (fun a ha => ⟨r3 a (by omega), by rw [r4]⟩)) r2 (newW_b hW e (by omega) q2 q3 (by omega) q5) (fun a ha => ⟨by rw [r4], fun j _ => by rw [r3 a (by omega)]⟩) _
    · rw [if_neg (by simp; omega), if_neg e]; exact ref_CW hH hB hW 2 rfl
theorem t_adds (hm : mL LN RF m) (h : MR m M W S) (hn : W 6 0 < 24) (a b c d e : Nat) : MW m M ((f_X8_adds LN RF m (nI a) (nI b) (nI c) (nI d) (nI e) M).bind fun r => some (r.1, r.2)) (nI (W 6 0), 0, newW W a b c d e, S) := by
  unfold f_X8_adds
  rw [mr_W hm h, mr_W hm h, nI_1, mw_20_1 hm, mw_0 hm hn, mw_1 hm hn, mw_2 hm hn, mw_3 hm hn, mw_4 hm hn, mw_5 hm hn]
  have hr := MR_wrW (k := 5) (i := W 6 0) (v := 1) (MR_wrW (k := 4) (i := W 6 0) (v := e) (MR_wrW (k := 3) (i := W 6 0) (v := d) (MR_wrW (k := 2) (i := W 6 0) (v := c) (MR_wrW (k := 1) (i := W 6 0) (v := b) (MR_wrW (k := 0) (i := W 6 0) (v := a) (MR_wrn (v := W 6 0 + 1) h) (by decide)) (by decide)) (by decide)) (by decide)) (by decide)) (by decide)
  have ew : su (su (su (su (su (su (su W 6 0 (W 6 0 + 1)) 0 (W 6 0) a) 1 (W 6 0) b) 2 (W 6 0) c) 3 (W 6 0) d) 4 (W 6 0) e) 5 (W 6 0) 1 = newW W a b c d e := by
    funext k i
    unfold newW
    simp only [su_eq]
    by_cases g : k = 6 ∧ i = 0
    · obtain ⟨rfl, rfl⟩ := g; simp
    · simp only [if_neg g]
  rw [ew] at hr
  unfold f_X8_done gk_put
  exact ⟨_, rfl, hr.st, by rw [wr_1, if_pos ⟨rfl, rfl⟩]; rfl, (((((((FrW.rf.wr (by omega)).wr (by omega)).wr (by omega)).wr (by omega)).wr (by omega)).wr (by omega)).wr (by omega)).st⟩
theorem t_wish (hm : mL LN RF m) (h : MR m M W S) (hW : WB W) (hI : SI 60 S) (a1 a2 a3 a4 a5 : Int32) : MW m M (f_X8_wish LN RF m a1 a2 a3 a4 a5 M) (wishR W S a1 a2 a3 a4 a5) := by
  have h1 := hI.1
  have hn := hW.1
  unfold f_X8_wish wishR
  rw [t_isGood hm h, mr_W hm h]
  simp only [Option.bind_some, bI_0, nI_e24 (show W 6 0 < 2 ^ 31 by omega)]
  cases eg : goodW (S 20 0) a1 a2 a3 a4 a5 with
  | false => rw [if_pos rfl, if_pos rfl]; exact ref_MW h 1 rfl
  | true =>
    rw [if_neg tf, if_neg tf]
    obtain ⟨⟨p1, q1⟩, ⟨p2, q2⟩, ⟨p3, q3⟩, ⟨p4, q4⟩, p5, q5⟩ := good_n h1.1 eg
    by_cases e : W 6 0 = 24
    · rw [if_pos e, if_neg (by omega)]; exact ref_MW h 2 rfl
    · rw [if_neg e, if_pos (by omega)]
      have := t_adds hm h (show W 6 0 < 24 by omega) (tN a1) (tN a2) (tN a3) (tN a4) (tN a5)
      rw [← p1, ← p2, ← p3, ← p4, ← p5] at this
      exact this
theorem BR.one {b : Nat} (hB : BR b M W) {k w v : Nat} (hw : w < W 6 0) (hk : k < 6) : BR b (gk_wr M (b + 2 + w) k (nI v)) (su W k w v) := by
  refine ⟨by rw [wr_1, if_neg (by omega), su_k (by omega)]; exact hB.1, fun w' k' hw' hk' => ?_⟩
  rw [su_k (by omega)] at hw'
  rw [wr_1, su_eq]
  by_cases e : k' = k ∧ w' = w
  · rw [if_pos e, if_pos ⟨by omega, e.1⟩]
  · rw [if_neg e, if_neg (by omega)]; exact hB.2 w' k' hw' hk'
theorem c_on (hx : xL LN RF x) (hH : HR (x + 1) 27 M S) (hB : BR (x + 2) M W) (hW : WB W) (y : Int32) (z : Bool) : CW x M (f_X7_on LN RF x y (bI z) M) (onR W S y z) := by
  have hn := hW.1
  unfold f_X7_on onR
  rw [hx.1, hx.2.1.1.1, u_holds hB]
  simp only [Option.bind_some, bI_0, gk_jn]
  cases e : isL (W 6 0) y with
  | false => rw [if_pos rfl, if_pos rfl]; exact ref_CW hH hB hW 1 rfl
  | true =>
    rw [if_neg tf, if_neg tf]
    obtain ⟨w, hw, rfl⟩ := isL_s (by omega) e
    have hb := hW.2 w hw
    have hz : bI z = nI z.toNat := by cases z <;> rfl
    have hz2 : bI z = 0 ∨ bI z = 1 := bI_01 z
    have hz3 : z.toNat ≤ 1 := by cases z <;> decide
    rw [tN_n (by omega), ha_w hx.2.1 (show w < 24 by omega), hB.2 w 5 hw (by decide), hz]
    simp only [gk_putz, nI_eq (show W 5 w < 2 ^ 31 by omega) (show z.toNat < 2 ^ 31 by omega)]
    simp only [show (nI z.toNat = 0 ∨ nI z.toNat = 1) = True from eq_true (by rw [← hz]; exact hz2), if_true]
    have hB' := hB.one (k := 5) (v := z.toNat) hw (by decide)
    have hW' : WB (su W 5 w z.toNat) := by
      refine ⟨by rw [su_k (by decide)]; exact hn, fun w' hw' => ?_⟩
      rw [su_k (by decide)] at hw'
      have := hW.2 w' hw'
      rw [su_k (by decide), su_k (by decide), su_k (by decide), su_k (by decide), su_k (by decide), su_i]
      refine ⟨this.1, this.2.1, this.2.2.1, this.2.2.2.1, this.2.2.2.2.1, ?_⟩
      split <;> omega
    have hH' : HR (x + 1) 27 (gk_wr M (x + 2 + 2 + w) 5 (nI z.toNat)) S := hH.out (fun a ha => ⟨by funext j; rw [wr_1, if_neg (by omega)], rfl⟩)
    by_cases g : W 5 w = z.toNat
    · rw [if_pos g, show bI (!decide (W 5 w = z.toNat)) = 0 by simp [g, bI]]; exact done_CW hH' hB' hW' (XFw.rf.wr (by omega)) _
    · rw [if_neg g, show bI (!decide (W 5 w = z.toNat)) = 1 by simp [g, bI]]; exact done_CW hH' hB' hW' (XFw.rf.wr (by omega)) _
theorem t_on (hm : mL LN RF m) (h : MR m M W S) (hW : WB W) (y : Int32) (z : Bool) : MW m M (f_X8_on LN RF m y (bI z) M) (onR W S y z) := by
  have hn := hW.1
  unfold f_X8_on onR
  rw [t_isWish hm h]
  simp only [Option.bind_some, bI_0, gk_jn]
  cases e : isL (W 6 0) y with
  | false => rw [if_pos rfl, if_pos rfl]; exact ref_MW h 1 rfl
  | true =>
    rw [if_neg tf, if_neg tf]
    obtain ⟨w, hw, rfl⟩ := isL_s (by omega) e
    have hb := hW.2 w hw
    rw [tN_n (by omega), mr_5 hm h (by omega)]
    have key : ∀ v, v ≤ 1 → MW m M (gk_ast LN M (RF m 5) (nI w) (nI v) fun M28 => gk_ald LN M28 (RF m 5) (nI w) fun x30 => if nI (W 5 w) = x30 then (f_X8_done LN RF m 0 M28).bind fun r33 => some (r33.1, r33.2) else (f_X8_done LN RF m 1 M28).bind fun r33 => some (r33.1, r33.2)) (bI (!decide (W 5 w = v)), 0, su W 5 w v, S) := by
      intro v hv
      rw [mw_5 hm (by omega)]
      have h2 := MR_wrW (k := 5) (i := w) (v := v) h (by decide)
      have h2' : MR m (gk_wr M (m + 6) w (nI v)) (su W 5 w v) S := h2
      rw [mr_5 hm h2' (by omega), su_s]
      simp only [nI_eq (show W 5 w < 2 ^ 31 by omega) (show v < 2 ^ 31 by omega)]
      by_cases g : W 5 w = v
      · rw [if_pos g, show bI (!decide (W 5 w = v)) = 0 by simp [g, bI]]; exact done_MW h2' (FrW.rf.wr (by omega)) _
      · rw [if_neg g, show bI (!decide (W 5 w = v)) = 1 by simp [g, bI]]; exact done_MW h2' (FrW.rf.wr (by omega)) _
    cases z with
    | false => rw [if_pos rfl]; exact key 0 (by omega)
    | true => rw [if_neg tf]; exact key 1 (by omega)
theorem c_rank (hx : xL LN RF x) (hH : HR (x + 1) 27 M S) (hB : BR (x + 2) M W) (hW : WB W) (y z : Int32) : CW x M (f_X7_rank LN RF x y z M) (rankR W S y z) := by
  have hn := hW.1
  unfold f_X7_rank rankR f_X7_isRank
  rw [hx.1, hx.2.1.1.1, u_holds hB]
  simp only [Option.bind_some, bI_0, gk_jn, zz_0, zz_1]
  rw [rg_if3 z 9 10 (by decide)]
  cases e : isL (W 6 0) y with
  | false => rw [if_pos rfl, if_pos (Or.inl rfl)]; exact ref_CW hH hB hW 1 rfl
  | true =>
    rw [if_neg tf]
    cases e2 : isL 10 z with
    | false => rw [if_neg (show ¬ (false = true) by decide), if_pos (Or.inr rfl)]; exact ref_CW (LN := LN) (RF := RF) hH hB hW 1 rfl
    | true =>
      rw [if_pos rfl, if_neg (show ¬ (true = false ∨ true = false) by simp)]
      simp only [Option.bind_some, i10, if_false]
      obtain ⟨w, hw, rfl⟩ := isL_s (by omega) e
      obtain ⟨v, hv, rfl⟩ := isL_s (by omega) e2
      have hb := hW.2 w hw
      rw [tN_n (by omega), tN_n (by omega), ha_w hx.2.1 (show w < 24 by omega), hB.2 w 2 hw (by decide)]
      simp only [gk_put]
      have hW' : WB (su W 2 w v) := by
        refine ⟨by rw [su_k (by decide)]; exact hn, fun w' hw' => ?_⟩
        rw [su_k (by decide)] at hw'
        have := hW.2 w' hw'
        rw [su_k (k' := 0) (by decide), su_k (k' := 1) (by decide), su_k (k' := 3) (by decide), su_k (k' := 4) (by decide), su_k (k' := 5) (by decide), su_i]
        refine ⟨this.1, this.2.1, ?_, this.2.2.2⟩
        split <;> omega
      have hH' : HR (x + 1) 27 (gk_wr M (x + 2 + 2 + w) 2 (nI v)) S := hH.out (fun a ha => ⟨by funext j; rw [wr_1, if_neg (by omega)], rfl⟩)
      exact done_CW hH' (hB.one (k := 2) (v := v) hw (by decide)) hW' (XFw.rf.wr (by omega)) _
theorem t_rank (hm : mL LN RF m) (h : MR m M W S) (hW : WB W) (y z : Int32) : MW m M (f_X8_rank LN RF m y z M) (rankR W S y z) := by
  have hn := hW.1
  unfold f_X8_rank rankR
  rw [t_isWish hm h, t_isInK z (n := 10) (by decide)]
  simp only [Option.bind_some, bI_0, gk_jn]
  cases e : isL (W 6 0) y with
  | false => rw [if_pos rfl, if_pos (Or.inl rfl)]; exact ref_MW h 1 rfl
  | true =>
    rw [if_neg tf]
    cases e2 : isL 10 z with
    | false => rw [if_pos rfl, if_pos (Or.inr rfl)]; exact ref_MW h 1 rfl
    | true =>
      rw [if_neg tf, if_neg (show ¬ (true = false ∨ true = false) by simp)]
      obtain ⟨w, hw, rfl⟩ := isL_s (by omega) e
      obtain ⟨v, hv, rfl⟩ := isL_s (by omega) e2
      rw [tN_n (by omega), tN_n (by omega), mr_2 hm h (by omega), mw_2 hm (by omega)]
      exact done_MW (MR_wrW (k := 2) (i := w) (v := v) h (by decide)) (FrW.rf.wr (by omega)) _
end BK
