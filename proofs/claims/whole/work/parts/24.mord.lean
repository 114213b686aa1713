/-! The reference's order: the next wish, the first that acts -/
theorem i10 : ((1 : Int32) = 0) = False := by decide
theorem i00 : ((0 : Int32) = 0) = True := by decide
theorem im0 : ((-1 : Int32) < 0) = True := by decide
section MORD
variable {LN : Nat → Nat} {RF : Nat → Nat → Nat} {m : Nat} {M : gk_M} {W S : zS} {α : Type}
theorem wb_pick (hL : mL LN RF m) (h : MR m M W S) (hW : WB W) {a w : Nat} (ha : a ≤ w) (hw : w < W 6 0) (Kx : Int32 → Option α) : (if nN a < 0 then Kx (nI w) else gk_ald LN M (RF m 2) (nI w) fun x14 => gk_ald LN M (RF m 2) (nN a) fun x16 => if x16 ≤ x14 then Kx (nN a) else Kx (nI w)) = Kx (nN (if (a == 0 || decide (keyW W w < keyW W (a - 1))) = true then w + 1 else a)) := by
  have hn := hW.1
  have hb := hW.2 w hw
  cases a with
  | zero => simp [nN_0, im0, nN_s]
  | succ a =>
    have hb2 := hW.2 a (by omega)
    rw [nN_s, if_neg (nI_pos (by omega)), mr_2 hL h (by omega), mr_2 hL h (by omega)]
    simp only [Nat.add_sub_cancel, keyW, nI_leI (show W 2 a < 2 ^ 31 by omega) (show W 2 w < 2 ^ 31 by omega)]
    by_cases e : W 2 a ≤ W 2 w
    · rw [if_pos e, if_neg (by simp; omega), nN_s]
    · rw [if_neg e, if_pos (by simp; omega), nN_s]
theorem wb_beh (hL : mL LN RF m) (h : MR m M W S) (hW : WB W) {b w : Nat} (hb : b ≤ W 6 0) (hw : w < W 6 0) (Kb : Int32 → Option α) : (if nN b < 0 then Kb 1 else gk_ald LN M (RF m 2) (nI w) fun x20 => gk_ald LN M (RF m 2) (nN b) fun x22 => if x22 < x20 then Kb 1 else gk_ald LN M (RF m 2) (nI w) fun x24 => gk_ald LN M (RF m 2) (nN b) fun x26 => if x24 = x26 then (if nI w ≤ nN b then Kb 0 else Kb 1) else Kb 0) = Kb (bI (b == 0 || decide (keyW W (b - 1) < keyW W w))) := by
  have hn := hW.1
  have hbw := hW.2 w hw
  cases b with
  | zero => simp [nN_0, im0, bI]
  | succ b =>
    have hb2 := hW.2 b (by omega)
    rw [nN_s, if_neg (nI_pos (by omega))]
    simp only [mr_2 hL h (show w < 24 by omega), mr_2 hL h (show b < 24 by omega)]
    simp only [Nat.add_sub_cancel, keyW, nI_ltI (show W 2 b < 2 ^ 31 by omega) (show W 2 w < 2 ^ 31 by omega), nI_eq (show W 2 w < 2 ^ 31 by omega) (show W 2 b < 2 ^ 31 by omega), nI_leI (show w < 2 ^ 31 by omega) (show b < 2 ^ 31 by omega)]
    by_cases e : W 2 b < W 2 w
    · rw [if_pos e, decide_eq_true (show W 2 b * 24 + b < W 2 w * 24 + w by omega)]; simp [bI]
    · rw [if_neg e]
      by_cases e2 : W 2 w = W 2 b
      · rw [if_pos e2]
        by_cases e3 : w ≤ b
        · rw [if_pos e3, decide_eq_false (show ¬ W 2 b * 24 + b < W 2 w * 24 + w by omega)]; simp [bI]
        · rw [if_neg e3, decide_eq_true (show W 2 b * 24 + b < W 2 w * 24 + w by omega)]; simp [bI]
      · rw [if_neg e2, decide_eq_false (show ¬ W 2 b * 24 + b < W 2 w * 24 + w by omega)]; simp [bI]
def nxtP (W : zS) (l b w : Nat) : Bool := onOf W l w && (b == 0 || decide (keyW W (b - 1) < keyW W w))
theorem lp_wb_s (hL : mL LN RF m) (h : MR m M W S) (hW : WB W) {l b : Nat} (hl : l < 8) (hb : b ≤ W 6 0) {K : Int32 → Option Int32} : ∀ r n w a, w + r = W 6 0 → a ≤ w → r < n → lp_X8_wishBehind_5 LN RF m (nI l) (nN b) M K n (nN a, nI w) = K (nN (ami (keyW W) (nxtP W l b) r w a))
  | r, 0, w, _, _, _, g => absurd g (by omega)
  | 0, n + 1, w, a, g1, ga, g2 => by
    rw [lp_X8_wishBehind_5, mr_W hL h, if_pos (nI_le (by omega) (by have := hW.1; omega))]; rfl
  | r + 1, n + 1, w, a, g1, ga, g2 => by
    have hn := hW.1
    have hbw := hW.2 w (by omega)
    have ih := fun a' h' => lp_wb_s hL h hW hl hb (K := K) r n (w + 1) a' (by omega) h' (by omega)
    rw [lp_X8_wishBehind_5, mr_W hL h, if_neg (nI_ge (by omega) (by omega)), mr_0 hL h (by omega)]
    simp only [gk_jn, nI_1, mr_5 hL h (show w < 24 by omega), nI_eq (show W 0 w < 2 ^ 31 by omega) (show l < 2 ^ 31 by omega), nI_e0 (show W 5 w < 2 ^ 31 by omega)]
    rw [ami]
    unfold nxtP onOf
    by_cases e1 : W 0 w = l
    · by_cases e2 : W 5 w = 0
      · simp only [e1, e2, if_true, beq_self_eq_true, Bool.not_true, Bool.false_and, Bool.false_eq_true, if_false]; exact ih a (by omega)
      · simp only [e1, e2, if_true, if_false]
        have hq := wb_beh hL h hW (b := b) (w := w) hb (by omega) (fun y9 => if y9 = 0 then lp_X8_wishBehind_5 LN RF m (nI l) (nN b) M K n (nN a, nI (w + 1)) else if nN a < 0 then lp_X8_wishBehind_5 LN RF m (nI l) (nN b) M K n (nI w, nI (w + 1)) else gk_ald LN M (RF m 2) (nI w) fun x14 => gk_ald LN M (RF m 2) (nN a) fun x16 => if x16 ≤ x14 then lp_X8_wishBehind_5 LN RF m (nI l) (nN b) M K n (nN a, nI (w + 1)) else lp_X8_wishBehind_5 LN RF m (nI l) (nN b) M K n (nI w, nI (w + 1)))
        refine Eq.trans hq ?_
        simp only [bI_0]
        have hp := wb_pick hL h hW (a := a) (w := w) ga (by omega) (fun z => lp_X8_wishBehind_5 LN RF m (nI l) (nN b) M K n (z, nI (w + 1)))
        cases hd : (b == 0 || decide (keyW W (b - 1) < keyW W w)) with
        | false =>
          simp only [if_true, beq_self_eq_true, beq_eq_false_iff_ne.mpr e2, Bool.not_false, Bool.true_and, Bool.false_and, Bool.false_eq_true, if_false]
          exact ih a (by omega)
        | true =>
          simp only [Bool.true_eq_false, if_false, beq_self_eq_true, beq_eq_false_iff_ne.mpr e2, Bool.not_false, Bool.true_and]
          refine Eq.trans hp ?_
          exact ih _ (by split <;> omega)
    · simp only [e1, if_false, beq_eq_false_iff_ne.mpr e1, Bool.and_false, Bool.false_and, Bool.false_eq_true]; exact ih a (by omega)
theorem t_wishBehind (hL : mL LN RF m) (h : MR m M W S) (hW : WB W) {l b : Nat} (hl : l < 8) (hb : b ≤ W 6 0) : f_X8_wishBehind LN RF m (nI l) (nN b) M = some (nN (amin (keyW W) (nxtP W l b) (W 6 0))) := by
  unfold f_X8_wishBehind
  simp only [gk_jn]
  have := lp_wb_s hL h hW hl hb (K := fun y => some y) (W 6 0) gk_fuel 0 0 (by omega) (by omega) (fuel_gt (by have := hW.1; omega))
  rw [nN_0] at this
  rw [show ((-1 : Int32), (0 : Int32)) = (-1, nI 0) from rfl, this]; rfl
theorem nb4 : ∀ n, n < 32 → ((nI n &&& 4) = 4 ↔ n.testBit 2 = true) := by decide +kernel
theorem t_doesAct (hL : mL LN RF m) (h : MR m M W S) (hW : WB W) (hS : SB S) {c s w : Nat} (hc : c < S 20 2) (hs : s < 8) (hw : w < W 6 0) : f_X8_doesAct LN RF m (nI w) (nI c) (nI s) M = some (bI (act1 W S c (W 0 w) s w)) := by
  have hn := hW.1
  have hbw := hW.2 w hw
  have hs1 := hS.1
  have hbc := hS.2.1 c hc
  unfold f_X8_doesAct
  rw [mr_0 hL h (by omega), t_isFree hL h hS hbw.1]
  simp only [Option.bind_some, gk_jn, bI_0]
  have hk := kAt_le S (W 0 w)
  simp only [mr_1 hL h (show w < 24 by omega), mr_4 hL h (show w < 24 by omega), mr_3 hL h (show w < 24 by omega), mr_6 hL h (show c < 60 by omega), t_isHour hL h hS hbw.2.2.2.2.1, t_knockAt hL h hS hbw.1, Option.bind_some, zz_0, zz_1, nb4 _ hbw.2.2.2.2.1, nI_e0 (show W 4 w < 2 ^ 31 by omega), nI_e1 (show W 4 w < 2 ^ 31 by omega), nI_eq (show W 0 w < 2 ^ 31 by omega) (show S 6 c < 2 ^ 31 by omega), nI_eq (show W 3 w < 2 ^ 31 by omega) (show S 6 c < 2 ^ 31 by omega), nI_eq (show W 3 w < 2 ^ 31 by omega) (show s < 2 ^ 31 by omega), nN_ge0 (show kAt S (W 0 w) < 2 ^ 31 by omega), bI_0]
  simp only [gk_sw, show Int32.ofInt 1 = 1 from rfl, show Int32.ofInt (1 + 1) = 2 from rfl, show Int32.ofInt (1 + 1 + 1) = 3 from rfl, show Int32.ofInt (1 + 1 + 1 + 1) = 4 from rfl, nI_e1 (show W 1 w < 2 ^ 31 by omega), nI_e2 (show W 1 w < 2 ^ 31 by omega), nI_e3 (show W 1 w < 2 ^ 31 by omega), nI_e4 (show W 1 w < 2 ^ 31 by omega)]
  unfold act1
  by_cases k1 : W 1 w = 1
  · simp only [k1, if_true, show ¬ (1 : Nat) = 2 by decide, if_false, i10, i00]
    by_cases e0 : W 4 w = 0
    · simp [e0, bI]
    · by_cases e1 : W 4 w = 1
      · by_cases e2 : cOf S (W 0 w) = 0
        · by_cases e3 : W 0 w = S 6 c <;> simp [e1, e2, e3, bI]
        · simp [e1, e2, bI]
      · simp [e0, e1, bI]
  · by_cases k2 : W 1 w = 2
    · simp only [k2, show ¬ (2 : Nat) = 1 by decide, if_true, if_false]
      by_cases e0 : W 3 w = S 6 c
      · cases hh : (W 4 w).testBit (halfS S) <;> simp [e0, hh, bI]
      · by_cases e1 : (W 4 w).testBit 2 = true
        · by_cases e2 : W 3 w = s
          · cases hh : (W 4 w).testBit (halfS S) <;> simp [e0, e1, e2, hh, bI]
          · simp [e0, e1, e2, bI]
        · simp [e0, e1, bI]
    · by_cases k4 : W 1 w = 4
      · simp only [k4, show ¬ (4 : Nat) = 1 by decide, show ¬ (4 : Nat) = 2 by decide, show ¬ (4 : Nat) = 3 by decide, if_true, if_false]
        by_cases e2 : cOf S (W 0 w) = 0
        · simp [e2, bI]
        · by_cases e3 : W 0 w = S 6 c
          · simp [e2, e3, bI]
          · by_cases e4 : kAt S (W 0 w) = 0 <;> simp [e2, e3, e4, bI]
      · simp [k1, k2, k4, bI]
theorem key_inj (hW : WB W) : ∀ i j, i < W 6 0 → j < W 6 0 → keyW W i = keyW W j → i = j := by
  intro i j hi hj h
  have := hW.1
  unfold keyW at h
  omega
theorem key_lt (hW : WB W) {w : Nat} (hw : w < W 6 0) : keyW W w < 240 := by
  have := hW.1
  have := hW.2 w hw
  unfold keyW
  omega
/-- the first that is of the kind q, by going from wish to wish -/
theorem nxt_stop (hW : WB W) {l b : Nat} {q : Nat → Bool} (hb : ∀ j, j < W 6 0 → onOf W l j = true → q j = true → b = 0 ∨ keyW W (b - 1) < keyW W j) (h0 : amin (keyW W) (nxtP W l b) (W 6 0) = 0) : amin (keyW W) (fun w => onOf W l w && q w) (W 6 0) = 0 := by
  rw [amin_0] at h0 ⊢
  intro j hj
  have := h0 j hj
  unfold nxtP at this
  cases e1 : onOf W l j with
  | false => rfl
  | true =>
    cases e2 : q j with
    | false => rfl
    | true =>
      have h5 := hb j hj e1 e2
      rw [e1, Bool.true_and, Bool.or_eq_false_iff] at this
      simp only [beq_eq_false_iff_ne, decide_eq_false_iff_not] at this
      exact absurd h5 (fun g => g.elim this.1 this.2)
theorem nxt_hit (hW : WB W) {l b w : Nat} {q : Nat → Bool} (hb : ∀ j, j < W 6 0 → onOf W l j = true → q j = true → b = 0 ∨ keyW W (b - 1) < keyW W j) (h0 : amin (keyW W) (nxtP W l b) (W 6 0) = w + 1) (hq : q w = true) : amin (keyW W) (fun w => onOf W l w && q w) (W 6 0) = w + 1 := by
  obtain ⟨h1, h2, h3⟩ := amin_s h0
  unfold nxtP at h2 h3
  rw [Bool.and_eq_true] at h2
  refine amin_eq (key_inj hW) h1 (by rw [Bool.and_eq_true]; exact ⟨h2.1, hq⟩) (fun j hj hp => ?_)
  rw [Bool.and_eq_true] at hp
  refine h3 j hj ?_
  have := hb j hj hp.1 hp.2
  simp only [Bool.and_eq_true, Bool.or_eq_true, beq_iff_eq, decide_eq_true_eq]
  exact ⟨hp.1, this⟩
theorem nxt_miss (hW : WB W) {l b w : Nat} {q : Nat → Bool} (hb : ∀ j, j < W 6 0 → onOf W l j = true → q j = true → b = 0 ∨ keyW W (b - 1) < keyW W j) (h0 : amin (keyW W) (nxtP W l b) (W 6 0) = w + 1) (hq : q w = false) : w < W 6 0 ∧ onOf W l w = true ∧ (b = 0 ∨ keyW W (b - 1) < keyW W w) ∧ ∀ j, j < W 6 0 → onOf W l j = true → q j = true → w + 1 = 0 ∨ keyW W (w + 1 - 1) < keyW W j := by
  obtain ⟨h1, h2, h3⟩ := amin_s h0
  unfold nxtP at h2 h3
  simp only [Bool.and_eq_true, Bool.or_eq_true, beq_iff_eq, decide_eq_true_eq] at h2 h3
  refine ⟨h1, h2.1, h2.2, fun j hj e1 e2 => Or.inr ?_⟩
  rw [Nat.add_sub_cancel]
  exact amin_next (p := onOf W l) (q := q) (key_inj hW) h1 h2.1 hq (fun i hi g1 g2 => h3 i hi ⟨g1, hb i hi g1 g2⟩) j hj e1 e2
theorem lp_acts_s (hL : mL LN RF m) (h : MR m M W S) (hW : WB W) (hS : SB S) {c t s : Nat} (hc : c < S 20 2) (ht : t < 8) (hs : s < 8) {K : Int32 → Option Int32} : ∀ r n b, b ≤ W 6 0 → 240 ≤ (if b = 0 then 0 else keyW W (b - 1) + 1) + r → r < n → (∀ j, j < W 6 0 → onOf W t j = true → act1 W S c t s j = true → b = 0 ∨ keyW W (b - 1) < keyW W j) →
    lp_X8_actsAt_8 LN RF m (nI c) (nI t) (nI s) M K n (nN (amin (keyW W) (nxtP W t b) (W 6 0))) = K (nN (actsS W S c t s))
  | r, 0, b, _, _, g, _ => absurd g (by omega)
  | r, n + 1, b, hbn, hm, g, hb => by
    have hn := hW.1
    rw [lp_X8_actsAt_8]
    cases h0 : amin (keyW W) (nxtP W t b) (W 6 0) with
    | zero =>
      rw [nN_0, if_pos (by decide)]
      unfold actsS
      rw [nxt_stop hW hb h0, nN_0]
    | succ w =>
      obtain ⟨h1, h2, h3⟩ := amin_s h0
      have hon : onOf W t w = true := by unfold nxtP at h2; rw [Bool.and_eq_true] at h2; exact h2.1
      have h0w : W 0 w = t := by unfold onOf at hon; simp at hon; exact hon.2
      rw [nN_s, if_neg (nI_pos (by omega)), t_doesAct hL h hW hS hc hs h1, h0w]
      simp only [Option.bind_some, bI_0]
      cases hq : act1 W S c t s w with
      | true =>
        rw [if_neg (by decide)]
        unfold actsS
        rw [nxt_hit hW hb h0 hq, nN_s]
      | false =>
        obtain ⟨q1, q2, q3, q4⟩ := nxt_miss hW hb h0 hq
        have hkl := key_lt hW h1
        have hge : (if b = 0 then 0 else keyW W (b - 1) + 1) < keyW W w + 1 := by
          rcases q3 with q3 | q3
          · rw [if_pos q3]; omega
          · split <;> omega
        have h7 := t_wishBehind hL h hW ht (show w + 1 ≤ W 6 0 by omega)
        rw [nN_s] at h7
        rw [if_pos rfl, h7]
        simp only [Option.bind_some]
        cases r with
        | zero => omega
        | succ r =>
          exact lp_acts_s hL h hW hS hc ht hs (K := K) r n (w + 1) (by omega) (by rw [if_neg (by omega), Nat.add_sub_cancel]; omega) (by omega) q4
theorem t_actsAt (hL : mL LN RF m) (h : MR m M W S) (hW : WB W) (hS : SB S) {c t s : Nat} (hc : c < S 20 2) (ht : t < 8) (hs : s < 8) : f_X8_actsAt LN RF m (nI c) (nI t) (nI s) M = some (nN (actsS W S c t s)) := by
  unfold f_X8_actsAt
  have h1 := t_wishBehind hL h hW ht (show 0 ≤ W 6 0 by omega)
  rw [nN_0] at h1
  rw [h1]
  simp only [Option.bind_some, gk_jn]
  exact lp_acts_s hL h hW hS hc ht hs 240 gk_fuel 0 (by omega) (by simp) (fuel_gt (by omega)) (fun _ _ _ _ => Or.inl rfl)
end MORD
