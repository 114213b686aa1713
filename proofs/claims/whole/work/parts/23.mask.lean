/-! The reference's questions in the words of the abstract state -/
theorem lcmp_lt (x y : Int64) : lg_cmp x y < 0 ↔ x < y := by
  unfold lg_cmp
  by_cases h : x > y
  · rw [if_pos h]
    constructor
    · intro g; exact absurd g (by decide)
    · intro g
      have a := Int64.lt_iff_toInt_lt.mp h
      have b := Int64.lt_iff_toInt_lt.mp g
      omega
  · rw [if_neg h]
    by_cases e : x = y
    · rw [if_pos e, e]
      constructor
      · intro g; exact absurd g (by decide)
      · intro g; have b := Int64.lt_iff_toInt_lt.mp g; omega
    · rw [if_neg e]
      constructor
      · intro _
        have a : ¬ y.toInt < x.toInt := fun g => h (Int64.lt_iff_toInt_lt.mpr g)
        have b : x.toInt ≠ y.toInt := fun g => e (Int64.toInt_inj.mp g)
        exact Int64.lt_iff_toInt_lt.mpr (by omega)
      · intro _; decide
theorem lcmp_gt (x y : Int64) : 0 < lg_cmp x y ↔ y < x := by
  unfold lg_cmp
  by_cases h : x > y
  · rw [if_pos h]; exact ⟨fun _ => h, fun _ => by decide⟩
  · rw [if_neg h]
    by_cases e : x = y
    · rw [if_pos e]; exact ⟨fun g => absurd g (by decide), fun g => absurd g h⟩
    · rw [if_neg e]; exact ⟨fun g => absurd g (by decide), fun g => absurd g h⟩
theorem zz_b {α : Type} (b : Bool) (k : Option α) : gk_zz (bI b) k = k := by unfold gk_zz; rw [if_pos (bI_01 b)]
theorem zz_0 {α : Type} (k : Option α) : gk_zz 0 k = k := rfl
theorem zz_1 {α : Type} (k : Option α) : gk_zz 1 k = k := rfl
theorem t_isIn (LN : Nat → Nat) (RF : Nat → Nat → Nat) (a b c : Int64) (M : gk_M) : f_X8_isIn LN RF a b c M = some (bI (decide (b ≤ a) && decide (a ≤ c))) := by
  unfold f_X8_isIn
  simp only [gk_jn, zz_0, zz_1, lcmp_lt, lcmp_gt]
  by_cases h1 : a < b
  · rw [if_pos h1]
    have : ¬ b ≤ a := fun g => by have := Int64.lt_iff_toInt_lt.mp h1; have := Int64.le_iff_toInt_le.mp g; omega
    simp [this, bI]
  · rw [if_neg h1]
    have g1 : b ≤ a := Int64.le_iff_toInt_le.mpr (by have : ¬ a.toInt < b.toInt := fun g => h1 (Int64.lt_iff_toInt_lt.mpr g); omega)
    by_cases h2 : c < a
    · rw [if_pos h2]
      have : ¬ a ≤ c := fun g => by have := Int64.lt_iff_toInt_lt.mp h2; have := Int64.le_iff_toInt_le.mp g; omega
      simp [this, bI]
    · rw [if_neg h2]
      have g2 : a ≤ c := Int64.le_iff_toInt_le.mpr (by have : ¬ c.toInt < a.toInt := fun g => h2 (Int64.lt_iff_toInt_lt.mpr g); omega)
      simp [g1, g2, bI]
/-- ints between two naturals -/
def inR (x : Int32) (lo hi : Int) : Bool := decide (lo ≤ x.toInt) && decide (x.toInt ≤ hi)
theorem t_isInI (LN : Nat → Nat) (RF : Nat → Nat → Nat) (x : Int32) (b c : Int64) (M : gk_M) : f_X8_isIn LN RF x.toInt64 b c M = some (bI (inR x b.toInt c.toInt)) := by
  rw [t_isIn]
  unfold inR
  congr 3
  · rw [decide_eq_decide, Int64.le_iff_toInt_le, Int32.toInt_toInt64]
  · rw [decide_eq_decide, Int64.le_iff_toInt_le, Int32.toInt_toInt64]
section MASK
variable {LN : Nat → Nat} {RF : Nat → Nat → Nat} {m : Nat} {M : gk_M} {W S : zS}
theorem t_isLine (hL : mL LN RF m) (h : MR m M W S) (x : Int32) : f_X8_isLine LN RF m x M = some (bI (inR x 0 ((nI (S 20 0)).toInt - 1))) := by
  unfold f_X8_isLine
  simp only [gk_jn, zz_0, zz_1, mr_L hL h]
  unfold inR
  by_cases h1 : x < 0
  · rw [if_pos h1]
    have : ¬ 0 ≤ x.toInt := by have := Int32.lt_iff_toInt_lt.mp h1; simp at this; omega
    simp [this, bI]
  · rw [if_neg h1]
    have g1 : 0 ≤ x.toInt := by have : ¬ x.toInt < (0 : Int32).toInt := fun g => h1 (Int32.lt_iff_toInt_lt.mpr g); simp at this; omega
    by_cases h2 : nI (S 20 0) ≤ x
    · rw [if_pos h2]
      have : ¬ x.toInt ≤ (nI (S 20 0)).toInt - 1 := by have := Int32.le_iff_toInt_le.mp h2; omega
      simp [this, bI]
    · rw [if_neg h2]
      have g2 : x.toInt ≤ (nI (S 20 0)).toInt - 1 := by have : ¬ (nI (S 20 0)).toInt ≤ x.toInt := fun g => h2 (Int32.le_iff_toInt_le.mpr g); omega
      simp [g1, g2, bI]
theorem lp_has_s (hL : mL LN RF m) (h : MR m M W S) (hW : WB W) {l k : Nat} (hl : l < 100) (hk : k < 100) {K : Int32 → Option Int32} : ∀ r n w b, w + r = W 6 0 → r < n → lp_X8_has_5 LN RF m (nI l) (nI k) M K n (bI b, nI w) = K (bI (anf (fun w => W 0 w == l && W 1 w == k && W 5 w == 1) r w b))
  | r, 0, w, b, _, g => absurd g (by omega)
  | 0, n + 1, w, b, g1, g2 => by
    rw [lp_X8_has_5, mr_W hL h, if_pos (nI_le (by omega) (by have := hW.1; omega))]; rfl
  | r + 1, n + 1, w, b, g1, g2 => by
    have hn := hW.1
    have hb := hW.2 w (by omega)
    have ih := fun b' => lp_has_s hL h hW hl hk (K := K) r n (w + 1) b' (by omega) (by omega)
    rw [lp_X8_has_5, mr_W hL h, if_neg (nI_ge (by omega) (by omega))]
    simp only [gk_jn, nI_1]
    rw [anf]
    cases b with
    | true =>
      rw [if_neg (by decide)]
      exact ih true
    | false =>
      rw [if_pos (by decide), mr_0 hL h (by omega)]
      simp only [mr_1 hL h (show w < 24 by omega), mr_5 hL h (show w < 24 by omega), nI_eq (show W 0 w < 2 ^ 31 by omega) (show l < 2 ^ 31 by omega), nI_eq (show W 1 w < 2 ^ 31 by omega) (show k < 2 ^ 31 by omega), nI_e1 (show W 5 w < 2 ^ 31 by omega)]
      by_cases e1 : W 0 w = l
      · by_cases e2 : W 1 w = k
        · by_cases e3 : W 5 w = 1
          · simp only [e1, e2, e3, if_true, Bool.false_or, beq_self_eq_true, Bool.and_true]; exact ih true
          · simp only [e1, e2, e3, if_true, if_false, Bool.false_or, beq_self_eq_true, Bool.true_and, beq_eq_false_iff_ne.mpr e3]; exact ih false
        · simp only [e1, e2, if_true, if_false, Bool.false_or, beq_self_eq_true, Bool.true_and, beq_eq_false_iff_ne.mpr e2, Bool.false_and]; exact ih false
      · simp only [e1, if_false, Bool.false_or, beq_eq_false_iff_ne.mpr e1, Bool.false_and]; exact ih false
theorem fuel_gt {r : Nat} (h : r < 3000) : r < gk_fuel := by rw [gk_fuel_eq]; exact h
theorem t_has (hL : mL LN RF m) (h : MR m M W S) (hW : WB W) {l k : Nat} (hl : l < 100) (hk : k < 100) : f_X8_has LN RF m (nI l) (nI k) M = some (bI (hasW W l k)) := by
  unfold f_X8_has
  simp only [gk_jn]
  have := lp_has_s hL h hW hl hk (K := fun y => gk_zz y (some y)) (W 6 0) gk_fuel 0 false (by omega) (fuel_gt (by have := hW.1; omega))
  rw [show ((0 : Int32), (0 : Int32)) = (bI false, nI 0) from rfl, this, zz_b]; rfl
/-- lines as ints: l < 8 -/
theorem lp_callOf_s (hL : mL LN RF m) (h : MR m M W S) (hS : SB S) {l : Nat} (hl : l < 8) {K1 : Int32 → Option Int32} {K2 : Unit → Option Int32} : ∀ r n c, c + r = S 20 2 → r < n → lp_X8_callOf_2 LN RF m (nI l) M K1 K2 n (nI c) = if fsf (inn S l) r c = 0 then K2 () else K1 (nI (fsf (inn S l) r c - 1))
  | r, 0, c, _, g => absurd g (by omega)
  | 0, n + 1, c, g1, g2 => by
    rw [lp_X8_callOf_2, mr_C hL h, if_pos (nI_le (by omega) (by have := hS.1; omega))]; rfl
  | r + 1, n + 1, c, g1, g2 => by
    have hn := hS.1
    have hb := hS.2.1 c (by omega)
    have ih := lp_callOf_s hL h hS hl (K1 := K1) (K2 := K2) r n (c + 1) (by omega) (by omega)
    rw [lp_X8_callOf_2, mr_C hL h, if_neg (nI_ge (by omega) (by omega)), mr_7 hL h (by omega)]
    simp only [gk_jn, nI_1, mr_6 hL h (show c < 60 by omega), mr_12 hL h (show c < 60 by omega), mr_7 hL h (show c < 60 by omega), mr_13 hL h (show c < 60 by omega), bit_ge _ hb.2.2.2.1 l hl, bI_1, nI_e3 (show S 7 c < 2 ^ 31 by omega), nI_e1 (show S 7 c < 2 ^ 31 by omega), nI_eq (show S 6 c < 2 ^ 31 by omega) (show l < 2 ^ 31 by omega), nN_nI (show S 13 c < 2 ^ 31 by omega) (show l < 2 ^ 30 by omega)]
    rw [fsf]
    unfold inn
    by_cases e0 : S 7 c = 3
    · simp only [e0, if_true, beq_self_eq_true, Bool.not_true, Bool.false_and, Bool.false_eq_true, if_false]; rw [ih]; rfl
    · by_cases e1 : S 6 c = l
      · simp [e0, e1]
      · by_cases e2 : (S 12 c).testBit l = true
        · simp [e0, e1, e2]
        · by_cases e3 : S 7 c = 1
          · by_cases e4 : S 13 c = l + 1
            · simp [e1, e2, e3, e4]
            · simp only [e1, e2, e3, e4, if_true, if_false]; rw [ih]; simp [e1, e2, e3, e4]; rfl
          · simp only [e0, e1, e2, e3, if_false]; rw [ih]; simp [e0, e1, e2, e3]; rfl
theorem cOf_le (S : zS) (l : Nat) : cOf S l ≤ S 20 2 := by
  unfold cOf
  cases h : fsf (inn S l) (S 20 2) 0 with
  | zero => omega
  | succ c => have := fsf_s _ _ _ _ h; omega
theorem t_callOf (hL : mL LN RF m) (h : MR m M W S) (hS : SB S) {l : Nat} (hl : l < 8) : f_X8_callOf LN RF m (nI l) M = some (nN (cOf S l)) := by
  unfold f_X8_callOf
  simp only [gk_jn]
  rw [show (0 : Int32) = nI 0 from rfl, lp_callOf_s hL h hS hl (S 20 2) gk_fuel 0 (by omega) (fuel_gt (by have := hS.1; omega))]
  unfold cOf
  cases hc : fsf (inn S l) (S 20 2) 0 with
  | zero => rfl
  | succ c => rw [if_neg (by omega), nN_s]; rfl
theorem t_isFree (hL : mL LN RF m) (h : MR m M W S) (hS : SB S) {l : Nat} (hl : l < 8) : f_X8_isFree LN RF m (nI l) M = some (bI (cOf S l == 0)) := by
  unfold f_X8_isFree
  rw [t_callOf hL h hS hl]
  have := cOf_le S l
  have := hS.1
  simp only [Option.bind_some, gk_jn, zz_0, zz_1, nN_ge0 (show cOf S l < 2 ^ 31 by omega)]
  by_cases e : cOf S l = 0 <;> simp [e, bI]
theorem lp_knock_s (hL : mL LN RF m) (h : MR m M W S) (hS : SB S) {l : Nat} (hl : l < 8) {K : Int32 → Option Int32} : ∀ r n c a, c + r = S 20 2 → r < n → lp_X8_knockAt_4 LN RF m (nI l) M K n (nN a, nI c) = K (nN (lsf (knk S l) r c a))
  | r, 0, c, _, _, g => absurd g (by omega)
  | 0, n + 1, c, a, g1, g2 => by
    rw [lp_X8_knockAt_4, mr_C hL h, if_pos (nI_le (by omega) (by have := hS.1; omega))]; rfl
  | r + 1, n + 1, c, a, g1, g2 => by
    have hn := hS.1
    have hb := hS.2.1 c (by omega)
    have ih := fun a' => lp_knock_s hL h hS hl (K := K) r n (c + 1) a' (by omega) (by omega)
    rw [lp_X8_knockAt_4, mr_C hL h, if_neg (nI_ge (by omega) (by omega)), mr_7 hL h (by omega)]
    simp only [gk_jn, nI_1, mr_13 hL h (show c < 60 by omega), nI_e2 (show S 7 c < 2 ^ 31 by omega), nN_nI (show S 13 c < 2 ^ 31 by omega) (show l < 2 ^ 30 by omega)]
    rw [lsf]
    unfold knk
    by_cases e1 : S 7 c = 2
    · by_cases e2 : S 13 c = l + 1
      · have := ih (c + 1)
        rw [nN_s] at this
        simp only [e1, e2, if_true, beq_self_eq_true, Bool.and_true]; exact this
      · simp only [e1, e2, if_true, if_false, beq_self_eq_true, Bool.true_and, beq_eq_false_iff_ne.mpr e2]; exact ih a
    · simp only [e1, if_false, beq_eq_false_iff_ne.mpr e1, Bool.false_and]; exact ih a
theorem kAt_le (S : zS) (l : Nat) : kAt S l ≤ S 20 2 := by
  unfold kAt
  rcases lsf_spec (knk S l) (S 20 2) 0 0 with h | ⟨c, h, _⟩ <;> omega
theorem t_knockAt (hL : mL LN RF m) (h : MR m M W S) (hS : SB S) {l : Nat} (hl : l < 8) : f_X8_knockAt LN RF m (nI l) M = some (nN (kAt S l)) := by
  unfold f_X8_knockAt
  simp only [gk_jn]
  have := lp_knock_s hL h hS hl (K := fun y => some y) (S 20 2) gk_fuel 0 0 (by omega) (fuel_gt (by have := hS.1; omega))
  rw [nN_0] at this
  rw [show ((-1 : Int32), (0 : Int32)) = (-1, nI 0) from rfl, this]; rfl
theorem n9 (c i : Nat) : (9 : Int32) * nI c + nI i = nI (9 * c + i) := by rw [show (9 : Int32) = nI 9 from rfl, pk_mul, nI_add]
theorem n10 (c i : Nat) : (10 : Int32) * nI c + nI i = nI (10 * c + i) := by rw [show (10 : Int32) = nI 10 from rfl, pk_mul, nI_add]
theorem lp_isInRow_s (hL : mL LN RF m) (h : MR m M W S) {c t : Nat} (hc : c < 60) (hr : S 9 c ≤ 8) (hrow : ∀ i, i < S 9 c → S 10 (9 * c + i) < 8) (ht : t < 8) {K : Int32 → Option Int32} : ∀ r n i b, i + r = S 9 c → r < n → lp_X8_isInRow_5 LN RF m (nI c) (nI t) M K n (bI b, nI i) = K (bI (anf (fun i => S 10 (9 * c + i) == t) r i b))
  | r, 0, i, _, _, g => absurd g (by omega)
  | 0, n + 1, i, b, g1, g2 => by
    rw [lp_X8_isInRow_5, mr_9 hL h hc, if_pos (nI_le (by omega) (by omega))]; rfl
  | r + 1, n + 1, i, b, g1, g2 => by
    have ih := fun b' => lp_isInRow_s hL h hc hr hrow ht (K := K) r n (i + 1) b' (by omega) (by omega)
    have hb := hrow i (by omega)
    rw [lp_X8_isInRow_5, mr_9 hL h hc, if_neg (nI_ge (by omega) (by omega))]
    simp only [gk_jn, nI_1]
    rw [anf]
    cases b with
    | true => rw [if_neg (by decide)]; exact ih true
    | false =>
      rw [if_pos (by decide), n9, mr_10 hL h (by omega)]
      simp only [nI_eq (show S 10 (9 * c + i) < 2 ^ 31 by omega) (show t < 2 ^ 31 by omega)]
      by_cases e : S 10 (9 * c + i) = t
      · simp only [e, if_true, beq_self_eq_true, Bool.or_true]; exact ih true
      · simp only [e, if_false, beq_eq_false_iff_ne.mpr e, Bool.or_false]; exact ih false
theorem t_isInRow (hL : mL LN RF m) (h : MR m M W S) {c t : Nat} (hc : c < 60) (hr : S 9 c ≤ 8) (hrow : ∀ i, i < S 9 c → S 10 (9 * c + i) < 8) (ht : t < 8) : f_X8_isInRow LN RF m (nI c) (nI t) M = some (bI (inRow S c t)) := by
  unfold f_X8_isInRow
  simp only [gk_jn]
  have := lp_isInRow_s hL h hc hr hrow ht (K := fun y => gk_zz y (some y)) (S 9 c) gk_fuel 0 false (by omega) (fuel_gt (by omega))
  rw [show ((0 : Int32), (0 : Int32)) = (bI false, nI 0) from rfl, this, zz_b]; rfl
theorem hb_0 : ∀ n, n < 32 → ((nI n >>> ((0 : Int32) &&& 31)) &&& 1) = bI (n.testBit 0) := by decide +kernel
theorem hb_1 : ∀ n, n < 32 → ((nI n >>> ((1 : Int32) &&& 31)) &&& 1) = bI (n.testBit 1) := by decide +kernel
theorem t_isHour (hL : mL LN RF m) (h : MR m M W S) (hS : SB S) {n : Nat} (hn : n < 32) : f_X8_isHour LN RF m (nI n) M = some (bI (n.testBit (halfS S))) := by
  have hb := hS.1
  unfold f_X8_isHour
  rw [mr_T hL h]
  simp only [gk_jn, zz_0, zz_1]
  rw [show (24 : Int32) = nI 24 from rfl, pk_rem (by omega) (by omega) (by omega), show (12 : Int32) = nI 12 from rfl]
  unfold halfS
  by_cases e : S 20 3 % 24 < 12
  · rw [if_neg (by rw [nI_leI (by omega) (by omega)]; omega), if_pos e, hb_0 n hn]
    simp only [bI_1]
    cases n.testBit 0 <;> rfl
  · rw [if_pos (by rw [nI_leI (by omega) (by omega)]; omega), if_neg e, hb_1 n hn]
    simp only [bI_1]
    cases n.testBit 1 <;> rfl
end MASK
