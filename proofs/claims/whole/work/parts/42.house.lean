/-! The class's house: its memory and the abstract state; its questions -/
def hL (LN : Nat → Nat) (RF : Nat → Nat → Nat) (h o n b : Nat) : Prop := (RF h 0 = b ∧ RF h 1 = h + o + 5 ∧ RF h 2 = h + o ∧ RF h 3 = h + o + 1 ∧ RF h 4 = h + o + 2 ∧ RF h 5 = h + o + 3 ∧ RF h 6 = h + o + 4) ∧ (∀ c, c < n → RF (h + o + 5) c = h + o + 6 + c) ∧ (LN (h + o) = 8 ∧ LN (h + o + 1) = 8 ∧ LN (h + o + 2) = 8 ∧ LN (h + o + 3) = 8 ∧ LN (h + o + 4) = 8 ∧ LN (h + o + 5) = n) ∧ (1 ≤ o ∧ (b + 26 ≤ h ∨ (h < b ∧ b + 26 ≤ h + o)) ∧ n ≤ 60) ∧ RF b 0 = b + 1 ∧ LN (b + 1) = 24 ∧ ∀ w, w < 24 → RF (b + 1) w = b + 2 + w
def BR (b : Nat) (M : gk_M) (W : zS) : Prop := M.1 b 1 = nI (W 6 0) ∧ ∀ w k, w < W 6 0 → k < 6 → M.1 (b + 2 + w) k = nI (W k w)
def CR (M : gk_M) (a : Nat) (S : zS) (c : Nat) : Prop := M.1 a 0 = nI (S 6 c) ∧ M.1 a 1 = nI (S 7 c) ∧ M.1 a 2 = nI (S 8 c) ∧ M.1 a 3 = nI (S 9 c) ∧ M.1 a 4 = nI (S 12 c) ∧ M.1 a 5 = nN (S 13 c) ∧ M.1 a 6 = nI (S 14 c) ∧ M.1 a 7 = nI (S 15 c) ∧ M.1 a 8 = nI (pk4 (fun i => S 10 (9 * c + i)) (S 9 c)) ∧ M.1 a 9 = nI (pk4 (fun i => S 11 (9 * c + i)) (S 9 c)) ∧ M.2 a = lN (pk5 (fun i => S 16 (10 * c + i)) (min (S 15 c) 10))
def HR (h o : Nat) (M : gk_M) (S : zS) : Prop := (M.1 h 7 = nI (S 20 0) ∧ M.1 h 8 = nI (S 20 2) ∧ M.1 h 9 = nI (S 20 4) ∧ M.1 h 10 = nI (S 20 3)) ∧ (∀ c, c < S 20 2 → CR M (h + o + 6 + c) S c) ∧ (∀ l, l < 8 → M.1 (h + o) l = nN (cOf S l) ∧ M.1 (h + o + 1) l = nN (kAt S l) ∧ M.1 (h + o + 2) l = nI (S 19 l)) ∧ ∀ i, i < S 20 4 → M.1 (h + o + 3) i = nI (S 17 i) ∧ M.1 (h + o + 4) i = nI (S 18 i)
section HQ
variable {LN : Nat → Nat} {RF : Nat → Nat → Nat} {h o n b : Nat} {M : gk_M} {W S : zS} {α : Type}
theorem ha_2 (hl : hL LN RF h o n b) {K : Int32 → Option α} {l : Nat} (h8 : l < 8) : gk_ald LN M (RF h 2) (nI l) K = K (M.1 (h + o) l) := by rw [hl.1.2.2.1, ald_n (by rw [hl.2.2.1.1]; exact h8) (by omega)]
theorem ha_3 (hl : hL LN RF h o n b) {K : Int32 → Option α} {l : Nat} (h8 : l < 8) : gk_ald LN M (RF h 3) (nI l) K = K (M.1 (h + o + 1) l) := by rw [hl.1.2.2.2.1, ald_n (by rw [hl.2.2.1.2.1]; exact h8) (by omega)]
theorem ha_4 (hl : hL LN RF h o n b) {K : Int32 → Option α} {l : Nat} (h8 : l < 8) : gk_ald LN M (RF h 4) (nI l) K = K (M.1 (h + o + 2) l) := by rw [hl.1.2.2.2.2.1, ald_n (by rw [hl.2.2.1.2.2.1]; exact h8) (by omega)]
theorem ha_5 (hl : hL LN RF h o n b) {K : Int32 → Option α} {l : Nat} (h8 : l < 8) : gk_ald LN M (RF h 5) (nI l) K = K (M.1 (h + o + 3) l) := by rw [hl.1.2.2.2.2.2.1, ald_n (by rw [hl.2.2.1.2.2.2.1]; exact h8) (by omega)]
theorem ha_6 (hl : hL LN RF h o n b) {K : Int32 → Option α} {l : Nat} (h8 : l < 8) : gk_ald LN M (RF h 6) (nI l) K = K (M.1 (h + o + 4) l) := by rw [hl.1.2.2.2.2.2.2, ald_n (by rw [hl.2.2.1.2.2.2.2.1]; exact h8) (by omega)]
theorem hw_2 (hl : hL LN RF h o n b) {K : gk_M → Option α} {l : Nat} {v : Int32} (h8 : l < 8) : gk_ast LN M (RF h 2) (nI l) v K = K (gk_wr M (h + o) l v) := by rw [hl.1.2.2.1, ast_n (by rw [hl.2.2.1.1]; exact h8) (by omega)]
theorem hw_3 (hl : hL LN RF h o n b) {K : gk_M → Option α} {l : Nat} {v : Int32} (h8 : l < 8) : gk_ast LN M (RF h 3) (nI l) v K = K (gk_wr M (h + o + 1) l v) := by rw [hl.1.2.2.2.1, ast_n (by rw [hl.2.2.1.2.1]; exact h8) (by omega)]
theorem hw_4 (hl : hL LN RF h o n b) {K : gk_M → Option α} {l : Nat} {v : Int32} (h8 : l < 8) : gk_ast LN M (RF h 4) (nI l) v K = K (gk_wr M (h + o + 2) l v) := by rw [hl.1.2.2.2.2.1, ast_n (by rw [hl.2.2.1.2.2.1]; exact h8) (by omega)]
theorem hw_5 (hl : hL LN RF h o n b) {K : gk_M → Option α} {l : Nat} {v : Int32} (h8 : l < 8) : gk_ast LN M (RF h 5) (nI l) v K = K (gk_wr M (h + o + 3) l v) := by rw [hl.1.2.2.2.2.2.1, ast_n (by rw [hl.2.2.1.2.2.2.1]; exact h8) (by omega)]
theorem hw_6 (hl : hL LN RF h o n b) {K : gk_M → Option α} {l : Nat} {v : Int32} (h8 : l < 8) : gk_ast LN M (RF h 6) (nI l) v K = K (gk_wr M (h + o + 4) l v) := by rw [hl.1.2.2.2.2.2.2, ast_n (by rw [hl.2.2.1.2.2.2.2.1]; exact h8) (by omega)]
theorem ha_c (hl : hL LN RF h o n b) {K : Nat → Option α} {c : Nat} (hc : c < n) : gk_aldr LN RF (RF h 1) (nI c) K = K (h + o + 6 + c) := by rw [hl.1.2.1, aldr_n (by rw [hl.2.2.1.2.2.2.2.2]; exact hc) (by have := hl.2.2.2.1.2.2; omega), hl.2.1 c hc]
theorem ha_w (hl : hL LN RF h o n b) {K : Nat → Option α} {w : Nat} (hw : w < 24) : gk_aldr LN RF (RF b 0) (nI w) K = K (b + 2 + w) := by rw [hl.2.2.2.2.1, aldr_n (by rw [hl.2.2.2.2.2.1]; exact hw) (by omega), hl.2.2.2.2.2.2 w hw]
theorem u_isFree (hl : hL LN RF h o n b) (hH : HR h o M S) (hb : S 20 2 ≤ 60) {l : Nat} (h8 : l < 8) : f_X2_isFree LN RF h (nI l) M = some (bI (cOf S l == 0)) := by
  have := cOf_le S l
  unfold f_X2_isFree
  rw [ha_2 hl h8, (hH.2.2.1 l h8).1]
  simp only [gk_jn, zz_0, zz_1, nN_m1 (show cOf S l < 2 ^ 31 by omega)]
  by_cases e : cOf S l = 0 <;> simp [e, bI]
theorem u_isRinging (hl : hL LN RF h o n b) (hH : HR h o M S) {N : Nat} (hN : N ≤ n) (hI : SI N S) {l : Nat} (h8 : l < 8) : f_X2_isRinging LN RF h (nI l) M = some (bI (rinS S l)) := by
  have hn := hl.2.2.2.1.2.2
  have hS := hI.sb (by omega)
  have h1 := hI.1
  unfold f_X2_isRinging
  rw [u_isFree hl hH (by omega) h8]
  simp only [Option.bind_some, gk_jn, zz_0, zz_1, bI_0]
  unfold rinS
  cases hc : cOf S l with
  | zero => simp [bI]
  | succ c =>
    obtain ⟨hcn, -⟩ := cOf_s hc
    have hC := hH.2.1 c hcn
    rw [if_pos (by simp), ha_2 hl h8, (hH.2.2.1 l h8).1, hc, nN_s, ha_c hl (by omega), hC.2.2.2.2.1, bit_ge _ (hS.2.1 c hcn).2.2.2.1 l h8]
    simp only [bI_0, Nat.add_sub_cancel]
    cases (S 12 c).testBit l <;> simp [bI]
theorem u_canHangUp (hl : hL LN RF h o n b) (hH : HR h o M S) {N : Nat} (hN : N ≤ n) (hI : SI N S) {l : Nat} (h8 : l < 8) : f_X2_canHangUp LN RF h (nI l) M = some (bI (!(cOf S l == 0) && !rinS S l)) := by
  have hn := hl.2.2.2.1.2.2
  have h1 := hI.1
  unfold f_X2_canHangUp
  rw [u_isFree hl hH (by omega) h8]
  simp only [Option.bind_some, gk_jn, zz_0, zz_1, bI_0, u_isRinging hl hH hN hI h8]
  by_cases e : cOf S l = 0
  · simp [e, bI]
  · rw [if_pos (by simp [e])]
    cases rinS S l <;> simp [e, bI]
theorem u_hasRoom (hl : hL LN RF h o n b) (hH : HR h o M S) (hb : S 20 2 ≤ 60) : f_X2_hasRoom LN RF h M = some (bI (decide (S 20 2 < n))) := by
  have hn := hl.2.2.2.1.2.2
  unfold f_X2_hasRoom
  rw [hl.1.2.1, hl.2.2.1.2.2.2.2.2, hH.1.2.1]
  simp only [gk_jn, zz_0, zz_1, nI_leI (show n < 2 ^ 31 by omega) (show S 20 2 < 2 ^ 31 by omega)]
  by_cases e : n ≤ S 20 2
  · rw [if_pos e, decide_eq_false (by omega)]; rfl
  · rw [if_neg e, decide_eq_true (by omega)]; rfl
theorem u_isLine (hH : HR h o M S) (x : Int32) : f_X2_isLine LN RF h x M = some (bI (isL (S 20 0) x)) := by
  unfold f_X2_isLine
  simp only [gk_jn, zz_0, zz_1, hH.1.1]
  unfold isL inR
  by_cases h1 : x < 0
  · rw [if_pos h1]
    have : ¬ 0 ≤ x.toInt := by have := Int32.lt_iff_toInt_lt.mp h1; simp at this; omega
    simp [this, bI]
  · rw [if_neg h1]
    have g1 : 0 ≤ x.toInt := by have : ¬ x.toInt < (0 : Int32).toInt := fun g => h1 (Int32.lt_iff_toInt_lt.mpr g); simp at this; omega
    by_cases h2 : nI (S 20 0) ≤ x
    · rw [if_pos h2]
      have : ¬ x.toInt ≤ (nI (S 20 0)).toInt - 1 := by have := Int32.le_iff_toInt_le.mp h2; omega
      simp [this, bI]
    · rw [if_neg h2]
      have g2 : x.toInt ≤ (nI (S 20 0)).toInt - 1 := by have : ¬ (nI (S 20 0)).toInt ≤ x.toInt := fun g => h2 (Int32.le_iff_toInt_le.mpr g); omega
      simp [g1, g2, bI]
theorem u_isCall (hH : HR h o M S) (hb : S 20 2 ≤ 60) {c : Nat} (hc : c < 100) : f_X2_isCall LN RF h (nI c) M = some (bI (decide (c < S 20 2))) := by
  unfold f_X2_isCall
  simp only [gk_jn, zz_0, zz_1, hH.1.2.1]
  rw [if_neg (nI_pos (by omega))]
  simp only [nI_leI (show S 20 2 < 2 ^ 31 by omega) (show c < 2 ^ 31 by omega)]
  by_cases e : S 20 2 ≤ c
  · rw [if_pos e, decide_eq_false (by omega)]; rfl
  · rw [if_neg e, decide_eq_true (by omega)]; rfl
/-- wishes -/
theorem u_isOnFor (hB : BR b M W) (hW : WB W) {w l : Nat} (hw : w < W 6 0) (h8 : l < 100) : f_X5_isOnFor LN RF (b + 2 + w) (nI l) M = some (bI (onOf W l w)) := by
  have hb := hW.2 w hw
  unfold f_X5_isOnFor
  simp only [gk_jn, zz_0, zz_1, hB.2 w 5 hw (by decide), hB.2 w 0 hw (by decide), nI_e0 (show W 5 w < 2 ^ 31 by omega), nI_eq (show W 0 w < 2 ^ 31 by omega) (show l < 2 ^ 31 by omega)]
  unfold onOf
  by_cases e1 : W 5 w = 0
  · simp [e1, bI]
  · by_cases e2 : W 0 w = l <;> simp [e1, e2, bI]
theorem lp_uhas_s (hl : hL LN RF h o n b) (hB : BR b M W) (hW : WB W) {l k : Nat} (h8 : l < 100) (hk : k < 100) {K : Unit → Option Int32} : ∀ r n' w, w + r = W 6 0 → r < n' → lp_X6_has_2 LN RF b (nI l) (nI k) M K n' (nI w) = if anf (fun w => W 0 w == l && W 1 w == k && W 5 w == 1) r w false = true then some 1 else K ()
  | r, 0, w, _, g => absurd g (by omega)
  | 0, n' + 1, w, g1, g2 => by
    rw [lp_X6_has_2, hB.1, if_pos (nI_le (by omega) (by have := hW.1; omega))]; rfl
  | r + 1, n' + 1, w, g1, g2 => by
    have hn := hW.1
    have hb := hW.2 w (by omega)
    have ih := lp_uhas_s hl hB hW h8 hk (K := K) r n' (w + 1) (by omega) (by omega)
    rw [lp_X6_has_2, hB.1, if_neg (nI_ge (by omega) (by omega)), ha_w hl (by omega)]
    simp only [gk_jn, nI_1, hB.2 w 5 (show w < W 6 0 by omega) (by decide), hB.2 w 0 (show w < W 6 0 by omega) (by decide), hB.2 w 1 (show w < W 6 0 by omega) (by decide), nI_e0 (show W 5 w < 2 ^ 31 by omega), nI_eq (show W 0 w < 2 ^ 31 by omega) (show l < 2 ^ 31 by omega), nI_eq (show W 1 w < 2 ^ 31 by omega) (show k < 2 ^ 31 by omega)]
    rw [anf]
    by_cases e0 : W 5 w = 0
    · simp only [e0, if_true]; rw [ih]; simp
    · have e5 : W 5 w = 1 := by omega
      rw [if_neg e0]
      by_cases e1 : W 0 w = l
      · by_cases e2 : W 1 w = k
        · rw [if_pos e1, if_pos e2, if_pos ((anf_iff _ _ _ _).mpr (Or.inl (by simp [e1, e2, e5])))]
        · rw [if_pos e1, if_neg e2, ih, show (W 0 w == l && W 1 w == k && W 5 w == 1) = false by simp [e2]]; rfl
      · rw [if_neg e1, ih, show (W 0 w == l && W 1 w == k && W 5 w == 1) = false by simp [e1]]; rfl
theorem u_has (hl : hL LN RF h o n b) (hB : BR b M W) (hW : WB W) {l k : Nat} (h8 : l < 100) (hk : k < 100) : f_X6_has LN RF b (nI l) (nI k) M = some (bI (hasW W l k)) := by
  have := lp_uhas_s hl hB hW h8 hk (K := fun _ => some 0) (W 6 0) gk_fuel 0 (by omega) (fuel_gt (by have := hW.1; omega))
  unfold f_X6_has
  simp only [gk_jn]
  rw [nI_z] at this ⊢
  rw [this]
  unfold hasW
  by_cases e : anf (fun w => W 0 w == l && W 1 w == k && W 5 w == 1) (W 6 0) 0 false = true
  · rw [if_pos e, e]; rfl
  · rw [if_neg e]
    have : anf (fun w => W 0 w == l && W 1 w == k && W 5 w == 1) (W 6 0) 0 false = false := by simpa using e
    rw [this]; rfl
theorem na1 : ∀ n, n < 32 → ((nI n &&& 1) = 0 ↔ n.testBit 0 = false) := by decide +kernel
theorem na2 : ∀ n, n < 32 → ((nI n &&& 2) = 0 ↔ n.testBit 1 = false) := by decide +kernel
theorem na4 : ∀ n, n < 32 → ((nI n &&& 4) = 0 ↔ n.testBit 2 = false) := by decide +kernel
theorem u_shutsOut (hB : BR b M W) (hW : WB W) {w cl s t : Nat} (hw : w < W 6 0) (hc : cl < 100) (hs : s < 100) (ht : t < 1000000) : f_X5_shutsOut LN RF (b + 2 + w) (nI cl) (nI s) (nI t) M = some (bI (W 1 w == 2 && ((W 3 w == cl || ((W 4 w).testBit 2 && W 3 w == s)) && (W 4 w).testBit (if t < 12 then 0 else 1)))) := by
  have hb := hW.2 w hw
  unfold f_X5_shutsOut
  simp only [gk_jn, zz_0, zz_1, hB.2 w 1 hw (by decide), hB.2 w 3 hw (by decide), hB.2 w 4 hw (by decide), nI_e2 (show W 1 w < 2 ^ 31 by omega), nI_eq (show W 3 w < 2 ^ 31 by omega) (show cl < 2 ^ 31 by omega), nI_eq (show W 3 w < 2 ^ 31 by omega) (show s < 2 ^ 31 by omega), na4 _ hb.2.2.2.2.1, na1 _ hb.2.2.2.2.1, na2 _ hb.2.2.2.2.1, show (12 : Int32) = nI 12 from rfl, nI_leI (show 12 < 2 ^ 31 by omega) (show t < 2 ^ 31 by omega), i10, i00]
  by_cases e0 : W 1 w = 2
  · by_cases e1 : W 3 w = cl
    · by_cases e2 : 12 ≤ t
      · rw [show (if t < 12 then 0 else 1) = 1 from if_neg (by omega)]; cases h1 : (W 4 w).testBit 1 <;> simp [e0, e1, e2, h1, bI]
      · rw [show (if t < 12 then 0 else 1) = 0 from if_pos (by omega)]; cases h1 : (W 4 w).testBit 0 <;> simp [e0, e1, e2, h1, bI]
    · cases h2 : (W 4 w).testBit 2 with
      | false => by_cases e2 : 12 ≤ t <;> simp [e0, e1, e2, h2, bI]
      | true =>
        by_cases e3 : W 3 w = s
        · subst e3
          by_cases e2 : 12 ≤ t
          · rw [show (if t < 12 then 0 else 1) = 1 from if_neg (by omega)]; cases h1 : (W 4 w).testBit 1 <;> simp [e0, e1, e2, h1, h2, bI]
          · rw [show (if t < 12 then 0 else 1) = 0 from if_pos (by omega)]; cases h1 : (W 4 w).testBit 0 <;> simp [e0, e1, e2, h1, h2, bI]
        · by_cases e2 : 12 ≤ t <;> simp [e0, e1, e2, e3, h2, bI]
  · by_cases e1 : W 3 w = cl
    · by_cases e2 : 12 ≤ t <;> simp [e0, e1, e2, bI]
    · cases h2 : (W 4 w).testBit 2 with
      | false => by_cases e2 : 12 ≤ t <;> simp [e0, e1, e2, h2, bI]
      | true => by_cases e3 : W 3 w = s <;> by_cases e2 : 12 ≤ t <;> simp [e0, e1, e2, e3, h2, bI]
theorem u_sendsOn (hB : BR b M W) (hW : WB W) {w : Nat} (hw : w < W 6 0) (y : Bool) : f_X5_sendsOn LN RF (b + 2 + w) (bI y) M = some (bI (W 1 w == 1 && (W 4 w == 0 || (W 4 w == 1 && y)))) := by
  have hb := hW.2 w hw
  unfold f_X5_sendsOn
  simp only [gk_jn, zz_0, zz_1, hB.2 w 1 hw (by decide), hB.2 w 4 hw (by decide), nI_e1 (show W 1 w < 2 ^ 31 by omega), nI_e0 (show W 4 w < 2 ^ 31 by omega), nI_e1 (show W 4 w < 2 ^ 31 by omega), bI_0]
  by_cases e0 : W 1 w = 1
  · by_cases e1 : W 4 w = 0
    · simp [e0, e1, bI]
    · by_cases e2 : W 4 w = 1
      · cases y <;> simp [e0, e2, bI]
      · simp [e0, e1, e2, bI]
  · simp [e0, bI]
end HQ
