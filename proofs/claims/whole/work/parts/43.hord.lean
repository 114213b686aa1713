/-! The class's order: the first that acts, the onward that is due; rows of calls -/
section HO
variable {LN : Nat → Nat} {RF : Nat → Nat → Nat} {h o n b : Nat} {M : gk_M} {W S : zS} {α : Type}
theorem im1 : ((-1 : Int32) = -1) = True := by decide
/-- the better of two -/
theorem up_pick (hl : hL LN RF h o n b) (hB : BR b M W) (hW : WB W) {a w : Nat} (ha : a ≤ w) (hw : w < W 6 0) (Kx : Int32 → Option α) : (if nN a = -1 then Kx (nI w) else gk_aldr LN RF (RF b 0) (nN a) fun o15 => if M.1 o15 2 ≤ M.1 (b + 2 + w) 2 then Kx (nN a) else Kx (nI w)) = Kx (nN (if (a == 0 || decide (keyW W w < keyW W (a - 1))) = true then w + 1 else a)) := by
  have hn := hW.1
  have hb := hW.2 w hw
  cases a with
  | zero => simp [nN_0, im1, nN_s]
  | succ a =>
    have hb2 := hW.2 a (by omega)
    rw [nN_s, if_neg (fun g => (nI_m1 (show a < 2 ^ 30 by omega)).mp g), ha_w hl (by omega), hB.2 a 2 (by omega) (by decide), hB.2 w 2 hw (by decide)]
    simp only [Nat.add_sub_cancel, keyW, nI_leI (show W 2 a < 2 ^ 31 by omega) (show W 2 w < 2 ^ 31 by omega)]
    by_cases e : W 2 a ≤ W 2 w
    · rw [if_pos e, if_neg (by simp; omega), nN_s]
    · rw [if_neg e, if_pos (by simp; omega), nN_s]
/-- as the class asks it -/
def actU (W : zS) (cl s t : Nat) (y kn : Bool) (w : Nat) : Bool := (W 1 w == 2 && ((W 3 w == cl || ((W 4 w).testBit 2 && W 3 w == s)) && (W 4 w).testBit (if t < 12 then 0 else 1))) || (W 1 w == 1 && (W 4 w == 0 || (W 4 w == 1 && y))) || (W 1 w == 4 && kn)
theorem lp_fta_s (hl : hL LN RF h o n b) (hB : BR b M W) (hW : WB W) {cl s t hr : Nat} (hc : cl < 100) (hs : s < 100) (ht : t < 100) (hh : hr < 1000) (y kn : Bool) {K : Int32 → Option Int32} : ∀ r n' w a, w + r = W 6 0 → a ≤ w → r < n' → lp_X2_firstThatActs_57 LN RF h (nI cl) (nI s) (nI t) (bI y) (bI kn) (nI hr) M K n' (nN a, nI w) = K (nN (ami (keyW W) (fun w => onOf W t w && actU W cl s hr y kn w) r w a))
  | r, 0, w, _, _, _, g => absurd g (by omega)
  | 0, n' + 1, w, a, g1, ga, g2 => by
    rw [lp_X2_firstThatActs_57, hl.1.1, hB.1, if_pos (nI_le (by omega) (by have := hW.1; omega))]; rfl
  | r + 1, n' + 1, w, a, g1, ga, g2 => by
    have hn := hW.1
    have hw : w < W 6 0 := by omega
    have hbw := hW.2 w hw
    have ih := fun a' h' => lp_fta_s hl hB hW hc hs ht hh y kn (K := K) r n' (w + 1) a' (by omega) h' (by omega)
    have hp := up_pick hl hB hW (a := a) (w := w) ga hw (fun z => lp_X2_firstThatActs_57 LN RF h (nI cl) (nI s) (nI t) (bI y) (bI kn) (nI hr) M K n' (z, nI (w + 1)))
    rw [lp_X2_firstThatActs_57, hl.1.1, hB.1, if_neg (nI_ge (by omega) (by omega)), ha_w hl (by omega), u_isOnFor hB hW hw ht]
    simp only [Option.bind_some, gk_jn, nI_1, bI_0, u_shutsOut hB hW hw hc hs (show hr < 1000000 by omega), u_sendsOn hB hW hw y, hB.2 w 1 hw (by decide), nI_e4 (show W 1 w < 2 ^ 31 by omega), i10, i00, if_true, if_false]
    rw [ami]
    have no : (onOf W t w && actU W cl s hr y kn w) = false → lp_X2_firstThatActs_57 LN RF h (nI cl) (nI s) (nI t) (bI y) (bI kn) (nI hr) M K n' (nN a, nI (w + 1)) = K (nN (ami (keyW W) (fun w => onOf W t w && actU W cl s hr y kn w) r (w + 1) (if ((onOf W t w && actU W cl s hr y kn w) && (a == 0 || decide (keyW W w < keyW W (a - 1)))) = true then w + 1 else a))) := by
      intro e
      rw [e, Bool.false_and, if_neg (by decide)]; exact ih a (by omega)
    have yes : (onOf W t w && actU W cl s hr y kn w) = true → (if nN a = -1 then lp_X2_firstThatActs_57 LN RF h (nI cl) (nI s) (nI t) (bI y) (bI kn) (nI hr) M K n' (nI w, nI (w + 1)) else gk_aldr LN RF (RF b 0) (nN a) fun o15 => if M.1 o15 2 ≤ M.1 (b + 2 + w) 2 then lp_X2_firstThatActs_57 LN RF h (nI cl) (nI s) (nI t) (bI y) (bI kn) (nI hr) M K n' (nN a, nI (w + 1)) else lp_X2_firstThatActs_57 LN RF h (nI cl) (nI s) (nI t) (bI y) (bI kn) (nI hr) M K n' (nI w, nI (w + 1))) = K (nN (ami (keyW W) (fun w => onOf W t w && actU W cl s hr y kn w) r (w + 1) (if ((onOf W t w && actU W cl s hr y kn w) && (a == 0 || decide (keyW W w < keyW W (a - 1)))) = true then w + 1 else a))) := by
      intro e
      rw [e, Bool.true_and]
      exact hp.trans (ih _ (by split <;> omega))
    unfold actU at no yes ⊢
    cases e1 : onOf W t w with
    | false => rw [if_pos rfl]; rw [e1] at no; exact no rfl
    | true =>
      rw [if_neg (by decide)]
      rw [e1] at no yes
      cases e2 : (W 1 w == 2 && ((W 3 w == cl || ((W 4 w).testBit 2 && W 3 w == s)) && (W 4 w).testBit (if hr < 12 then 0 else 1))) with
      | true => rw [if_neg (by decide)]; rw [e2] at yes; exact yes (by rfl)
      | false =>
        rw [if_pos rfl]
        rw [e2] at no yes
        cases e3 : (W 1 w == 1 && (W 4 w == 0 || (W 4 w == 1 && y))) with
        | true => rw [if_neg (by decide)]; rw [e3] at yes; exact yes (by rfl)
        | false =>
          rw [if_pos rfl]
          rw [e3] at no yes
          by_cases e4 : W 1 w = 4
          · rw [if_pos e4]
            cases kn with
            | false => rw [if_pos rfl]; exact no (by simp)
            | true => rw [if_neg (by decide)]; exact yes (by simp [e4])
          · rw [if_neg e4]; exact no (by simp [e4])
theorem ami_cg (key : Nat → Nat) {p q : Nat → Bool} : ∀ r i a, (∀ j, i ≤ j → j < i + r → p j = q j) → ami key p r i a = ami key q r i a
  | 0, _, _, _ => rfl
  | r + 1, i, a, h => by
    rw [ami, ami, h i (by omega) (by omega)]
    exact ami_cg key r (i + 1) _ (fun j h1 h2 => h j (by omega) (by omega))
theorem u_firstThatActs (hl : hL LN RF h o n b) (hH : HR h o M S) (hB : BR b M W) (hW : WB W) {N : Nat} (hN : N ≤ n) (hI : SI N S) {c s t : Nat} (hc : c < S 20 2) (h7 : S 7 c ≠ 3) (hs : s < 8) (ht : t < 8) : f_X2_firstThatActs LN RF h (nI (S 6 c)) (nI s) (nI t) M = some (nN (actsS W S c t s)) := by
  have hn := hl.2.2.2.1.2.2
  have hS := hI.sb (by omega)
  have h1 := hI.1
  have hbc := hS.2.1 c hc
  have hk := kAt_le S t
  have h20 := hH.1.2.2.2
  have hcal : t = S 6 c → cOf S t ≠ 0 := fun e => cOf_ne.mpr ⟨c, hc, by unfold inn; simp [e, h7]⟩
  unfold f_X2_firstThatActs
  rw [u_isFree hl hH (by omega) ht]
  simp only [Option.bind_some, gk_jn, bI_0]
  rw [h20, show (24 : Int32) = nI 24 from rfl, pk_rem (by omega) (by omega) (by omega)]
  simp only [nI_eq (show t < 2 ^ 31 by omega) (show S 6 c < 2 ^ 31 by omega), ha_3 hl ht, (hH.2.2.1 t ht).2.1, nN_m1 (show kAt S t < 2 ^ 31 by omega)]
  have main : ∀ y kn : Bool, y = !(cOf S t == 0) → kn = (!(cOf S t == 0) && !(t == S 6 c) && kAt S t == 0) → lp_X2_firstThatActs_57 LN RF h (nI (S 6 c)) (nI s) (nI t) (bI y) (bI kn) (nI (S 20 3 % 24)) M (fun y26 => some y26) gk_fuel (-1, 0) = some (nN (actsS W S c t s)) := by
    intro y kn hy hkn
    have := lp_fta_s hl hB hW (cl := S 6 c) (s := s) (t := t) (hr := S 20 3 % 24) (by omega) (by omega) (by omega) (by omega) y kn (K := fun y26 => some y26) (W 6 0) gk_fuel 0 0 (by omega) (by omega) (fuel_gt (by have := hW.1; omega))
    rw [nN_0] at this
    rw [nI_z, this]
    unfold actsS amin
    congr 2
    refine ami_cg _ _ _ _ (fun w _ hw => ?_)
    congr 1
    subst hy; subst hkn
    unfold actU act1 halfS
    by_cases k1 : W 1 w = 1
    · have hor : (!(cOf S t == 0) || t == S 6 c) = !(cOf S t == 0) := by
        by_cases e : t = S 6 c
        · have h0 := hcal e
          rw [show (cOf S t == 0) = false by simp [h0]]; rfl
        · rw [show (t == S 6 c) = false by simp [e], Bool.or_false]
      rw [hor, if_neg (show ¬ W 1 w = 2 by omega), if_pos k1, show (W 1 w == 2) = false by simp [k1], show (W 1 w == 1) = true by simp [k1], show (W 1 w == 4) = false by simp [k1]]
      simp only [Bool.false_and, Bool.false_or, Bool.true_and, Bool.or_false]
    · by_cases k2 : W 1 w = 2
      · simp [k2]
      · by_cases k4 : W 1 w = 4
        · simp [k4]
        · simp [k1, k2, k4]
  by_cases e1 : cOf S t = 0
  · rw [if_neg (by simp [e1])]
    simp only [i00, if_true]
    exact main false false (by simp [e1]) (by simp [e1])
  · rw [if_pos (by simp [e1])]
    simp only [i10, if_false]
    by_cases e2 : t = S 6 c
    · rw [if_pos e2]; exact main true false (by simp [e1]) (by simp [e2])
    · rw [if_neg e2]
      by_cases e3 : kAt S t = 0
      · rw [if_pos e3]; exact main true true (by simp [e1]) (by simp [e1, e2, e3])
      · rw [if_neg e3]; exact main true false (by simp [e1]) (by simp [e3])
theorem lp_ona_s (hl : hL LN RF h o n b) (hB : BR b M W) (hW : WB W) {l g : Nat} (h8 : l < 100) (hg : g < 100000) {K : Int32 → Option Int32} : ∀ r n' w a, w + r = W 6 0 → a ≤ w → r < n' → lp_X6_onwardAfter_5 LN RF b (nI l) (nI g) M K n' (nN a, nI w) = K (nN (ami (keyW W) (fun w => onOf W l w && (W 1 w == 1 && W 4 w == 2 + g)) r w a))
  | r, 0, w, _, _, _, g => absurd g (by omega)
  | 0, n' + 1, w, a, g1, ga, g2 => by
    rw [lp_X6_onwardAfter_5, hB.1, if_pos (nI_le (by omega) (by have := hW.1; omega))]; rfl
  | r + 1, n' + 1, w, a, g1, ga, g2 => by
    have hn := hW.1
    have hw : w < W 6 0 := by omega
    have hbw := hW.2 w hw
    have ih := fun a' h' => lp_ona_s hl hB hW h8 hg (K := K) r n' (w + 1) a' (by omega) h' (by omega)
    have hp := up_pick hl hB hW (a := a) (w := w) ga hw (fun z => lp_X6_onwardAfter_5 LN RF b (nI l) (nI g) M K n' (z, nI (w + 1)))
    rw [lp_X6_onwardAfter_5, hB.1, if_neg (nI_ge (by omega) (by omega)), ha_w hl (by omega)]
    simp only [gk_jn, nI_1, u_isOnFor hB hW hw h8, Option.bind_some, bI_0, hB.2 w 1 hw (by decide), hB.2 w 4 hw (by decide), nI_e1 (show W 1 w < 2 ^ 31 by omega), show (2 : Int32) = nI 2 from rfl, nI_add, nI_eq (show W 4 w < 2 ^ 31 by omega) (show 2 + g < 2 ^ 31 by omega), i10, i00, if_true, if_false]
    rw [ami]
    have no : (onOf W l w && (W 1 w == 1 && W 4 w == 2 + g)) = false → lp_X6_onwardAfter_5 LN RF b (nI l) (nI g) M K n' (nN a, nI (w + 1)) = K (nN (ami (keyW W) (fun w => onOf W l w && (W 1 w == 1 && W 4 w == 2 + g)) r (w + 1) (if ((onOf W l w && (W 1 w == 1 && W 4 w == 2 + g)) && (a == 0 || decide (keyW W w < keyW W (a - 1)))) = true then w + 1 else a))) := by
      intro e
      rw [e, Bool.false_and, if_neg (by decide)]; exact ih a (by omega)
    by_cases e1 : W 1 w = 1
    · by_cases e2 : W 4 w = 2 + g
      · cases e3 : onOf W l w with
        | false => rw [if_pos e1, if_pos e2, if_pos rfl]; rw [e3] at no; exact no rfl
        | true =>
          rw [if_pos e1, if_pos e2, if_neg (by decide)]
          rw [show (true && (W 1 w == 1 && W 4 w == 2 + g)) = true by simp [e1, e2], Bool.true_and]
          exact hp.trans (ih _ (by split <;> omega))
      · rw [if_pos e1, if_neg e2]; exact no (by simp [e2])
    · rw [if_neg e1]; exact no (by simp [e1])
theorem u_onwardAfter (hl : hL LN RF h o n b) (hB : BR b M W) (hW : WB W) {l g : Nat} (h8 : l < 100) (hg : g < 100000) : f_X6_onwardAfter LN RF b (nI l) (nI g) M = some (nN (amin (keyW W) (fun w => onOf W l w && (W 1 w == 1 && W 4 w == 2 + g)) (W 6 0))) := by
  have := lp_ona_s hl hB hW h8 hg (K := fun y => some y) (W 6 0) gk_fuel 0 0 (by omega) (by omega) (fuel_gt (by have := hW.1; omega))
  rw [nN_0] at this
  unfold f_X6_onwardAfter
  simp only [gk_jn]
  rw [nI_z, this]; rfl
/-- rows -/
theorem u_lineAt {a c : Nat} (hC : CR M a S c) (hr : S 9 c ≤ 8) (hrow : ∀ i, i < S 9 c → S 10 (9 * c + i) < 8) {i : Nat} (hi : i < S 9 c) : f_X1_lineAt LN RF a (nI i) M = some (nI (S 10 (9 * c + i))) := by
  unfold f_X1_lineAt
  simp only [gk_jn]
  rw [if_neg (nI_pos (by omega)), hC.2.2.2.1, if_pos (nI_lt hi (by omega)), hC.2.2.2.2.2.2.2.2.1, row_at (f := fun i => S 10 (9 * c + i)) hr (fun i hi => by have := hrow i hi; omega) hi]
theorem u_payerAt {a c : Nat} (hC : CR M a S c) (hr : S 9 c ≤ 8) (hrow : ∀ i, i < S 9 c → S 11 (9 * c + i) < 8) {i : Nat} (hi : i < S 9 c) : f_X1_payerAt LN RF a (nI i) M = some (nI (S 11 (9 * c + i))) := by
  unfold f_X1_payerAt
  simp only [gk_jn]
  rw [if_neg (nI_pos (by omega)), hC.2.2.2.1, if_pos (nI_lt hi (by omega)), hC.2.2.2.2.2.2.2.2.2.1, row_at (f := fun i => S 11 (9 * c + i)) hr (fun i hi => by have := hrow i hi; omega) hi]
theorem lp_crt_s {a c t : Nat} (hC : CR M a S c) (hr : S 9 c ≤ 8) (hrow : ∀ i, i < S 9 c → S 10 (9 * c + i) < 8) (ht : t < 8) {K : Unit → Option Int32} : ∀ r n' i, i + r = S 9 c → r < n' → lp_X1_comesRoundTo_19 LN RF a (nI t) M K n' (nI i) = if anf (fun i => S 10 (9 * c + i) == t) r i false = true then some 1 else K ()
  | r, 0, i, _, g => absurd g (by omega)
  | 0, n' + 1, i, g1, g2 => by
    rw [lp_X1_comesRoundTo_19, hC.2.2.2.1, if_pos (nI_le (by omega) (by omega))]; rfl
  | r + 1, n' + 1, i, g1, g2 => by
    have hb := hrow i (by omega)
    have ih := lp_crt_s hC hr hrow ht (K := K) r n' (i + 1) (by omega) (by omega)
    rw [lp_X1_comesRoundTo_19, hC.2.2.2.1, if_neg (nI_ge (by omega) (by omega)), u_lineAt hC hr hrow (by omega)]
    simp only [Option.bind_some, nI_1, nI_eq (show S 10 (9 * c + i) < 2 ^ 31 by omega) (show t < 2 ^ 31 by omega)]
    rw [anf]
    by_cases e : S 10 (9 * c + i) = t
    · rw [if_pos e, if_pos ((anf_iff _ _ _ _).mpr (Or.inl (by simp [e])))]
    · rw [if_neg e, ih, show (S 10 (9 * c + i) == t) = false by simp [e]]; rfl
theorem u_comesRoundTo {a c t : Nat} (hC : CR M a S c) (h6 : S 6 c < 8) (hr : S 9 c ≤ 8) (hrow : ∀ i, i < S 9 c → S 10 (9 * c + i) < 8) (ht : t < 8) : f_X1_comesRoundTo LN RF a (nI t) M = some (bI (inRow S c t || (t == S 6 c && decide (0 < S 9 c)))) := by
  have hlp := lp_crt_s (LN := LN) (RF := RF) hC hr hrow ht (K := fun _ => some 0) (S 9 c) gk_fuel 0 (by omega) (fuel_gt (by omega))
  unfold f_X1_comesRoundTo
  simp only [gk_jn, hC.1, hC.2.2.2.1]
  rw [nI_z] at hlp ⊢
  simp only [nI_leI (show S 9 c < 2 ^ 31 by omega) (show 0 < 2 ^ 31 by omega), nI_eq (show t < 2 ^ 31 by omega) (show S 6 c < 2 ^ 31 by omega)]
  rw [hlp]
  have hre : (if anf (fun i => S 10 (9 * c + i) == t) (S 9 c) 0 false = true then some (1 : Int32) else some (nI 0)) = some (bI (inRow S c t)) := by
    unfold inRow
    cases anf (fun i => S 10 (9 * c + i) == t) (S 9 c) 0 false <;> rfl
  rw [hre]
  by_cases e1 : S 9 c ≤ 0
  · rw [if_pos e1, show decide (0 < S 9 c) = false from decide_eq_false (by omega), Bool.and_false, Bool.or_false]
  · rw [if_neg e1, show decide (0 < S 9 c) = true from decide_eq_true (by omega), Bool.and_true]
    by_cases e2 : t = S 6 c
    · rw [if_pos e2]; simp [e2, bI]
    · rw [if_neg e2, show (t == S 6 c) = false by simp [e2], Bool.or_false]
end HO
