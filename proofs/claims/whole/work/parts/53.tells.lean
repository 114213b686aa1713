/-! Telling, counting: the class and the reference answer alike -/
def hidP (W : zS) (cl l w : Nat) : Bool := W 0 w == cl && W 1 w == 3 && W 5 w == 1 && !(W 3 w == l)
def rchS (S : zS) (c l : Nat) : Bool := (S 12 c).testBit l || (S 7 c == 2 && S 13 c == l + 1)
section TL
variable {LN : Nat → Nat} {RF : Nat → Nat → Nat} {h o n b x m : Nat} {M M' : gk_M} {W S : zS}
theorem lp_hid_s (hl : hL LN RF h o n b) (hB : BR b M W) (hW : WB W) {cl l : Nat} (hc : cl < 100) (h8 : l < 100) {K : Unit → Option Int32} : ∀ r n' w, w + r = W 6 0 → r < n' → lp_X6_hides_2 LN RF b (nI cl) (nI l) M K n' (nI w) = if anf (hidP W cl l) r w false = true then some 1 else K ()
  | r, 0, w, _, g => absurd g (by omega)
  | 0, n' + 1, w, g1, g2 => by
    rw [lp_X6_hides_2, hB.1, if_pos (nI_le (by omega) (by have := hW.1; omega))]; rfl
  | r + 1, n' + 1, w, g1, g2 => by
    have hn := hW.1
    have hb := hW.2 w (by omega)
    have ih := lp_hid_s hl hB hW hc h8 (K := K) r n' (w + 1) (by omega) (by omega)
    rw [lp_X6_hides_2, hB.1, if_neg (nI_ge (by omega) (by omega)), ha_w hl (by omega)]
    simp only [gk_jn, nI_1, hB.2 w 1 (show w < W 6 0 by omega) (by decide), hB.2 w 3 (show w < W 6 0 by omega) (by decide), u_isOnFor hB hW (show w < W 6 0 by omega) hc, Option.bind_some, bI_0, nI_e3 (show W 1 w < 2 ^ 31 by omega), nI_eq (show W 3 w < 2 ^ 31 by omega) (show l < 2 ^ 31 by omega)]
    rw [anf]
    unfold onOf
    by_cases e1 : W 1 w = 3
    · rw [if_pos e1]
      by_cases e0 : W 0 w = cl
      · by_cases e5 : W 5 w = 0
        · rw [if_pos (by simp [e5]), ih, show hidP W cl l w = false by unfold hidP; simp [e5]]; rfl
        · have e5' : W 5 w = 1 := by omega
          rw [if_neg (by simp [e5, e0])]
          by_cases e3 : W 3 w = l
          · rw [if_pos e3, ih, show hidP W cl l w = false by unfold hidP; simp [e3]]; rfl
          · rw [if_neg e3, if_pos ((anf_iff _ _ _ _).mpr (Or.inl (by unfold hidP; simp [e0, e1, e5', e3])))]
      · rw [if_pos (by simp [e0]), ih, show hidP W cl l w = false by unfold hidP; simp [e0]]; rfl
    · rw [if_neg e1, ih, show hidP W cl l w = false by unfold hidP; simp [e1]]; rfl
theorem u_hides (hl : hL LN RF h o n b) (hB : BR b M W) (hW : WB W) {cl l : Nat} (hc : cl < 100) (h8 : l < 100) : f_X6_hides LN RF b (nI cl) (nI l) M = some (bI (anf (hidP W cl l) (W 6 0) 0 false)) := by
  have hn := hW.1
  have := lp_hid_s hl hB hW hc h8 (K := fun _ => some 0) (W 6 0) gk_fuel 0 (by omega) (fuel_gt (by omega))
  unfold f_X6_hides
  simp only [gk_jn]
  rw [nI_z] at this ⊢
  rw [this]
  cases anf (hidP W cl l) (W 6 0) 0 false <;> rfl
theorem u_isTold (hl : hL LN RF h o n b) (hH : HR h o M S) (hB : BR b M W) (hW : WB W) {N : Nat} (hN : N ≤ n) (hI : SI N S) {c l : Nat} (hc : c < S 20 2) (h8 : l < 8) : f_X2_isTold LN RF h (h + o + 6 + c) (nI l) M = some (bI (rchS S c l && !anf (hidP W (S 6 c) l) (W 6 0) 0 false)) := by
  have hn := hl.2.2.2.1.2.2
  have hS := hI.sb (by omega)
  have hbc := hS.2.1 c hc
  obtain ⟨c0, c1, c2, c3, c4, c5, -⟩ := hH.2.1 c hc
  unfold f_X2_isTold
  rw [c4, c1, c5, c0, hl.1.1, u_hides hl hB hW (by omega) (by omega)]
  simp only [gk_jn, zz_0, zz_1, Option.bind_some, bI_0, i10, i00, if_true, if_false, bit_ge _ hbc.2.2.2.1 l h8, nI_e2 (show S 7 c < 2 ^ 31 by omega), nN_nI (show S 13 c < 2 ^ 31 by omega) (show l < 2 ^ 30 by omega)]
  unfold rchS
  cases (S 12 c).testBit l with
  | true =>
    rw [if_neg tf]
    cases anf (hidP W (S 6 c) l) (W 6 0) 0 false <;> rfl
  | false =>
    rw [if_pos rfl]
    by_cases e7 : S 7 c = 2
    · rw [if_pos e7]
      by_cases e13 : S 13 c = l + 1
      · rw [if_pos e13, show (false || (S 7 c == 2 && S 13 c == l + 1)) = true by simp [e7, e13]]
        cases anf (hidP W (S 6 c) l) (W 6 0) 0 false <;> rfl
      · rw [if_neg e13, show (false || (S 7 c == 2 && S 13 c == l + 1)) = false by simp [e13]]; rfl
    · rw [if_neg e7, show (false || (S 7 c == 2 && S 13 c == l + 1)) = false by simp [e7]]; rfl
theorem lp_tld_s (hm : mL LN RF m) (hR : MR m M W S) (hW : WB W) (hS : SB S) {c l : Nat} (hc : c < S 20 2) (h8 : l < 8) {K : Int32 → Option Int32} : ∀ r n' w t, w + r = W 6 0 → r < n' → lp_X8_isTold_43 LN RF m (nI c) (nI l) M K n' (bI t, nI w) = K (bI (t && !anf (hidP W (S 6 c) l) r w false))
  | r, 0, w, t, _, g => absurd g (by omega)
  | 0, n' + 1, w, t, g1, g2 => by
    rw [lp_X8_isTold_43, mr_W hm hR, if_pos (nI_le (by omega) (by have := hW.1; omega)), show anf (hidP W (S 6 c) l) 0 w false = false from rfl, Bool.not_false, Bool.and_true]
  | r + 1, n' + 1, w, t, g1, g2 => by
    have hn := hW.1
    have hb := hW.2 w (by omega)
    have hbc := hS.2.1 c hc
    have hs1 := hS.1
    have ih := fun t' => lp_tld_s hm hR hW hS hc h8 (K := K) r n' (w + 1) t' (by omega) (by omega)
    have i0 := ih false
    have i1 := ih true
    rw [show bI false = (0 : Int32) from rfl, Bool.false_and] at i0
    rw [show bI true = (1 : Int32) from rfl, Bool.true_and] at i1
    rw [lp_X8_isTold_43, mr_W hm hR, if_neg (nI_ge (by omega) (by omega))]
    simp only [gk_jn, nI_1, bI_0, mr_0 hm hR (show w < 24 by omega), mr_1 hm hR (show w < 24 by omega), mr_3 hm hR (show w < 24 by omega), mr_5 hm hR (show w < 24 by omega), mr_6 hm hR (show c < 60 by omega), nI_eq (show W 0 w < 2 ^ 31 by omega) (show S 6 c < 2 ^ 31 by omega), nI_e3 (show W 1 w < 2 ^ 31 by omega), nI_e1 (show W 5 w < 2 ^ 31 by omega), nI_eq (show W 3 w < 2 ^ 31 by omega) (show l < 2 ^ 31 by omega)]
    rw [anf]
    cases t with
    | false => rw [if_pos rfl, i0]; rfl
    | true =>
      rw [if_neg tf]
      by_cases e0 : W 0 w = S 6 c
      · rw [if_pos e0]
        by_cases e1 : W 1 w = 3
        · rw [if_pos e1]
          by_cases e5 : W 5 w = 1
          · rw [if_pos e5]
            by_cases e3 : W 3 w = l
            · rw [if_pos e3, i1, show hidP W (S 6 c) l w = false by unfold hidP; simp [e3]]; rfl
            · rw [if_neg e3, i0, show (false || hidP W (S 6 c) l w) = true by unfold hidP; simp [e0, e1, e5, e3], (anf_iff _ _ _ _).mpr (Or.inl rfl)]; rfl
          · rw [if_neg e5, i1, show hidP W (S 6 c) l w = false by unfold hidP; simp [e5]]; rfl
        · rw [if_neg e1, i1, show hidP W (S 6 c) l w = false by unfold hidP; simp [e1]]; rfl
      · rw [if_neg e0, i1, show hidP W (S 6 c) l w = false by unfold hidP; simp [e0]]; rfl
theorem t_isTold (hm : mL LN RF m) (hR : MR m M W S) (hW : WB W) (hS : SB S) {c l : Nat} (hc : c < S 20 2) (h8 : l < 8) : f_X8_isTold LN RF m (nI c) (nI l) M = some (bI (rchS S c l && !anf (hidP W (S 6 c) l) (W 6 0) 0 false)) := by
  have hn := hW.1
  have hbc := hS.2.1 c hc
  have hs1 := hS.1
  have hlp := fun t => lp_tld_s hm hR hW hS hc h8 (K := fun y => gk_zz y (some y)) (W 6 0) gk_fuel 0 t (by omega) (fuel_gt (by omega))
  have p1 := hlp true
  have p0 := hlp false
  rw [zz_b, show (bI true, nI 0) = ((1 : Int32), (0 : Int32)) from rfl] at p1
  rw [zz_b, show (bI false, nI 0) = ((0 : Int32), (0 : Int32)) from rfl] at p0
  unfold f_X8_isTold
  rw [mr_12 hm hR (by omega)]
  simp only [gk_jn, mr_7 hm hR (show c < 60 by omega), mr_13 hm hR (show c < 60 by omega), bit_ge _ hbc.2.2.2.1 l h8, bI_1, nI_e2 (show S 7 c < 2 ^ 31 by omega), nN_nI (show S 13 c < 2 ^ 31 by omega) (show l < 2 ^ 30 by omega)]
  unfold rchS
  cases (S 12 c).testBit l with
  | true => rw [if_pos rfl]; exact p1
  | false =>
    rw [if_neg (show ¬ (false = true) by decide)]
    by_cases e7 : S 7 c = 2
    · rw [if_pos e7]
      by_cases e13 : S 13 c = l + 1
      · rw [if_pos e13, show (false || (S 7 c == 2 && S 13 c == l + 1)) = true by simp [e7, e13]]; exact p1
      · rw [if_neg e13, show (false || (S 7 c == 2 && S 13 c == l + 1)) = false by simp [e13]]; exact p0
    · rw [if_neg e7, show (false || (S 7 c == 2 && S 13 c == l + 1)) = false by simp [e7]]; exact p0
theorem q_tells (hx : xL LN RF x) (hm : mL LN RF m) (hH : HR (x + 1) 27 M S) (hB : BR (x + 2) M W) (hR : MR m M' W S) (hW : WB W) (hI : SI 60 S) (y z : Int32) : Ag (f_X7_tells LN RF x y z M) (f_X8_tells LN RF m y z M') := by
  have h1 := hI.1
  have hS := hI.sb (Nat.le_refl 60)
  unfold f_X7_tells f_X8_tells
  rw [hx.1, u_isCallI hH, t_isCall hm hR]
  simp only [Option.bind_some, bI_0, gk_jn]
  refine Ag.ite (fun _ => Ag.mk) (fun e => ?_)
  have e' : isL (S 20 2) y = true := by simpa using e
  obtain ⟨c, hc, rfl⟩ := isL_s (by omega) e'
  rw [u_isLine hH, t_isLine hm hR, show inR z 0 ((nI (S 20 0)).toInt - 1) = isL (S 20 0) z from rfl]
  simp only [Option.bind_some, bI_0]
  refine Ag.ite (fun _ => Ag.mk) (fun e2 => ?_)
  have e2' : isL (S 20 0) z = true := by simpa using e2
  obtain ⟨l, hl, rfl⟩ := isL_s (by omega) e2'
  rw [ha_c hx.2.1 (show c < 60 by omega), u_isTold hx.2.1 hH hB hW (Nat.le_refl 60) hI hc (by omega), t_isTold hm hR hW hS hc (by omega)]
  simp only [Option.bind_some, bI_0]
  exact Ag.ite (fun _ => Ag.mk) (fun _ => Ag.mk)
theorem lp_cop_s (hl : hL LN RF h o n b) (hH : HR h o M S) {N : Nat} (hN : N ≤ n) (hI : SI N S) {K : Int32 → Option Int32} : ∀ r n' c a, c + r = S 20 2 → r < n' → lp_X2_countOpen_4 LN RF h M K n' (nI a, nI c) = K (nI (cnf (fun c => !(S 7 c == 3)) r c a))
  | r, 0, c, a, _, g => absurd g (by omega)
  | 0, n' + 1, c, a, g1, g2 => by
    have h1 := hI.1
    have hn := hl.2.2.2.1.2.2
    rw [lp_X2_countOpen_4, hH.1.2.1, if_pos (nI_le (by omega) (by omega))]; rfl
  | r + 1, n' + 1, c, a, g1, g2 => by
    have h1 := hI.1
    have hn := hl.2.2.2.1.2.2
    have hb := hI.2.1 c (by omega)
    have ih := fun a' => lp_cop_s hl hH hN hI (K := K) r n' (c + 1) a' (by omega) (by omega)
    rw [lp_X2_countOpen_4, hH.1.2.1, if_neg (nI_ge (by omega) (by omega)), ha_c hl (by omega), (hH.2.1 c (by omega)).2.1]
    simp only [gk_jn, nI_1, nI_e3 (show S 7 c < 2 ^ 31 by have := hb.2.1; omega)]
    rw [cnf]
    by_cases e : S 7 c = 3
    · rw [if_pos e, ih, if_neg (by simp [e])]
    · rw [if_neg e, ih, if_pos (by simp [e])]
theorem lp_mct_s (hm : mL LN RF m) (hR : MR m M W S) (hS : SB S) {K : Int32 → Option Int32} : ∀ r n' c a, c + r = S 20 2 → r < n' → lp_X8_count_57 LN RF m M K n' (nI a, nI c) = K (nI (cnf (fun c => !(S 7 c == 3)) r c a))
  | r, 0, c, a, _, g => absurd g (by omega)
  | 0, n' + 1, c, a, g1, g2 => by
    have h1 := hS.1
    rw [lp_X8_count_57, mr_C hm hR, if_pos (nI_le (by omega) (by omega))]; rfl
  | r + 1, n' + 1, c, a, g1, g2 => by
    have h1 := hS.1
    have hb := hS.2.1 c (by omega)
    have ih := fun a' => lp_mct_s hm hR hS (K := K) r n' (c + 1) a' (by omega) (by omega)
    rw [lp_X8_count_57, mr_C hm hR, if_neg (nI_ge (by omega) (by omega)), mr_7 hm hR (by omega)]
    simp only [gk_jn, nI_1, Int32.add_zero, nI_e3 (show S 7 c < 2 ^ 31 by omega)]
    rw [cnf]
    by_cases e : S 7 c = 3
    · rw [if_pos e, ih, if_neg (by simp [e])]
    · rw [if_neg e, ih, if_pos (by simp [e])]
theorem q_count (hx : xL LN RF x) (hm : mL LN RF m) (hH : HR (x + 1) 27 M S) (hB : BR (x + 2) M W) (hR : MR m M' W S) (hI : SI 60 S) (h6 : M.1 x 6 = M'.1 m 33) (h7 : M.1 (RF x 3) 1 = M'.1 m 36) (y : Int32) : Ag (f_X7_count LN RF x y M) (f_X8_count LN RF m y M') := by
  have h1 := hI.1
  have hS := hI.sb (Nat.le_refl 60)
  unfold f_X7_count f_X8_count
  simp only [gk_jn]
  rw [hx.1, hx.2.1.1.1]
  refine Ag.sw (fun e => ?_) (Ag.sw (fun e => ?_) (Ag.sw (fun e => ?_) (Ag.sw (fun e => ?_) (Ag.sw (fun e => ?_) (Ag.sw (fun _ => ?_) (Ag.sw (fun _ => ?_) (Ag.sw (fun _ => ?_) (Ag.s0 Ag.mk))))))))
  · rw [e, show Int32.ofInt 0 = 0 from rfl, mr_L hm hR]; exact Ag.eq hH.1.1
  · rw [e, show Int32.ofInt (0 + 1) = 1 from rfl, mr_W hm hR]; exact Ag.eq hB.1
  · rw [e, show Int32.ofInt (0 + 1 + 1) = 2 from rfl, mr_C hm hR]; exact Ag.eq hH.1.2.1
  · rw [e, show Int32.ofInt (0 + 1 + 1 + 1) = 3 from rfl, mr_T hm hR]; exact Ag.eq hH.1.2.2.2
  · rw [e, show Int32.ofInt (0 + 1 + 1 + 1 + 1) = 4 from rfl, mr_B hm hR]; exact Ag.eq hH.1.2.2.1
  · unfold f_X2_countOpen
    simp only [gk_jn]
    rw [show ((0 : Int32), (0 : Int32)) = (nI 0, nI 0) from rfl, lp_cop_s hx.2.1 hH (Nat.le_refl 60) hI (S 20 2) gk_fuel 0 0 (by omega) (fuel_gt (by omega)), lp_mct_s hm hR hS (S 20 2) gk_fuel 0 0 (by omega) (fuel_gt (by omega))]
    exact Ag.mk
  · exact Ag.eq h6
  · exact Ag.eq h7
end TL
