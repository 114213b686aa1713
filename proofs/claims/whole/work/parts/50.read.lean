/-! Questions: the class and the reference answer alike -/
def Ag (a b : Option Int32) : Prop := ∃ r, a = some r ∧ b = some r
theorem Ag.mk {r : Int32} : Ag (some r) (some r) := ⟨r, rfl, rfl⟩
theorem Ag.eq {r s : Int32} (h : r = s) : Ag (some r) (some s) := ⟨s, by rw [h], rfl⟩
theorem Ag.ite {p : Prop} [Decidable p] {a b c d : Option Int32} (h1 : p → Ag a b) (h2 : ¬ p → Ag c d) : Ag (if p then a else c) (if p then b else d) := by
  by_cases e : p
  · rw [if_pos e, if_pos e]; exact h1 e
  · rw [if_neg e, if_neg e]; exact h2 e
theorem Ag.sw {x : Int32} {n : Int} {k l d e : Option Int32} {ks ls : List (Option Int32)} (h1 : x = Int32.ofInt n → Ag k l) (h2 : Ag (gk_sw x (n + 1) ks d) (gk_sw x (n + 1) ls e)) : Ag (gk_sw x n (k :: ks) d) (gk_sw x n (l :: ls) e) := Ag.ite h1 (fun _ => h2)
theorem Ag.s0 {x : Int32} {n : Int} {d e : Option Int32} (h : Ag d e) : Ag (gk_sw x n [] d) (gk_sw x n [] e) := h
theorem rg_if (y : Int32) (n : Nat) {α : Type} (A B : α) : (if y < 0 then A else if nI n ≤ y then A else B) = if isL n y = true then B else A := by
  unfold isL inR
  by_cases h1 : y < 0
  · rw [if_pos h1]
    have : ¬ 0 ≤ y.toInt := by have := Int32.lt_iff_toInt_lt.mp h1; simp at this; omega
    simp [this]
  · rw [if_neg h1]
    have g1 : 0 ≤ y.toInt := by have : ¬ y.toInt < (0 : Int32).toInt := fun g => h1 (Int32.lt_iff_toInt_lt.mpr g); simp at this; omega
    by_cases h2 : nI n ≤ y
    · rw [if_pos h2]
      have : ¬ y.toInt ≤ (nI n).toInt - 1 := by have := Int32.le_iff_toInt_le.mp h2; omega
      simp [this]
    · rw [if_neg h2]
      have g2 : y.toInt ≤ (nI n).toInt - 1 := by have : ¬ (nI n).toInt ≤ y.toInt := fun g => h2 (Int32.le_iff_toInt_le.mpr g); omega
      simp [g1, g2]
theorem rg_if2 (y : Int32) (n : Nat) {α : Type} (A B : α) : (if y < 0 then A else if y < nI n then B else A) = if isL n y = true then B else A := by
  rw [← rg_if y n A B]
  by_cases h1 : y < 0
  · rw [if_pos h1, if_pos h1]
  · rw [if_neg h1, if_neg h1]
    by_cases h2 : nI n ≤ y
    · rw [if_pos h2, if_neg (fun g => by have := Int32.le_iff_toInt_le.mp h2; have := Int32.lt_iff_toInt_lt.mp g; omega)]
    · rw [if_neg h2, if_pos (Int32.lt_iff_toInt_lt.mpr (by have : ¬ (nI n).toInt ≤ y.toInt := fun g => h2 (Int32.le_iff_toInt_le.mpr g); omega))]
theorem isL_s {n : Nat} {y : Int32} (hn : n < 1000) (h : isL n y = true) : ∃ l, l < n ∧ y = nI l := inR_l hn h
theorem isL_n {l n : Nat} (hn : n < 1000) : isL n (nI l) = true ↔ l < n ∨ (2 ^ 31 ≤ l ∧ isL n (nI l) = true) := by
  by_cases h : l < n
  · exact ⟨fun _ => Or.inl h, fun _ => inR_n hn h⟩
  · constructor
    · intro g
      by_cases h2 : 2 ^ 31 ≤ l
      · exact Or.inr ⟨h2, g⟩
      · obtain ⟨l', h1, h3⟩ := inR_l hn g
        have := (nI_eq (show l < 2 ^ 31 by omega) (show l' < 2 ^ 31 by omega)).mp h3
        omega
    · rintro (g | g)
      · exact absurd g h
      · exact g.2
theorem pre_I {n : Nat} (hn : n < 1000) : ((nI n - 1 : Int32).toInt64).toInt = (nI n).toInt - 1 := by
  rw [Int32.toInt_toInt64]
  cases n with
  | zero => decide
  | succ n => rw [nI_pred, nI_toInt (by omega), nI_toInt (by omega)]; omega
section RD
variable {LN : Nat → Nat} {RF : Nat → Nat → Nat} {x m : Nat} {M M' : gk_M} {W S : zS}
theorem t_isInL (y : Int32) {n : Nat} (hn : n < 1000) : f_X8_isIn LN RF y.toInt64 0 (nI n - 1).toInt64 M = some (bI (isL n y)) := by
  rw [t_isInI, pre_I hn]; rfl
theorem t_isInK (y : Int32) {n : Nat} {c : Int64} (hc : c.toInt = (nI n).toInt - 1) : f_X8_isIn LN RF y.toInt64 0 c M = some (bI (isL n y)) := by
  rw [t_isInI, hc]; rfl
theorem t_isWish (hL : mL LN RF m) (h : MR m M W S) (y : Int32) : f_X8_isWish LN RF m y M = some (bI (isL (W 6 0) y)) := by
  unfold f_X8_isWish
  simp only [gk_jn, zz_0, zz_1, mr_W hL h]
  rw [rg_if]
  cases isL (W 6 0) y <;> rfl
theorem t_isCall (hL : mL LN RF m) (h : MR m M W S) (y : Int32) : f_X8_isCall LN RF m y M = some (bI (isL (S 20 2) y)) := by
  unfold f_X8_isCall
  simp only [gk_jn, zz_0, zz_1, mr_C hL h]
  rw [rg_if]
  cases isL (S 20 2) y <;> rfl
theorem u_holds {b : Nat} (hB : BR b M W) (y : Int32) : f_X6_holds LN RF b y M = some (bI (isL (W 6 0) y)) := by
  unfold f_X6_holds
  simp only [gk_jn, zz_0, zz_1, hB.1]
  rw [rg_if]
  cases isL (W 6 0) y <;> rfl
theorem u_isCallI {h o : Nat} (hH : HR h o M S) (y : Int32) : f_X2_isCall LN RF h y M = some (bI (isL (S 20 2) y)) := by
  unfold f_X2_isCall
  simp only [gk_jn, zz_0, zz_1, hH.1.2.1]
  rw [rg_if]
  cases isL (S 20 2) y <;> rfl
theorem q_wishTold (hx : xL LN RF x) (hm : mL LN RF m) (hB : BR (x + 2) M W) (h : MR m M' W S) (hW : WB W) (y z : Int32) : Ag (f_X7_wishTold LN RF x y z M) (f_X8_wishTold LN RF m y z M') := by
  have hWn := hW.1
  unfold f_X7_wishTold f_X8_wishTold
  rw [hx.1, hx.2.1.1.1, u_holds hB, t_isWish hm h]
  simp only [Option.bind_some, bI_0, gk_jn]
  refine Ag.ite (fun _ => Ag.mk) (fun e => ?_)
  have e' : isL (W 6 0) y = true := by simpa using e
  obtain ⟨w, hw, rfl⟩ := isL_s (by omega) e'
  rw [ha_w hx.2.1 (show w < 24 by omega)]
  have hb := hW.2 w hw
  refine Ag.sw (fun _ => ?_) (Ag.sw (fun _ => ?_) (Ag.sw (fun _ => ?_) (Ag.sw (fun _ => ?_) (Ag.sw (fun _ => ?_) (Ag.sw (fun _ => ?_) (Ag.s0 Ag.mk))))))
  · rw [mr_0 hm h (by omega)]; exact Ag.eq (hB.2 w 0 hw (by decide))
  · rw [mr_1 hm h (by omega)]; exact Ag.eq (hB.2 w 1 hw (by decide))
  · rw [mr_2 hm h (by omega)]; exact Ag.eq (hB.2 w 2 hw (by decide))
  · rw [mr_3 hm h (by omega)]; exact Ag.eq (hB.2 w 3 hw (by decide))
  · rw [mr_4 hm h (by omega)]; exact Ag.eq (hB.2 w 4 hw (by decide))
  · rw [mr_5 hm h (by omega), hB.2 w 5 hw (by decide)]
    simp only [nI_e0 (show W 5 w < 2 ^ 31 by omega)]
    by_cases e5 : W 5 w = 0
    · rw [if_pos e5, e5]; exact Ag.mk
    · rw [if_neg e5, show W 5 w = 1 by omega]; exact Ag.mk
theorem q_call (hx : xL LN RF x) (hm : mL LN RF m) (hH : HR (x + 1) 27 M S) (h : MR m M' W S) (hI : SI 60 S) (y z : Int32) : Ag (f_X7_call LN RF x y z M) (f_X8_call LN RF m y z M') := by
  have h1 := hI.1
  unfold f_X7_call f_X8_call
  rw [hx.1, u_isCallI hH, t_isCall hm h]
  simp only [Option.bind_some, bI_0]
  refine Ag.ite (fun _ => Ag.mk) (fun e => ?_)
  have e' : isL (S 20 2) y = true := by simpa using e
  obtain ⟨c, hc, rfl⟩ := isL_s (by omega) e'
  rw [ha_c hx.2.1 (show c < 60 by omega)]
  obtain ⟨c0, c1, c2, c3, c4, c5, c6, c7, c8, c9, c10⟩ := hH.2.1 c hc
  refine Ag.sw (fun _ => ?_) (Ag.sw (fun _ => ?_) (Ag.sw (fun _ => ?_) (Ag.sw (fun _ => ?_) (Ag.sw (fun _ => ?_) (Ag.sw (fun _ => ?_) (Ag.sw (fun _ => ?_) (Ag.sw (fun _ => ?_) (Ag.s0 Ag.mk))))))))
  · rw [mr_6 hm h (by omega)]; exact Ag.eq c0
  · rw [mr_7 hm h (by omega)]; exact Ag.eq c1
  · rw [mr_8 hm h (by omega)]; exact Ag.eq c2
  · rw [mr_9 hm h (by omega)]; exact Ag.eq c3
  · rw [mr_12 hm h (by omega)]; exact Ag.eq c4
  · rw [mr_13 hm h (by omega)]; exact Ag.eq c5
  · rw [mr_14 hm h (by omega)]; exact Ag.eq c6
  · rw [mr_15 hm h (by omega)]; exact Ag.eq c7
theorem nI_9 (c i : Nat) : (9 : Int32) * nI c + nI i = nI (9 * c + i) := by
  unfold nI
  rw [show (9 : Int32) = Int32.ofNat 9 from rfl, ← Int32.ofNat_mul, ← Int32.ofNat_add]
theorem nI_10 (c i : Nat) : (10 : Int32) * nI c + nI i = nI (10 * c + i) := by
  unfold nI
  rw [show (10 : Int32) = Int32.ofNat 10 from rfl, ← Int32.ofNat_mul, ← Int32.ofNat_add]
theorem q_row (hx : xL LN RF x) (hm : mL LN RF m) (hH : HR (x + 1) 27 M S) (h : MR m M' W S) (hI : SI 60 S) (y z : Int32) : Ag (f_X7_row LN RF x y z M) (f_X8_row LN RF m y z M') := by
  have h1 := hI.1
  unfold f_X7_row f_X8_row
  rw [hx.1, u_isCallI hH, t_isCall hm h]
  simp only [Option.bind_some, bI_0, gk_jn]
  refine Ag.ite (fun _ => Ag.mk) (fun e => ?_)
  have e' : isL (S 20 2) y = true := by simpa using e
  obtain ⟨c, hc, rfl⟩ := isL_s (by omega) e'
  have hCc := hI.2.1 c hc
  have hC := hH.2.1 c hc
  have h9 := hCc.2.2.1
  rw [ha_c hx.2.1 (show c < 60 by omega), mr_9 hm h (by omega), t_isInL z (show S 9 c < 1000 by omega)]
  simp only [Option.bind_some, bI_0]
  cases ez : isL (S 9 c) z with
  | true =>
    obtain ⟨i, hi, rfl⟩ := isL_s (by omega) ez
    rw [u_lineAt hC hCc.2.2.1 (fun i hi => by have := hCc.2.2.2.1 i hi; omega) hi, if_neg (by decide), nI_9, mr_10 hm h (by omega)]
    exact Ag.mk
  | false =>
    rw [if_pos rfl]
    unfold f_X1_lineAt
    simp only [gk_jn]
    rw [hC.2.2.2.1, rg_if2, ez]
    exact Ag.mk
theorem q_piece (hx : xL LN RF x) (hm : mL LN RF m) (hH : HR (x + 1) 27 M S) (h : MR m M' W S) (hI : SI 60 S) (y z : Int32) : Ag (f_X7_piece LN RF x y z M) (f_X8_piece LN RF m y z M') := by
  have h1 := hI.1
  unfold f_X7_piece f_X8_piece
  rw [hx.1, u_isCallI hH, t_isCall hm h]
  simp only [Option.bind_some, bI_0, gk_jn]
  refine Ag.ite (fun _ => Ag.mk) (fun e => ?_)
  have e' : isL (S 20 2) y = true := by simpa using e
  obtain ⟨c, hc, rfl⟩ := isL_s (by omega) e'
  have hCc := hI.2.1 c hc
  have hC := hH.2.1 c hc
  have h9 := hCc.2.2.1
  rw [ha_c hx.2.1 (show c < 60 by omega), mr_9 hm h (by omega), t_isInL z (show S 9 c < 1000 by omega)]
  simp only [Option.bind_some, bI_0]
  cases ez : isL (S 9 c) z with
  | true =>
    obtain ⟨i, hi, rfl⟩ := isL_s (by omega) ez
    rw [u_payerAt hC hCc.2.2.1 (fun i hi => by have := hCc.2.2.2.1 i hi; omega) hi, if_neg (by decide), nI_9, mr_11 hm h (by omega)]
    exact Ag.mk
  | false =>
    rw [if_pos rfl]
    unfold f_X1_payerAt
    simp only [gk_jn]
    rw [hC.2.2.2.1, rg_if2, ez]
    exact Ag.mk
theorem q_acted (hx : xL LN RF x) (hm : mL LN RF m) (hH : HR (x + 1) 27 M S) (h : MR m M' W S) (hI : SI 60 S) (y z : Int32) : Ag (f_X7_acted LN RF x y z M) (f_X8_acted LN RF m y z M') := by
  have h1 := hI.1
  unfold f_X7_acted f_X8_acted
  rw [hx.1, u_isCallI hH, t_isCall hm h]
  simp only [Option.bind_some, bI_0, gk_jn]
  refine Ag.ite (fun _ => Ag.mk) (fun e => ?_)
  have e' : isL (S 20 2) y = true := by simpa using e
  obtain ⟨c, hc, rfl⟩ := isL_s (by omega) e'
  have hCc := hI.2.1 c hc
  have hC := hH.2.1 c hc
  have h15 := hCc.2.2.2.2.2.2.2.2.1
  have h9 := hCc.2.2.1
  have h16 := hCc.2.2.2.2.2.2.2.2.2.2.2.2.2.2
  rw [ha_c hx.2.1 (show c < 60 by omega), mr_15 hm h (by omega), mr_15 hm h (by omega)]
  simp only [show (10 : Int32) = nI 10 from rfl, nI_leI (show 10 < 2 ^ 31 by omega) (show S 15 c < 2 ^ 31 by omega)]
  have hmin : (if 10 ≤ S 15 c then (f_X8_isIn LN RF z.toInt64 0 (nI 10 - 1).toInt64 M').bind fun r30 => if r30 = 0 then some (-1) else gk_ald LN M' (RF m 16) (nI 10 * nI c + z) fun x32 => some x32 else (f_X8_isIn LN RF z.toInt64 0 (nI (S 15 c) - 1).toInt64 M').bind fun r30 => if r30 = 0 then some (-1) else gk_ald LN M' (RF m 16) (nI 10 * nI c + z) fun x32 => some x32) = if isL (min (S 15 c) 10) z = true then gk_ald LN M' (RF m 16) (nI 10 * nI c + z) fun x32 => some x32 else some (-1) := by
    by_cases g : 10 ≤ S 15 c
    · rw [if_pos g, t_isInL z (by omega), show min (S 15 c) 10 = 10 by omega]
      simp only [Option.bind_some, bI_0]
      cases isL 10 z <;> rfl
    · rw [if_neg g, t_isInL z (by omega), show min (S 15 c) 10 = S 15 c by omega]
      simp only [Option.bind_some, bI_0]
      cases isL (S 15 c) z <;> rfl
  rw [hmin]
  unfold f_X1_actAt
  simp only [gk_jn]
  rw [hC.2.2.2.2.2.2.2.1]
  cases ez : isL (min (S 15 c) 10) z with
  | true =>
    obtain ⟨i, hi, rfl⟩ := isL_s (by omega) ez
    rw [if_neg (nI_pos (by omega)), if_neg (nI_ge (by omega) (by omega)), show (10 : Int32) = nI 10 from rfl, if_pos (nI_lt (by omega) (by omega)), if_pos rfl, show nI 10 = (10 : Int32) from rfl, nI_10, mr_16 hm h (by omega), hC.2.2.2.2.2.2.2.2.2.2, act_at (f := fun i => S 16 (10 * c + i)) (by omega) (fun i hi => by have := h16 i (by omega) (by omega); omega) hi]
    exact Ag.mk
  | false =>
    rw [if_neg (show ¬ (false = true) by decide)]
    by_cases g1 : z < 0
    · rw [if_pos g1]; exact Ag.mk
    · rw [if_neg g1]
      by_cases g2 : nI (S 15 c) ≤ z
      · rw [if_pos g2]; exact Ag.mk
      · rw [if_neg g2]
        by_cases g3 : z < 10
        · exfalso
          have p1 := rg_if z (S 15 c) false true
          rw [if_neg g1, if_neg g2] at p1
          have p2 := rg_if2 z 10 false true
          rw [if_neg g1, show nI 10 = (10 : Int32) from rfl, if_pos g3] at p2
          have p1' : isL (S 15 c) z = true := by
            cases q : isL (S 15 c) z with
            | true => rfl
            | false => rw [q] at p1; simp at p1
          obtain ⟨i, hi, rfl⟩ := isL_s (by omega) p1'
          have p2' : isL 10 (nI i) = true := by
            cases q : isL 10 (nI i) with
            | true => rfl
            | false => rw [q] at p2; simp at p2
          obtain ⟨j, hj, ej⟩ := isL_s (by omega) p2'
          have := (nI_eq (show i < 2 ^ 31 by omega) (show j < 2 ^ 31 by omega)).mp ej
          have q := inR_n (l := i) (n := min (S 15 c) 10) (by omega) (by omega)
          have q' : isL (min (S 15 c) 10) (nI i) = true := q
          rw [q'] at ez; cases ez
        · rw [if_neg g3]; exact Ag.mk
theorem q_backs (hx : xL LN RF x) (hm : mL LN RF m) (hH : HR (x + 1) 27 M S) (h : MR m M' W S) (hI : SI 60 S) (y z : Int32) : Ag (f_X7_backs LN RF x y z M) (f_X8_backs LN RF m y z M') := by
  have h1 := hI.1
  unfold f_X7_backs f_X8_backs
  simp only [gk_jn]
  rw [hx.1, hH.1.2.2.1, rg_if2, mr_B hm h, t_isInL y (show S 20 4 < 1000 by omega)]
  simp only [Option.bind_some, bI_0]
  cases e : isL (S 20 4) y with
  | false => rw [if_neg (by decide), if_pos rfl]; exact Ag.mk
  | true =>
    rw [if_pos rfl, if_neg (by decide), t_isInK z (n := 2) (by decide)]
    obtain ⟨i, hi, rfl⟩ := isL_s (by omega) e
    simp only [Option.bind_some, bI_0]
    show Ag (if z = 0 then _ else if z = 1 then _ else _) _
    by_cases z0 : z = 0
    · subst z0
      rw [if_pos rfl, if_neg (by decide), if_pos rfl, ha_5 hx.2.1 (by omega), mr_17 hm h (by omega)]
      exact Ag.eq (hH.2.2.2 i hi).1
    · rw [if_neg z0]
      by_cases z1 : z = 1
      · subst z1
        rw [if_pos rfl, if_neg (by decide), if_neg (by decide), ha_6 hx.2.1 (by omega), mr_18 hm h (by omega)]
        exact Ag.eq (hH.2.2.2 i hi).2
      · rw [if_neg z1]
        cases ez : isL 2 z with
        | false => rw [if_pos rfl]; exact Ag.mk
        | true =>
          obtain ⟨j, hj, rfl⟩ := isL_s (by omega) ez
          have : j = 0 ∨ j = 1 := by omega
          rcases this with rfl | rfl
          · exact absurd rfl z0
          · exact absurd rfl z1
end RD
