/-! Bodies of the reference; act and trace on both sides -/
def MT (m : Nat) (M : gk_M) (l : List Nat) : Prop := LR (M.1 m 36) (M.1 (m + 30)) l
def TF (m : Nat) (M M' : gk_M) : Prop := M'.2 = M.2 ∧ ∀ a i, a ≠ m + 30 → ¬ (a = m ∧ i = 36) → M'.1 a i = M.1 a i
theorem TF.rf {m : Nat} {M : gk_M} : TF m M M := ⟨rfl, fun _ _ _ _ => rfl⟩
theorem TF.tr {m : Nat} {A B C : gk_M} (h1 : TF m A B) (h2 : TF m B C) : TF m A C := ⟨h2.1.trans h1.1, fun a i p q => (h2.2 a i p q).trans (h1.2 a i p q)⟩
theorem MR.tf {m : Nat} {M M' : gk_M} {W S : zS} (h : MR m M W S) (hf : TF m M M') : MR m M' W S := MR_out h (fun a h1 h2 => by funext i; exact hf.2 a i (by omega) (by omega))
def MD (m : Nat) (M : gk_M) (l : List Nat) (p : Option (Int32 × gk_M)) (R : Int32 × List Nat) : Prop := ∃ M', p = some (R.1, M') ∧ MT m M' (l ++ R.2) ∧ TF m M M'
theorem MD.eq {m : Nat} {M : gk_M} {l : List Nat} {p : Option (Int32 × gk_M)} {R R' : Int32 × List Nat} (h : MD m M l p R) (e : R = R') : MD m M l p R' := e ▸ h
section MB
variable {LN : Nat → Nat} {RF : Nat → Nat → Nat} {m w : Nat} {W S : zS}
theorem tg (hm : mL LN RF m) {M : gk_M} {l : List Nat} (h : MT m M l) (hl : l.length < 50) {e : Nat} {v : Int32} (hv : v = nI e) : ∃ M', f_X8_traces LN RF m v M = some M' ∧ MT m M' (l ++ [e]) ∧ TF m M M' := by
  subst hv
  unfold f_X8_traces
  simp only [gk_jn]
  rw [h.1, show (50 : Int32) = nI 50 from rfl, if_neg (nI_ge (by omega) (by omega)), hm.2.2.1.2.2.2.2.2.2.1, ast_n (by rw [hm.2.2.2.2.2.2.2.2.2.1]; omega) (by omega)]
  unfold gk_put
  have e4 : (gk_wr M (m + 30) l.length (nI e)).1 m 36 = M.1 m 36 := by rw [wr_1, if_neg (by omega)]
  refine ⟨_, rfl, ?_, rfl, fun a i p q => ?_⟩
  · have : (gk_wr (gk_wr M (m + 30) l.length (nI e)) m 36 ((gk_wr M (m + 30) l.length (nI e)).1 m 36 + 1)).1 m 36 = M.1 m 36 + 1 := by rw [wr_1, if_pos ⟨rfl, rfl⟩, e4]
    unfold MT
    rw [this]
    refine LR.push h (fun i => ?_)
    rw [wr_1, if_neg (by omega), wr_1]
    by_cases g : i = l.length
    · rw [if_pos ⟨rfl, g⟩, if_pos g]
    · rw [if_neg (fun q => g q.2), if_neg g]
  · rw [wr_1, if_neg q, wr_1, if_neg (fun g => p g.1)]
theorem ll1 (l : List Nat) (e : Nat) : (l ++ [e]).length = l.length + 1 := by rw [List.length_append, List.length_cons, List.length_nil]
theorem t_plainHear (hm : mL LN RF m) {M : gk_M} {l : List Nat} (h : MT m M l) (hl : l.length ≤ 49) (x : Int32) : MD m M l (f_X8_plainHear LN RF m (nI w) x M) (x + nI w, [10]) := by
  unfold f_X8_plainHear
  obtain ⟨M1, a1, a2, a3⟩ := tg hm h (by omega) (e := 10) (v := 10) rfl
  rw [a1, Option.bind_some]
  exact ⟨M1, rfl, a2, a3⟩
theorem t_shutHear (hm : mL LN RF m) {M : gk_M} {l : List Nat} (h : MT m M l) (hl : l.length ≤ 48) (x : Int32) : MD m M l (f_X8_shutHear LN RF m (nI w) x M) ((x + nI w) * 3, [30, 10]) := by
  unfold f_X8_shutHear
  obtain ⟨M1, a1, a2, a3⟩ := tg hm h (by omega) (e := 30) (v := 30) rfl
  obtain ⟨M2, b1, b2, b3⟩ := t_plainHear hm (w := w) a2 (by rw [ll1]; omega) x
  rw [a1, Option.bind_some, b1, Option.bind_some]
  exact ⟨M2, rfl, by rw [List.append_assoc] at b2; exact b2, a3.tr b3⟩
theorem t_plainPay (hm : mL LN RF m) (hw : w < 24) {M : gk_M} {l : List Nat} (h : MT m M l) (hR : MR m M W S) (hl : l.length ≤ 49) (x : Int32) : MD m M l (f_X8_plainPay LN RF m (nI w) x M) (x - nI (W 2 w), [12]) := by
  unfold f_X8_plainPay
  obtain ⟨M1, a1, a2, a3⟩ := tg hm h (by omega) (e := 12) (v := 12) rfl
  rw [a1, Option.bind_some, mr_2 hm (hR.tf a3) hw]
  exact ⟨M1, rfl, a2, a3⟩
theorem t_pay (hm : mL LN RF m) (hw : w < 24) (hk : W 1 w < 8) {M : gk_M} {l : List Nat} (h : MT m M l) (hR : MR m M W S) (hl : l.length ≤ 48) (x : Int32) : MD m M l (f_X8_pay LN RF m (nI w) x M) (payS (W 1 w) (nI (W 2 w)) (nI (W 3 w)) x) := by
  unfold f_X8_pay payS
  rw [mr_1 hm hR hw, mr_1 hm hR hw]
  simp only [nI_e5 (show W 1 w < 2 ^ 31 by omega), nI_e7 (show W 1 w < 2 ^ 31 by omega)]
  by_cases e5 : W 1 w = 5
  · rw [if_pos e5, if_pos e5]
    obtain ⟨M1, a1, a2, a3⟩ := tg hm h (by omega) (e := 60) (v := 60) rfl
    obtain ⟨M2, b1, b2, b3⟩ := t_plainPay hm hw a2 (hR.tf a3) (by rw [ll1]; omega) x
    rw [a1, Option.bind_some, b1, Option.bind_some]
    simp only
    rw [mr_3 hm ((hR.tf a3).tf b3) hw]
    exact ⟨M2, rfl, by rw [List.append_assoc] at b2; exact b2, a3.tr b3⟩
  · rw [if_neg e5, if_neg e5]
    by_cases e7 : W 1 w = 7
    · rw [if_pos e7, if_pos e7]
      obtain ⟨M1, a1, a2, a3⟩ := tg hm h (by omega) (e := 80) (v := 80) rfl
      obtain ⟨M2, b1, b2, b3⟩ := t_plainPay hm hw a2 (hR.tf a3) (by rw [ll1]; omega) x
      rw [a1, Option.bind_some, b1, Option.bind_some]
      exact ⟨M2, rfl, by rw [List.append_assoc] at b2; exact b2, a3.tr b3⟩
    · rw [if_neg e7, if_neg e7]
      obtain ⟨M2, b1, b2, b3⟩ := t_plainPay hm hw h hR (by omega) x
      rw [b1, Option.bind_some]
      exact ⟨M2, rfl, b2, b3⟩
theorem t_hear (hm : mL LN RF m) (hw : w < 24) (hk : W 1 w < 8) {M : gk_M} {l : List Nat} (h : MT m M l) (hR : MR m M W S) (hl : l.length ≤ 45) (x : Int32) : MD m M l (f_X8_hear LN RF m (nI w) x M) (heaS (W 1 w) (W 1 w) (nI w) (nI (W 2 w)) (nI (W 3 w)) x) := by
  unfold f_X8_hear heaS
  rw [mr_1 hm hR hw, mr_1 hm hR hw]
  simp only [gk_jn, nI_e3 (show W 1 w < 2 ^ 31 by omega), nI_e2 (show W 1 w < 2 ^ 31 by omega)]
  by_cases e3 : W 1 w = 3
  · rw [if_pos e3, if_neg (by omega), if_pos e3]
    obtain ⟨M1, a1, a2, a3⟩ := tg hm h (by omega) (e := 40) (v := 40) rfl
    obtain ⟨M2, b1, b2, b3⟩ := t_shutHear hm (w := w) a2 (by rw [ll1]; omega) x
    obtain ⟨M3, c1, c2, c3⟩ := t_pay hm hw hk b2 ((hR.tf a3).tf b3) (by simp only [List.length_append, List.length_cons, List.length_nil]; omega) x
    rw [a1, Option.bind_some, b1, Option.bind_some]
    simp only
    rw [c1, Option.bind_some]
    exact ⟨M3, rfl, by simp only [List.append_assoc] at c2; exact c2, (a3.tr b3).tr c3⟩
  · rw [if_neg e3]
    by_cases e2 : W 1 w = 2
    · rw [if_pos e2, if_pos e2]
      obtain ⟨M2, b1, b2, b3⟩ := t_shutHear hm (w := w) h (by omega) x
      rw [b1, Option.bind_some]
      exact ⟨M2, rfl, b2, b3⟩
    · rw [if_neg e2, if_neg e2, if_neg e3]
      obtain ⟨M2, b1, b2, b3⟩ := t_plainHear hm (w := w) h (by omega) x
      rw [b1, Option.bind_some]
      exact ⟨M2, rfl, b2, b3⟩
theorem t_plainTurn (hm : mL LN RF m) (hw : w < 24) (hk : W 1 w < 8) {M : gk_M} {l : List Nat} (h : MT m M l) (hR : MR m M W S) (hl : l.length ≤ 40) (x : Int32) : MD m M l (f_X8_plainTurn LN RF m (nI w) x M) (plaT (W 1 w) (nI w) (nI (W 2 w)) (nI (W 3 w)) x) := by
  unfold f_X8_plainTurn plaT
  obtain ⟨M1, a1, a2, a3⟩ := tg hm h (by omega) (e := 11) (v := 11) rfl
  obtain ⟨M2, b1, b2, b3⟩ := t_hear hm hw hk a2 (hR.tf a3) (by rw [ll1]; omega) x
  rw [a1, Option.bind_some, b1, Option.bind_some]
  exact ⟨M2, rfl, by rw [List.append_assoc] at b2; exact b2, a3.tr b3⟩
theorem t_turn (hm : mL LN RF m) (hw : w < 24) (hk : W 1 w < 8) {M : gk_M} {l : List Nat} (h : MT m M l) (hR : MR m M W S) (hl : l.length ≤ 35) (x : Int32) : MD m M l (f_X8_turn LN RF m (nI w) x M) (turS (W 1 w) (W 1 w) (nI w) (nI (W 2 w)) (nI (W 3 w)) x) := by
  unfold f_X8_turn turS
  rw [mr_1 hm hR hw, mr_1 hm hR hw, mr_1 hm hR hw]
  simp only [nI_e1 (show W 1 w < 2 ^ 31 by omega), nI_e3 (show W 1 w < 2 ^ 31 by omega), nI_e6 (show W 1 w < 2 ^ 31 by omega)]
  by_cases e1 : W 1 w = 1
  · rw [if_pos e1, if_pos e1]
    obtain ⟨M1, a1, a2, a3⟩ := tg hm h (by omega) (e := 20) (v := 20) rfl
    obtain ⟨M2, b1, b2, b3⟩ := t_plainTurn hm hw hk a2 (hR.tf a3) (by rw [ll1]; omega) x
    rw [a1, Option.bind_some, b1, Option.bind_some]
    simp only
    rw [mr_3 hm ((hR.tf a3).tf b3) hw]
    exact ⟨M2, rfl, by rw [List.append_assoc] at b2; exact b2, a3.tr b3⟩
  · rw [if_neg e1, if_neg e1]
    by_cases e3 : W 1 w = 3
    · rw [if_pos e3, if_pos e3]
      obtain ⟨M1, a1, a2, a3⟩ := tg hm h (by omega) (e := 41) (v := 41) rfl
      obtain ⟨M2, b1, b2, b3⟩ := t_plainTurn hm hw hk a2 (hR.tf a3) (by rw [ll1]; omega) (x - nI (W 3 w))
      rw [a1, Option.bind_some, mr_3 hm (hR.tf a3) hw, b1, Option.bind_some]
      exact ⟨M2, rfl, by rw [List.append_assoc] at b2; exact b2, a3.tr b3⟩
    · rw [if_neg e3, if_neg e3]
      by_cases e6 : W 1 w = 6
      · rw [if_pos e6, if_pos e6]
        obtain ⟨M1, a1, a2, a3⟩ := tg hm h (by omega) (e := 70) (v := 70) rfl
        obtain ⟨M2, b1, b2, b3⟩ := t_plainTurn hm hw hk a2 (hR.tf a3) (by rw [ll1]; omega) x
        have hh := hea_l (W 1 w) (W 1 w) (nI w) (nI (W 2 w)) (nI (W 3 w)) x
        obtain ⟨M3, c1, c2, c3⟩ := t_hear hm hw hk b2 ((hR.tf a3).tf b3) (by unfold plaT; simp only [List.length_append, List.length_cons, List.length_nil]; omega) (nI (W 3 w))
        rw [a1, Option.bind_some, b1, Option.bind_some]
        simp only
        rw [mr_3 hm ((hR.tf a3).tf b3) hw, c1, Option.bind_some]
        exact ⟨M3, rfl, by simp only [List.append_assoc] at c2; exact c2, (a3.tr b3).tr c3⟩
      · rw [if_neg e6, if_neg e6]
        obtain ⟨M2, b1, b2, b3⟩ := t_plainTurn hm hw hk h hR (by omega) x
        rw [b1, Option.bind_some]
        exact ⟨M2, rfl, b2, b3⟩
theorem t_plainEnd (hm : mL LN RF m) (hw : w < 24) (hk : W 1 w < 8) {M : gk_M} {l : List Nat} (h : MT m M l) (hR : MR m M W S) (hl : l.length ≤ 28) (x : Int32) : MD m M l (f_X8_plainEnd LN RF m (nI w) x M) (plaE (W 1 w) (nI w) (nI (W 2 w)) (nI (W 3 w)) x) := by
  unfold f_X8_plainEnd plaE
  obtain ⟨M1, a1, a2, a3⟩ := tg hm h (by omega) (e := 13) (v := 13) rfl
  obtain ⟨M2, b1, b2, b3⟩ := t_turn hm hw hk a2 (hR.tf a3) (by rw [ll1]; omega) x
  have ht := tur_l (W 1 w) (W 1 w) (nI w) (nI (W 2 w)) (nI (W 3 w)) x
  obtain ⟨M3, c1, c2, c3⟩ := t_pay hm hw hk b2 ((hR.tf a3).tf b3) (by simp only [List.length_append, List.length_cons, List.length_nil]; omega) x
  rw [a1, Option.bind_some, b1, Option.bind_some]
  simp only
  rw [c1, Option.bind_some]
  exact ⟨M3, rfl, by simp only [List.append_assoc] at c2; exact c2, (a3.tr b3).tr c3⟩
theorem t_end (hm : mL LN RF m) (hw : w < 24) (hk : W 1 w < 8) {M : gk_M} {l : List Nat} (h : MT m M l) (hR : MR m M W S) (hl : l.length ≤ 20) (x : Int32) : MD m M l (f_X8_end LN RF m (nI w) x M) (endB (W 1 w) (W 1 w) (nI w) (nI (W 2 w)) (nI (W 3 w)) x) := by
  unfold f_X8_end endB
  rw [mr_1 hm hR hw]
  simp only [gk_jn]
  rw [mr_1 hm hR hw, mr_1 hm hR hw]
  simp only [nI_e2 (show W 1 w < 2 ^ 31 by omega), nI_e3 (show W 1 w < 2 ^ 31 by omega), nI_e4 (show W 1 w < 2 ^ 31 by omega)]
  by_cases e2 : W 1 w = 2 ∨ W 1 w = 3
  · obtain ⟨M1, a1, a2, a3⟩ := tg hm h (by omega) (e := 31) (v := 31) rfl
    obtain ⟨M2, b1, b2, b3⟩ := t_plainEnd hm hw hk a2 (hR.tf a3) (by rw [ll1]; omega) (x + 1)
    rw [a1, Option.bind_some, b1, Option.bind_some]
    rw [if_pos e2]
    have key : MD m M l (some ((plaE (W 1 w) (nI w) (nI (W 2 w)) (nI (W 3 w)) (x + 1)).1, M2)) ((plaE (W 1 w) (nI w) (nI (W 2 w)) (nI (W 3 w)) (x + 1)).1, 31 :: (plaE (W 1 w) (nI w) (nI (W 2 w)) (nI (W 3 w)) (x + 1)).2) := ⟨M2, rfl, by rw [List.append_assoc] at b2; exact b2, a3.tr b3⟩
    rcases e2 with e | e
    · rw [if_pos e]; exact key
    · rw [if_neg (by omega), if_pos e]; exact key
  · rw [if_neg (by omega), if_neg (by omega), if_neg e2]
    by_cases e4 : W 1 w = 4
    · rw [if_pos e4, if_pos e4]
      obtain ⟨M1, a1, a2, a3⟩ := tg hm h (by omega) (e := 50) (v := 50) rfl
      obtain ⟨M2, b1, b2, b3⟩ := t_pay hm hw hk a2 (hR.tf a3) (by rw [ll1]; omega) x
      have hp := pay_l (W 1 w) (nI (W 2 w)) (nI (W 3 w)) x
      obtain ⟨M3, c1, c2, c3⟩ := t_plainEnd hm hw hk b2 ((hR.tf a3).tf b3) (by simp only [List.length_append, List.length_cons, List.length_nil]; omega) x
      rw [a1, Option.bind_some, b1, Option.bind_some]
      simp only
      rw [c1, Option.bind_some]
      exact ⟨M3, rfl, by simp only [List.append_assoc] at c2; exact c2, (a3.tr b3).tr c3⟩
    · rw [if_neg e4, if_neg e4]
      obtain ⟨M2, b1, b2, b3⟩ := t_plainEnd hm hw hk h hR (by omega) x
      rw [b1, Option.bind_some]
      exact ⟨M2, rfl, b2, b3⟩
/-- act -/
def actS (W : zS) (w ac : Nat) (x : Int32) : Int32 × List Nat := if ac = 0 then heaS (W 1 w) (W 1 w) (nI w) (nI (W 2 w)) (nI (W 3 w)) x else if ac = 1 then turS (W 1 w) (W 1 w) (nI w) (nI (W 2 w)) (nI (W 3 w)) x else if ac = 2 then payS (W 1 w) (nI (W 2 w)) (nI (W 3 w)) x else endB (W 1 w) (W 1 w) (nI w) (nI (W 2 w)) (nI (W 3 w)) x
theorem act_l (W : zS) (w ac : Nat) (x : Int32) : (actS W w ac x).2.length ≤ 20 := by
  have h1 := hea_l (W 1 w) (W 1 w) (nI w) (nI (W 2 w)) (nI (W 3 w)) x
  have h2 := tur_l (W 1 w) (W 1 w) (nI w) (nI (W 2 w)) (nI (W 3 w)) x
  have h3 := pay_l (W 1 w) (nI (W 2 w)) (nI (W 3 w)) x
  have h4 := end_l (W 1 w) (W 1 w) (nI w) (nI (W 2 w)) (nI (W 3 w)) x
  unfold actS
  split
  · omega
  · split
    · omega
    · split <;> omega
theorem t_act (hm : mL LN RF m) {M : gk_M} (hR : MR m M W S) (hW : WB W) (a1 a2 a3 : Int32) (h1 : isL (W 6 0) a1 = true) (h2 : isL 4 a2 = true) : ∃ M', f_X8_act LN RF m a1 a2 a3 M = some ((actS W (tN a1) (tN a2) a3).1, M') ∧ MT m M' (actS W (tN a1) (tN a2) a3).2 ∧ M'.1 m 25 = 0 ∧ M'.2 = M.2 ∧ ∀ a i, a ≠ m + 30 → ¬ (a = m ∧ (i = 36 ∨ i = 25)) → M'.1 a i = M.1 a i := by
  have h24 := hW.1
  obtain ⟨w, hw, rfl⟩ := isL_s (by omega) h1
  obtain ⟨ac, hac, rfl⟩ := isL_s (by omega) h2
  have hk := (hW.2 w hw).2.1
  unfold f_X8_act
  rw [t_isWish hm hR, h1, t_isInK (n := 4) _ rfl, h2, tN_n (by omega), tN_n (by omega)]
  simp only [Option.bind_some, gk_jn, bI_0, if_neg tf, gk_put, nI_e0 (show ac < 2 ^ 31 by omega), nI_e1 (show ac < 2 ^ 31 by omega), nI_e2 (show ac < 2 ^ 31 by omega)]
  have hR0 : MR m (gk_wr M m 36 0) W S := hR.st
  have h0 : MT m (gk_wr M m 36 0) [] := ⟨by rw [wr_1, if_pos ⟨rfl, rfl⟩]; rfl, fun i hi => absurd hi (by simp)⟩
  have fin : ∀ (p : Option (Int32 × gk_M)) (R : Int32 × List Nat), MD m (gk_wr M m 36 0) [] p R → ∃ M', (p.bind fun r30 => (f_X8_done LN RF m r30.1 r30.2).bind fun r29 => some (r29.1, r29.2)) = some (R.1, M') ∧ MT m M' R.2 ∧ M'.1 m 25 = 0 ∧ M'.2 = M.2 ∧ ∀ a i, a ≠ m + 30 → ¬ (a = m ∧ (i = 36 ∨ i = 25)) → M'.1 a i = M.1 a i := by
    rintro p R ⟨M1, p1, p2, p3⟩
    rw [p1, Option.bind_some]
    unfold f_X8_done gk_put
    simp only [Option.bind_some]
    refine ⟨_, rfl, ?_, by rw [wr_1, if_pos ⟨rfl, rfl⟩], p3.1, fun a i h1 h2 => ?_⟩
    · have e1 : (gk_wr M1 m 25 0).1 (m + 30) = M1.1 (m + 30) := by funext i; rw [wr_1, if_neg (by omega)]
      unfold MT
      rw [e1, wr_1, if_neg (by omega)]
      exact p2
    · rw [wr_1, if_neg (by omega), p3.2 a i h1 (by omega), wr_1, if_neg (by omega)]
  unfold actS
  by_cases c0 : ac = 0
  · rw [if_pos c0, if_pos c0]
    exact fin _ _ (t_hear hm (by omega) hk h0 hR0 (by simp) a3)
  · rw [if_neg c0, if_neg c0]
    by_cases c1 : ac = 1
    · rw [if_pos c1, if_pos c1]
      exact fin _ _ (t_turn hm (by omega) hk h0 hR0 (by simp) a3)
    · rw [if_neg c1, if_neg c1]
      by_cases c2 : ac = 2
      · rw [if_pos c2, if_pos c2]
        exact fin _ _ (t_pay hm (by omega) hk h0 hR0 (by simp) a3)
      · rw [if_neg c2, if_neg c2]
        exact fin _ _ (t_end hm (by omega) hk h0 hR0 (by simp) a3)
theorem c_act {x : Nat} (hx : xL LN RF x) (hb : RF x 3 = x + 277 ∧ bL LN RF (x + 277)) {M : gk_M} (hB : BR (x + 2) M W) (hW : WB W) (a1 a2 a3 : Int32) (h1 : isL (W 6 0) a1 = true) (h2 : isL 4 a2 = true) : ∃ M', f_X7_act LN RF x a1 a2 a3 M = some ((actS W (tN a1) (tN a2) a3).1, M') ∧ BT (x + 277) M' (actS W (tN a1) (tN a2) a3).2 ∧ M'.1 x 9 = 0 ∧ M'.2 = M.2 ∧ ∀ a i, a ≠ x + 277 → a ≠ x + 278 → ¬ (a = x ∧ i = 9) → M'.1 a i = M.1 a i := by
  have h24 := hW.1
  have hrg := rg_if3 a2 3 4 rfl (some (0 : Int32)) (some 1)
  rw [h2, if_pos rfl] at hrg
  obtain ⟨w, hw, rfl⟩ := isL_s (by omega) h1
  obtain ⟨ac, hac, rfl⟩ := isL_s (by omega) h2
  have hk := (hW.2 w hw).2.1
  unfold f_X7_act
  rw [hx.1, hx.2.1.1.1, u_holds hB, h1, tN_n (by omega), tN_n (by omega)]
  simp only [Option.bind_some, gk_jn, bI_0, if_neg tf]
  rw [if_neg (nI_pos (by omega)), show (3 : Int32) = nI 3 from rfl, if_pos (nI_le (by omega) (by omega)), ha_w hx.2.1 (by omega), hb.1]
  unfold f_X0_run
  simp only [gk_put]
  obtain ⟨M0, hM0⟩ : ∃ M0, M0 = gk_wr (gk_wr (gk_wr (gk_wr (gk_wr M (x + 277) 1 0) (x + 277) 2 ((gk_wr M (x + 277) 1 0).1 (x + 2 + 2 + w) 1)) (x + 277) 3 (nI w)) (x + 277) 4 ((gk_wr (gk_wr (gk_wr M (x + 277) 1 0) (x + 277) 2 ((gk_wr M (x + 277) 1 0).1 (x + 2 + 2 + w) 1)) (x + 277) 3 (nI w)).1 (x + 2 + 2 + w) 2)) (x + 277) 5 ((gk_wr (gk_wr (gk_wr (gk_wr M (x + 277) 1 0) (x + 277) 2 ((gk_wr M (x + 277) 1 0).1 (x + 2 + 2 + w) 1)) (x + 277) 3 (nI w)) (x + 277) 4 ((gk_wr (gk_wr (gk_wr M (x + 277) 1 0) (x + 277) 2 ((gk_wr M (x + 277) 1 0).1 (x + 2 + 2 + w) 1)) (x + 277) 3 (nI w)).1 (x + 2 + 2 + w) 2)).1 (x + 2 + 2 + w) 3) := ⟨_, rfl⟩
  rw [← hM0]
  have f0 : ∀ a, a ≠ x + 277 → M0.1 a = M.1 a := fun a ha => by rw [hM0]; funext i; simp only [wr_1, ha, false_and, if_false]
  have hbm : BM (x + 277) M0 (W 1 w) (nI w) (nI (W 2 w)) (nI (W 3 w)) := by
    have hne : ¬ (x + 2 + 2 + w = x + 277) := by omega
    rw [hM0]
    refine ⟨?_, ?_, ?_, ?_⟩ <;> simp only [wr_1, hne, false_and, if_false, true_and, if_true, show ¬ ((2 : Nat) = 5) by decide, show ¬ ((2 : Nat) = 4) by decide, show ¬ ((2 : Nat) = 3) by decide, show ¬ ((3 : Nat) = 5) by decide, show ¬ ((3 : Nat) = 4) by decide, show ¬ ((4 : Nat) = 5) by decide]
    · exact hB.2 w 1 hw (by decide)
    · exact hB.2 w 2 hw (by decide)
    · exact hB.2 w 3 hw (by decide)
  have h0 : BT (x + 277) M0 [] := ⟨by rw [hM0]; simp [wr_1]; rfl, fun i hi => absurd hi (by simp)⟩
  have fin : ∀ (p : Option (Int32 × gk_M)) (R : Int32 × List Nat), BD (x + 277) M0 [] p R → ∃ M', ((p.bind fun r26 => some (r26.1, r26.2)).bind fun r33 => (f_X7_done LN RF x r33.1 r33.2).bind fun r34 => some (r34.1, r34.2)) = some (R.1, M') ∧ BT (x + 277) M' R.2 ∧ M'.1 x 9 = 0 ∧ M'.2 = M.2 ∧ ∀ a i, a ≠ x + 277 → a ≠ x + 278 → ¬ (a = x ∧ i = 9) → M'.1 a i = M.1 a i := by
    rintro p R ⟨M1, p1, p2, p3⟩
    rw [p1, Option.bind_some, Option.bind_some]
    unfold f_X7_done gk_put
    simp only [Option.bind_some]
    refine ⟨_, rfl, ?_, by rw [wr_1, if_pos ⟨rfl, rfl⟩], by show M1.2 = M.2; rw [p3.1, hM0]; rfl, fun a i h1 h2 h3 => ?_⟩
    · have e1 : (gk_wr M1 x 9 0).1 (x + 277 + 1) = M1.1 (x + 277 + 1) := by funext i; rw [wr_1, if_neg (by omega)]
      unfold BT
      rw [e1, wr_1, if_neg (by omega)]
      exact p2
    · rw [wr_1, if_neg h3, p3.2 a i (by omega) (by omega), f0 a h1]
  rw [hbm.1, sw0 (by omega)]
  unfold actS
  by_cases c0 : ac = 0
  · rw [if_pos c0, if_pos c0]
    exact fin _ _ (c_hear hb.2 hk h0 hbm (by simp) hk 7 a3)
  · rw [if_neg c0, if_neg c0]
    by_cases c1 : ac = 1
    · rw [if_pos c1, if_pos c1]
      exact fin _ _ (c_turn hb.2 hk h0 hbm (by simp) hk 5 a3)
    · rw [if_neg c1, if_neg c1]
      by_cases c2 : ac = 2
      · rw [if_pos c2, if_pos c2]
        exact fin _ _ (c_pay hb.2 h0 hbm (by simp) hk 8 a3)
      · rw [if_neg c2, if_neg c2]
        exact fin _ _ (c_end hb.2 hk h0 hbm (by simp) hk 3 a3)
/-- trace -/
theorem q_trace {x : Nat} (hb : RF x 3 = x + 277 ∧ bL LN RF (x + 277)) (hm : mL LN RF m) {M M' : gk_M} {l : List Nat} (h : BT (x + 277) M l) (h' : MT m M' l) (hl : l.length ≤ 20) (y : Int32) : Ag (f_X7_trace LN RF x y M) (f_X8_trace LN RF m y M') := by
  unfold f_X7_trace f_X8_trace
  rw [hb.1, h.1, h'.1]
  simp only [gk_jn]
  rw [show (50 : Int32) = nI 50 from rfl, if_neg (nI_ge (by omega) (by omega)), rg_if, t_isInL y (by omega), Option.bind_some]
  simp only [bI_0]
  cases e : isL l.length y with
  | false => rw [if_neg (by decide), if_pos rfl]; exact Ag.mk
  | true =>
    obtain ⟨i, hi, rfl⟩ := isL_s (by omega) e
    rw [if_pos rfl, if_neg tf, if_pos (nI_lt (by omega) (by omega)), hb.2.1, ald_n (by rw [hb.2.2]; omega) (by omega), hm.2.2.1.2.2.2.2.2.2.1, ald_n (by rw [hm.2.2.2.2.2.2.2.2.2.1]; omega) (by omega), h.2 i hi, h'.2 i hi]
    exact Ag.mk
end MB
