/-! The reference's tick, dial, take, down as answers over the abstract state -/
theorem inR_l {x : Int32} {n : Nat} (hn : n < 1000) (h : inR x 0 ((nI n).toInt - 1) = true) : ∃ l, l < n ∧ x = nI l := by
  unfold inR at h
  simp only [Bool.and_eq_true, decide_eq_true_eq, nI_toInt (show n < 2 ^ 31 by omega)] at h
  refine ⟨x.toInt.toNat, by omega, ?_⟩
  apply Int32.toInt_inj.mp
  rw [nI_toInt (by omega)]; omega
theorem inR_n {l n : Nat} (hn : n < 1000) (h : l < n) : inR (nI l) 0 ((nI n).toInt - 1) = true := by
  unfold inR
  simp only [Bool.and_eq_true, decide_eq_true_eq, nI_toInt (show n < 2 ^ 31 by omega), nI_toInt (show l < 2 ^ 31 by omega)]
  omega
def isL (n : Nat) (x : Int32) : Bool := inR x 0 ((nI n).toInt - 1)
def tN (x : Int32) : Nat := x.toInt.toNat
theorem tN_n {l : Nat} (h : l < 2 ^ 31) : tN (nI l) = l := by unfold tN; rw [nI_toInt h]; omega
/-- answer, status, state -/
def dialR (W : zS) (N : Nat) (S : zS) (x y : Int32) : Int32 × Nat × zS :=
  if isL (S 20 0) x = false ∨ isL (S 20 0) y = false then (-1, 1, S) else if N ≤ S 20 2 then (-1, 2, S) else if cOf S (tN x) ≠ 0 then (-1, 3, S) else (nI (S 20 2), 0, diaS W S (tN x) (tN y))
def takeR (S : zS) (x : Int32) : Int32 × Nat × zS :=
  if isL (S 20 0) x = false then (-1, 1, S) else if rinS S (tN x) = false then (-1, 3, S) else (nI (cOf S (tN x) - 1), 0, takS S (tN x))
def downR (S : zS) (x : Int32) : Int32 × Nat × zS :=
  if isL (S 20 0) x = false then (-1, 1, S) else if cOf S (tN x) = 0 ∨ rinS S (tN x) = true then (-1, 3, S) else (nI (cOf S (tN x) - 1), 0, dowS S (tN x))
def tickR (W : zS) (N : Nat) (S : zS) : Int32 × Nat × zS := if 1000 ≤ S 20 3 then (-1, 2, S) else (nI (S 20 3 + 1), 0, tckS W N S)
/-- what a public call of the reference's house may write -/
def FrU (m : Nat) (M M' : gk_M) : Prop := M'.2 = M.2 ∧ ∀ a j, (a ≤ m + 6 ∨ m + 22 ≤ a) → a ≠ m + 24 → a ≠ m + 25 → ¬ (a = m ∧ j = 25) → M'.1 a j = M.1 a j
theorem FrT.u {m : Nat} {M M' : gk_M} (h : FrT m M M') : FrU m M M' := ⟨h.1, fun a j x y z _ => by rw [h.2 a x y z]⟩
theorem FrU.tr {m : Nat} {A B C : gk_M} (h1 : FrU m A B) (h2 : FrU m B C) : FrU m A C := ⟨h2.1.trans h1.1, fun a j x y z w => (h2.2 a j x y z w).trans (h1.2 a j x y z w)⟩
theorem FrU.st {m : Nat} {M : gk_M} {v : Int32} : FrU m M (gk_wr M m 25 v) := ⟨rfl, fun a j _ _ _ w => by rw [wr_1, if_neg w]⟩
/-- a call's outcome in the reference's memory -/
def MO (m : Nat) (W : zS) (M : gk_M) (o : Option (Int32 × gk_M)) (R : Int32 × Nat × zS) : Prop := ∃ M', o = some (R.1, M') ∧ MR m M' W R.2.2 ∧ M'.1 m 25 = nI R.2.1 ∧ FrU m M M'
section MPB
variable {LN : Nat → Nat} {RF : Nat → Nat → Nat} {m : Nat} {W : zS}
theorem MR.st {M : gk_M} {S : zS} {v : Int32} {k : Nat} (h : MR m M W S) : MR m (gk_wr M m k v) W S := MR_out h (fun a ha _ => by funext j; rw [wr_1, if_neg (by omega)])
theorem ref_MO {M : gk_M} {S : zS} (h : MR m M W S) (s : Nat) {x : Int32} (hx : x = nI s) : MO m W M ((f_X8_refused LN RF m x M).bind fun r => some (r.1, r.2)) (-1, s, S) := by
  subst hx
  unfold f_X8_refused gk_put
  exact ⟨_, rfl, h.st, by rw [wr_1, if_pos ⟨rfl, rfl⟩], FrU.st⟩
theorem done_MO {M M1 : gk_M} {S : zS} (h : MR m M1 W S) (hf : FrU m M M1) (r : Int32) : MO m W M ((f_X8_done LN RF m r M1).bind fun r => some (r.1, r.2)) (r, 0, S) := by
  unfold f_X8_done gk_put
  exact ⟨_, rfl, h.st, by rw [wr_1, if_pos ⟨rfl, rfl⟩]; rfl, hf.tr FrU.st⟩
theorem t_dial (hL : mL LN RF m) (hWB : WB W) {S : zS} {M : gk_M} (h : MR m M W S) (hI : SI 60 S) (hW : WN W S) (x y : Int32) : MO m W M (f_X8_dial LN RF m x y M) (dialR W 60 S x y) := by
  have hS := hI.sb (Nat.le_refl 60)
  have hs1 := hS.1
  unfold f_X8_dial
  rw [t_isLine hL h]
  simp only [Option.bind_some, gk_jn, t_isLine hL h, mr_C hL h, nI_e60 (show S 20 2 < 2 ^ 31 by omega)]
  unfold dialR
  show MO m W M (if bI (isL (S 20 0) x) = 0 then _ else if bI (isL (S 20 0) y) = 0 then _ else _) _
  simp only [bI_0]
  cases ex : isL (S 20 0) x with
  | false => rw [if_pos rfl, if_pos (Or.inl rfl)]; exact ref_MO h 1 rfl
  | true =>
    rw [if_neg (by decide)]
    cases ey : isL (S 20 0) y with
    | false => rw [if_pos rfl, if_pos (Or.inr rfl)]; exact ref_MO h 1 rfl
    | true =>
      rw [if_neg (show ¬ (true = false) by decide), if_neg (show ¬ (true = false ∨ true = false) by simp)]
      obtain ⟨l, hl, rfl⟩ := inR_l (by omega) ex
      obtain ⟨t, ht, rfl⟩ := inR_l (by omega) ey
      rw [tN_n (by omega), tN_n (by omega)]
      by_cases e1 : S 20 2 = 60
      · rw [if_pos e1, if_pos (by omega)]; exact ref_MO h 2 rfl
      · rw [if_neg e1, if_neg (by omega), t_isFree hL h hS (by omega)]
        simp only [Option.bind_some, bI_0]
        by_cases e2 : cOf S l = 0
        · rw [if_neg (by simp [e2]), if_neg (by simp [e2])]
          obtain ⟨M1, q1, q2, q3⟩ := t_dials hL hWB (Nat.le_refl 60) (l := l) (t := t) h hI hW hl ht e2 (by omega)
          rw [q1]
          simp only [Option.bind_some]
          exact done_MO q2 q3.t.u _
        · rw [if_pos (by simp [e2]), if_pos e2]; exact ref_MO h 3 rfl
theorem rin_c {S : zS} {l c : Nat} (hc : cOf S l = c + 1) : rinS S l = (S 12 c).testBit l := by unfold rinS; rw [hc]; simp
theorem SI.tak {N : Nat} {S : zS} {l c : Nat} (h : SI N S) (hl : l < S 20 0) (hc : cOf S l = c + 1) (hr : (S 12 c).testBit l = true) : SI N (su (su (su S 7 c 1) 12 c 0) 13 c (l + 1)) := by
  obtain ⟨hcn, hin⟩ := cOf_s hc
  have sm : Sm S (su (su (su S 7 c 1) 12 c 0) 13 c (l + 1)) c := (Sm.fld (by omega)).tr ((Sm.fld (by omega)).tr (Sm.fld (by omega)))
  obtain ⟨c1, c2, c3, c4, c5, c6, c7, c8, c9, c10, c11, c12, c13, c14, c15⟩ := h.2.1 c hcn
  have hlc : l ≠ S 6 c := fun g => by rw [g, c13] at hr; cases hr
  have h70 : S 7 c = 0 := by
    rcases Nat.eq_zero_or_pos (S 7 c) with g | g
    · exact g
    · have := c10 (by omega); rw [this] at hr; simp at hr
  have v7 : su (su (su S 7 c 1) 12 c 0) 13 c (l + 1) 7 c = 1 := by simp [su_eq]
  have v12 : su (su (su S 7 c 1) 12 c 0) 13 c (l + 1) 12 c = 0 := by simp [su_eq]
  have v13 : su (su (su S 7 c 1) 12 c 0) 13 c (l + 1) 13 c = l + 1 := by simp [su_eq]
  have vo : ∀ k i, k ≠ 7 → k ≠ 12 → k ≠ 13 → su (su (su S 7 c 1) 12 c 0) 13 c (l + 1) k i = S k i := fun k i h1 h2 h3 => by rw [su_k h3, su_k h2, su_k h1]
  refine h.one sm ?_ (fun x b hb hbn h1 h2 => ?_) (fun x b hb hbn h1 h2 => ?_)
  · unfold CI
    rw [v7, v12, v13]
    simp only [vo 6 _ (by decide) (by decide) (by decide), vo 9 _ (by decide) (by decide) (by decide), vo 10 _ (by decide) (by decide) (by decide), vo 11 _ (by decide) (by decide) (by decide), vo 14 _ (by decide) (by decide) (by decide), vo 15 _ (by decide) (by decide) (by decide), vo 16 _ (by decide) (by decide) (by decide), vo 20 _ (by decide) (by decide) (by decide)]
    exact ⟨c1, by omega, c3, c4, c5, by simp, by omega, c8, c9, fun _ => trivial, by omega, by omega, by simp, by omega, c15⟩
  · have : inn S x c = true := by
      unfold inn at h1 ⊢
      rw [v7, v12, v13, vo 6 _ (by decide) (by decide) (by decide)] at h1
      simp at h1
      rcases h1 with g | g
      · simp [h70, g]
      · subst g; simp [h70, hr]
    exact hb (h.2.2.1 x b c hbn hcn h2 this)
  · unfold knk at h1; rw [v7] at h1; simp at h1
theorem t_take (hL : mL LN RF m) {S : zS} {M : gk_M} (h : MR m M W S) (hI : SI 60 S) (x : Int32) : MO m W M (f_X8_take LN RF m x M) (takeR S x) := by
  have hS := hI.sb (Nat.le_refl 60)
  have hs1 := hS.1
  unfold f_X8_take
  rw [t_isLine hL h]
  simp only [Option.bind_some, gk_jn]
  unfold takeR
  show MO m W M (if bI (isL (S 20 0) x) = 0 then _ else _) _
  simp only [bI_0]
  cases ex : isL (S 20 0) x with
  | false => rw [if_pos rfl, if_pos rfl]; exact ref_MO h 1 rfl
  | true =>
    rw [if_neg (by decide), if_neg (by decide)]
    obtain ⟨l, hl, rfl⟩ := inR_l (by omega) ex
    rw [tN_n (by omega), t_callOf hL h hS (by omega)]
    have := cOf_le S l
    simp only [Option.bind_some, nN_lt0 (show cOf S l < 2 ^ 31 by omega)]
    cases hc : cOf S l with
    | zero => rw [if_pos rfl, if_pos (by unfold rinS; rw [hc]; rfl)]; exact ref_MO h 3 rfl
    | succ c =>
      obtain ⟨hcn, hin⟩ := cOf_s hc
      have hbc := hS.2.1 c hcn
      rw [if_neg (by omega)]
      simp only [nN_s, mr_12 hL h (show c < 60 by omega), bit_ge _ hbc.2.2.2.1 l (show l < 8 by omega), bI_0, rin_c hc, Nat.add_sub_cancel]
      cases hr : (S 12 c).testBit l with
      | false => rw [if_pos rfl, if_pos rfl]; exact ref_MO h 3 rfl
      | true =>
        rw [if_neg (by decide), if_neg (by decide), mw_7 hL (by omega), mw_12 hL (by omega), mw_13 hL (by omega)]
        have hM := MR_wr13 (i := c) (v := l + 1) (MR_wr (k := 12) (i := c) (v := 0) (MR_wr (k := 7) (i := c) (v := 1) h (by decide) (by decide) (by decide)) (by decide) (by decide) (by decide))
        rw [nN_s] at hM
        have hI2 := hI.tak hl hc hr
        have key : ∀ M9, MR m M9 W (su (su (su S 7 c 1) 12 c 0) 13 c (l + 1)) → FrU m M M9 → MO m W M ((f_X8_settles LN RF m M9).bind fun r35 => (f_X8_done LN RF m (nI c) r35).bind fun r36 => some (r36.1, r36.2)) (nI c, 0, takS S l) := by
          intro M9 h9 hf
          obtain ⟨M2, p1, p2, p3⟩ := t_settles hL (Nat.le_refl 60) h9 hI2
          rw [p1]
          simp only [Option.bind_some]
          have : takS S l = settS (su (su (su S 7 c 1) 12 c 0) 13 c (l + 1)) := by unfold takS; rw [hc]; simp
          rw [this]
          exact done_MO p2 (hf.tr p3.t.u) _
        exact key _ hM (((Fr.rf.wr (by omega)).wr (by omega)).wr (by omega)).t.u
theorem t_down (hL : mL LN RF m) {S : zS} {M : gk_M} (h : MR m M W S) (hI : SI 60 S) (x : Int32) : MO m W M (f_X8_down LN RF m x M) (downR S x) := by
  have hS := hI.sb (Nat.le_refl 60)
  have hs1 := hS.1
  unfold f_X8_down
  rw [t_isLine hL h]
  simp only [Option.bind_some, gk_jn]
  unfold downR
  show MO m W M (if bI (isL (S 20 0) x) = 0 then _ else _) _
  simp only [bI_0]
  cases ex : isL (S 20 0) x with
  | false => rw [if_pos rfl, if_pos rfl]; exact ref_MO h 1 rfl
  | true =>
    rw [if_neg (by decide), if_neg (by decide)]
    obtain ⟨l, hl, rfl⟩ := inR_l (by omega) ex
    rw [tN_n (by omega), t_callOf hL h hS (by omega)]
    have := cOf_le S l
    simp only [Option.bind_some, nN_lt0 (show cOf S l < 2 ^ 31 by omega)]
    cases hc : cOf S l with
    | zero => rw [if_pos rfl, if_pos (Or.inl rfl)]; exact ref_MO h 3 rfl
    | succ c =>
      obtain ⟨hcn, hin⟩ := cOf_s hc
      have hbc := hS.2.1 c hcn
      rw [if_neg (by omega)]
      simp only [nN_s, mr_12 hL h (show c < 60 by omega), bit_ge _ hbc.2.2.2.1 l (show l < 8 by omega), bI_1, rin_c hc, Nat.add_sub_cancel]
      cases hr : (S 12 c).testBit l with
      | true => rw [if_pos rfl, if_pos (Or.inr rfl)]; exact ref_MO h 3 rfl
      | false =>
        rw [if_neg (by decide), if_neg (by simp)]
        obtain ⟨M1, q1, q2, q3⟩ := t_ends hL h (c := c) (why := 4) (by omega)
        rw [show (4 : Int32) = nI 4 from rfl, q1]
        simp only [Option.bind_some]
        obtain ⟨M2, p1, p2, p3⟩ := t_settles hL (Nat.le_refl 60) q2 (hI.fin hcn)
        rw [p1]
        simp only [Option.bind_some]
        have : dowS S l = settS (endS S c 4) := by unfold dowS; rw [hc]; simp
        rw [this]
        exact done_MO p2 (q3.tr p3).t.u _
theorem lp_tk42_s (hL : mL LN RF m) {c : Nat} (hc : c < 60) {K : gk_M → Option (Int32 × gk_M)} : ∀ (r n i : Nat) (S : zS) (M : gk_M), MR m M W S → S 7 c = 1 → S 9 c ≤ 8 → (∀ j, j < S 9 c → S 11 (9 * c + j) < 8) → i + r = S 9 c → r < n → ∃ M', lp_X8_tick_42 LN RF m (nI c) K n (nI i, M) = K M' ∧ MR m M' W (pay1 c r i S) ∧ Fr m M M'
  | r, 0, i, S, M, _, _, _, _, _, g => absurd g (by omega)
  | 0, n + 1, i, S, M, h, h7, h9, hp, g1, g2 => by
    refine ⟨M, ?_, h, Fr.rf⟩
    rw [lp_X8_tick_42, mr_9 hL h hc, if_pos (nI_le (by omega) (by omega))]
  | r + 1, n + 1, i, S, M, h, h7, h9, hp, g1, g2 => by
    have hpi := hp i (by omega)
    rw [lp_X8_tick_42, mr_9 hL h hc, if_neg (nI_ge (by omega) (by omega)), mr_7 hL h hc, h7, if_pos (show nI 1 = 1 from rfl), n9, mr_11 hL h (by omega), mr_19 hL h hpi, nI_1, mw_19 hL hpi, nI_1]
    have h2 := MR_wr (k := 19) (i := S 11 (9 * c + i)) (v := S 19 (S 11 (9 * c + i)) + 1) h (by decide) (by decide) (by decide)
    rw [pay1]
    obtain ⟨M', q1, q2, q3⟩ := lp_tk42_s hL hc (K := K) r n (i + 1) (su S 19 (S 11 (9 * c + i)) (S 19 (S 11 (9 * c + i)) + 1)) _ h2 (by rw [su_k (by decide)]; exact h7) (by rw [su_k (by decide)]; exact h9) (fun j hj => by rw [su_k (by decide)] at hj ⊢; exact hp j hj) (by rw [su_k (by decide)]; omega) (by omega)
    exact ⟨M', q1, q2, (Fr.rf.wr (by omega)).tr q3⟩
theorem lp_tk42_n (hL : mL LN RF m) {c : Nat} (hc : c < 60) {K : gk_M → Option (Int32 × gk_M)} {S : zS} {M : gk_M} (h : MR m M W S) (h7 : S 7 c ≠ 1) (h7b : S 7 c ≤ 3) (h9 : S 9 c ≤ 8) {n : Nat} : lp_X8_tick_42 LN RF m (nI c) K (n + 1) (nI 0, M) = K M := by
  rw [lp_X8_tick_42, mr_9 hL h hc]
  by_cases e : S 9 c ≤ 0
  · rw [if_pos (nI_le e (by omega))]
  · rw [if_neg (nI_ge (by omega) (by omega)), mr_7 hL h hc]
    simp only [nI_e1 (show S 7 c < 2 ^ 31 by omega)]
    rw [if_neg h7]
theorem lp_tk30_s (hL : mL LN RF m) {K : gk_M → Option (Int32 × gk_M)} : ∀ (r n c : Nat) (S : zS) (M : gk_M), MR m M W S → SI 60 S → c + r = S 20 2 → r < n → ∃ M', lp_X8_tick_30 LN RF m K n (nI c, M) = K M' ∧ MR m M' W (chgS r c S) ∧ Fr m M M'
  | r, 0, c, S, M, _, _, _, g => absurd g (by omega)
  | 0, n + 1, c, S, M, h, hI, g1, g2 => by
    have := hI.1
    refine ⟨M, ?_, h, Fr.rf⟩
    rw [lp_X8_tick_30, mr_C hL h, if_pos (nI_le (by omega) (by omega))]
  | r + 1, n + 1, c, S, M, h, hI, g1, g2 => by
    have h1 := hI.1
    obtain ⟨c1, c2, c3, c4, -⟩ := hI.2.1 c (by omega)
    rw [lp_X8_tick_30, mr_C hL h, if_neg (nI_ge (by omega) (by omega))]
    simp only [gk_jn, nI_1, nI_z]
    rw [chgS]
    by_cases e : S 7 c = 1
    · rw [if_pos e]
      obtain ⟨M1, q1, q2, q3⟩ := lp_tk42_s hL (show c < 60 by omega) (K := fun y3 => lp_X8_tick_30 LN RF m K n (nI (c + 1), y3)) (S 9 c) gk_fuel 0 S M h e c3 (fun j hj => by have := (c4 j hj).2; omega) (by omega) (fuel_gt (by omega))
      rw [q1]
      have e19 := e19_pay c (S 9 c) 0 S
      obtain ⟨M2, p1, p2, p3⟩ := lp_tk30_s hL (K := K) r n (c + 1) (pay1 c (S 9 c) 0 S) M1 q2 (e19.si hI) (by rw [e19 20 (by decide)]; omega) (by omega)
      exact ⟨M2, p1, p2, q3.tr p3⟩
    · rw [if_neg e]
      have := lp_tk42_n hL (show c < 60 by omega) (K := fun y3 => lp_X8_tick_30 LN RF m K n (nI (c + 1), y3)) h e c2 c3 (n := 2999)
      rw [gk_fuel_eq, this]
      exact lp_tk30_s hL (K := K) r n (c + 1) S M h hI (by omega) (by omega)
theorem lp_tk96_s (hL : mL LN RF m) (hWB : WB W) {K : gk_M → Option (Int32 × gk_M)} : ∀ (r n c : Nat) (S : zS) (M : gk_M), MR m M W S → SI 60 S → R1 S → Sd S → WN W S → c + r = S 20 2 → Rg S c → r < n → ∃ M', lp_X8_tick_96 LN RF m K n (nI c, M) = K M' ∧ MR m M' W (rgaS W r c S) ∧ Fr m M M'
  | r, 0, c, S, M, _, _, _, _, _, _, _, g => absurd g (by omega)
  | 0, n + 1, c, S, M, h, hI, hR, hD, hW, g1, hg, g2 => by
    have := hI.1
    refine ⟨M, ?_, h, Fr.rf⟩
    rw [lp_X8_tick_96, mr_C hL h, if_pos (nI_le (by omega) (by omega))]
  | r + 1, n + 1, c, S, M, h, hI, hR, hD, hW, g1, hg, g2 => by
    have h1 := hI.1
    obtain ⟨c1, c2, c3, c4, -⟩ := hI.2.1 c (by omega)
    obtain ⟨a1, a2, a3, a4, a5, a6⟩ := rg1_ok hWB hI hR hD hW (show c < S 20 2 by omega) hg
    rw [lp_X8_tick_96, mr_C hL h, if_neg (nI_ge (by omega) (by omega)), mr_7 hL h (by omega)]
    simp only [gk_jn, nI_1, nI_e0 (show S 7 c < 2 ^ 31 by omega)]
    rw [rgaS]
    have key : ∀ M1, MR m M1 W (rg1 W S c) → Fr m M M1 → ∃ M', lp_X8_tick_96 LN RF m K n (nI (c + 1), M1) = K M' ∧ MR m M' W (rgaS W r (c + 1) (rg1 W S c)) ∧ Fr m M M' := by
      intro M1 q2 q3
      obtain ⟨M2, p1, p2, p3⟩ := lp_tk96_s hL hWB (K := K) r n (c + 1) (rg1 W S c) M1 q2 a1 a2 a3 (hW.cn a4.1) (by rw [a4.2.1]; omega) a6 (by omega)
      exact ⟨M2, p1, p2, q3.tr p3⟩
    have hrg : rg1 W S c = if S 7 c = 0 then settS (rgoS W S c) else S := rfl
    by_cases e : S 7 c = 0
    · rw [if_pos e]
      obtain ⟨M1, q1, q2, q3⟩ := t_rangOn hL (Nat.le_refl 60) h hWB hI hR hW (c := c) (by omega) e (hg c (by omega) (by omega))
      obtain ⟨b1, b2, b3, b4, b5⟩ := rgo_ok hWB hI hR hW (show c < S 20 2 by omega) e (hg c (by omega) (by omega))
      obtain ⟨M2, p1, p2, p3⟩ := t_settles hL (Nat.le_refl 60) q2 b1
      rw [q1]
      simp only [Option.bind_some, p1]
      exact key M2 (by rw [hrg, if_pos e]; exact p2) (q3.tr p3)
    · rw [if_neg e]
      exact key M (by rw [hrg, if_neg e]; exact h) Fr.rf
theorem t_tick (hL : mL LN RF m) (hWB : WB W) {S : zS} {M : gk_M} (h : MR m M W S) (hI : SI 60 S) (hR : R1 S) (hD : Sd S) (hW : WN W S) : MO m W M (f_X8_tick LN RF m M) (tickR W 60 S) := by
  have h1 := hI.1
  unfold f_X8_tick
  rw [mr_T hL h]
  simp only [gk_jn, nI_e1000 (show S 20 3 < 2 ^ 31 by omega)]
  unfold tickR
  by_cases e : S 20 3 = 1000
  · rw [if_pos e, if_pos (by omega)]; exact ref_MO h 2 rfl
  · rw [if_neg e, if_neg (by omega), mr_T hL h, nI_1, mw_20_3 hL]
    have h2 := MR_wr20 (i := 3) (v := S 20 3 + 1) h (by decide)
    have eu2 : su S 20 3 (S 20 3 + 1) 20 2 = S 20 2 := by rw [su_i]; rfl
    obtain ⟨a1, a2, a3, a4, a5, a6, a7, a8⟩ := tk0_ok hI hR hD (by omega)
    obtain ⟨b1, b2, b3, b4, b5⟩ := rga_ok hWB (S 20 2) 0 (tk0 S) a1 a2 a3 (hW.cn a4) (by omega) a8
    obtain ⟨M1, q1, q2, q3⟩ := lp_tk30_s hL (K := fun y27 => lp_X8_tick_96 LN RF m (fun y29 => (f_X8_callsBack LN RF m y29).bind fun r31 => gk_ald LN r31 (RF m 20) 3 fun x33 => (f_X8_done LN RF m x33 r31).bind fun r34 => some (r34.1, r34.2)) gk_fuel (nI 0, y27)) (S 20 2) gk_fuel 0 _ _ h2 (hI.tick (by omega)) (by rw [eu2]; omega) (fuel_gt (by omega))
    obtain ⟨M2, p1, p2, p3⟩ := lp_tk96_s hL hWB (K := fun y29 => (f_X8_callsBack LN RF m y29).bind fun r31 => gk_ald LN r31 (RF m 20) 3 fun x33 => (f_X8_done LN RF m x33 r31).bind fun r34 => some (r34.1, r34.2)) (S 20 2) gk_fuel 0 (tk0 S) M1 q2 a1 a2 a3 (hW.cn a4) (by omega) a8 (fuel_gt (by omega))
    obtain ⟨M3, r1, r2, r3⟩ := t_callsBack hL hWB p2 b1 b2 b3 (hW.cn (b4.1.trans a4))
    have r2' : MR m M3 W (tckS W 60 S) := r2
    have ht := (tck_ok hWB hI hR hD hW (show S 20 3 < 1000 by omega)).2.2.2.2
    rw [show (0 : Int32) = nI 0 from rfl, q1, p1, r1]
    simp only [Option.bind_some]
    rw [mr_T hL r2', ht]
    exact done_MO r2' (((((Fr.rf.wr (by omega)).tr q3).tr p3).t.tr r3).u) _
end MPB
