/-! The reference: rangOn, callsBack, tick -/
/-- the house's rows and the two of callsBack -/
def FrT (m : Nat) (M M' : gk_M) : Prop := M'.2 = M.2 ∧ ∀ a, (a ≤ m + 6 ∨ m + 22 ≤ a) → a ≠ m + 24 → a ≠ m + 25 → M'.1 a = M.1 a
theorem Fr.t {m : Nat} {M M' : gk_M} (h : Fr m M M') : FrT m M M' := ⟨h.1, fun a x _ _ => h.2 a x⟩
theorem FrT.rf {m : Nat} {M : gk_M} : FrT m M M := ⟨rfl, fun _ _ _ _ => rfl⟩
theorem FrT.tr {m : Nat} {A B C : gk_M} (h1 : FrT m A B) (h2 : FrT m B C) : FrT m A C := ⟨h2.1.trans h1.1, fun a x y z => (h2.2 a x y z).trans (h1.2 a x y z)⟩
section MTK
variable {LN : Nat → Nat} {RF : Nat → Nat → Nat} {m : Nat} {W : zS}
theorem lp_rang_s (hL : mL LN RF m) {M : gk_M} {S : zS} (h : MR m M W S) (hW : WB W) {c l : Nat} (hc : c < 60) (hl : l < 8) (hg : 1 ≤ S 14 c ∧ S 14 c ≤ 1000) {K : Int32 → Option gk_M} : ∀ r n b, b ≤ W 6 0 → 240 ≤ (if b = 0 then 0 else keyW W (b - 1) + 1) + r → r < n → (∀ j, j < W 6 0 → onOf W l j = true → (W 1 j == 1 && W 4 j == 2 + S 14 c) = true → b = 0 ∨ keyW W (b - 1) < keyW W j) →
    lp_X8_rangOn_36 LN RF m (nI c) (nI l) M K n (nN (amin (keyW W) (nxtP W l b) (W 6 0))) = K (nN (amin (keyW W) (fun w => onOf W l w && (W 1 w == 1 && W 4 w == 2 + S 14 c)) (W 6 0)))
  | r, 0, b, _, _, g, _ => absurd g (by omega)
  | r, n + 1, b, hbn, hm, g, hb => by
    have hn := hW.1
    rw [lp_X8_rangOn_36]
    cases h0 : amin (keyW W) (nxtP W l b) (W 6 0) with
    | zero =>
      rw [nN_0, if_pos (by decide), nxt_stop hW (q := fun w => (W 1 w == 1 && W 4 w == 2 + S 14 c)) hb h0, nN_0]
    | succ w =>
      obtain ⟨h1, h2, h3⟩ := amin_s h0
      have hbw := hW.2 w h1
      rw [nN_s, if_neg (nI_pos (by omega))]
      simp only [gk_jn, mr_1 hL h (show w < 24 by omega), mr_4 hL h (show w < 24 by omega), mr_14 hL h hc, nI_e1 (show W 1 w < 2 ^ 31 by omega), show (2 : Int32) = nI 2 from rfl, nI_leI (show W 4 w < 2 ^ 31 by omega) (show 2 < 2 ^ 31 by omega)]
      have miss : (W 1 w == 1 && W 4 w == 2 + S 14 c) = false → ((f_X8_wishBehind LN RF m (nI l) (nI w) M).bind fun r5 => lp_X8_rangOn_36 LN RF m (nI c) (nI l) M K n r5) = K (nN (amin (keyW W) (fun w => onOf W l w && (W 1 w == 1 && W 4 w == 2 + S 14 c)) (W 6 0))) := by
        intro hq
        obtain ⟨q1, q2, q3, q4⟩ := nxt_miss hW (q := fun w => (W 1 w == 1 && W 4 w == 2 + S 14 c)) hb h0 hq
        have hkl := key_lt hW h1
        have hge : (if b = 0 then 0 else keyW W (b - 1) + 1) < keyW W w + 1 := by
          rcases q3 with q3 | q3
          · rw [if_pos q3]; omega
          · split <;> omega
        have h7 := t_wishBehind hL h hW hl (show w + 1 ≤ W 6 0 by omega)
        rw [nN_s] at h7
        rw [h7]
        simp only [Option.bind_some]
        cases r with
        | zero => omega
        | succ r => exact lp_rang_s hL h hW hc hl hg (K := K) r n (w + 1) (by omega) (by rw [if_neg (by omega), Nat.add_sub_cancel]; omega) (by omega) q4
      by_cases e1 : W 1 w = 1
      · rw [if_pos e1]
        by_cases e2 : W 4 w ≤ 2
        · by_cases e3 : W 4 w = 2 + S 14 c
          · omega
          · rw [if_pos e2]; exact miss (by simp [e3])
        · rw [if_neg e2, pk_sub (by omega)]
          simp only [nI_eq (show W 4 w - 2 < 2 ^ 31 by omega) (show S 14 c < 2 ^ 31 by omega)]
          by_cases e3 : W 4 w - 2 = S 14 c
          · rw [if_pos e3, nxt_hit hW (q := fun w => (W 1 w == 1 && W 4 w == 2 + S 14 c)) hb h0 (by simp [e1]; omega), nN_s]
          · rw [if_neg e3]; exact miss (by simp; omega)
      · rw [if_neg e1]; exact miss (by simp [e1])
theorem t_rangOn (hL : mL LN RF m) {M : gk_M} {N : Nat} (hN : N ≤ 60) {S : zS} (h : MR m M W S) (hWB : WB W) (hI : SI N S) (hR : R1 S) (hW : WN W S) {c : Nat} (hc : c < S 20 2) (h7 : S 7 c = 0) (hr : S 14 c + 1 ≤ S 20 3) : ∃ M', f_X8_rangOn LN RF m (nI c) M = some M' ∧ MR m M' W (rgoS W S c) ∧ Fr m M M' := by
  have hS := hI.sb hN
  have hs1 := hS.1
  have hbc := hS.2.1 c hc
  obtain ⟨r1, r2⟩ := hR c hc (by omega)
  have h1 := hI.rung hc hr
  have hM1 : MR m (gk_wr M (m + 15) c (nI (S 14 c + 1))) W (su S 14 c (S 14 c + 1)) := MR_wr (k := 14) h (by decide) (by decide) (by decide)
  have hlast : lastS S c < S 20 0 := ((hI.2.1 c hc).2.2.2.1 (S 9 c - 1) (by omega)).1
  have hrow : su S 14 c (S 14 c + 1) 10 (9 * c + (S 9 c - 1)) = lastS S c := su_k (by decide)
  unfold f_X8_rangOn
  rw [mr_14 hL h (by omega), nI_1, mw_14 hL (by omega), mr_9 hL hM1 (by omega), su_k (by decide), n9, show nI (9 * c + S 9 c) - 1 = nI (9 * c + (S 9 c - 1)) by rw [show 9 * c + S 9 c = (9 * c + (S 9 c - 1)) + 1 by omega, nI_pred], mr_10 hL hM1 (by omega), hrow]
  have hwb := t_wishBehind hL hM1 hWB (show lastS S c < 8 by omega) (show 0 ≤ W 6 0 by omega)
  rw [nN_0] at hwb
  rw [hwb]
  simp only [Option.bind_some, gk_jn]
  have hg : su S 14 c (S 14 c + 1) 14 c = S 14 c + 1 := su_s
  have hlp := lp_rang_s hL hM1 hWB (c := c) (l := lastS S c) (by omega) (by omega) (by rw [hg]; omega) (K := fun y29 => if 0 ≤ y29 then (f_X8_notes LN RF m (nI c) y29 (gk_wr M (m + 15) c (nI (S 14 c + 1)))).bind fun r31 => gk_ast LN r31 (RF m 12) (nI c) 0 fun M33 => gk_ald LN M33 (RF m 3) y29 fun x35 => (f_X8_goes LN RF m (nI c) x35 (nI (lastS S c)) M33).bind fun r36 => some r36 else some (gk_wr M (m + 15) c (nI (S 14 c + 1)))) 240 gk_fuel 0 (by omega) (by simp) (fuel_gt (by omega)) (fun _ _ _ _ => Or.inl rfl)
  rw [hlp]
  have ho : amin (keyW W) (fun w => onOf W (lastS S c) w && (W 1 w == 1 && W 4 w == 2 + su S 14 c (S 14 c + 1) 14 c)) (W 6 0) = onwS W S c := by rw [hg]; rfl
  rw [ho]
  have hol : onwS W S c ≤ W 6 0 := by
    cases eo : onwS W S c with
    | zero => omega
    | succ w => have := onw_lt eo; omega
  have hWn := hWB.1
  simp only [nN_ge0 (show onwS W S c < 2 ^ 31 by omega)]
  have sm : Fr m M (gk_wr M (m + 15) c (nI (S 14 c + 1))) := Fr.rf.wr (by omega)
  unfold rgoS
  cases eo : onwS W S c with
  | zero => rw [if_neg (by simp), if_pos rfl]; exact ⟨_, rfl, hM1, sm⟩
  | succ w =>
    rw [if_pos (by simp), if_neg (by omega)]
    simp only [Nat.add_sub_cancel, nN_s]
    have hw := onw_lt eo
    have h15 : su S 14 c (S 14 c + 1) 15 c ≤ 2 * su S 14 c (S 14 c + 1) 9 c := by rw [su_k (by decide), su_k (by decide)]; exact r2
    have e20 : ∀ i, su S 14 c (S 14 c + 1) 20 i = S 20 i := fun i => su_k (by decide)
    have h2 := h1.nte (c := c) (w := w) (by rw [e20]; exact hc) (by omega) h15
    have n20 : ∀ i, notS (su S 14 c (S 14 c + 1)) c w 20 i = S 20 i := fun i => by rw [n_o _ _ _ _ _ (by decide) (by decide), e20]
    have h3 := h2.sil (c := c) (by rw [n20]; exact hc)
    have u20 : ∀ i, su (notS (su S 14 c (S 14 c + 1)) c w) 12 c 0 20 i = S 20 i := fun i => by rw [su_k (by decide), n20]
    have x7 : su (notS (su S 14 c (S 14 c + 1)) c w) 12 c 0 7 c = 0 := by rw [su_k (by decide), n_o _ _ _ _ _ (by decide) (by decide), su_k (by decide)]; exact h7
    obtain ⟨M2, q1, q2, q3⟩ := t_notes hL hM1 (c := c) (w := w) (by omega) (by rw [su_k (by decide)]; omega)
    rw [q1]
    simp only [Option.bind_some]
    rw [mw_12 hL (by omega)]
    have hM3 := MR_wr (k := 12) (i := c) (v := 0) q2 (by decide) (by decide) (by decide)
    have hm3 := mr_3 hL hM3 (i := w) (show w < 24 by omega) (K := fun x35 => (f_X8_goes LN RF m (nI c) x35 (nI (lastS S c)) (gk_wr M2 (m + (12 + 1)) c (nI 0))).bind fun r36 => some r36)
    have hWT : WN W (su (notS (su S 14 c (S 14 c + 1)) c w) 12 c 0) := hW.cn (u20 0)
    obtain ⟨M4, p1, p2, p3⟩ := t_goes hL hWB hN (t := W 3 w) (s := lastS S c) hM3 h3 hWT (c := c) (by rw [u20]; exact hc) x7 su_s (by rw [u20]; exact (hW w hw).2) (by rw [u20]; exact hlast)
    refine ⟨M4, ?_, p2, ((sm.tr q3).tr (Fr.rf.wr (by omega))).tr p3⟩
    refine Eq.trans hm3 ?_
    show (f_X8_goes LN RF m (nI c) (nI (W 3 w)) (nI (lastS S c)) (gk_wr M2 (m + (12 + 1)) c (nI 0))).bind (fun r36 => some r36) = some M4
    rw [p1]; rfl
theorem ald_26 (hL : mL LN RF m) {M : gk_M} {α : Type} {K : Int32 → Option α} {i : Nat} (hi : i < 8) : gk_ald LN M (RF m 26) (nI i) K = K (M.1 (m + 24) i) := by rw [hL.2.2.1.1, ald_n (by rw [hL.2.2.2.1]; exact hi) (by omega)]
theorem ald_27 (hL : mL LN RF m) {M : gk_M} {α : Type} {K : Int32 → Option α} {i : Nat} (hi : i < 8) : gk_ald LN M (RF m 27) (nI i) K = K (M.1 (m + 25) i) := by rw [hL.2.2.1.2.1, ald_n (by rw [hL.2.2.2.2.1]; exact hi) (by omega)]
theorem ast_26 (hL : mL LN RF m) {M : gk_M} {α : Type} {K : gk_M → Option α} {i : Nat} {v : Int32} (hi : i < 8) : gk_ast LN M (RF m 26) (nI i) v K = K (gk_wr M (m + 24) i v) := by rw [hL.2.2.1.1, ast_n (by rw [hL.2.2.2.1]; exact hi) (by omega)]
theorem ast_27 (hL : mL LN RF m) {M : gk_M} {α : Type} {K : gk_M → Option α} {i : Nat} {v : Int32} (hi : i < 8) : gk_ast LN M (RF m 27) (nI i) v K = K (gk_wr M (m + 25) i v) := by rw [hL.2.2.1.2.1, ast_n (by rw [hL.2.2.2.2.1]; exact hi) (by omega)]
/-- the backs as callsBack keeps them -/
def Fs (m : Nat) (M : gk_M) (F T : Nat → Nat) (n : Nat) : Prop := ∀ j, j < n → M.1 (m + 24) j = nI (F j) ∧ M.1 (m + 25) j = nI (T j)
theorem lp_cb9_s (hL : mL LN RF m) {S : zS} (hn : S 20 4 ≤ 8) {K : gk_M → Option gk_M} : ∀ (r n i : Nat) (M : gk_M), MR m M W S → Fs m M (S 17) (S 18) i → i + r = S 20 4 → r < n → ∃ M', lp_X8_callsBack_9 LN RF m (nI (S 20 4)) K n (nI i, M) = K M' ∧ MR m M' W S ∧ FrT m M M' ∧ Fs m M' (S 17) (S 18) (S 20 4)
  | r, 0, i, M, _, _, _, g => absurd g (by omega)
  | 0, n + 1, i, M, h, hF, g1, g2 => by
    refine ⟨M, ?_, h, FrT.rf, by rw [← g1]; exact hF⟩
    rw [lp_X8_callsBack_9, if_pos (nI_le (by omega) (by omega))]
  | r + 1, n + 1, i, M, h, hF, g1, g2 => by
    rw [lp_X8_callsBack_9, if_neg (nI_ge (by omega) (by omega)), mr_17 hL h (by omega), ast_26 hL (by omega)]
    have h2 : MR m (gk_wr M (m + 24) i (nI (S 17 i))) W S := MR_out h (fun a ha hb => by funext j; rw [wr_1, if_neg (by omega)])
    rw [mr_18 hL h2 (by omega), ast_27 hL (by omega), nI_1]
    have h3 : MR m (gk_wr (gk_wr M (m + 24) i (nI (S 17 i))) (m + 25) i (nI (S 18 i))) W S := MR_out h2 (fun a ha hb => by funext j; rw [wr_1, if_neg (by omega)])
    obtain ⟨M', q1, q2, q3, q4⟩ := lp_cb9_s hL hn (K := K) r n (i + 1) _ h3 (fun j hj => by
      rw [wr_1, wr_1, wr_1, wr_1]
      by_cases e : j = i
      · subst e; rw [if_neg (by omega), if_pos ⟨rfl, rfl⟩, if_pos ⟨rfl, rfl⟩]; exact ⟨rfl, rfl⟩
      · rw [if_neg (by omega), if_neg (by omega), if_neg (by omega), if_neg (by omega)]; exact hF j (by omega)) (by omega) (by omega)
    have hfw : FrT m M (gk_wr (gk_wr M (m + 24) i (nI (S 17 i))) (m + 25) i (nI (S 18 i))) := by
      refine ⟨rfl, fun a x y z => ?_⟩
      funext j
      rw [wr_1, if_neg (by omega), wr_1, if_neg (by omega)]
    exact ⟨M', q1, q2, hfw.tr q3, q4⟩
theorem lp_cb93_s (hL : mL LN RF m) {S : zS} {M : gk_M} (h : MR m M W S) (hn : S 20 4 ≤ 8) (hB : ∀ i, i < S 20 4 → S 17 i < 8 ∧ S 18 i < 8) {K : Int32 → Option gk_M} {i p f t : Nat} (v1 : Int32) (hi : i < 8) (hp : p < S 20 4) (h24 : M.1 (m + 24) i = nI f) (h25 : M.1 (m + 25) i = nI t) (hf : S 17 p = f) (ht : S 18 p = t) (hu : ∀ j, j < p → ¬ (S 17 j = f ∧ S 18 j = t)) : ∀ (r n a : Nat), a + r = p → r < n → lp_X8_callsBack_93 LN RF m v1 (nI i) M K n (nI a) = K (nI p)
  | r, 0, a, _, g => absurd g (by omega)
  | r, n + 1, a, g1, g2 => by
    have hbp := hB p hp
    have hba := hB a (by omega)
    rw [lp_X8_callsBack_93, mr_17 hL h (by omega), ald_26 hL hi, h24]
    simp only [gk_jn, mr_18 hL h (show a < 8 by omega), ald_27 hL hi, h25, nI_eq (show S 17 a < 2 ^ 31 by omega) (show f < 2 ^ 31 by omega), nI_eq (show S 18 a < 2 ^ 31 by omega) (show t < 2 ^ 31 by omega), nI_1]
    cases r with
    | zero =>
      have : a = p := by omega
      subst this
      rw [if_pos hf, if_pos ht]
    | succ r =>
      have ih := lp_cb93_s hL h hn hB v1 (K := K) hi hp h24 h25 hf ht hu r n (a + 1) (by omega) (by omega)
      have hne := hu a (by omega)
      by_cases e1 : S 17 a = f
      · by_cases e2 : S 18 a = t
        · exact absurd ⟨e1, e2⟩ hne
        · rw [if_pos e1, if_neg e2]; exact ih
      · rw [if_neg e1]; exact ih
/-- half way through a shift -/
def shf (S : zS) (p k : Nat) : zS := fun kk i => if kk = 17 ∨ kk = 18 then (if p ≤ i ∧ i < k then S kk (i + 1) else S kk i) else if kk = 20 ∧ i = 4 then S 20 4 - 1 else S kk i
theorem shf_0 {S : zS} {p : Nat} : shf S p p = su S 20 4 (S 20 4 - 1) := by
  funext kk i
  unfold shf
  rw [su_eq]
  by_cases e : kk = 17 ∨ kk = 18
  · rw [if_pos e, if_neg (by omega), if_neg (by omega)]
  · rw [if_neg e]
theorem shf_e {S : zS} {p : Nat} : shf S p (S 20 4 - 1) = drpS S p := by
  funext kk i
  unfold shf drpS
  by_cases e : kk = 17 ∨ kk = 18
  · rw [if_pos e, if_pos e]
    by_cases q : p ≤ i ∧ i < S 20 4 - 1
    · rw [if_pos q, if_pos (by omega)]
    · rw [if_neg q, if_neg (by omega)]
  · rw [if_neg e, if_neg e]
theorem shf_s {S : zS} {p k : Nat} (hk : p ≤ k) : su (su (shf S p k) 17 k (S 17 (k + 1))) 18 k (S 18 (k + 1)) = shf S p (k + 1) := by
  funext kk i
  rw [su_eq, su_eq]
  unfold shf
  by_cases e18 : kk = 18
  · subst e18
    by_cases ei : i = k
    · subst ei; simp [hk]
    · by_cases q : p ≤ i ∧ i < k
      · simp [ei, q, show i < k + 1 by omega]
      · have q' : ¬ (p ≤ i ∧ i < k + 1) := by omega
        simp [ei, q, q']
  · by_cases e17 : kk = 17
    · subst e17
      by_cases ei : i = k
      · subst ei; simp [hk]
      · by_cases q : p ≤ i ∧ i < k
        · simp [ei, q, show i < k + 1 by omega]
        · have q' : ¬ (p ≤ i ∧ i < k + 1) := by omega
          simp [ei, q, q']
    · simp [e18, e17]
theorem lp_cb142_s (hL : mL LN RF m) {S : zS} (hn : S 20 4 ≤ 8) {K : gk_M → Option gk_M} (v1 v2 : Int32) {p : Nat} : ∀ (r n k : Nat) (M : gk_M), MR m M W (shf S p k) → p ≤ k → k + r = S 20 4 - 1 → r < n → ∃ M', lp_X8_callsBack_142 LN RF m v1 v2 K n (nI k, M) = K M' ∧ MR m M' W (drpS S p) ∧ Fr m M M'
  | r, 0, k, M, _, _, _, g => absurd g (by omega)
  | 0, n + 1, k, M, h, hk, g1, g2 => by
    refine ⟨M, ?_, ?_, Fr.rf⟩
    · rw [lp_X8_callsBack_142, mr_B hL h, if_pos (by
        rw [show shf S p k 20 4 = S 20 4 - 1 by unfold shf; simp]
        exact nI_le (by omega) (by omega))]
    · rw [← shf_e, show S 20 4 - 1 = k by omega]; exact h
  | r + 1, n + 1, k, M, h, hk, g1, g2 => by
    have e4 : shf S p k 20 4 = S 20 4 - 1 := by unfold shf; simp
    have e17 : shf S p k 17 (k + 1) = S 17 (k + 1) := by unfold shf; simp [show ¬ (p ≤ k + 1 ∧ k + 1 < k) by omega]
    have e18 : ∀ v, su (shf S p k) 17 k v 18 (k + 1) = S 18 (k + 1) := by intro v; rw [su_k (by decide)]; unfold shf; simp [show ¬ (p ≤ k + 1 ∧ k + 1 < k) by omega]
    rw [lp_X8_callsBack_142, mr_B hL h, e4, if_neg (nI_ge (by omega) (by omega)), nI_1, mr_17 hL h (by omega), e17, mw_17 hL (by omega)]
    have h2 := MR_wr (k := 17) (i := k) (v := S 17 (k + 1)) h (by decide) (by decide) (by decide)
    rw [mr_18 hL h2 (by omega), e18, mw_18 hL (by omega)]
    have h3 := MR_wr (k := 18) (i := k) (v := S 18 (k + 1)) h2 (by decide) (by decide) (by decide)
    rw [shf_s hk] at h3
    obtain ⟨M', q1, q2, q3⟩ := lp_cb142_s hL hn (K := K) v1 v2 r n (k + 1) _ h3 (by omega) (by omega) (by omega)
    exact ⟨M', q1, q2, ((Fr.rf.wr (by omega)).wr (by omega)).tr q3⟩
theorem lp_cb46_s (hL : mL LN RF m) (hWB : WB W) {K : gk_M → Option gk_M} {F T : Nat → Nat} {mn : Nat} (hmn : mn ≤ 8) : ∀ (r n i p : Nat) (S : zS) (M : gk_M), MR m M W S → SI 60 S → R1 S → Sd S → WN W S → Fs m M F T mn → i + r = mn → p + r ≤ S 20 4 → (∀ j, j < r → S 17 (p + j) = F (i + j) ∧ S 18 (p + j) = T (i + j)) → r < n → ∃ M', lp_X8_callsBack_46 LN RF m (nI mn) K n (nI i, M) = K M' ∧ MR m M' W (bkaS W 60 r p S) ∧ FrT m M M'
  | r, 0, i, p, S, M, _, _, _, _, _, _, _, _, _, g => absurd g (by omega)
  | 0, n + 1, i, p, S, M, h, hI, hR, hD, hW, hF, g1, gp, hj, g2 => by
    refine ⟨M, ?_, h, FrT.rf⟩
    rw [lp_X8_callsBack_46, if_pos (nI_le (by omega) (by omega))]
  | r + 1, n + 1, i, p, S, M, h, hI, hR, hD, hW, hF, g1, gp, hj, g2 => by
    have hS := hI.sb (Nat.le_refl _)
    have hs1 := hS.1
    obtain ⟨f1, f2⟩ := hF i (by omega)
    obtain ⟨j1, j2⟩ := hj 0 (by omega)
    simp only [Nat.add_zero] at j1 j2
    obtain ⟨b1, b2⟩ := hI.2.2.2.2.1 p (by omega)
    rw [j1] at b1
    rw [j2] at b2
    rw [lp_X8_callsBack_46, if_neg (nI_ge (by omega) (by omega)), ald_26 hL (by omega), f1, t_isFree hL h hS (show F i < 8 by omega)]
    simp only [Option.bind_some, gk_jn, bI_0, ald_27 hL (show i < 8 by omega), f2, t_isFree hL h hS (show T i < 8 by omega), mr_C hL h, nI_e60 (show S 20 2 < 2 ^ 31 by omega), nI_1]
    have hbg : bkgS S 60 p = (cOf S (F i) == 0 && cOf S (T i) == 0 && decide (S 20 2 < 60)) := by unfold bkgS; rw [j1, j2]
    rw [bkaS]
    have skip : bkgS S 60 p = false → ∃ M', lp_X8_callsBack_46 LN RF m (nI mn) K n (nI (i + 1), M) = K M' ∧ MR m M' W (if bkgS S 60 p = true then bkaS W 60 r p (bk1 W 60 S p) else bkaS W 60 r (p + 1) S) ∧ FrT m M M' := by
      intro e
      rw [e, if_neg (by decide)]
      exact lp_cb46_s hL hWB hmn (K := K) r n (i + 1) (p + 1) S M h hI hR hD hW hF (by omega) (by omega) (fun j hj' => by have := hj (j + 1) (by omega); rw [show p + (j + 1) = p + 1 + j by omega, show i + (j + 1) = i + 1 + j by omega] at this; exact this) (by omega)
    by_cases e1 : cOf S (F i) = 0
    · rw [if_neg (by simp [e1])]
      by_cases e2 : cOf S (T i) = 0
      · rw [if_neg (by simp [e2])]
        by_cases e3 : S 20 2 = 60
        · rw [if_pos e3]; exact skip (by rw [hbg]; simp [e3])
        · rw [if_neg e3]
          have hg : bkgS S 60 p = true := by rw [hbg]; simp [e1, e2]; omega
          have hu : ∀ j, j < p → ¬ (S 17 j = F i ∧ S 18 j = T i) := by
            intro j hjp g
            have := hI.2.2.2.2.2 j p (by omega) (by omega) (by omega) (by omega)
            omega
          rw [show (0 : Int32) = nI 0 from rfl, lp_cb93_s hL h hs1.2.2.2 hS.2.2.1 (nI mn) (i := i) (p := p) (f := F i) (t := T i) (by omega) (by omega) f1 f2 j1 j2 hu p gk_fuel 0 (by omega) (fuel_gt (by omega))]
          rw [mr_B hL h, show nI (S 20 4) - 1 = nI (S 20 4 - 1) by rw [show S 20 4 = (S 20 4 - 1) + 1 by omega, nI_pred]; congr 1, mw_20_4 hL]
          have h15 := MR_wr20 (i := 4) (v := S 20 4 - 1) h (by decide)
          rw [← shf_0 (p := p)] at h15
          obtain ⟨M2, q1, q2, q3⟩ := lp_cb142_s hL hs1.2.2.2 (nI mn) (nI i) (p := p) (K := fun y16 => gk_ald LN y16 (RF m 26) (nI i) fun x19 => (f_X8_dials LN RF m x19 (y16.1 (m + 25) i) y16).bind fun r22 => lp_X8_callsBack_46 LN RF m (nI mn) K n (nI (i + 1), r22.2)) (S 20 4 - 1 - p) gk_fuel p _ h15 (by omega) (by omega) (fuel_gt (by omega))
          rw [q1]
          have hfr2 : Fr m M M2 := (Fr.rf.wr (by omega)).tr q3
          have f1' : M2.1 (m + 24) i = nI (F i) := by rw [hfr2.2 (m + 24) (by omega)]; exact f1
          have f2' : M2.1 (m + 25) i = nI (T i) := by rw [hfr2.2 (m + 25) (by omega)]; exact f2
          simp only [ald_26 hL (show i < 8 by omega), f1', f2']
          have hId := hI.drp (p := p) (by omega)
          have hWd : WN W (drpS S p) := hW.cn (dr_20 (by decide))
          obtain ⟨M3, p1, p2, p3⟩ := t_dials hL hWB (Nat.le_refl 60) (l := F i) (t := T i) q2 hId hWd (by rw [dr_20 (by decide)]; omega) (by rw [dr_20 (by decide)]; omega) (by rw [dr_cOf]; exact e1) (by rw [dr_20 (by decide)]; omega)
          rw [p1]
          simp only [Option.bind_some]
          obtain ⟨a1, a2, a3, a4, a5, a6, a7⟩ := bk1_ok hWB hI hR hW (show p < S 20 4 by omega) hg
          have h4 := a7.1
          rw [dr_4] at h4
          have hfr3 : Fr m M M3 := hfr2.tr p3
          rw [if_pos hg]
          have hb1 : bk1 W 60 S p = diaS W (drpS S p) (F i) (T i) := by unfold bk1; rw [j1, j2]
          obtain ⟨M4, r1, r2, r3⟩ := lp_cb46_s hL hWB hmn (K := K) r n (i + 1) p (bk1 W 60 S p) M3 (by rw [hb1]; exact p2) a1 a2 a3 (hW.cn a4) (fun j hj' => by rw [hfr3.2 (m + 24) (by omega), hfr3.2 (m + 25) (by omega)]; exact hF j hj') (by omega) (by omega) (fun j hj' => by
            obtain ⟨x1, x2⟩ := a7.2 (p + j) (by rw [dr_4]; omega)
            rw [x1, x2, dr_b (Or.inl rfl), dr_b (Or.inr rfl), if_pos (by omega), if_pos (by omega)]
            have := hj (j + 1) (by omega)
            rw [show p + (j + 1) = p + j + 1 by omega, show i + (j + 1) = i + 1 + j by omega] at this
            exact this) (by omega)
          exact ⟨M4, r1, r2, hfr3.t.tr r3⟩
      · rw [if_pos (by simp [e2])]; exact skip (by rw [hbg]; simp [e2])
    · rw [if_pos (by simp [e1])]; exact skip (by rw [hbg]; simp [e1])
theorem t_callsBack (hL : mL LN RF m) (hWB : WB W) {S : zS} {M : gk_M} (h : MR m M W S) (hI : SI 60 S) (hR : R1 S) (hD : Sd S) (hW : WN W S) : ∃ M', f_X8_callsBack LN RF m M = some M' ∧ MR m M' W (bkaS W 60 (S 20 4) 0 S) ∧ FrT m M M' := by
  have h1 := hI.1
  obtain ⟨M1, q1, q2, q3, q4⟩ := lp_cb9_s hL (S := S) h1.2.2.2 (K := fun y23 => lp_X8_callsBack_46 LN RF m (nI (S 20 4)) (fun y25 => (f_X8_settles LN RF m y25).bind fun r27 => some r27) gk_fuel (nI 0, y23)) (S 20 4) gk_fuel 0 M h (fun j hj => by omega) (by omega) (fuel_gt (by omega))
  obtain ⟨M2, p1, p2, p3⟩ := lp_cb46_s hL hWB (mn := S 20 4) (F := S 17) (T := S 18) (K := fun y25 => (f_X8_settles LN RF m y25).bind fun r27 => some r27) h1.2.2.2 (S 20 4) gk_fuel 0 0 S M1 q2 hI hR hD hW q4 (by omega) (by omega) (fun j _ => ⟨rfl, rfl⟩) (fuel_gt (by omega))
  obtain ⟨b1, b2, b3, b4, b5⟩ := bka_ok hWB (S 20 4) 0 S hI hR hD hW (by omega)
  obtain ⟨M3, r1, r2, r3⟩ := t_settles hL (Nat.le_refl 60) p2 b1
  rw [sett_id b3] at r2
  refine ⟨M3, ?_, r2, (q3.tr p3).tr r3.t⟩
  unfold f_X8_callsBack
  rw [mr_B hL h]
  simp only [gk_jn, nI_z]
  rw [q1, p1, r1]
  rfl
end MTK
