/-! The class's house: charging, dropping backs, a tick -/
section HP
variable {LN : Nat → Nat} {RF : Nat → Nat → Nat} {h o n b : Nat} {W : zS}
/-- a cell of the costs -/
theorem HR.c19 {M : gk_M} {S : zS} (hH : HR h o M S) (ho : 1 ≤ o) {p v : Nat} : HR h o (gk_wr M (h + o + 2) p (nI v)) (su S 19 p v) := by
  obtain ⟨g1, g2, g3, g4⟩ := hH
  have hk : ∀ k, k ≠ 19 → su S 19 p v k = S k := fun k hk => by funext i; exact su_k hk
  have ei : inn (su S 19 p v) = inn S := (e19_su (S := S) (i := p) (v := v)).inn
  have ek : knk (su S 19 p v) = knk S := (e19_su (S := S) (i := p) (v := v)).knk
  have hm : ∀ a, a ≠ h + o + 2 → (gk_wr M (h + o + 2) p (nI v)).1 a = M.1 a := fun a ha => by funext j; rw [wr_1, if_neg (by omega)]
  refine ⟨by rw [hm h (by omega), hk 20 (by decide)]; exact g1, fun c hc => ?_, fun l hl => ?_, fun i hi => ?_⟩
  · rw [hk 20 (by decide)] at hc
    have := (g2 c hc).mv (hm _ (by omega)) (by rw [wr_2])
    unfold CR at this ⊢
    rw [hk 6 (by decide), hk 7 (by decide), hk 8 (by decide), hk 9 (by decide), hk 10 (by decide), hk 11 (by decide), hk 12 (by decide), hk 13 (by decide), hk 14 (by decide), hk 15 (by decide), hk 16 (by decide)]
    exact this
  · unfold cOf kAt
    rw [ei, ek, hk 20 (by decide), hm (h + o) (by omega), hm (h + o + 1) (by omega), wr_1, su_i]
    refine ⟨(g3 l hl).1, (g3 l hl).2.1, ?_⟩
    by_cases e : l = p
    · rw [if_pos ⟨rfl, e⟩, if_pos e]
    · rw [if_neg (fun g => e g.2), if_neg e]; exact (g3 l hl).2.2
  · rw [hk 20 (by decide)] at hi
    rw [hm _ (by omega), hm _ (by omega), hk 17 (by decide), hk 18 (by decide)]; exact g4 i hi
theorem lp_chg27_s (hl : hL LN RF h o n b) {c : Nat} {v1 : Int32} {K : gk_M → Option gk_M} : ∀ (r n' i : Nat) (S : zS) (M : gk_M), HR h o M S → c < S 20 2 → S 9 c ≤ 8 → (∀ j, j < S 9 c → S 11 (9 * c + j) < 8) → i + r = S 9 c → r < n' → ∃ M', lp_X2_charge_27 LN RF h v1 (h + o + 6 + c) K n' (nI i, M) = K M' ∧ HR h o M' (pay1 c r i S) ∧ HFr h o n M M'
  | r, 0, i, S, M, _, _, _, _, _, g => absurd g (by omega)
  | 0, n' + 1, i, S, M, hH, hc, h9, hp, g1, g2 => by
    refine ⟨M, ?_, hH, HFr.rf⟩
    rw [lp_X2_charge_27, (hH.2.1 c hc).2.2.2.1, if_pos (nI_le (by omega) (by omega))]
  | r + 1, n' + 1, i, S, M, hH, hc, h9, hp, g1, g2 => by
    have ho := hl.2.2.2.1.1
    have hpi := hp i (by omega)
    rw [lp_X2_charge_27, (hH.2.1 c hc).2.2.2.1, if_neg (nI_ge (by omega) (by omega)), u_payerAt (hH.2.1 c hc) h9 hp (show i < S 9 c by omega)]
    simp only [Option.bind_some, nI_1]
    rw [ha_4 hl hpi, (hH.2.2.1 _ hpi).2.2, nI_1, hw_4 hl hpi]
    obtain ⟨M', q1, q2, q3⟩ := lp_chg27_s hl (c := c) (v1 := v1) (K := K) r n' (i + 1) _ _ (hH.c19 ho (p := S 11 (9 * c + i)) (v := S 19 (S 11 (9 * c + i)) + 1)) (by rw [su_k (by decide)]; exact hc) (by rw [su_k (by decide)]; exact h9) (fun j hj => by rw [su_k (by decide)] at hj ⊢; exact hp j hj) (by rw [su_k (by decide)]; omega) (by omega)
    exact ⟨M', q1, q2, (HFr.rf.wr (by omega)).tr q3⟩
theorem lp_chg_s (hl : hL LN RF h o n b) {N : Nat} (hN : N ≤ n) {K : gk_M → Option gk_M} : ∀ (r n' c : Nat) (S : zS) (M : gk_M), HR h o M S → SI N S → c + r = S 20 2 → r < n' → ∃ M', lp_X2_charge_2 LN RF h K n' (nI c, M) = K M' ∧ HR h o M' (chgS r c S) ∧ HFr h o n M M'
  | r, 0, c, S, M, _, _, _, g => absurd g (by omega)
  | 0, n' + 1, c, S, M, hH, hI, g1, g2 => by
    have := hI.1
    have hn60 := hl.2.2.2.1.2.2
    refine ⟨M, ?_, hH, HFr.rf⟩
    rw [lp_X2_charge_2, hH.1.2.1, if_pos (nI_le (by omega) (by omega))]
  | r + 1, n' + 1, c, S, M, hH, hI, g1, g2 => by
    have h1 := hI.1
    have hn60 := hl.2.2.2.1.2.2
    obtain ⟨c1, c2, c3, c4, -⟩ := hI.2.1 c (by omega)
    rw [lp_X2_charge_2, hH.1.2.1, if_neg (nI_ge (by omega) (by omega)), ha_c hl (by omega)]
    simp only [gk_jn, nI_1, (hH.2.1 c (show c < S 20 2 by omega)).2.1, nI_e1 (show S 7 c < 2 ^ 31 by omega)]
    rw [chgS]
    by_cases e : S 7 c = 1
    · rw [if_pos e, if_pos e]
      obtain ⟨M1, q1, q2, q3⟩ := lp_chg27_s hl (c := c) (v1 := nI c) (K := fun y4 => lp_X2_charge_2 LN RF h K n' (nI (c + 1), y4)) (S 9 c) gk_fuel 0 S M hH (by omega) c3 (fun j hj => by have := c4 j hj; omega) (by omega) (fuel_gt (by omega))
      have e19 := e19_pay c (S 9 c) 0 S
      obtain ⟨M2, p1, p2, p3⟩ := lp_chg_s hl hN (K := K) r n' (c + 1) _ M1 q2 (e19.si hI) (by rw [e19 20 (by decide)]; omega) (by omega)
      exact ⟨M2, by rw [show (0 : Int32) = nI 0 from rfl, q1, p1], p2, q3.tr p3⟩
    · rw [if_neg e, if_neg e]
      exact lp_chg_s hl hN (K := K) r n' (c + 1) S M hH hI (by omega) (by omega)
theorem u_charge (hl : hL LN RF h o n b) {N : Nat} (hN : N ≤ n) {S : zS} {M : gk_M} (hH : HR h o M S) (hI : SI N S) : ∃ M', f_X2_charge LN RF h M = some M' ∧ HR h o M' (chgS (S 20 2) 0 S) ∧ HFr h o n M M' := by
  unfold f_X2_charge
  simp only [gk_jn]
  have := hI.1
  have hn60 := hl.2.2.2.1.2.2
  obtain ⟨M1, q1, q2, q3⟩ := lp_chg_s hl hN (K := fun y => some y) (S 20 2) gk_fuel 0 S M hH hI (by omega) (fuel_gt (by omega))
  rw [show (0 : Int32) = nI 0 from rfl, q1]
  exact ⟨M1, rfl, q2, q3⟩
theorem lp_drp_s (hl : hL LN RF h o n b) {nB : Nat} (hnB : nB ≤ 8) {K : gk_M → Option gk_M} : ∀ (r n' i : Nat) (M : gk_M), M.1 h 9 = nI nB → i + 1 + r = nB → r < n' → ∃ M', lp_X2_dropBack_4 LN RF h K n' (nI (i + 1), M) = K M' ∧ (∀ a, a ≠ h + o + 3 → a ≠ h + o + 4 → M'.1 a = M.1 a) ∧ M'.2 = M.2 ∧ (∀ x, M'.1 (h + o + 3) x = if i ≤ x ∧ x + 1 < nB then M.1 (h + o + 3) (x + 1) else M.1 (h + o + 3) x) ∧ ∀ x, M'.1 (h + o + 4) x = if i ≤ x ∧ x + 1 < nB then M.1 (h + o + 4) (x + 1) else M.1 (h + o + 4) x
  | r, 0, i, M, _, _, g => absurd g (by omega)
  | 0, n' + 1, i, M, h9, g1, g2 => by
    refine ⟨M, ?_, fun _ _ _ => rfl, rfl, fun x => by rw [if_neg (by omega)], fun x => by rw [if_neg (by omega)]⟩
    rw [lp_X2_dropBack_4, h9, if_pos (nI_le (by omega) (by omega))]
  | r + 1, n' + 1, i, M, h9, g1, g2 => by
    have ho := hl.2.2.2.1.1
    rw [lp_X2_dropBack_4, h9, if_neg (nI_ge (by omega) (by omega)), ha_5 hl (by omega), nI_pred, hw_5 hl (by omega), ha_6 hl (by omega), hw_6 hl (by omega)]
    simp only [nI_1]
    obtain ⟨M', q1, q2, q3, q4, q5⟩ := lp_drp_s hl hnB (K := K) r n' (i + 1) (gk_wr (gk_wr M (h + o + 3) i (M.1 (h + o + 3) (i + 1))) (h + o + 4) i ((gk_wr M (h + o + 3) i (M.1 (h + o + 3) (i + 1))).1 (h + o + 4) (i + 1))) (by rw [wr_1, if_neg (by omega), wr_1, if_neg (by omega)]; exact h9) (by omega) (by omega)
    have e3 : ∀ x, (gk_wr (gk_wr M (h + o + 3) i (M.1 (h + o + 3) (i + 1))) (h + o + 4) i ((gk_wr M (h + o + 3) i (M.1 (h + o + 3) (i + 1))).1 (h + o + 4) (i + 1))).1 (h + o + 3) x = if x = i then M.1 (h + o + 3) (i + 1) else M.1 (h + o + 3) x := by
      intro x
      rw [wr_1, if_neg (by omega), wr_1]
      simp only [true_and]
    have e4 : ∀ x, (gk_wr (gk_wr M (h + o + 3) i (M.1 (h + o + 3) (i + 1))) (h + o + 4) i ((gk_wr M (h + o + 3) i (M.1 (h + o + 3) (i + 1))).1 (h + o + 4) (i + 1))).1 (h + o + 4) x = if x = i then M.1 (h + o + 4) (i + 1) else M.1 (h + o + 4) x := by
      intro x
      rw [wr_1]
      simp only [true_and]
      by_cases e : x = i
      · rw [if_pos e, if_pos e, wr_1, if_neg (by omega)]
      · rw [if_neg e, if_neg e, wr_1, if_neg (by omega)]
    refine ⟨M', q1, fun a a1 a2 => ?_, q3, fun x => ?_, fun x => ?_⟩
    · rw [q2 a a1 a2]; funext j; rw [wr_1, if_neg (by omega), wr_1, if_neg (by omega)]
    · rw [q4 x, e3, e3]
      by_cases ex : x = i
      · subst ex; rw [if_neg (by omega), if_pos rfl, if_pos ⟨by omega, by omega⟩]
      · by_cases g : i + 1 ≤ x ∧ x + 1 < nB
        · rw [if_pos g, if_neg (by omega), if_pos ⟨by omega, g.2⟩]
        · rw [if_neg g, if_neg ex, if_neg (by omega)]
    · rw [q5 x, e4, e4]
      by_cases ex : x = i
      · subst ex; rw [if_neg (by omega), if_pos rfl, if_pos ⟨by omega, by omega⟩]
      · by_cases g : i + 1 ≤ x ∧ x + 1 < nB
        · rw [if_pos g, if_neg (by omega), if_pos ⟨by omega, g.2⟩]
        · rw [if_neg g, if_neg ex, if_neg (by omega)]
theorem u_dropBack (hl : hL LN RF h o n b) {S : zS} {M : gk_M} (hH : HR h o M S) (h4 : S 20 4 ≤ 8) {p : Nat} (hp : p < S 20 4) : ∃ M', f_X2_dropBack LN RF h (nI p) M = some M' ∧ HR h o M' (drpS S p) ∧ HFr h o n M M' := by
  have ho := hl.2.2.2.1.1
  unfold f_X2_dropBack
  simp only [gk_jn, nI_1]
  obtain ⟨M1, q1, q2, q3, q4, q5⟩ := lp_drp_s hl h4 (K := fun y21 => gk_put y21 h 9 (y21.1 h 9 - 1) fun M23 => some M23) (S 20 4 - (p + 1)) gk_fuel p M hH.1.2.2.1 (by omega) (fuel_gt (by omega))
  rw [q1]
  simp only [gk_put]
  have e9 : M1.1 h 9 = nI (S 20 4) := by rw [q2 h (by omega) (by omega)]; exact hH.1.2.2.1
  have e9' : M1.1 h 9 - 1 = nI (S 20 4 - 1) := by rw [e9]; obtain ⟨y, hy⟩ : ∃ y, S 20 4 = y + 1 := ⟨S 20 4 - 1, by omega⟩; rw [hy, nI_pred]; rfl
  rw [e9']
  refine ⟨_, rfl, ?_, HFr.wr (fun a a1 a2 => ⟨q2 a (by omega) (by omega), by rw [q3]⟩) (by omega)⟩
  refine HR.bk hH ho (fun k k1 k2 k3 => by funext i; exact dr_o k1 k2 k3) (dr_20 (by decide)) (dr_20 (by decide)) (dr_20 (by decide)) (fun a a1 a2 a3 => by rw [← q2 a a2 a3]; funext j; rw [wr_1, if_neg (by omega)]) (by rw [wr_2, q3]) (fun j hj => by rw [wr_1, if_neg (by omega), q2 h (by omega) (by omega)]) (by rw [wr_1, if_pos ⟨rfl, rfl⟩, dr_4]) (fun i hi => ?_)
  rw [dr_4] at hi
  rw [wr_1, if_neg (by omega), wr_1, if_neg (by omega), q4, q5, dr_b (Or.inl rfl), dr_b (Or.inr rfl)]
  by_cases g : p ≤ i ∧ i + 1 < S 20 4
  · rw [if_pos g, if_pos g, if_pos g, if_pos g]; exact hH.2.2.2 (i + 1) (by omega)
  · rw [if_neg g, if_neg g, if_neg g, if_neg g]; exact hH.2.2.2 i (by omega)
theorem HR.tk {M : gk_M} {S : zS} (hH : HR h o M S) (ho : 1 ≤ o) {v : Nat} : HR h o (gk_wr M h 10 (nI v)) (su S 20 3 v) := by
  obtain ⟨g1, g2, g3, g4⟩ := hH
  have eu : ∀ k, k ≠ 20 → su S 20 3 v k = S k := fun k hk => by funext i; exact su_k hk
  have e0 : su S 20 3 v 20 0 = S 20 0 := by rw [su_i]; rfl
  have e2 : su S 20 3 v 20 2 = S 20 2 := by rw [su_i]; rfl
  have e3 : su S 20 3 v 20 3 = v := su_s
  have e4 : su S 20 3 v 20 4 = S 20 4 := by rw [su_i]; rfl
  have ei : inn (su S 20 3 v) = inn S := by funext l c; show Bool.and _ _ = Bool.and _ _; rw [eu 7 (by decide), eu 6 (by decide), eu 12 (by decide), eu 13 (by decide)]
  have ek : knk (su S 20 3 v) = knk S := by funext l c; show Bool.and _ _ = Bool.and _ _; rw [eu 7 (by decide), eu 13 (by decide)]
  have hm : ∀ a, a ≠ h → (gk_wr M h 10 (nI v)).1 a = M.1 a := fun a ha => by funext j; rw [wr_1, if_neg (fun g => ha g.1)]
  have hj : ∀ j, j ≠ 10 → (gk_wr M h 10 (nI v)).1 h j = M.1 h j := fun j hj => by rw [wr_1, if_neg (fun g => hj g.2)]
  refine ⟨⟨by rw [hj 7 (by decide), e0]; exact g1.1, by rw [hj 8 (by decide), e2]; exact g1.2.1, by rw [hj 9 (by decide), e4]; exact g1.2.2.1, by rw [wr_1, if_pos ⟨rfl, rfl⟩, e3]⟩, fun c hc => ?_, fun l hl => ?_, fun i hi => ?_⟩
  · rw [e2] at hc
    have := (g2 c hc).mv (hm (h + o + 6 + c) (by omega)) (by rw [wr_2])
    unfold CR at this ⊢
    rw [eu 6 (by decide), eu 7 (by decide), eu 8 (by decide), eu 9 (by decide), eu 10 (by decide), eu 11 (by decide), eu 12 (by decide), eu 13 (by decide), eu 14 (by decide), eu 15 (by decide), eu 16 (by decide)]
    exact this
  · unfold cOf kAt
    rw [ei, ek, e2, eu 19 (by decide), hm (h + o) (by omega), hm (h + o + 1) (by omega), hm (h + o + 2) (by omega)]
    exact g3 l hl
  · rw [e4] at hi
    rw [hm _ (by omega), hm _ (by omega), eu 17 (by decide), eu 18 (by decide)]; exact g4 i hi
theorem not_sil {S : zS} {c w : Nat} : notS (su S 12 c 0) c w = su (notS S c w) 12 c 0 := by
  funext k i
  have e15 : su S 12 c 0 15 c = S 15 c := su_k (by decide)
  unfold notS
  rw [e15]
  by_cases e : S 15 c < 10
  · rw [if_pos e, if_pos e]
    simp only [su_eq]
    by_cases g : k = 12 ∧ i = c
    · simp [g]
    · simp only [if_neg g]
  · rw [if_neg e, if_neg e]
    simp only [su_eq]
    by_cases g : k = 12 ∧ i = c
    · simp [g]
    · simp only [if_neg g]
theorem lp_pas16_s (hl : hL LN RF h o n b) (hWB : WB W) {K : gk_M → Option gk_M} : ∀ (r n' c : Nat) (S : zS) (M : gk_M), HR h o M S → BR b M W → SI n S → R1 S → Sd S → WN W S → c + r = S 20 2 → Rg S c → r < n' → ∃ M', lp_X2_pass_16 LN RF h K n' (nI c, M) = K M' ∧ HR h o M' (rgaS W r c S) ∧ HFr h o n M M'
  | r, 0, c, S, M, _, _, _, _, _, _, _, _, g => absurd g (by omega)
  | 0, n' + 1, c, S, M, hH, hB, hI, hR, hD, hW, g1, hg, g2 => by
    have := hI.1
    have hn60 := hl.2.2.2.1.2.2
    refine ⟨M, ?_, hH, HFr.rf⟩
    rw [lp_X2_pass_16, hH.1.2.1, if_pos (nI_le (by omega) (by omega))]
  | r + 1, n' + 1, c, S, M, hH, hB, hI, hR, hD, hW, g1, hg, g2 => by
    have h1 := hI.1
    have ho := hl.2.2.2.1.1
    have hn60 := hl.2.2.2.1.2.2
    have hc : c < S 20 2 := by omega
    have hCc := hI.2.1 c hc
    obtain ⟨c1, c2, c3, c4, -⟩ := hI.2.1 c hc
    have hC := hH.2.1 c hc
    obtain ⟨a1, a2, a3, a4, a5, a6⟩ := rg1_ok hWB hI hR hD hW hc hg
    rw [lp_X2_pass_16, hH.1.2.1, if_neg (nI_ge (by omega) (by omega)), ha_c hl (by omega)]
    simp only [gk_jn, nI_1, hC.2.1, nI_e0 (show S 7 c < 2 ^ 31 by omega)]
    rw [rgaS]
    have key : ∀ M1, HR h o M1 (rg1 W S c) → HFr h o n M M1 → ∃ M', lp_X2_pass_16 LN RF h K n' (nI (c + 1), M1) = K M' ∧ HR h o M' (rgaS W r (c + 1) (rg1 W S c)) ∧ HFr h o n M M' := by
      intro M1 q2 q3
      obtain ⟨M2, p1, p2, p3⟩ := lp_pas16_s hl hWB (K := K) r n' (c + 1) (rg1 W S c) M1 q2 (hB.fr hl hWB q3) a1 a2 a3 (hW.cn a4.1) (by rw [a4.2.1]; omega) a6 (by omega)
      exact ⟨M2, p1, p2, q3.tr p3⟩
    have hrg : rg1 W S c = if S 7 c = 0 then settS (rgoS W S c) else S := rfl
    by_cases e : S 7 c = 0
    · rw [if_pos e]
      have hgr := hg c (Nat.le_refl _) hc
      have hrow := hR c hc (by omega)
      obtain ⟨b1, b2, b3, b4, b5⟩ := rgo_ok hWB hI hR hW hc e hgr
      have hI1 := hI.rung hc hgr
      simp only [gk_put, hC.2.2.2.2.2.2.1, nI_1]
      have sm1 : Sm S (su S 14 c (S 14 c + 1)) c := Sm.fld (by omega)
      have hC1 : CR (gk_wr M (h + o + 6 + c) 6 (nI (S 14 c + 1))) (h + o + 6 + c) (su S 14 c (S 14 c + 1)) c := by
        obtain ⟨c0, c1, c2, c3, c4, c5, c6, c7, c8, c9, c10⟩ := hC
        have hq : ∀ j, (gk_wr M (h + o + 6 + c) 6 (nI (S 14 c + 1))).1 (h + o + 6 + c) j = if j = 6 then nI (S 14 c + 1) else M.1 (h + o + 6 + c) j := fun j => by rw [wr_1]; simp only [true_and]
        unfold CR
        rw [su_s]
        simp only [hq, wr_2]
        simp only [su_k (k := 14) (k' := 6) (by decide), su_k (k := 14) (k' := 7) (by decide), su_k (k := 14) (k' := 8) (by decide), su_k (k := 14) (k' := 9) (by decide), su_k (k := 14) (k' := 10) (by decide), su_k (k := 14) (k' := 11) (by decide), su_k (k := 14) (k' := 12) (by decide), su_k (k := 14) (k' := 13) (by decide), su_k (k := 14) (k' := 15) (by decide), su_k (k := 14) (k' := 16) (by decide)]
        exact ⟨c0, c1, c2, c3, c4, c5, rfl, c7, c8, c9, c10⟩
      obtain ⟨hH1, hF1⟩ := hH.cll (n := n) hI hI1 ho (Nat.le_refl n) sm1 hc (su_k (by decide)) (su_k (by decide)) (su_k (by decide)) hC1 (fun x hx => ⟨by funext j; rw [wr_1, if_neg (fun g => hx g.1)], rfl⟩)
      have hB1 := hB.fr hl hWB hF1
      have s9 : su S 14 c (S 14 c + 1) 9 c = S 9 c := su_k (by decide)
      have s10 : ∀ i, su S 14 c (S 14 c + 1) 10 i = S 10 i := fun i => su_k (by decide)
      have hlast : lastS S c < S 20 0 := (c4 (S 9 c - 1) (by omega)).1
      have e3 : (gk_wr M (h + o + 6 + c) 6 (nI (S 14 c + 1))).1 (h + o + 6 + c) 3 - 1 = nI (S 9 c - 1) := by
        rw [hC1.2.2.2.1, s9]; obtain ⟨y, hy⟩ : ∃ y, S 9 c = y + 1 := ⟨S 9 c - 1, by omega⟩; rw [hy, nI_pred]; rfl
      have hla := u_lineAt (LN := LN) (RF := RF) hC1 (by rw [s9]; exact c3) (fun i hi => by rw [s9] at hi; rw [s10]; have := c4 i hi; omega) (i := S 9 c - 1) (by rw [s9]; omega)
      rw [s10] at hla
      have hla' : f_X1_lineAt LN RF (h + o + 6 + c) (nI (S 9 c - 1)) (gk_wr M (h + o + 6 + c) 6 (nI (S 14 c + 1))) = some (nI (lastS S c)) := hla
      rw [e3, hla']
      simp only [Option.bind_some]
      have e6 : (gk_wr M (h + o + 6 + c) 6 (nI (S 14 c + 1))).1 (h + o + 6 + c) 6 = nI (S 14 c + 1) := by rw [wr_1, if_pos ⟨rfl, rfl⟩]
      rw [e6, hl.1.1, u_onwardAfter hl hB1 hWB (show lastS S c < 100 by omega) (show S 14 c + 1 < 100000 by omega)]
      have hon : amin (keyW W) (fun w => onOf W (lastS S c) w && (W 1 w == 1 && W 4 w == 2 + (S 14 c + 1))) (W 6 0) = onwS W S c := rfl
      rw [hon]
      simp only [Option.bind_some]
      have hle : onwS W S c ≤ W 6 0 := by
        cases eo : onwS W S c with
        | zero => omega
        | succ w => have := onw_lt eo; omega
      have hWn := hWB.1
      simp only [nN_m1 (show onwS W S c < 2 ^ 31 by omega)]
      cases eo : onwS W S c with
      | zero =>
        rw [if_pos rfl]
        have er : rgoS W S c = su S 14 c (S 14 c + 1) := by unfold rgoS; rw [eo, if_pos rfl]
        rw [er] at b1
        obtain ⟨M2, p1, p2, p3⟩ := u_settle hl (Nat.le_refl n) hH1 b1
        rw [p1]
        exact key M2 (by rw [hrg, if_pos e, er]; exact p2) (hF1.tr p3)
      | succ w =>
        have hw := onw_lt eo
        rw [if_neg (by omega), nN_s]
        have er : rgoS W S c = goS W 9 (su (notS (su S 14 c (S 14 c + 1)) c w) 12 c 0) c (W 3 w) (lastS S c) := by unfold rgoS; rw [eo, if_neg (by omega), Nat.add_sub_cancel]
        rw [er] at b1
        have x20 : ∀ i, su S 14 c (S 14 c + 1) 20 i = S 20 i := fun i => su_k (by decide)
        have hc1 : c < su S 14 c (S 14 c + 1) 20 2 := by rw [x20]; exact hc
        have h15 : su S 14 c (S 14 c + 1) 15 c ≤ 2 * su S 14 c (S 14 c + 1) 9 c := by rw [su_k (by decide), su_k (by decide)]; exact hrow.2
        have x7 : su S 14 c (S 14 c + 1) 7 c = 0 := by rw [su_k (by decide)]; exact e
        clear hla hla' hC1 e3 e6 sm1
        generalize su S 14 c (S 14 c + 1) = T at *
        obtain ⟨M2, p1, p2, p3⟩ := u_silence hl hH1 (Nat.le_refl n) hI1 hc1
        have hI2 := hI1.sil hc1
        have t20 : ∀ i, su T 12 c 0 20 i = T 20 i := fun i => su_k (by decide)
        have hc2 : c < su T 12 c 0 20 2 := by rw [t20]; exact hc1
        have hT2 := hI2.2.1 c hc2
        obtain ⟨M3, r1, r2, r3⟩ := u_note (LN := LN) (RF := RF) (p2.2.1 c hc2) (w := w) (by have := hT2.2.2.2.2.2.2.2.2.1; have := hT2.2.2.1; omega) (by omega) hT2.2.2.2.2.2.2.2.2.2.2.2.2.2.2
        have hI3 := hI2.nte hc2 (w := w) (by omega) (by rw [su_k (by decide), su_k (by decide)]; exact h15)
        obtain ⟨hH3, hF3⟩ := p2.cll (n := n) hI2 hI3 ho (Nat.le_refl n) sm_not hc2 (n_o _ c w 7 c (by decide) (by decide)) (n_o _ c w 12 c (by decide) (by decide)) (n_o _ c w 13 c (by decide) (by decide)) r2 r3
        have hFr3 := (hF1.tr p3).tr hF3
        have hB3 := hB.fr hl hWB hFr3
        rw [p1]
        simp only [Option.bind_some, r1, hl.1.1, ha_w hl (show w < 24 by omega), hB3.2 w 3 hw (by decide)]
        have y20 : ∀ i, notS (su T 12 c 0) c w 20 i = S 20 i := fun i => by rw [n_o _ _ _ _ _ (by decide) (by decide), t20, x20]
        obtain ⟨M4, s1, s2, s3⟩ := u_go hl hWB (Nat.le_refl n) (c := c) (t := W 3 w) (s := lastS S c) hH3 hB3 hI3 (hW.cn (y20 0)) (by rw [y20]; exact hc) (by rw [n_o _ _ _ _ _ (by decide) (by decide), su_k (by decide)]; exact x7) (by rw [n_o _ _ _ _ _ (by decide) (by decide), su_s]) (by rw [y20]; exact (hW w hw).2) (by rw [y20]; exact hlast)
        rw [s1]
        simp only [Option.bind_some]
        rw [not_sil] at s2
        obtain ⟨M5, t1, t2, t3⟩ := u_settle hl (Nat.le_refl n) s2 b1
        rw [t1]
        exact key M5 (by rw [hrg, if_pos e, er]; exact t2) ((hFr3.tr s3).tr t3)
    · rw [if_neg e]
      exact key M (by rw [hrg, if_neg e]; exact hH) HFr.rf
theorem lp_pas128_s (hl : hL LN RF h o n b) (hWB : WB W) {R : Nat} (hR8 : R ≤ 8) {K : gk_M → Option gk_M} : ∀ (r n' i p : Nat) (S : zS) (M : gk_M), HR h o M S → BR b M W → SI n S → R1 S → WN W S → i + r = R → p + r ≤ S 20 4 → r < n' → ∃ M', lp_X2_pass_128 LN RF h (nI R) K n' (nI p, nI i, M) = K M' ∧ HR h o M' (bkaS W n r p S) ∧ HFr h o n M M'
  | r, 0, i, p, S, M, _, _, _, _, _, _, _, g => absurd g (by omega)
  | 0, n' + 1, i, p, S, M, hH, hB, hI, hR, hW, g1, gp, g2 => by
    refine ⟨M, ?_, hH, HFr.rf⟩
    rw [lp_X2_pass_128, if_pos (nI_le (by omega) (by omega))]
  | r + 1, n' + 1, i, p, S, M, hH, hB, hI, hR, hW, g1, gp, g2 => by
    have h1 := hI.1
    have hn60 := hl.2.2.2.1.2.2
    have hbk := hH.2.2.2 p (by omega)
    have hbl := hI.2.2.2.2.1 p (by omega)
    rw [lp_X2_pass_128, if_neg (nI_ge (by omega) (by omega)), ha_5 hl (by omega), hbk.1, ha_6 hl (by omega), hbk.2, u_isFree hl hH (by omega) (show S 17 p < 8 by omega), u_isFree hl hH (by omega) (show S 18 p < 8 by omega), u_hasRoom hl hH (by omega)]
    simp only [Option.bind_some, gk_jn, nI_1, bI_0]
    rw [bkaS]
    have hno : ¬ bkgS S n p = true → ∃ M', lp_X2_pass_128 LN RF h (nI R) K n' (nI (p + 1), nI (i + 1), M) = K M' ∧ HR h o M' (if bkgS S n p = true then bkaS W n r p (bk1 W n S p) else bkaS W n r (p + 1) S) ∧ HFr h o n M M' := by
      intro g
      rw [if_neg g]
      exact lp_pas128_s hl hWB hR8 (K := K) r n' (i + 1) (p + 1) S M hH hB hI hR hW (by omega) (by omega) (by omega)
    by_cases e1 : cOf S (S 17 p) = 0
    · rw [if_neg (by simp [e1])]
      by_cases e2 : cOf S (S 18 p) = 0
      · rw [if_neg (by simp [e2])]
        by_cases e3 : S 20 2 < n
        · rw [if_neg (by simp [e3])]
          have hg : bkgS S n p = true := by unfold bkgS; simp [e1, e2, e3]
          rw [if_pos hg]
          obtain ⟨a1, a2, a3, a4, a5, a6, a7⟩ := bk1_ok hWB hI hR hW (show p < S 20 4 by omega) hg
          have h4 := a7.1
          rw [dr_4] at h4
          obtain ⟨M1, q1, q2, q3⟩ := u_dropBack hl hH (by omega) (show p < S 20 4 by omega)
          rw [q1]
          simp only [Option.bind_some]
          have hd0 : drpS S p 20 0 = S 20 0 := dr_20 (by decide)
          have hd2 : drpS S p 20 2 = S 20 2 := dr_20 (by decide)
          obtain ⟨M2, p1, p2, p3⟩ := u_connect hl hWB (Nat.le_refl n) (l := S 17 p) (t := S 18 p) q2 (hB.fr hl hWB q3) (hI.drp (show p < S 20 4 by omega)) (hW.cn hd0) (by omega) (by omega) (by rw [dr_cOf]; exact e1) (by omega) (K := fun y => lp_X2_pass_128 LN RF h (nI R) K n' (nI p, nI (i + 1), y.2))
          have p2' : HR h o M2 (bk1 W n S p) := p2
          obtain ⟨M3, r1, r2, r3⟩ := lp_pas128_s hl hWB hR8 (K := K) r n' (i + 1) p (bk1 W n S p) M2 p2' (hB.fr hl hWB (q3.tr p3)) a1 a2 (hW.cn a4) (by omega) (by omega) (by omega)
          exact ⟨M3, p1.trans r1, r2, (q3.tr p3).tr r3⟩
        · rw [if_pos (by simp; omega)]; exact hno (by unfold bkgS; simp [e3])
      · rw [if_pos (by simp [e2])]; exact hno (by unfold bkgS; simp [e2])
    · rw [if_pos (by simp [e1])]; exact hno (by unfold bkgS; simp [e1])
theorem u_pass (hl : hL LN RF h o n b) (hWB : WB W) {S : zS} {M : gk_M} (hH : HR h o M S) (hB : BR b M W) (hI : SI n S) (hR : R1 S) (hD : Sd S) (hW : WN W S) (ht : S 20 3 < 1000) : ∃ M', f_X2_pass LN RF h M = some M' ∧ HR h o M' (tckS W n S) ∧ HFr h o n M M' := by
  have h1 := hI.1
  have ho := hl.2.2.2.1.1
  have hn60 := hl.2.2.2.1.2.2
  unfold f_X2_pass
  simp only [gk_put, hH.1.2.2.2, nI_1, gk_jn]
  have hH0 : HR h o (gk_wr M h 10 (nI (S 20 3 + 1))) (su S 20 3 (S 20 3 + 1)) := hH.tk ho
  have hI0 := hI.tick ht
  have hB0 := hB.fr hl hWB (HFr.rf.wr (h := h) (o := o) (n := n) (i := 10) (v := nI (S 20 3 + 1)) (Or.inl rfl))
  have eu2 : su S 20 3 (S 20 3 + 1) 20 2 = S 20 2 := by rw [su_i]; rfl
  obtain ⟨M1, q1, q2, q3⟩ := u_charge hl (Nat.le_refl n) hH0 hI0
  rw [eu2] at q2
  obtain ⟨a1, a2, a3, a4, a5, a6, a7, a8⟩ := tk0_ok hI hR hD ht
  obtain ⟨b1, b2, b3, b4, b5⟩ := rga_ok hWB (S 20 2) 0 (tk0 S) a1 a2 a3 (hW.cn a4) (by omega) a8
  have hB1 := hB0.fr hl hWB q3
  obtain ⟨M2, p1, p2, p3⟩ := lp_pas16_s hl hWB (K := fun y23 => lp_X2_pass_128 LN RF h (y23.1 h 9) (fun y => some y) gk_fuel (0, 0, y23)) (S 20 2) gk_fuel 0 (tk0 S) M1 q2 hB1 a1 a2 a3 (hW.cn a4) (by omega) a8 (fuel_gt (by omega))
  have hb4 := b1.1
  obtain ⟨M3, r1, r2, r3⟩ := lp_pas128_s hl hWB (R := rgaS W (S 20 2) 0 (tk0 S) 20 4) (by omega) (K := fun y => some y) (rgaS W (S 20 2) 0 (tk0 S) 20 4) gk_fuel 0 0 _ M2 p2 (hB1.fr hl hWB p3) b1 b2 (hW.cn (b4.1.trans a4)) (by omega) (by omega) (fuel_gt (by omega))
  rw [q1]
  simp only [Option.bind_some]
  rw [show ((0 : Int32), M1) = (nI 0, M1) from rfl, p1, p2.1.2.2.1]
  exact ⟨M3, r1, r2, (((HFr.rf.wr (by omega)).tr q3).tr p3).tr r3⟩
end HP
