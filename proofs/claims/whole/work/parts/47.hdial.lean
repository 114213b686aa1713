/-! The class's house: settling, opening, connecting, answering, hanging up -/
section HD
variable {LN : Nat → Nat} {RF : Nat → Nat → Nat} {h o n b : Nat} {W : zS}
theorem u_go (hl : hL LN RF h o n b) (hW : WB W) {N : Nat} (hN : N ≤ n) {c : Nat} {S : zS} {M : gk_M} {t s : Nat} (hH : HR h o M S) (hB : BR b M W) (hI : SI N S) (hWN : WN W S) (hc : c < S 20 2) (h7 : S 7 c = 0) (h12 : S 12 c = 0) (ht : t < S 20 0) (hs : s < S 20 0) : ∃ M', f_X2_go LN RF h (nI c) (nI s) (nI t) M = some M' ∧ HR h o M' (goS W 9 S c t s) ∧ HFr h o n M M' := by
  have h1 := hI.1
  have hn60 := hl.2.2.2.1.2.2
  unfold f_X2_go
  rw [u_isCall hH (by omega) (by omega), ha_c hl (by omega)]
  simp only [Option.bind_some, gk_jn, bI_0]
  rw [if_neg (by simp [hc])]
  exact lp_go_s hl hW hN 9 gk_fuel S M t s 0 hH hB hI hWN hc h7 h12 ht hs (by omega) (fuel_gt (by omega))
theorem lp_set_s (hl : hL LN RF h o n b) {N : Nat} (hN : N ≤ n) {K : gk_M → Option gk_M} : ∀ (r n' l : Nat) (S : zS) (M : gk_M), HR h o M S → SI N S → l + r = S 20 0 → r < n' → ∃ M', lp_X2_settle_2 LN RF h K n' (nI l, M) = K M' ∧ HR h o M' (setS r l S) ∧ HFr h o n M M'
  | r, 0, l, S, M, _, _, _, g => absurd g (by omega)
  | 0, n' + 1, l, S, M, hH, hI, g1, g2 => by
    have := hI.1
    refine ⟨M, ?_, hH, HFr.rf⟩
    rw [lp_X2_settle_2, hH.1.1, if_pos (nI_le (by omega) (by omega))]
  | r + 1, n' + 1, l, S, M, hH, hI, g1, g2 => by
    have h1 := hI.1
    have hn60 := hl.2.2.2.1.2.2
    have hk := kAt_le S l
    have hv := hH.2.2.1 l (by omega)
    rw [lp_X2_settle_2, hH.1.1, if_neg (nI_ge (by omega) (by omega)), u_isFree hl hH (by omega) (show l < 8 by omega)]
    simp only [Option.bind_some, gk_jn, nI_1, bI_0, ha_3 hl (show l < 8 by omega), hw_3 hl (show l < 8 by omega), hv.2.1, nN_m1 (show kAt S l < 2 ^ 31 by omega), bit_1 l (show l < 8 by omega)]
    have hc := set1_cn (S := S) (l := l)
    have hI1 := hI.st1 (l := l) (by omega)
    rw [setS]
    have key : ∀ M1, HR h o M1 (set1 S l) → HFr h o n M M1 → ∃ M', lp_X2_settle_2 LN RF h K n' (nI (l + 1), M1) = K M' ∧ HR h o M' (setS r (l + 1) (set1 S l)) ∧ HFr h o n M M' := by
      intro M1 q2 q3
      obtain ⟨M2, p1, p2, p3⟩ := lp_set_s hl hN (K := K) r n' (l + 1) (set1 S l) M1 q2 hI1 (by rw [hc.1]; omega) (by omega)
      exact ⟨M2, p1, p2, q3.tr p3⟩
    have hset : set1 S l = if kAt S l ≠ 0 ∧ cOf S l = 0 then rngS S (kAt S l - 1) (2 ^ l) else S := rfl
    by_cases e2 : cOf S l = 0
    · rw [if_neg (by simp [e2])]
      by_cases e1 : kAt S l = 0
      · rw [if_pos e1]
        exact key M (by rw [hset, if_neg (fun g => g.1 e1)]; exact hH) HFr.rf
      · rw [if_neg e1]
        obtain ⟨c, hkc⟩ : ∃ c, kAt S l = c + 1 := ⟨kAt S l - 1, by omega⟩
        obtain ⟨k1, k2⟩ := kAt_s hkc
        have h72 : S 7 c = 2 ∧ S 13 c = l + 1 := by unfold knk at k2; simpa using k2
        have hIr := hI1
        rw [hset, if_pos ⟨e1, e2⟩, hkc, Nat.add_sub_cancel] at hIr
        obtain ⟨M1, q1, q2, q3⟩ := u_ringAt hl hH hN hI (c := c) (ls := 2 ^ l) k1 (Nat.pow_lt_pow_right (n := 8) (by omega) (by omega)) hIr (Or.inr h72.1) ((hI.2.1 c k1).2.2.2.2.2.2.2.2.2.1 (by omega)) (gk_wr M (h + o + 1) l (-1)) (fun a ha => by funext j; rw [wr_1, if_neg (by omega)]) rfl (fun x hx => by
          rw [wr_1]
          by_cases ex : x = l
          · subst ex; rw [if_pos ⟨rfl, rfl⟩, if_pos hkc, nN_0]
          · rw [if_neg (by omega), if_neg (fun g => by
              have := (kAt_s g).2
              unfold knk at this
              simp at this
              omega)]
            exact (hH.2.2.1 x hx).2.1)
        rw [hkc, nN_s, q1]
        simp only [Option.bind_some]
        exact key M1 (by rw [hset, if_pos ⟨e1, e2⟩, hkc, Nat.add_sub_cancel]; exact q2) ((HFr.rf.wr (by omega)).tr q3)
    · rw [if_pos (by simp [e2])]
      exact key M (by rw [hset, if_neg (fun g => e2 g.2)]; exact hH) HFr.rf
theorem u_settle (hl : hL LN RF h o n b) {N : Nat} (hN : N ≤ n) {S : zS} {M : gk_M} (hH : HR h o M S) (hI : SI N S) : ∃ M', f_X2_settle LN RF h M = some M' ∧ HR h o M' (settS S) ∧ HFr h o n M M' := by
  unfold f_X2_settle
  simp only [gk_jn]
  have := hI.1
  obtain ⟨M1, q1, q2, q3⟩ := lp_set_s hl hN (K := fun y => some y) (S 20 0) gk_fuel 0 S M hH hI (by omega) (fuel_gt (by omega))
  rw [show (0 : Int32) = nI 0 from rfl, q1]
  exact ⟨M1, rfl, q2, q3⟩
theorem u_openc {M : gk_M} {a l : Nat} : ∃ M', f_X1_open LN RF a (nI l) M = some M' ∧ (∀ x, x ≠ a → M'.1 x = M.1 x ∧ M'.2 x = M.2 x) ∧ M'.2 a = 0 ∧ ∀ j, M'.1 a j = if j = 0 then nI l else if j = 5 then -1 else if j < 10 then 0 else M.1 a j := by
  unfold f_X1_open
  simp only [gk_put, gk_putl]
  refine ⟨_, rfl, fun x hx => ?_, ?_, fun j => ?_⟩
  · refine ⟨?_, ?_⟩
    · funext j; simp [wl_1, wr_1, hx]
    · simp [wl_2, wr_2, hx]
  · simp [wl_2]
  · rw [wl_1]
    simp only [wr_1, true_and]
    by_cases g : j < 10
    · have : j = 0 ∨ j = 1 ∨ j = 2 ∨ j = 3 ∨ j = 4 ∨ j = 5 ∨ j = 6 ∨ j = 7 ∨ j = 8 ∨ j = 9 := by omega
      rcases this with rfl | rfl | rfl | rfl | rfl | rfl | rfl | rfl | rfl | rfl <;> rfl
    · rw [if_neg (by omega), if_neg (by omega), if_neg (by omega), if_neg (by omega), if_neg (by omega), if_neg (by omega), if_neg (by omega), if_neg (by omega), if_neg (by omega), if_neg (by omega), if_neg (by omega), if_neg (by omega), if_neg (by omega)]
theorem u_opened (hl : hL LN RF h o n b) {N : Nat} (hN : N ≤ n) {S : zS} {M : gk_M} {l : Nat} (hH : HR h o M S) (hI : SI N S) (hl8 : l < S 20 0) (hf : cOf S l = 0) (hn : S 20 2 < N) : ∃ M', f_X2_opened LN RF h (nI l) M = some (nI (S 20 2), M') ∧ HR h o M' (newS S l) ∧ HFr h o n M M' := by
  have h1 := hI.1
  have ho := hl.2.2.2.1.1
  have hn60 := hl.2.2.2.1.2.2
  have hI' := hI.new hl8 hf hn
  unfold f_X2_opened
  rw [u_hasRoom hl hH (by omega)]
  simp only [Option.bind_some, bI_0]
  rw [if_neg (by simp; omega), hH.1.2.1, ha_c hl (by omega)]
  obtain ⟨M1, q1, q2, q3, q4⟩ := u_openc (LN := LN) (RF := RF) (M := M) (a := h + o + 6 + S 20 2) (l := l)
  rw [q1]
  have e8 : M1.1 h 8 = nI (S 20 2) := by rw [(q2 h (by omega)).1]; exact hH.1.2.1
  simp only [Option.bind_some, e8, hw_2 hl (show l < 8 by omega), gk_put]
  have e8' : (gk_wr M1 (h + o) l (nI (S 20 2))).1 h 8 = nI (S 20 2) := by rw [wr_1, if_neg (by omega)]; exact e8
  rw [e8', nI_1]
  refine ⟨gk_wr (gk_wr M1 (h + o) l (nI (S 20 2))) h 8 (nI (S 20 2 + 1)), ?_, ?_, ?_⟩
  · rw [wr_1, if_pos ⟨rfl, rfl⟩]
    rw [show nI (S 20 2 + 1) - 1 = nI (S 20 2) from nI_pred _]
  · refine ⟨?_, fun c hc => ?_, fun x hx => ?_, fun i hi => ?_⟩
    · rw [nw_20 (by decide), nw_c, nw_20 (by decide), nw_20 (by decide)]
      have ee : ∀ j, j ≠ 8 → (gk_wr (gk_wr M1 (h + o) l (nI (S 20 2))) h 8 (nI (S 20 2 + 1))).1 h j = M.1 h j := by
        intro j hj
        rw [wr_1, if_neg (by omega), wr_1, if_neg (by omega), (q2 h (by omega)).1]
      exact ⟨by rw [ee 7 (by decide)]; exact hH.1.1, by rw [wr_1, if_pos ⟨rfl, rfl⟩], by rw [ee 9 (by decide)]; exact hH.1.2.2.1, by rw [ee 10 (by decide)]; exact hH.1.2.2.2⟩
    · rw [nw_c] at hc
      have ea : ∀ j, (gk_wr (gk_wr M1 (h + o) l (nI (S 20 2))) h 8 (nI (S 20 2 + 1))).1 (h + o + 6 + c) j = M1.1 (h + o + 6 + c) j := by
        intro j
        rw [wr_1, if_neg (by omega), wr_1, if_neg (by omega)]
      by_cases e : c = S 20 2
      · subst e
        unfold CR
        simp only [ea, q4, wr_2, q3]
        rw [nw_6, nw_0 (k := 7) (by omega), nw_0 (k := 8) (by omega), nw_0 (k := 9) (by omega), nw_0 (k := 12) (by omega), nw_0 (k := 13) (by omega), nw_0 (k := 14) (by omega), nw_0 (k := 15) (by omega)]
        exact ⟨rfl, rfl, rfl, rfl, rfl, rfl, rfl, rfl, rfl, rfl, rfl⟩
      · have h9 := (hI.2.1 c (by omega)).2.2.1
        exact ((hH.2.1 c (by omega)).mv (by funext j; rw [ea j, (q2 _ (by omega)).1]) (by rw [wr_2, wr_2, (q2 _ (by omega)).2])).cg (by omega) (nw_i e (by decide)) (nw_i e (by decide)) (nw_i e (by decide)) (nw_i e (by decide)) (nw_i e (by decide)) (nw_i e (by decide)) (nw_i e (by decide)) (nw_i e (by decide)) (fun _ _ => nw_k (by omega)) (fun _ _ => nw_k (by omega)) (fun _ _ => nw_k (by omega))
    · obtain ⟨d1, d2⟩ := cOf_new hI hI' hf x
      rw [d1, d2, nw_k (by omega)]
      simp only [wr_1, show ¬ h + o = h by omega, show ¬ h + o + 1 = h by omega, show ¬ h + o + 2 = h by omega, show ¬ h + o + 1 = h + o by omega, show ¬ h + o + 2 = h + o by omega, false_and, if_false, true_and]
      rw [(q2 _ (by omega)).1, (q2 _ (by omega)).1, (q2 _ (by omega)).1]
      refine ⟨?_, (hH.2.2.1 x hx).2⟩
      by_cases e : x = l
      · rw [if_pos e, if_pos e, nN_s]
      · rw [if_neg e, if_neg e]; exact (hH.2.2.1 x hx).1
    · rw [nw_20 (by decide)] at hi
      rw [nw_k (by omega), nw_k (by omega)]
      simp only [wr_1, show ¬ h + o + 3 = h by omega, show ¬ h + o + 4 = h by omega, show ¬ h + o + 3 = h + o by omega, show ¬ h + o + 4 = h + o by omega, false_and, if_false]
      rw [(q2 _ (by omega)).1, (q2 _ (by omega)).1]
      exact hH.2.2.2 i hi
  · exact ((HFr.tr (fun a a1 a2 => q2 a (by omega)) HFr.rf).wr (by omega)).wr (by omega)
theorem u_connect (hl : hL LN RF h o n b) (hW : WB W) {N : Nat} (hN : N ≤ n) {S : zS} {M : gk_M} {l t : Nat} (hH : HR h o M S) (hB : BR b M W) (hI : SI N S) (hWN : WN W S) (hl8 : l < S 20 0) (ht : t < S 20 0) (hf : cOf S l = 0) (hn : S 20 2 < N) {α : Type} {K : Int32 × gk_M → Option α} : ∃ M', ((f_X2_opened LN RF h (nI l) M).bind fun r21 => (f_X2_go LN RF h r21.1 (nI l) (nI t) r21.2).bind fun r22 => (f_X2_settle LN RF h r22).bind fun r23 => K (r21.1, r23)) = K (nI (S 20 2), M') ∧ HR h o M' (diaS W S l t) ∧ HFr h o n M M' := by
  have hI' := hI.new hl8 hf hn
  have e20 : newS S l 20 0 = S 20 0 := nw_20 (by decide)
  have ec := nw_c (S := S) (l := l)
  have hWn : WN W (newS S l) := hWN.cn e20
  obtain ⟨M1, q1, q2, q3⟩ := u_opened hl hN hH hI hl8 hf hn
  obtain ⟨M2, p1, p2, p3⟩ := u_go hl hW hN (t := t) (s := l) q2 (hB.fr hl hW q3) hI' hWn (c := S 20 2) (by omega) (nw_0 (by omega)) (nw_0 (by omega)) (by omega) (by omega)
  obtain ⟨a1, a2⟩ := SI.go hW 9 (newS S l) (S 20 2) t l hI' hWn (by omega) (nw_0 (by omega)) (nw_0 (by omega)) (by omega) (by omega)
  obtain ⟨M3, r1, r2, r3⟩ := u_settle hl hN p2 a1
  rw [q1]
  simp only [Option.bind_some, p1, r1]
  exact ⟨M3, rfl, r2, (q3.tr p3).tr r3⟩
theorem end_sil {S : zS} {c why : Nat} : endS (su S 12 c 0) c why = endS S c why := by
  funext k i
  unfold endS
  simp only [su_eq]
  by_cases e : k = 12 ∧ i = c
  · simp [e]
  · simp only [if_neg e]
theorem u_hangUp (hl : hL LN RF h o n b) {N : Nat} (hN : N ≤ n) {S : zS} {M : gk_M} {l c : Nat} (hH : HR h o M S) (hI : SI N S) (hl8 : l < S 20 0) (hf : cOf S l = c + 1) : ∃ M', f_X2_hangUp LN RF h (nI l) M = some (nI c, M') ∧ HR h o M' (dowS S l) ∧ HFr h o n M M' := by
  have h1 := hI.1
  obtain ⟨hcn, hin⟩ := cOf_s hf
  unfold f_X2_hangUp
  rw [ha_2 hl (by omega), (hH.2.2.1 l (by omega)).1, hf, nN_s, ha_c hl (by omega)]
  obtain ⟨M1, q1, q2, q3⟩ := u_silence hl hH hN hI hcn
  rw [q1]
  simp only [Option.bind_some, ha_c hl (show c < n by omega)]
  have hs := hI.sil hcn
  obtain ⟨M2, p1, p2, p3⟩ := u_close hl q2 hN hs (c := c) (why := 4) (by rw [su_k (by decide)]; exact hcn) su_s (by
    rw [su_k (by decide)]
    unfold inn at hin
    intro e
    simp [e] at hin)
  rw [show (4 : Int32) = nI 4 from rfl, p1]
  rw [end_sil] at p2
  obtain ⟨M3, r1, r2, r3⟩ := u_settle hl hN p2 (hI.fin hcn)
  simp only [Option.bind_some, r1]
  refine ⟨M3, rfl, ?_, (q3.tr p3).tr r3⟩
  unfold dowS
  rw [hf, Nat.add_sub_cancel]; exact r2
theorem u_answer (hl : hL LN RF h o n b) {N : Nat} (hN : N ≤ n) {S : zS} {M : gk_M} {l c : Nat} (hH : HR h o M S) (hI : SI N S) (hl8 : l < S 20 0) (hf : cOf S l = c + 1) (hr : (S 12 c).testBit l = true) : ∃ M', f_X2_answer LN RF h (nI l) M = some (nI c, M') ∧ HR h o M' (takS S l) ∧ HFr h o n M M' := by
  have h1 := hI.1
  have ho := hl.2.2.2.1.1
  obtain ⟨hcn, hin⟩ := cOf_s hf
  have hI' := hI.tak hl8 hf hr
  have hs := hI.sil hcn
  have h70 : S 7 c = 0 := by
    by_cases e : S 7 c = 0
    · exact e
    · have := (hI.2.1 c hcn).2.2.2.2.2.2.2.2.2.1 e
      rw [this] at hr; simp at hr
  have eT : su (su (su S 7 c 1) 12 c 0) 13 c (l + 1) = su (su (su S 12 c 0) 7 c 1) 13 c (l + 1) := by
    funext k i
    simp only [su_eq]
    by_cases e : k = 13 ∧ i = c
    · rw [if_pos e, if_pos e]
    · rw [if_neg e, if_neg e]
      by_cases e1 : k = 7 ∧ i = c
      · simp [e1]
      · rw [if_neg e1, if_neg e1]
  unfold f_X2_answer
  rw [ha_2 hl (by omega), (hH.2.2.1 l (by omega)).1, hf, nN_s, ha_c hl (by omega)]
  obtain ⟨M1, q1, q2, q3⟩ := u_silence hl hH hN hI hcn
  rw [q1]
  simp only [Option.bind_some, gk_put]
  rw [hw_2 hl (by omega)]
  have hH2 : HR h o (gk_wr (gk_wr (gk_wr M1 (h + o + 6 + c) 1 1) (h + o + 6 + c) 5 (nI l)) (h + o) l (nI c)) (su (su (su S 12 c 0) 7 c 1) 13 c (l + 1)) := by
    rw [eT] at hI'
    have sm : Sm (su S 12 c 0) (su (su (su S 12 c 0) 7 c 1) 13 c (l + 1)) c := (Sm.fld (by omega)).tr (Sm.fld (by omega))
    have hc1 : c < su S 12 c 0 20 2 := by rw [su_k (by decide)]; exact hcn
    refine HR.one q2 hs ho sm (fun a a1 a2 a3 => ⟨by funext j; simp [wr_1, a1, a3], rfl⟩) (fun _ => ?_) (fun x hx => ?_)
    · obtain ⟨c0, c1, c2, c3, c4, c5, c6, c7, c8, c9, c10⟩ := q2.2.1 c hc1
      have hq : ∀ j, (gk_wr (gk_wr (gk_wr M1 (h + o + 6 + c) 1 1) (h + o + 6 + c) 5 (nI l)) (h + o) l (nI c)).1 (h + o + 6 + c) j = if j = 5 then nI l else if j = 1 then 1 else M1.1 (h + o + 6 + c) j := by
        intro j
        rw [wr_1, if_neg (by omega)]
        simp only [wr_1, true_and]
      unfold CR
      simp only [hq, wr_2]
      generalize su S 12 c 0 = T at *
      rw [su_s]
      simp only [su_k (k := 13) (k' := 6) (by decide), su_k (k := 13) (k' := 7) (by decide), su_k (k := 13) (k' := 8) (by decide), su_k (k := 13) (k' := 9) (by decide), su_k (k := 13) (k' := 10) (by decide), su_k (k := 13) (k' := 11) (by decide), su_k (k := 13) (k' := 12) (by decide), su_k (k := 13) (k' := 14) (by decide), su_k (k := 13) (k' := 15) (by decide), su_k (k := 13) (k' := 16) (by decide), su_s, su_k (k := 7) (k' := 6) (by decide), su_k (k := 7) (k' := 8) (by decide), su_k (k := 7) (k' := 9) (by decide), su_k (k := 7) (k' := 10) (by decide), su_k (k := 7) (k' := 11) (by decide), su_k (k := 7) (k' := 12) (by decide), su_k (k := 7) (k' := 14) (by decide), su_k (k := 7) (k' := 15) (by decide), su_k (k := 7) (k' := 16) (by decide)]
      exact ⟨c0, rfl, c2, c3, c4, (nN_s l).symm, c6, c7, c8, c9, c10⟩
    · have d1 := cOf_one hs hI' sm hc1 x
      have d2 := kAt_one hs hI' sm hc1 x
      have i1 : inn (su (su (su S 12 c 0) 7 c 1) 13 c (l + 1)) x c = (S 6 c == x || x == l) := by
        unfold inn
        simp [su_eq]
        by_cases e : x = l
        · simp [e]
        · rw [beq_eq_false_iff_ne.mpr e, beq_eq_false_iff_ne.mpr (fun g => e g.symm)]
      have i2 : inn (su S 12 c 0) x c = (S 6 c == x) := by
        unfold inn
        simp [su_eq, h70]
      have k1 : knk (su (su (su S 12 c 0) 7 c 1) 13 c (l + 1)) x c = false := by unfold knk; simp [su_eq]
      have k2 : kAt (su S 12 c 0) x ≠ c + 1 := by
        intro g
        have := (kAt_s g).2
        unfold knk at this
        simp [su_eq, h70] at this
      rw [i1] at d1
      rw [k1, if_neg (by decide), if_neg k2] at d2
      rw [d1, d2]
      simp only [wr_1, show ¬ h + o = h + o + 6 + c by omega, show ¬ h + o + 1 = h + o + 6 + c by omega, show ¬ h + o + 1 = h + o by omega, false_and, if_false, true_and]
      refine ⟨?_, (q2.2.2.1 x hx).2.1⟩
      by_cases e : x = l
      · rw [if_pos e, if_pos (by simp [e]), nN_s]
      · rw [if_neg e]
        by_cases e6 : S 6 c = x
        · rw [if_pos (by simp [e6]), (q2.2.2.1 x hx).1, cOf_at hs hc1 (by rw [i2]; simp [e6])]
        · rw [if_neg (by simp [e, e6]), if_neg (fun g => by have := (cOf_s g).2; rw [i2] at this; simp [e6] at this)]
          exact (q2.2.2.1 x hx).1
  rw [← eT] at hH2
  obtain ⟨M3, r1, r2, r3⟩ := u_settle hl hN hH2 hI'
  rw [r1]
  refine ⟨M3, rfl, ?_, (((q3.wr (by omega)).wr (by omega)).wr (by omega)).tr r3⟩
  unfold takS
  rw [hf, Nat.add_sub_cancel]; exact r2
end HD
