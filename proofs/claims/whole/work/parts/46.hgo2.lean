/-! The class's house: arrivals, going, settling -/
section HG2
variable {LN : Nat → Nat} {RF : Nat → Nat → Nat} {h o n b : Nat} {W : zS}
theorem own_ne {S : zS} {c t : Nat} (hc : c < S 20 2) (h7 : S 7 c ≠ 3) (h : cOf S t = 0) : t ≠ S 6 c := by
  intro e
  have := cOf_0.mp h c hc
  unfold inn at this
  simp [h7, e] at this
theorem lp_arr_s (hl : hL LN RF h o n b) {M : gk_M} {S : zS} (hH : HR h o M S) (hB : BR b M W) (hW : WB W) {N : Nat} (hN : N ≤ n) (hI : SI N S) {c t : Nat} (hc : c < S 20 2) (h7 : S 7 c ≠ 3) (ht : t < 8) {v1 : Int32} {K : Int32 → Option gk_M} : ∀ r n' w a, w + r = W 6 0 → a < 256 → r < n' → lp_X2_arrive_54 LN RF h v1 (nI t) M K n' (nI a, nI w) = K (nI (orf (fun w => (W 0 w == t && W 1 w == 6 && W 5 w == 1) && cOf S (W 3 w) == 0 && !(W 3 w == S 6 c)) (fun w => W 3 w) r w a))
  | r, 0, w, _, _, _, g => absurd g (by omega)
  | 0, n' + 1, w, a, g1, ga, g2 => by
    rw [lp_X2_arrive_54, hl.1.1, hB.1, if_pos (nI_le (by omega) (by have := hW.1; omega))]; rfl
  | r + 1, n' + 1, w, a, g1, ga, g2 => by
    have hn := hW.1
    have h1 := hI.1
    have hn60 := hl.2.2.2.1.2.2
    have hb := hW.2 w (by omega)
    have ih := fun a' h' => lp_arr_s hl hH hB hW hN hI hc h7 ht (v1 := v1) (K := K) r n' (w + 1) a' (by omega) h' (by omega)
    rw [lp_X2_arrive_54, hl.1.1, hB.1, if_neg (nI_ge (by omega) (by omega)), ha_w hl (by omega)]
    simp only [gk_jn, nI_1, hB.2 w 1 (show w < W 6 0 by omega) (by decide), hB.2 w 3 (show w < W 6 0 by omega) (by decide), u_isOnFor hB hW (show w < W 6 0 by omega) (show t < 100 by omega), u_isFree hl hH (show S 20 2 ≤ 60 by omega) hb.2.2.2.1, Option.bind_some, bI_0, nI_e6 (show W 1 w < 2 ^ 31 by omega), bit_or a ga _ hb.2.2.2.1]
    rw [orf]
    unfold onOf
    by_cases e2 : W 1 w = 6
    · rw [if_pos e2]
      by_cases e1 : W 0 w = t
      · by_cases e3 : W 5 w = 0
        · rw [if_pos (by simp [e3]), ih a ga, show (W 0 w == t && W 1 w == 6 && W 5 w == 1 && cOf S (W 3 w) == 0 && !(W 3 w == S 6 c)) = false by simp [e3]]; rfl
        · rw [if_neg (by simp [e3, e1])]
          have e5 : W 5 w = 1 := by omega
          by_cases e4 : cOf S (W 3 w) = 0
          · rw [if_neg (by simp [e4]), ih _ (or256 ga hb.2.2.2.1), show (W 0 w == t && W 1 w == 6 && W 5 w == 1 && cOf S (W 3 w) == 0 && !(W 3 w == S 6 c)) = true by simp [e1, e2, e5, e4, own_ne hc h7 e4]]; rfl
          · rw [if_pos (by simp [e4]), ih a ga, show (W 0 w == t && W 1 w == 6 && W 5 w == 1 && cOf S (W 3 w) == 0 && !(W 3 w == S 6 c)) = false by simp [e4]]; rfl
      · rw [if_pos (by simp [e1]), ih a ga, show (W 0 w == t && W 1 w == 6 && W 5 w == 1 && cOf S (W 3 w) == 0 && !(W 3 w == S 6 c)) = false by simp [e1]]; rfl
    · rw [if_neg e2, ih a ga, show (W 0 w == t && W 1 w == 6 && W 5 w == 1 && cOf S (W 3 w) == 0 && !(W 3 w == S 6 c)) = false by simp [e2]]; rfl
theorem lns_256 {S : zS} {c t : Nat} (hW : WB W) (ht : t < 8) : lnsS W S c t < 256 := by
  unfold lnsS
  have : ∀ r i a, i + r ≤ W 6 0 → a < 256 → orf (fun w => (W 0 w == t && W 1 w == 6 && W 5 w == 1) && cOf S (W 3 w) == 0 && !(W 3 w == S 6 c)) (fun w => W 3 w) r i a < 256 := by
    intro r
    induction r with
    | zero => intro i a _ ha; exact ha
    | succ r ih =>
      intro i a hi ha
      rw [orf]
      refine ih (i + 1) _ (by omega) ?_
      split
      · exact or256 ha (hW.2 i (by omega)).2.2.2.1
      · exact ha
  exact this _ _ _ (by omega) (Nat.pow_lt_pow_right (n := 8) (by omega) ht)
theorem u_arrive (hl : hL LN RF h o n b) {M : gk_M} {S : zS} (hH : HR h o M S) (hB : BR b M W) (hW : WB W) {N : Nat} (hN : N ≤ n) (hI : SI N S) (hWN : WN W S) {c t : Nat} (hc : c < S 20 2) (h7 : S 7 c = 0) (h12 : S 12 c = 0) (ht : t < S 20 0) : ∃ M', f_X2_arrive LN RF h (nI c) (nI t) M = some M' ∧ HR h o M' (arrS W S c t) ∧ HFr h o n M M' := by
  have h1 := hI.1
  have hn60 := hl.2.2.2.1.2.2
  have hbc := (hI.sb (by omega)).2.1 c hc
  unfold f_X2_arrive
  rw [ha_c hl (by omega), u_isFree hl hH (by omega) (show t < 8 by omega)]
  simp only [Option.bind_some, gk_jn, bI_0, bit_1 t (show t < 8 by omega)]
  unfold arrS
  by_cases e1 : cOf S t = 0
  · have e2 := own_ne hc (by omega) e1
    rw [if_neg (show ¬ (cOf S t == 0) = false by simp [e1]), if_pos ⟨e1, e2⟩, nI_z, lp_arr_s hl hH hB hW hN hI hc (by omega) (show t < 8 by omega) (W 6 0) gk_fuel 0 (2 ^ t) (by omega) (Nat.pow_lt_pow_right (n := 8) (by omega) (by omega)) (fuel_gt (by have := hW.1; omega))]
    have hIr := (hI.arr hWN hc ht (by omega)).1
    unfold arrS at hIr
    rw [if_pos ⟨e1, e2⟩] at hIr
    have hk0 : ∀ l, kAt S l ≠ c + 1 := by
      intro l g
      have := (kAt_s g).2
      unfold knk at this
      simp [h7] at this
    obtain ⟨M1, q1, q2, q3⟩ := u_ringAt hl hH hN hI hc (lns_256 (S := S) (c := c) hW (show t < 8 by omega)) hIr (Or.inl h7) h12 M (fun _ _ => rfl) rfl (fun l hl8 => by rw [if_neg (hk0 l)]; exact (hH.2.2.1 l hl8).2.1)
    refine ⟨M1, ?_, q2, q3⟩
    unfold lnsS at q1
    rw [q1]; rfl
  · rw [if_pos (show (cOf S t == 0) = false by simp [e1]), if_neg (show ¬ (cOf S t = 0 ∧ t ≠ S 6 c) from fun g => e1 g.1)]
    obtain ⟨M1, q1, q2, q3⟩ := u_close hl hH hN hI (why := 3) hc h12 (by omega)
    have k6 : endS S c 3 6 c = S 6 c := e_o _ _ _ _ _ (by decide) (by decide) (by decide) (by decide)
    have k20 : ∀ i, endS S c 3 20 i = S 20 i := fun i => e_o _ _ _ _ _ (by decide) (by decide) (by decide) (by decide)
    have hI1 := hI.fin (why := 3) hc
    have hc1 := (q2.2.1 c (by rw [k20]; exact hc)).1
    rw [k6] at hc1
    rw [show (3 : Int32) = nI 3 from rfl, q1]
    simp only [Option.bind_some, hc1, hl.1.1]
    rw [show (5 : Int32) = nI 5 from rfl, u_has hl (hB.fr hl hW q3) hW (by omega) (by omega)]
    simp only [Option.bind_some, bI_0]
    cases e : hasW W (S 6 c) 5 with
    | false => exact ⟨M1, rfl, q2, q3⟩
    | true =>
      rw [if_neg (by decide), if_pos rfl]
      obtain ⟨M2, p1, p2, p3⟩ := u_addBack hl q2 (by rw [k20]; omega) (fun i hi => by
        have := hI1.2.2.2.2.1 i hi
        have e0 := k20 0
        omega) (show S 6 c < 8 by omega) (show t < 8 by omega)
      rw [p1]
      exact ⟨M2, rfl, p2, q3.tr p3⟩
theorem HR.cll {M M' : gk_M} {S S' : zS} {c N : Nat} (hH : HR h o M S) (hI : SI N S) (hI' : SI N S') (ho : 1 ≤ o) (hN : N ≤ n) (sm : Sm S S' c) (hc : c < S 20 2) (e7 : S' 7 c = S 7 c) (e12 : S' 12 c = S 12 c) (e13 : S' 13 c = S 13 c) (hC : CR M' (h + o + 6 + c) S' c) (hm : ∀ x, x ≠ h + o + 6 + c → M'.1 x = M.1 x ∧ M'.2 x = M.2 x) : HR h o M' S' ∧ HFr h o n M M' := by
  have h1 := hI.1
  refine ⟨HR.one hH hI ho sm (fun a _ _ g => hm a g) (fun _ => hC) (fun l hl8 => ?_), fun a a1 a2 => hm a (by omega)⟩
  obtain ⟨d1, d2⟩ := cOf_same hI hI' sm hc e7 e12 e13 l
  rw [d1, d2, (hm _ (by omega)).1, (hm _ (by omega)).1]
  exact ⟨(hH.2.2.1 l hl8).1, (hH.2.2.1 l hl8).2.1⟩
theorem u_kno (hl : hL LN RF h o n b) {M : gk_M} {S : zS} (hH : HR h o M S) {N : Nat} (hN : N ≤ n) (hI : SI N S) {c t : Nat} (hI' : SI N (knoS S c t)) (hc : c < S 20 2) (h7 : S 7 c = 0) (h12 : S 12 c = 0) (ht : t < 8) : ∃ M', (gk_put M (h + o + 6 + c) 1 2 fun M13 => gk_put M13 (h + o + 6 + c) 5 (nI t) fun M14 => gk_ast LN M14 (RF h 3) (nI t) (nI c) fun M16 => some M16) = some M' ∧ HR h o M' (knoS S c t) ∧ HFr h o n M M' := by
  have h1 := hI.1
  have ho := hl.2.2.2.1.1
  simp only [gk_put]
  rw [hw_3 hl ht]
  refine ⟨_, rfl, ?_, ((HFr.rf.wr (by omega)).wr (by omega)).wr (by omega)⟩
  refine HR.one hH hI ho (sm_kno (t := t)) (fun a a1 a2 a3 => ⟨by funext j; simp [wr_1, a2, a3], rfl⟩) (fun _ => ?_) (fun l hl8 => ?_)
  · obtain ⟨c0, c1, c2, c3, c4, c5, c6, c7, c8, c9, c10⟩ := hH.2.1 c hc
    obtain ⟨v1, v2, v3⟩ := k_v S c t
    have hq : ∀ j, (gk_wr (gk_wr (gk_wr M (h + o + 6 + c) 1 2) (h + o + 6 + c) 5 (nI t)) (h + o + 1) t (nI c)).1 (h + o + 6 + c) j = if j = 5 then nI t else if j = 1 then 2 else M.1 (h + o + 6 + c) j := by
      intro j
      rw [wr_1, if_neg (by omega)]
      simp only [wr_1, true_and]
    unfold CR
    rw [v1, v2, v3]
    simp only [hq, wr_2]
    simp only [k_o S c t 6 _ (by decide) (by decide) (by decide), k_o S c t 8 _ (by decide) (by decide) (by decide), k_o S c t 9 _ (by decide) (by decide) (by decide), k_o S c t 10 _ (by decide) (by decide) (by decide), k_o S c t 11 _ (by decide) (by decide) (by decide), k_o S c t 14 _ (by decide) (by decide) (by decide), k_o S c t 15 _ (by decide) (by decide) (by decide), k_o S c t 16 _ (by decide) (by decide) (by decide)]
    rw [h12] at c4
    exact ⟨c0, rfl, c2, c3, c4, (nN_s t).symm, c6, c7, c8, c9, c10⟩
  · obtain ⟨d1, d2⟩ := cOf_kno hI hI' hc h7 h12 l
    rw [d1, d2]
    simp only [wr_1, show ¬ h + o = h + o + 6 + c by omega, show ¬ h + o = h + o + 1 by omega, show ¬ h + o + 1 = h + o + 6 + c by omega, false_and, if_false, true_and]
    refine ⟨(hH.2.2.1 l hl8).1, ?_⟩
    by_cases e : l = t
    · rw [if_pos e, if_pos e, nN_s]
    · rw [if_neg e, if_neg e]; exact (hH.2.2.1 l hl8).2.1
theorem lp_go_s (hl : hL LN RF h o n b) (hW : WB W) {N : Nat} (hN : N ≤ n) {c : Nat} : ∀ (k n' : Nat) (S : zS) (M : gk_M) (t s st : Nat), HR h o M S → BR b M W → SI N S → WN W S → c < S 20 2 → S 7 c = 0 → S 12 c = 0 → t < S 20 0 → s < S 20 0 → k + st = 9 → k < n' →
    ∃ M', lp_X2_go_26 LN RF h (nI c) (h + o + 6 + c) (fun y => some y) n' (nI s, nI t, nI st, M) = some M' ∧ HR h o M' (goS W k S c t s) ∧ HFr h o n M M'
  | k, 0, S, M, t, s, st, hH, hB, hI, hWN, hc, h7, h12, ht, hs, hf, hn => absurd hn (by omega)
  | 0, n' + 1, S, M, t, s, st, hH, hB, hI, hWN, hc, h7, h12, ht, hs, hf, hn => by
    refine ⟨M, ?_, hH, HFr.rf⟩
    rw [lp_X2_go_26]
    simp only [show (8 : Int32) = nI 8 from rfl, nI_ltI (show 8 < 2 ^ 31 by omega) (show st < 2 ^ 31 by omega)]
    rw [if_pos (by omega)]
  | k + 1, n' + 1, S, M, t, s, st, hH, hB, hI, hWN, hc, h7, h12, ht, hs, hf, hn => by
    have h1 := hI.1
    have ho := hl.2.2.2.1.1
    have hn60 := hl.2.2.2.1.2.2
    have hbc := (hI.sb (by omega)).2.1 c hc
    have hCc := hI.2.1 c hc
    have hC := hH.2.1 c hc
    rw [lp_X2_go_26]
    simp only [show (8 : Int32) = nI 8 from rfl, nI_ltI (show 8 < 2 ^ 31 by omega) (show st < 2 ^ 31 by omega)]
    rw [if_neg (by omega), u_comesRoundTo hC (by omega) hCc.2.2.1 (fun i hi => by have := hCc.2.2.2.1 i hi; omega) (by omega)]
    simp only [Option.bind_some, bI_0, gk_jn]
    rw [goS]
    by_cases e1 : inRow S c t = true ∨ (t = S 6 c ∧ 0 < S 9 c)
    · rw [if_pos e1, if_neg (by rcases e1 with g | g; rw [g]; simp; simp [g.1, show S 9 c ≠ 0 by omega])]
      obtain ⟨M1, q1, q2, q3⟩ := u_close hl hH hN hI (why := 2) hc h12 (by omega)
      rw [show (2 : Int32) = nI 2 from rfl, q1]
      exact ⟨M1, rfl, q2, q3⟩
    · rw [if_neg e1, if_pos (by
        rw [Bool.or_eq_false_iff]
        refine ⟨?_, ?_⟩
        · cases e : inRow S c t with
          | false => rfl
          | true => exact absurd (Or.inl e) e1
        · by_cases g1 : t = S 6 c
          · by_cases g2 : 0 < S 9 c
            · exact absurd (Or.inr ⟨g1, g2⟩) e1
            · simp [g2]
          · simp [g1])]
      have er : inRow S c t = false := by
        cases e : inRow S c t with
        | false => rfl
        | true => exact absurd (Or.inl e) e1
      obtain ⟨h9, hcom⟩ := hI.com (W := W) hc ht hs er
      obtain ⟨p, hpp⟩ : ∃ p, p = if S 9 c = 0 ∧ hasW W t 7 = true then t else s := ⟨_, rfl⟩
      have hp : p < 8 := by rw [hpp]; split <;> omega
      obtain ⟨M1, q1, q2, q3⟩ := u_enter (LN := LN) (RF := RF) (W := W) hC h9 (fun i hi => by have := hCc.2.2.2.1 i hi; omega) (show t < 8 by omega) hp hpp
      obtain ⟨hH1, hF1⟩ := hH.cll (n := n) hI hcom ho hN (sm_com (by omega)) hc (c_o W S c t s 7 c (by decide) (by decide) (by decide)) (c_o W S c t s 12 c (by decide) (by decide) (by decide)) (c_o W S c t s 13 c (by decide) (by decide) (by decide)) q2 q3
      have hB1 := hB.fr hl hW hF1
      suffices main : ∃ M', ((f_X1_enter LN RF (h + o + 6 + c) (nI t) (nI p) M).bind fun r4 => (f_X2_firstThatActs LN RF h (r4.1 (h + o + 6 + c) 0) (nI s) (nI t) r4).bind fun r5 => if r5 = -1 then (f_X2_arrive LN RF h (nI c) (nI t) r4).bind fun r6 => some r6 else (f_X1_note LN RF (h + o + 6 + c) r5 r4).bind fun r7 => gk_aldr LN RF (RF (RF h 0) 0) r5 fun o10 => if r7.1 o10 1 = 2 then (f_X2_close LN RF h (h + o + 6 + c) 1 r7).bind fun r12 => some r12 else if r7.1 o10 1 = 4 then gk_put r7 (h + o + 6 + c) 1 2 fun M13 => gk_put M13 (h + o + 6 + c) 5 (nI t) fun M14 => gk_ast LN M14 (RF h 3) (nI t) (nI c) fun M16 => some M16 else lp_X2_go_26 LN RF h (nI c) (h + o + 6 + c) (fun y => some y) n' (nI t, r7.1 o10 3, nI st + 1, r7)) = some M' ∧ HR h o M' (if actsS W (comS W S c t s) c t s = 0 then arrS W (comS W S c t s) c t
    else if W 1 (actsS W (comS W S c t s) c t s - 1) = 2 then endS (notS (comS W S c t s) c (actsS W (comS W S c t s) c t s - 1)) c 1
    else if W 1 (actsS W (comS W S c t s) c t s - 1) = 4 then knoS (notS (comS W S c t s) c (actsS W (comS W S c t s) c t s - 1)) c t
    else goS W k (notS (comS W S c t s) c (actsS W (comS W S c t s) c t s - 1)) c (W 3 (actsS W (comS W S c t s) c t s - 1)) t) ∧ HFr h o n M M' by
        rw [hC.2.2.2.1]
        simp only [nI_e0 (show S 9 c < 2 ^ 31 by omega), hl.1.1]
        rw [hl.1.1] at main
        rw [show (7 : Int32) = nI 7 from rfl, u_has hl hB hW (show t < 100 by omega) (by omega)]
        simp only [Option.bind_some, bI_0]
        by_cases g9 : S 9 c = 0
        · rw [if_pos g9]
          cases gh : hasW W t 7 with
          | false =>
            rw [if_neg (by rw [gh]; simp)] at hpp
            rw [if_pos rfl]; rw [hpp] at main; exact main
          | true =>
            rw [if_pos ⟨g9, gh⟩] at hpp
            rw [if_neg (by decide)]; rw [hpp] at main; exact main
        · rw [if_neg (fun g => g9 g.1)] at hpp
          rw [if_neg g9]; rw [hpp] at main; exact main
      rw [q1]
      have k20 : ∀ i, comS W S c t s 20 i = S 20 i := fun i => c_o W S c t s 20 i (by decide) (by decide) (by decide)
      have k6 : comS W S c t s 6 c = S 6 c := c_o W S c t s 6 c (by decide) (by decide) (by decide)
      have k7 : comS W S c t s 7 c = 0 := by rw [c_o W S c t s 7 c (by decide) (by decide) (by decide)]; exact h7
      have k12 : comS W S c t s 12 c = 0 := by rw [c_o W S c t s 12 c (by decide) (by decide) (by decide)]; exact h12
      have hWc : WN W (comS W S c t s) := hWN.cn (k20 0)
      have hcc : c < comS W S c t s 20 2 := by rw [k20]; exact hc
      have htc : t < comS W S c t s 20 0 := by rw [k20]; exact ht
      have k15 : comS W S c t s 15 c + 1 ≤ 2 * comS W S c t s 9 c := by
        have := (hI.2.1 c hc).2.2.2.2.2.2.2.2.1
        rw [c_o W S c t s 15 c (by decide) (by decide) (by decide), c_9]; omega
      have k9 : comS W S c t s 9 c = S 9 c + 1 := c_9 W S c t s
      have k20' := k20 2
      have k200 := k20 0
      clear q3
      generalize comS W S c t s = T at *
      have hTc := hcom.2.1 c hcc
      simp only [Option.bind_some, q2.1, u_firstThatActs hl hH1 hB1 hW hN hcom hcc (show T 7 c ≠ 3 by omega) (show s < 8 by omega) (show t < 8 by omega)]
      have hal : actsS W T c t s ≤ W 6 0 := by
        cases ea : actsS W T c t s with
        | zero => omega
        | succ w => have := (acts_lt ea).1; omega
      have hWn := hW.1
      simp only [nN_m1 (show actsS W T c t s < 2 ^ 31 by omega)]
      cases ea : actsS W T c t s with
      | zero =>
        rw [if_pos rfl, if_pos rfl]
        obtain ⟨M2, p1, p2, p3⟩ := u_arrive hl hH1 hB1 hW hN hcom hWc hcc k7 k12 htc
        rw [p1]
        exact ⟨M2, rfl, p2, hF1.tr p3⟩
      | succ w =>
        obtain ⟨w1, w2, w3, w4⟩ := acts_lt ea
        rw [if_neg (by omega), if_neg (by omega)]
        simp only [Nat.add_sub_cancel, nN_s]
        obtain ⟨M2, p1, p2, p3⟩ := u_note (LN := LN) (RF := RF) q2 (w := w) (by omega) (by omega) hTc.2.2.2.2.2.2.2.2.2.2.2.2.2.2
        have hbw := hW.2 w w1
        have hNn := hcom.nte hcc (w := w) (by omega) (by omega)
        obtain ⟨hH2, hF2⟩ := hH1.cll (n := n) hcom hNn ho hN sm_not hcc (n_o T c w 7 c (by decide) (by decide)) (n_o T c w 12 c (by decide) (by decide)) (n_o T c w 13 c (by decide) (by decide)) p2 p3
        have hB2 := hB1.fr hl hW hF2
        rw [p1]
        simp only [Option.bind_some, hl.1.1, ha_w hl (show w < 24 by omega), hB2.2 w 1 w1 (by decide), hB2.2 w 3 w1 (by decide), nI_e2 (show W 1 w < 2 ^ 31 by omega), nI_e4 (show W 1 w < 2 ^ 31 by omega), nI_1]
        have q20 : ∀ i, notS T c w 20 i = T 20 i := fun i => n_o T c w 20 i (by decide) (by decide)
        have hcn : c < notS T c w 20 2 := by rw [q20]; exact hcc
        have j7 : notS T c w 7 c = 0 := by rw [n_o T c w 7 c (by decide) (by decide)]; exact k7
        have j12 : notS T c w 12 c = 0 := by rw [n_o T c w 12 c (by decide) (by decide)]; exact k12
        by_cases e2 : W 1 w = 2
        · rw [if_pos e2, if_pos e2]
          obtain ⟨M3, r1, r2, r3⟩ := u_close hl hH2 hN hNn (why := 1) hcn j12 (by omega)
          rw [show (1 : Int32) = nI 1 from rfl, r1]
          exact ⟨M3, rfl, r2, (hF1.tr hF2).tr r3⟩
        · rw [if_neg e2, if_neg e2]
          by_cases e4 : W 1 w = 4
          · rw [if_pos e4, if_pos e4]
            have hIk : SI N (knoS (notS T c w) c t) := by
              unfold act1 at w4
              simp [e4] at w4
              refine hNn.kno hcn (by rw [q20]; exact htc) (by rw [n_o T c w 6 c (by decide) (by decide)]; exact w4.1.2) ?_ (by omega)
              rw [kAt_0]
              intro b hb
              rw [q20] at hb
              have := kAt_0.mp w4.2 b hb
              unfold knk at this ⊢
              rw [n_o T c w 7 b (by decide) (by decide), n_o T c w 13 b (by decide) (by decide)]
              exact this
            obtain ⟨M3, r1, r2, r3⟩ := u_kno hl hH2 hN hNn hIk hcn j7 j12 (show t < 8 by omega)
            exact ⟨M3, r1, r2, (hF1.tr hF2).tr r3⟩
          · rw [if_neg e4, if_neg e4]
            obtain ⟨M3, r1, r2, r3⟩ := lp_go_s hl hW hN (c := c) k n' (notS T c w) M2 (W 3 w) t (st + 1) hH2 hB2 hNn (hWc.cn (q20 0)) hcn j7 j12 (by rw [q20]; exact (hWc w w1).2) (by rw [q20]; exact htc) (by omega) (by omega)
            exact ⟨M3, r1, r2, (hF1.tr hF2).tr r3⟩
end HG2
