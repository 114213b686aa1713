/-! The reference: goes, settles, dials -/
section MDL
variable {LN : Nat → Nat} {RF : Nat → Nat → Nat} {m : Nat} {W : zS}
theorem t_kno (hL : mL LN RF m) {M : gk_M} {S : zS} (h : MR m M W S) {c t : Nat} (hc : c < 60) : ∃ M', (gk_ast LN M (RF m 7) (nI c) 2 fun M24 => gk_ast LN M24 (RF m 12) (nI c) 0 fun M26 => gk_ast LN M26 (RF m 13) (nI c) (nI t) fun M28 => some M28) = some M' ∧ MR m M' W (knoS S c t) ∧ Fr m M M' := by
  rw [mw_7 hL hc, mw_12 hL hc, mw_13 hL hc]
  refine ⟨_, rfl, ?_, ((Fr.rf.wr (by omega)).wr (by omega)).wr (by omega)⟩
  have := MR_wr13 (i := c) (v := t + 1) (MR_wr (k := 12) (i := c) (v := 0) (MR_wr (k := 7) (i := c) (v := 2) h (by decide) (by decide) (by decide)) (by decide) (by decide) (by decide))
  rw [nN_s] at this
  exact this
theorem lp_goes_s (hL : mL LN RF m) (hW : WB W) {N : Nat} (hN : N ≤ 60) {c : Nat} : ∀ (k n : Nat) (S : zS) (M : gk_M) (t s : Nat), MR m M W S → SI N S → WN W S → c < S 20 2 → S 7 c = 0 → S 12 c = 0 → t < S 20 0 → s < S 20 0 → 9 ≤ k + S 9 c → k ≤ n →
    ∃ M', lp_X8_goes_6 LN RF m (nI c) (fun y29 => (f_X8_ends LN RF m (nI c) 2 y29).bind fun r31 => some r31) (fun y21 => gk_ast LN y21.2 (RF m 7) (nI c) 2 fun M24 => gk_ast LN M24 (RF m 12) (nI c) 0 fun M26 => gk_ast LN M26 (RF m 13) (nI c) y21.1 fun M28 => some M28) n (nI t, nI s, M) = some M' ∧ MR m M' W (goS W k S c t s) ∧ Fr m M M'
  | 0, n, S, M, t, s, h, hI, hWN, hc, h7, h12, ht, hs, hf, hn => by
    have := (hI.2.1 c hc).2.2.1
    omega
  | k + 1, 0, S, M, t, s, h, hI, hWN, hc, h7, h12, ht, hs, hf, hn => absurd hn (by omega)
  | k + 1, n + 1, S, M, t, s, h, hI, hWN, hc, h7, h12, ht, hs, hf, hn => by
    have hS := hI.sb hN
    have hs1 := hS.1
    have hbc := hS.2.1 c hc
    have hfin : ∃ M', ((f_X8_ends LN RF m (nI c) 2 M).bind fun r31 => some r31) = some M' ∧ MR m M' W (endS S c 2) ∧ Fr m M M' := by
      obtain ⟨M1, q1, q2, q3⟩ := t_ends hL h (c := c) (why := 2) (by omega)
      rw [show (2 : Int32) = nI 2 from rfl, q1]
      exact ⟨M1, rfl, q2, q3⟩
    rw [lp_X8_goes_6]
    simp only [gk_jn, t_isInRow hL h (show c < 60 by omega) hbc.2.2.1 (fun i hi => (hS.2.2.2 c i hc hi).1) (show t < 8 by omega), Option.bind_some, bI_0, mr_6 hL h (show c < 60 by omega), mr_9 hL h (show c < 60 by omega), nI_eq (show t < 2 ^ 31 by omega) (show S 6 c < 2 ^ 31 by omega)]
    rw [goS]
    cases er : inRow S c t with
    | true =>
      rw [if_neg (by decide), if_pos (Or.inl rfl)]; exact hfin
    | false =>
      rw [if_pos rfl]
      have hgo : ¬ (t = S 6 c ∧ 0 < S 9 c) → ∃ M', ((f_X8_comesTo LN RF m (nI c) (nI t) (nI s) M).bind fun r6 => (f_X8_actsAt LN RF m (nI c) (nI t) (nI s) r6).bind fun r7 => if 0 ≤ r7 then (f_X8_notes LN RF m (nI c) r7 r6).bind fun r8 => gk_ald LN r8 (RF m 1) r7 fun x10 => if x10 = 2 then (f_X8_ends LN RF m (nI c) 1 r8).bind fun r11 => some r11 else gk_ald LN r8 (RF m 1) r7 fun x13 => if x13 = 4 then gk_ast LN r8 (RF m 7) (nI c) 2 fun M24 => gk_ast LN M24 (RF m 12) (nI c) 0 fun M26 => gk_ast LN M26 (RF m 13) (nI c) (nI t) fun M28 => some M28 else gk_ald LN r8 (RF m 3) r7 fun x15 => lp_X8_goes_6 LN RF m (nI c) (fun y29 => (f_X8_ends LN RF m (nI c) 2 y29).bind fun r31 => some r31) (fun y21 => gk_ast LN y21.2 (RF m 7) (nI c) 2 fun M24 => gk_ast LN M24 (RF m 12) (nI c) 0 fun M26 => gk_ast LN M26 (RF m 13) (nI c) y21.1 fun M28 => some M28) n (x15, nI t, r8) else (f_X8_arrives LN RF m (nI c) (nI t) r6).bind fun r16 => some r16) = some M' ∧ MR m M' W (if actsS W (comS W S c t s) c t s = 0 then arrS W (comS W S c t s) c t
    else if W 1 (actsS W (comS W S c t s) c t s - 1) = 2 then endS (notS (comS W S c t s) c (actsS W (comS W S c t s) c t s - 1)) c 1
    else if W 1 (actsS W (comS W S c t s) c t s - 1) = 4 then knoS (notS (comS W S c t s) c (actsS W (comS W S c t s) c t s - 1)) c t
    else goS W k (notS (comS W S c t s) c (actsS W (comS W S c t s) c t s - 1)) c (W 3 (actsS W (comS W S c t s) c t s - 1)) t) ∧ Fr m M M' := by
        intro _
        obtain ⟨h9, hcom⟩ := hI.com (W := W) hc ht hs er
        obtain ⟨M1, q1, q2, q3⟩ := t_comesTo hL h hW (c := c) (t := t) (s := s) (by omega) hbc.2.2.1 (by omega) (by omega)
        rw [q1]
        have k20 : ∀ i, comS W S c t s 20 i = S 20 i := fun i => c_o W S c t s 20 i (by decide) (by decide) (by decide)
        have k7 : comS W S c t s 7 c = 0 := by rw [c_o W S c t s 7 c (by decide) (by decide) (by decide)]; exact h7
        have k12 : comS W S c t s 12 c = 0 := by rw [c_o W S c t s 12 c (by decide) (by decide) (by decide)]; exact h12
        have hWc : WN W (comS W S c t s) := hWN.cn (k20 0)
        have hcc : c < comS W S c t s 20 2 := by rw [k20]; exact hc
        have htc : t < comS W S c t s 20 0 := by rw [k20]; exact ht
        have k15 : comS W S c t s 15 c + 1 ≤ 2 * comS W S c t s 9 c := by
          have := (hI.2.1 c hc).2.2.2.2.2.2.2.2.1
          rw [c_o W S c t s 15 c (by decide) (by decide) (by decide), c_9]; omega
        have k9 : comS W S c t s 9 c = S 9 c + 1 := c_9 W S c t s
        have k20' := k20 2
        have k200 := k20 0
        generalize comS W S c t s = T at *
        have hST := hcom.sb hN
        have hTb := hST.2.1 c hcc
        simp only [Option.bind_some, t_actsAt hL q2 hW hST hcc (show t < 8 by omega) (show s < 8 by omega)]
        have hal : actsS W T c t s ≤ W 6 0 := by
          cases ea : actsS W T c t s with
          | zero => omega
          | succ w => have := (acts_lt ea).1; omega
        have hWn := hW.1
        simp only [nN_ge0 (show actsS W T c t s < 2 ^ 31 by omega)]
        cases ea : actsS W T c t s with
        | zero =>
          rw [if_neg (by simp), if_pos rfl]
          obtain ⟨M2, p1, p2, p3⟩ := t_arrives hL q2 hW hN hcom hcc htc
          rw [p1]
          exact ⟨M2, rfl, p2, q3.tr p3⟩
        | succ w =>
          obtain ⟨w1, w2, w3, w4⟩ := acts_lt ea
          rw [if_pos (by simp), if_neg (by omega)]
          simp only [Nat.add_sub_cancel, nN_s]
          obtain ⟨M2, p1, p2, p3⟩ := t_notes hL q2 (c := c) (w := w) (by omega) (by omega)
          have hbw := hW.2 w w1
          rw [p1]
          simp only [Option.bind_some, mr_1 hL p2 (show w < 24 by omega), mr_3 hL p2 (show w < 24 by omega), nI_e2 (show W 1 w < 2 ^ 31 by omega), nI_e4 (show W 1 w < 2 ^ 31 by omega)]
          have hNn := hcom.nte hcc (w := w) (by omega) (by omega)
          have q20 : ∀ i, notS T c w 20 i = T 20 i := fun i => n_o T c w 20 i (by decide) (by decide)
          by_cases e2 : W 1 w = 2
          · rw [if_pos e2, if_pos e2]
            obtain ⟨M3, r1, r2, r3⟩ := t_ends hL p2 (c := c) (why := 1) (by omega)
            rw [show (1 : Int32) = nI 1 from rfl, r1]
            exact ⟨M3, rfl, r2, (q3.tr p3).tr r3⟩
          · rw [if_neg e2, if_neg e2]
            by_cases e4 : W 1 w = 4
            · rw [if_pos e4, if_pos e4]
              obtain ⟨M3, r1, r2, r3⟩ := t_kno hL p2 (c := c) (t := t) (by omega)
              exact ⟨M3, r1, r2, (q3.tr p3).tr r3⟩
            · rw [if_neg e4, if_neg e4]
              obtain ⟨M3, r1, r2, r3⟩ := lp_goes_s hL hW hN k n (notS T c w) M2 (W 3 w) t p2 hNn (hWc.cn (q20 0)) (by rw [q20]; exact hcc) (by rw [n_o T c w 7 c (by decide) (by decide)]; exact k7) (by rw [n_o T c w 12 c (by decide) (by decide)]; exact k12) (by rw [q20]; exact (hWc w w1).2) (by rw [q20]; exact htc) (by rw [n_o T c w 9 c (by decide) (by decide)]; omega) (by omega)
              exact ⟨M3, r1, r2, (q3.tr p3).tr r3⟩
      by_cases e6 : t = S 6 c
      · rw [if_pos e6]
        simp only [show (0 : Int32) = nI 0 from rfl, nI_leI (show S 9 c < 2 ^ 31 by omega) (show 0 < 2 ^ 31 by omega)]
        by_cases e9 : S 9 c ≤ 0
        · rw [if_pos e9, if_neg (fun g => by rcases g with g | g; cases g; omega)]; exact hgo (by omega)
        · rw [if_neg e9, if_pos (Or.inr ⟨e6, by omega⟩)]; exact hfin
      · rw [if_neg e6, if_neg (fun g => by rcases g with g | g; cases g; exact e6 g.1)]; exact hgo (by omega)
theorem t_goes (hL : mL LN RF m) (hW : WB W) {N : Nat} (hN : N ≤ 60) {c : Nat} {S : zS} {M : gk_M} {t s : Nat} (h : MR m M W S) (hI : SI N S) (hWN : WN W S) (hc : c < S 20 2) (h7 : S 7 c = 0) (h12 : S 12 c = 0) (ht : t < S 20 0) (hs : s < S 20 0) : ∃ M', f_X8_goes LN RF m (nI c) (nI t) (nI s) M = some M' ∧ MR m M' W (goS W 9 S c t s) ∧ Fr m M M' := by
  unfold f_X8_goes
  simp only [gk_jn]
  exact lp_goes_s hL hW hN 9 gk_fuel S M t s h hI hWN hc h7 h12 ht hs (by omega) (Nat.le_of_lt (fuel_gt (by omega)))
theorem set1_cn {S : zS} {l : Nat} : Cn S (set1 S l) := by
  unfold set1
  split
  · exact sm_rng.cn
  · exact Cn.rf
theorem SI.st1 {N : Nat} {S : zS} {l : Nat} (h : SI N S) (hl : l < S 20 0) : SI N (set1 S l) := by
  unfold set1
  by_cases e : kAt S l ≠ 0 ∧ cOf S l = 0
  · rw [if_pos e]
    cases ek : kAt S l with
    | zero => exact absurd ek e.1
    | succ c =>
      obtain ⟨h1, h2⟩ := kAt_s ek
      have h7 : S 7 c = 2 := by unfold knk at h2; simp at h2; exact h2.1
      refine h.rng h1 (fun x hx => ?_) (by rw [Nat.add_sub_cancel, h7]; decide)
      rw [Nat.testBit_two_pow, decide_eq_true_eq] at hx
      subst hx
      refine ⟨hl, fun g => ?_, fun b _ hb => cOf_0.mp e.2 b hb⟩
      rw [Nat.add_sub_cancel] at g
      have : inn S l c = true := by unfold inn; simp [h7, g]
      rw [cOf_0.mp e.2 c h1] at this; cases this
  · rw [if_neg e]; exact h
theorem SI.sts {N : Nat} : ∀ (r l : Nat) (S : zS), SI N S → l + r = S 20 0 → SI N (setS r l S) ∧ Cn S (setS r l S)
  | 0, l, S, h, _ => ⟨h, Cn.rf⟩
  | r + 1, l, S, h, hr => by
    rw [setS]
    have hc := set1_cn (S := S) (l := l)
    obtain ⟨a1, a2⟩ := SI.sts r (l + 1) (set1 S l) (h.st1 (l := l) (by omega)) (by rw [hc.1]; omega)
    exact ⟨a1, hc.tr a2⟩
theorem lp_settles_s (hL : mL LN RF m) {N : Nat} (hN : N ≤ 60) {K : gk_M → Option gk_M} : ∀ (r n l : Nat) (S : zS) (M : gk_M), MR m M W S → SI N S → l + r = S 20 0 → r < n → ∃ M', lp_X8_settles_2 LN RF m K n (nI l, M) = K M' ∧ MR m M' W (setS r l S) ∧ Fr m M M'
  | r, 0, l, S, M, _, _, _, g => absurd g (by omega)
  | 0, n + 1, l, S, M, h, hI, g1, g2 => by
    have := hI.1
    refine ⟨M, ?_, h, Fr.rf⟩
    rw [lp_X8_settles_2, mr_L hL h, if_pos (nI_le (by omega) (by omega))]
  | r + 1, n + 1, l, S, M, h, hI, g1, g2 => by
    have h1 := hI.1
    have hS := hI.sb hN
    have hk := kAt_le S l
    rw [lp_X8_settles_2, mr_L hL h, if_neg (nI_ge (by omega) (by omega)), t_knockAt hL h hS (show l < 8 by omega)]
    simp only [Option.bind_some, gk_jn, nI_1, t_isFree hL h hS (show l < 8 by omega), bI_0, nN_lt0 (show kAt S l < 2 ^ 31 by omega), bit_1 l (show l < 8 by omega)]
    have hc := set1_cn (S := S) (l := l)
    have hI1 := hI.st1 (l := l) (by omega)
    rw [setS]
    have key : ∀ M1, MR m M1 W (set1 S l) → Fr m M M1 → ∃ M', lp_X8_settles_2 LN RF m K n (nI (l + 1), M1) = K M' ∧ MR m M' W (setS r (l + 1) (set1 S l)) ∧ Fr m M M' := by
      intro M1 q2 q3
      obtain ⟨M2, p1, p2, p3⟩ := lp_settles_s hL hN (K := K) r n (l + 1) (set1 S l) M1 q2 hI1 (by rw [hc.1]; omega) (by omega)
      exact ⟨M2, p1, p2, q3.tr p3⟩
    have hset : set1 S l = if kAt S l ≠ 0 ∧ cOf S l = 0 then rngS S (kAt S l - 1) (2 ^ l) else S := rfl
    by_cases e1 : kAt S l = 0
    · rw [if_pos e1]
      exact key M (by rw [hset, if_neg (fun g => g.1 e1)]; exact h) Fr.rf
    · rw [if_neg e1]
      by_cases e2 : cOf S l = 0
      · rw [if_neg (by simp [e2])]
        obtain ⟨M1, q1, q2, q3⟩ := t_rings hL h (c := kAt S l - 1) (ls := 2 ^ l) (by omega)
        have : nN (kAt S l) = nI (kAt S l - 1) := by
          rw [← nN_s]; congr 1; omega
        rw [this, q1]
        simp only [Option.bind_some]
        exact key M1 (by rw [hset, if_pos ⟨e1, e2⟩]; exact q2) q3
      · rw [if_pos (by simp [e2])]
        exact key M (by rw [hset, if_neg (fun g => e2 g.2)]; exact h) Fr.rf
theorem t_settles (hL : mL LN RF m) {N : Nat} (hN : N ≤ 60) {S : zS} {M : gk_M} (h : MR m M W S) (hI : SI N S) : ∃ M', f_X8_settles LN RF m M = some M' ∧ MR m M' W (settS S) ∧ Fr m M M' := by
  unfold f_X8_settles
  simp only [gk_jn]
  have := hI.1
  obtain ⟨M1, q1, q2, q3⟩ := lp_settles_s hL hN (K := fun y => some y) (S 20 0) gk_fuel 0 S M h hI (by omega) (fuel_gt (by omega))
  rw [show (0 : Int32) = nI 0 from rfl, q1]
  exact ⟨M1, rfl, q2, q3⟩
theorem nw_0 {S : zS} {l k : Nat} (hk : k = 7 ∨ k = 8 ∨ k = 9 ∨ k = 12 ∨ k = 13 ∨ k = 14 ∨ k = 15) : newS S l k (S 20 2) = 0 := by
  unfold newS
  rcases hk with rfl | rfl | rfl | rfl | rfl | rfl | rfl <;> simp [su_eq]
theorem nw_6 {S : zS} {l : Nat} : newS S l 6 (S 20 2) = l := by unfold newS; simp [su_eq]
theorem nw_c {S : zS} {l : Nat} : newS S l 20 2 = S 20 2 + 1 := by unfold newS; simp [su_eq]
theorem nw_20 {S : zS} {l i : Nat} (h : i ≠ 2) : newS S l 20 i = S 20 i := by unfold newS; simp [su_eq, h]
theorem nw_i {S : zS} {l k i : Nat} (h : i ≠ S 20 2) (hk : k ≠ 20) : newS S l k i = S k i := by unfold newS; simp [su_eq, h, hk]
theorem nw_k {S : zS} {l k i : Nat} (hk : k = 10 ∨ k = 11 ∨ k = 16 ∨ k = 17 ∨ k = 18 ∨ k = 19) : newS S l k i = S k i := by
  unfold newS
  rcases hk with rfl | rfl | rfl | rfl | rfl | rfl <;> simp [su_eq]
theorem SI.new {N : Nat} {S : zS} {l : Nat} (h : SI N S) (hl : l < S 20 0) (hf : cOf S l = 0) (hn : S 20 2 < N) : SI N (newS S l) := by
  obtain ⟨g1, g2, g3, g4, g5, g6⟩ := h
  have hz : ∀ k, (k = 7 ∨ k = 8 ∨ k = 9 ∨ k = 12 ∨ k = 13 ∨ k = 14 ∨ k = 15) → newS S l k (S 20 2) = 0 := fun k hk => nw_0 hk
  have ho : ∀ b, b < S 20 2 → ∀ x, inn (newS S l) x b = inn S x b := by
    intro b hb x
    unfold inn
    rw [nw_i (by omega) (by decide), nw_i (by omega) (by decide), nw_i (by omega) (by decide), nw_i (by omega) (by decide)]
  have hk : ∀ b, b < S 20 2 → ∀ x, knk (newS S l) x b = knk S x b := by
    intro b hb x
    unfold knk
    rw [nw_i (by omega) (by decide), nw_i (by omega) (by decide)]
  have hnew : ∀ x, inn (newS S l) x (S 20 2) = true → x = l := by
    intro x hx
    unfold inn at hx
    rw [hz 7 (by omega), hz 12 (by omega), hz 13 (by omega), nw_6] at hx
    simp at hx
    exact hx.symm
  have hnk : ∀ x, knk (newS S l) x (S 20 2) = false := by
    intro x; unfold knk; rw [hz 7 (by omega)]; rfl
  refine ⟨by rw [nw_c, nw_20 (by decide), nw_20 (by decide), nw_20 (by decide)]; omega, fun c hc => ?_, fun x c c' hc hc' i1 i2 => ?_, fun x c c' hc hc' i1 i2 => ?_, fun i hi => ?_, fun i j hi hj => ?_⟩
  · rw [nw_c] at hc
    by_cases e : c = S 20 2
    · subst e
      unfold CI
      rw [hz 7 (by omega), hz 9 (by omega), hz 12 (by omega), hz 13 (by omega), hz 14 (by omega), hz 15 (by omega), nw_6, nw_20 (by decide), nw_20 (by decide)]
      exact ⟨hl, by omega, by omega, fun i hi => by omega, fun i j hi => by omega, by simp, by omega, by omega, by omega, by omega, by omega, by omega, by simp, by omega, fun i hi => by omega⟩
    · have := g2 c (by omega)
      unfold CI at this ⊢
      rw [nw_i (k := 6) e (by decide), nw_i (k := 7) e (by decide), nw_i (k := 9) e (by decide), nw_i (k := 12) e (by decide), nw_i (k := 13) e (by decide), nw_i (k := 14) e (by decide), nw_i (k := 15) e (by decide), nw_20 (by decide), nw_20 (by decide)]
      simp only [nw_k (S := S) (l := l) (k := 10) (by omega), nw_k (S := S) (l := l) (k := 11) (by omega), nw_k (S := S) (l := l) (k := 16) (by omega)]
      exact this
  · rw [nw_c] at hc hc'
    by_cases e : c = S 20 2 <;> by_cases e' : c' = S 20 2
    · omega
    · subst e
      have := hnew x i1
      subst this
      rw [ho c' (by omega), cOf_0.mp hf c' (by omega)] at i2; cases i2
    · subst e'
      have := hnew x i2
      subst this
      rw [ho c (by omega), cOf_0.mp hf c (by omega)] at i1; cases i1
    · rw [ho c (by omega)] at i1; rw [ho c' (by omega)] at i2; exact g3 x c c' (by omega) (by omega) i1 i2
  · rw [nw_c] at hc hc'
    by_cases e : c = S 20 2 <;> by_cases e' : c' = S 20 2
    · omega
    · subst e; rw [hnk] at i1; cases i1
    · subst e'; rw [hnk] at i2; cases i2
    · rw [hk c (by omega)] at i1; rw [hk c' (by omega)] at i2; exact g4 x c c' (by omega) (by omega) i1 i2
  · rw [nw_20 (by decide)] at hi; rw [nw_k (k := 17) (by omega), nw_k (k := 18) (by omega), nw_20 (i := 0) (by decide)]; exact g5 i hi
  · rw [nw_20 (by decide)] at hi hj; rw [nw_k (k := 17) (i := i) (by omega), nw_k (k := 17) (i := j) (by omega), nw_k (k := 18) (i := i) (by omega), nw_k (k := 18) (i := j) (by omega)]; exact g6 i j hi hj
theorem R1.st1 {S : zS} {l : Nat} (h : R1 S) : R1 (set1 S l) := by
  intro b hb hb7
  rw [set1_cn.2.1] at hb
  unfold set1 at hb7 ⊢
  by_cases e : kAt S l ≠ 0 ∧ cOf S l = 0
  · rw [if_pos e] at hb7 ⊢
    rw [r_o _ _ _ 9 _ (by decide) (by decide) (by decide) (by decide), r_o _ _ _ 15 _ (by decide) (by decide) (by decide) (by decide)]
    by_cases eb : b = kAt S l - 1
    · refine h b hb (fun g => ?_)
      have : knk S l b = true := by
        have h2 := (kAt_s (S := S) (l := l) (c := kAt S l - 1) (by omega)).2
        rw [eb]; exact h2
      unfold knk at this
      simp [g] at this
    · rw [(sm_rng.2.2.2.2.2.1 b eb).1] at hb7
      exact h b hb hb7
  · rw [if_neg e] at hb7 ⊢; exact h b hb hb7
theorem R1.sts : ∀ (r l : Nat) (S : zS), R1 S → R1 (setS r l S)
  | 0, _, _, h => h
  | r + 1, l, S, h => by rw [setS]; exact R1.sts r (l + 1) _ h.st1
/-- a dialling -/
theorem dia_ok {N : Nat} {S : zS} {l t : Nat} (hWB : WB W) (h : SI N S) (hR : R1 S) (hW : WN W S) (hl : l < S 20 0) (ht : t < S 20 0) (hf : cOf S l = 0) (hn : S 20 2 < N) : SI N (diaS W S l t) ∧ R1 (diaS W S l t) ∧ diaS W S l t 20 0 = S 20 0 ∧ diaS W S l t 20 2 = S 20 2 + 1 ∧ diaS W S l t 20 3 = S 20 3 ∧ ∀ i, diaS W S l t 19 i = S 19 i := by
  have h1 := h.new hl hf hn
  have e20 : newS S l 20 0 = S 20 0 := nw_20 (by decide)
  have ec := nw_c (S := S) (l := l)
  have hWn : WN W (newS S l) := hW.cn e20
  obtain ⟨a1, a2⟩ := SI.go hWB 9 (newS S l) (S 20 2) t l h1 hWn (by omega) (nw_0 (by omega)) (nw_0 (by omega)) (by omega) (by omega)
  obtain ⟨b1, b2⟩ := go_R1 hWB 9 (newS S l) (S 20 2) t l h1 hWn (by omega) (nw_0 (by omega)) (nw_0 (by omega)) (by omega) (by omega) (by omega)
  have hR1 : R1 (goS W 9 (newS S l) (S 20 2) t l) := by
    intro b hb hb7
    by_cases e : b = S 20 2
    · subst e; exact b2 hb7
    · rw [a2.2.1, ec] at hb
      obtain ⟨c1, c2, c3⟩ := b1 b e
      rw [c1, nw_i e (by decide)] at hb7
      rw [c2, c3, nw_i e (by decide), nw_i e (by decide)]
      exact h.2.1 b (by omega) |> fun _ => hR b (by omega) hb7
  obtain ⟨c1, c2⟩ := SI.sts (goS W 9 (newS S l) (S 20 2) t l 20 0) 0 _ a1 (by omega)
  refine ⟨c1, R1.sts _ _ _ hR1, ?_, ?_, ?_, ?_⟩
  · exact c2.1.trans (a2.1.trans e20)
  · exact c2.2.1.trans (a2.2.1.trans ec)
  · exact c2.2.2.1.trans (a2.2.2.1.trans (nw_20 (by decide)))
  · intro i; exact (c2.2.2.2.2 i).trans ((a2.2.2.2.2 i).trans (nw_k (by omega)))
theorem t_dials (hL : mL LN RF m) (hWB : WB W) {N : Nat} (hN : N ≤ 60) {S : zS} {M : gk_M} {l t : Nat} (h : MR m M W S) (hI : SI N S) (hW : WN W S) (hl : l < S 20 0) (ht : t < S 20 0) (hf : cOf S l = 0) (hn : S 20 2 < N) : ∃ M', f_X8_dials LN RF m (nI l) (nI t) M = some (nI (S 20 2), M') ∧ MR m M' W (diaS W S l t) ∧ Fr m M M' := by
  have hc : S 20 2 < 60 := by omega
  have h1 := hI.new hl hf hn
  have e20 : newS S l 20 0 = S 20 0 := nw_20 (by decide)
  have ec := nw_c (S := S) (l := l)
  have hWn : WN W (newS S l) := hW.cn e20
  unfold f_X8_dials
  rw [mr_C hL h, mr_C hL h, nI_1, mw_20_2 hL, mw_6 hL hc, mw_7 hL hc, mw_8 hL hc, mw_9 hL hc, mw_12 hL hc, mw_13 hL hc, mw_14 hL hc, mw_15 hL hc]
  have key : ∀ M9, MR m M9 W (newS S l) → Fr m M M9 → ∃ M', ((f_X8_goes LN RF m (nI (S 20 2)) (nI t) (nI l) M9).bind fun r42 => (f_X8_settles LN RF m r42).bind fun r43 => some (nI (S 20 2), r43)) = some (nI (S 20 2), M') ∧ MR m M' W (diaS W S l t) ∧ Fr m M M' := by
    intro M9 hM hFr
    obtain ⟨M1, q1, q2, q3⟩ := t_goes hL hWB hN (t := t) (s := l) hM h1 hWn (c := S 20 2) (by omega) (nw_0 (by omega)) (nw_0 (by omega)) (by omega) (by omega)
    obtain ⟨a1, a2⟩ := SI.go hWB 9 (newS S l) (S 20 2) t l h1 hWn (by omega) (nw_0 (by omega)) (nw_0 (by omega)) (by omega) (by omega)
    obtain ⟨M2, p1, p2, p3⟩ := t_settles hL hN q2 a1
    rw [q1]
    simp only [Option.bind_some, p1]
    exact ⟨M2, rfl, p2, (hFr.tr q3).tr p3⟩
  refine key _ ?_ ?_
  · exact MR_wr (k := 15) (i := S 20 2) (v := 0) (MR_wr (k := 14) (i := S 20 2) (v := 0) (MR_wr13 (i := S 20 2) (v := 0) (MR_wr (k := 12) (i := S 20 2) (v := 0) (MR_wr (k := 9) (i := S 20 2) (v := 0) (MR_wr (k := 8) (i := S 20 2) (v := 0) (MR_wr (k := 7) (i := S 20 2) (v := 0) (MR_wr (k := 6) (i := S 20 2) (v := l) (MR_wr20 (i := 2) (v := S 20 2 + 1) h (by decide)) (by decide) (by decide) (by decide)) (by decide) (by decide) (by decide)) (by decide) (by decide) (by decide)) (by decide) (by decide) (by decide)) (by decide) (by decide) (by decide))) (by decide) (by decide) (by decide)) (by decide) (by decide) (by decide)
  · exact ((((((((Fr.rf.wr (by omega)).wr (by omega)).wr (by omega)).wr (by omega)).wr (by omega)).wr (by omega)).wr (by omega)).wr (by omega)).wr (by omega)
end MDL
