/-! order on both sides; actOf, status, refused restores -/
def pl5 (n : Nat) (y : Int32) : Bool := decide (0 ≤ y.toInt ∧ y.toInt + 5 ≤ n)
theorem pl5_s {n : Nat} {y : Int32} (hn : n < 1000) (h : pl5 n y = true) : ∃ i, i + 5 ≤ n ∧ y = nI i := by
  unfold pl5 at h
  simp only [decide_eq_true_eq] at h
  obtain ⟨j, hj, rfl⟩ := nI_of (x := y) (fun g => by have : y.toInt < 0 := Int32.lt_iff_toInt_lt.mp g; omega)
  rw [nI_toInt hj] at h
  exact ⟨j, by omega, rfl⟩
def ordR (W S T : zS) (V : Nat → Int32) (a1 a2 a3 : Int32) : Int32 × Nat × zS × zS :=
  if isL 4 a1 = false ∨ isL 3 a2 = false then (-1, 1, W, S) else if ¬ W 6 0 < 24 then (-1, 2, W, S) else if T 0 (tN a1) = 0 then (-1, 10, W, S) else if T 0 (tN a1) ≠ tN a2 + 1 then (-1, 11, W, S) else if pl5 (T 1 (tN a1)) a3 = false then (-1, 12, W, S)
  else if goodW (S 20 0) (V (40 * tN a1 + tN a3)) (V (40 * tN a1 + tN a3 + 1)) (V (40 * tN a1 + tN a3 + 2)) (V (40 * tN a1 + tN a3 + 3)) (V (40 * tN a1 + tN a3 + 4)) = false then (-1, 3, W, S) else (nI (W 6 0), 0, newW W (tN (V (40 * tN a1 + tN a3))) (tN (V (40 * tN a1 + tN a3 + 1))) (tN (V (40 * tN a1 + tN a3 + 2))) (tN (V (40 * tN a1 + tN a3 + 3))) (tN (V (40 * tN a1 + tN a3 + 4))), S)
theorem IV.ord {W S : zS} (h : IV W S) (T : zS) (V : Nat → Int32) (a1 a2 a3 : Int32) : IV (ordR W S T V a1 a2 a3).2.2.1 (ordR W S T V a1 a2 a3).2.2.2 := by
  unfold ordR
  split
  · exact h
  · split
    · exact h
    · split
      · exact h
      · split
        · exact h
        · split
          · exact h
          · split
            · exact h
            · rename_i c1 c2 c3 c4 c5 c6
              have g := h.wish (V (40 * tN a1 + tN a3)) (V (40 * tN a1 + tN a3 + 1)) (V (40 * tN a1 + tN a3 + 2)) (V (40 * tN a1 + tN a3 + 3)) (V (40 * tN a1 + tN a3 + 4))
              unfold wishR at g
              rw [if_neg c6, if_pos (by omega)] at g
              exact g
section OD
variable {LN : Nat → Nat} {RF : Nat → Nat → Nat} {x m : Nat} {M : gk_M} {W S T : zS} {V : Nat → Int32}
theorem u_places5 (hs : sL LN RF x) (hS : SR x M T V) (hT : TB T) {s : Nat} (h4 : s < 4) (y : Int32) : f_X4_hasPlaces LN RF (x + 279) (nI s) y 5 M = some (bI (pl5 (T 1 s) y)) := by
  have := (hT s h4).2
  unfold f_X4_hasPlaces
  simp only [gk_jn, zz_0, zz_1]
  rw [if_neg (show ¬ (5 : Int32) < 0 by decide), hs.2.2.1, ald_n (by rw [hs.2.2.2.2.2.1]; omega) (by omega), (hS.1 s h4).2]
  have e1 : y < 0 ↔ y.toInt < 0 := Int32.lt_iff_toInt_lt
  have e2 : nI (T 1 s) - 5 < y ↔ (T 1 s : Int) - 5 < y.toInt := by
    rw [Int32.lt_iff_toInt_lt, show (5 : Int32) = nI 5 from rfl, pk_sub_toInt (by omega) (by omega)]; rfl
  unfold pl5
  by_cases c1 : y.toInt < 0
  · rw [if_pos (e1.mpr c1), decide_eq_false (by omega)]; rfl
  · rw [if_neg (fun g => c1 (e1.mp g))]
    by_cases c2 : (T 1 s : Int) - 5 < y.toInt
    · rw [if_pos (e2.mpr c2), decide_eq_false (by omega)]; rfl
    · rw [if_neg (fun g => c2 (e2.mp g)), decide_eq_true (by omega)]; rfl
theorem u_read (hs : sL LN RF x) (hS : SR x M T V) {s i : Nat} (h4 : s < 4) (hi : i < 40) : f_X4_read LN RF (x + 279) (nI s) (nI i) M = some (V (40 * s + i)) := by
  unfold f_X4_read
  rw [nI_m40, hs.2.2.2.1, ald_n (by rw [hs.2.2.2.2.2.2]; omega) (by omega), hS.2 _ (by omega)]
theorem c_full (hB : BR (x + 2) M W) (hW : WB W) : f_X6_isFull LN RF (x + 2) M = some (bI (!decide (W 6 0 < 24))) := by
  have := hW.1
  unfold f_X6_isFull
  simp only [gk_jn, zz_0, zz_1, hB.1, show (24 : Int32) = nI 24 from rfl, nI_ltI (show W 6 0 < 2 ^ 31 by omega) (show 24 < 2 ^ 31 by omega)]
  by_cases e : W 6 0 < 24 <;> simp [e, bI]
theorem c_order (hx : xL LN RF x) (hs : sL LN RF x) (hH : HR (x + 1) 27 M S) (hB : BR (x + 2) M W) (hW : WB W) (hI : SI 60 S) (hS : SR x M T V) (hT : TB T) (a1 a2 a3 : Int32) : CW x M (f_X7_order LN RF x a1 a2 a3 M) (ordR W S T V a1 a2 a3) := by
  have h1 := hI.1
  unfold f_X7_order ordR
  rw [u_isSheet, u_isSort, hx.1, hx.2.1.1.1, c_full hB hW, hs.1]
  simp only [gk_jn, Option.bind_some, bI_0]
  cases e1 : isL 4 a1 with
  | false => rw [if_pos rfl, if_pos (Or.inl rfl)]; exact ref_CW hH hB hW 1 rfl
  | true =>
    rw [if_neg tf]
    cases e2 : isL 3 a2 with
    | false => rw [if_pos rfl, if_pos (Or.inr rfl)]; exact ref_CW hH hB hW 1 rfl
    | true =>
      rw [if_neg tf, if_neg (show ¬ (true = false ∨ true = false) by simp)]
      by_cases e3 : W 6 0 < 24
      · rw [if_pos (by simp [e3]), if_neg (show ¬ ¬ W 6 0 < 24 from fun g => g e3)]
        obtain ⟨s, h4, rfl⟩ := isL_s (by omega) e1
        obtain ⟨q, hq, rfl⟩ := isL_s (by omega) e2
        have hb := hT s h4
        rw [tN_n (show s < 2 ^ 31 by omega), tN_n (show q < 2 ^ 31 by omega), u_isMissing hs hS hT h4, hs.2.1, ald_n (by rw [hs.2.2.2.2.1]; omega) (by omega), (hS.1 s h4).1, u_places5 hs hS hT h4]
        simp only [Option.bind_some, bI_0, nN_nI (show T 0 s < 2 ^ 31 by omega) (show q < 2 ^ 30 by omega)]
        by_cases e0 : T 0 s = 0
        · rw [if_neg (by simp [e0]), if_pos e0]; exact ref_CW hH hB hW 10 rfl
        · rw [if_pos (by simp [e0]), if_neg e0]
          by_cases e4 : T 0 s = q + 1
          · rw [if_pos e4, if_neg (show ¬ T 0 s ≠ q + 1 from fun g => g e4)]
            cases e5 : pl5 (T 1 s) a3 with
            | false => rw [if_pos rfl, if_pos rfl]; exact ref_CW hH hB hW 12 rfl
            | true =>
              rw [if_neg tf, if_neg tf]
              obtain ⟨i, hi, rfl⟩ := pl5_s (by omega) e5
              rw [tN_n (show i < 2 ^ 31 by omega)]
              unfold f_X7_orderedFrom
              rw [hs.1, nI_1, show nI i + 2 = nI (i + 2) from nI_add i 2, show nI i + 3 = nI (i + 3) from nI_add i 3, show nI i + 4 = nI (i + 4) from nI_add i 4, u_read hs hS h4 (by omega), u_read hs hS h4 (by omega), u_read hs hS h4 (by omega), u_read hs hS h4 (by omega), u_read hs hS h4 (by omega)]
              simp only [Option.bind_some, ← Nat.add_assoc]
              rw [u_isWish hx hH]
              simp only [Option.bind_some, bI_0]
              cases eg : goodW (S 20 0) (V (40 * s + i)) (V (40 * s + i + 1)) (V (40 * s + i + 2)) (V (40 * s + i + 3)) (V (40 * s + i + 4)) with
              | false => rw [if_pos rfl, if_pos rfl]; exact ref_CW (LN := LN) (RF := RF) hH hB hW 3 rfl
              | true =>
                rw [if_neg tf, if_neg tf, hx.1, hx.2.1.1.1]
                obtain ⟨⟨p1, q1⟩, ⟨p2, q2⟩, ⟨p3, q3⟩, ⟨p4, q4⟩, p5, q5⟩ := good_n h1.1 eg
                obtain ⟨M1, r1, r2, r3, r4⟩ := u_added hx hB hW e3 (tN (V (40 * s + i))) (tN (V (40 * s + i + 1))) (tN (V (40 * s + i + 2))) (tN (V (40 * s + i + 3))) (tN (V (40 * s + i + 4)))
                rw [← p1, ← p2, ← p3, ← p4, ← p5] at r1
                rw [r1]
                simp only [Option.bind_some]
                exact done_CW (LN := LN) (RF := RF) (hH.out (fun a ha => ⟨r3 a (by omega), by rw [r4]⟩)) r2 (newW_b hW e3 (by omega) q2 q3 (by omega) q5) (fun a ha => ⟨by rw [r4], fun j _ => by rw [r3 a (by omega)]⟩) _
          · rw [if_neg e4, if_pos e4]; exact ref_CW hH hB hW 11 rfl
      · rw [if_neg (by simp; omega), if_pos e3]; exact ref_CW hH hB hW 2 rfl
theorem m_37 (hm : mL LN RF m) (hR : TR m M T V) {s : Nat} (h4 : s < 4) {α : Type} {K : Int32 → Option α} : gk_ald LN M (RF m 37) (nI s) K = K (nI (T 0 s)) := by rw [hm.2.2.1.2.2.2.2.2.2.2.1, ald_n (by rw [hm.2.2.2.2.2.2.2.2.2.2.1]; omega) (by omega), (hR.1 s h4).1]
theorem m_38 (hm : mL LN RF m) (hR : TR m M T V) {s : Nat} (h4 : s < 4) {α : Type} {K : Int32 → Option α} : gk_ald LN M (RF m 38) (nI s) K = K (nI (T 1 s)) := by rw [hm.2.2.1.2.2.2.2.2.2.2.2.1, ald_n (by rw [hm.2.2.2.2.2.2.2.2.2.2.2.1]; omega) (by omega), (hR.1 s h4).2]
theorem m_39 (hm : mL LN RF m) (hR : TR m M T V) {i : Nat} (hi : i < 160) {α : Type} {K : Int32 → Option α} : gk_ald LN M (RF m 39) (nI i) K = K (V i) := by rw [hm.2.2.1.2.2.2.2.2.2.2.2.2, ald_n (by rw [hm.2.2.2.2.2.2.2.2.2.2.2.2]; omega) (by omega), hR.2 i hi]
theorem m_pl5 {n : Nat} (hn : n < 1000) (y : Int32) {α : Type} (A B : α) : (if y < 0 then A else if lg_cmp (y.toInt64 + 5) (nI n).toInt64 ≤ 0 then B else A) = if pl5 n y = true then B else A := by
  have e1 : y < 0 ↔ y.toInt < 0 := Int32.lt_iff_toInt_lt
  by_cases c1 : y < 0
  · rw [if_pos c1, if_neg]
    have := e1.mp c1
    unfold pl5; simp only [decide_eq_true_eq]; omega
  · rw [if_neg c1]
    obtain ⟨j, hj, rfl⟩ := nI_of c1
    have e2 : lg_cmp ((nI j).toInt64 + 5) (nI n).toInt64 ≤ 0 ↔ j + 5 ≤ n := by
      rw [nI_l hj, nI_l (by omega), show (5 : Int64) = lN 5 from rfl, lN_add]
      unfold lg_cmp
      by_cases g : n < j + 5
      · rw [if_pos (show lN (j + 5) > lN n from (pk_lLT (by omega) (by omega)).mpr g)]
        exact ⟨fun h => absurd h (by decide), fun h => by omega⟩
      · rw [if_neg (show ¬ lN (j + 5) > lN n from fun h => g ((pk_lLT (by omega) (by omega)).mp h))]
        refine ⟨fun _ => by omega, fun _ => ?_⟩
        split <;> decide
    have e3 : pl5 n (nI j) = true ↔ j + 5 ≤ n := by
      unfold pl5; rw [nI_toInt hj]; simp only [decide_eq_true_eq]; omega
    by_cases g : j + 5 ≤ n
    · rw [if_pos (e2.mpr g), if_pos (e3.mpr g)]
    · rw [if_neg (fun h => g (e2.mp h)), if_neg (fun h => g (e3.mp h))]
theorem t_order (hm : mL LN RF m) (h : MR m M W S) (hW : WB W) (hI : SI 60 S) (hR : TR m M T V) (hT : TB T) (a1 a2 a3 : Int32) : MW m M (f_X8_order LN RF m a1 a2 a3 M) (ordR W S T V a1 a2 a3) := by
  have h1 := hI.1
  have h24 := hW.1
  unfold f_X8_order ordR
  rw [t_isInK a1 (n := 4) rfl, t_isInK a2 (n := 3) rfl, mr_W hm h]
  simp only [gk_jn, Option.bind_some, bI_0, nI_e24 (show W 6 0 < 2 ^ 31 by omega)]
  cases e1 : isL 4 a1 with
  | false => rw [if_pos rfl, if_pos (Or.inl rfl)]; exact ref_MW h 1 rfl
  | true =>
    rw [if_neg tf]
    cases e2 : isL 3 a2 with
    | false => rw [if_pos rfl, if_pos (Or.inr rfl)]; exact ref_MW h 1 rfl
    | true =>
      rw [if_neg tf, if_neg (show ¬ (true = false ∨ true = false) by simp)]
      by_cases e3 : W 6 0 = 24
      · rw [if_pos e3, if_pos (by omega)]; exact ref_MW h 2 rfl
      · rw [if_neg e3, if_neg (show ¬ ¬ W 6 0 < 24 from fun g => g (by omega))]
        obtain ⟨s, h4, rfl⟩ := isL_s (by omega) e1
        obtain ⟨q, hq, rfl⟩ := isL_s (by omega) e2
        have hb := hT s h4
        rw [tN_n (show s < 2 ^ 31 by omega), tN_n (show q < 2 ^ 31 by omega), m_37 hm hR h4, m_37 hm hR h4, m_38 hm hR h4]
        simp only [nI_1, nI_e0 (show T 0 s < 2 ^ 31 by omega), nI_eq (show T 0 s < 2 ^ 31 by omega) (show q + 1 < 2 ^ 31 by omega)]
        by_cases e0 : T 0 s = 0
        · rw [if_pos e0, if_pos e0]; exact ref_MW h 10 rfl
        · rw [if_neg e0, if_neg e0]
          by_cases e4 : T 0 s = q + 1
          · rw [if_pos e4, if_neg (show ¬ T 0 s ≠ q + 1 from fun g => g e4), m_pl5 (by omega)]
            cases e5 : pl5 (T 1 s) a3 with
            | false => rw [if_neg (show ¬ (false = true) by decide), if_pos rfl]; exact ref_MW h 12 rfl
            | true =>
              rw [if_pos rfl, if_neg tf]
              obtain ⟨i, hi, rfl⟩ := pl5_s (by omega) e5
              rw [tN_n (show i < 2 ^ 31 by omega), nI_40m]
              simp only [nI_1 (40 * s + i), show nI (40 * s + i) + 2 = nI (40 * s + i + 2) from nI_add _ 2, show nI (40 * s + i) + 3 = nI (40 * s + i + 3) from nI_add _ 3, show nI (40 * s + i) + 4 = nI (40 * s + i + 4) from nI_add _ 4, m_39 hm hR (show 40 * s + i < 160 by omega), m_39 hm hR (show 40 * s + i + 1 < 160 by omega), m_39 hm hR (show 40 * s + i + 2 < 160 by omega), m_39 hm hR (show 40 * s + i + 3 < 160 by omega), m_39 hm hR (show 40 * s + i + 4 < 160 by omega)]
              rw [t_isGood hm h]
              simp only [Option.bind_some, bI_0]
              cases eg : goodW (S 20 0) (V (40 * s + i)) (V (40 * s + i + 1)) (V (40 * s + i + 2)) (V (40 * s + i + 3)) (V (40 * s + i + 4)) with
              | false => rw [if_pos rfl, if_pos rfl]; exact ref_MW h 3 rfl
              | true =>
                rw [if_neg tf, if_neg tf]
                obtain ⟨⟨p1, q1⟩, ⟨p2, q2⟩, ⟨p3, q3⟩, ⟨p4, q4⟩, p5, q5⟩ := good_n h1.1 eg
                have g := t_adds hm h (show W 6 0 < 24 by omega) (tN (V (40 * s + i))) (tN (V (40 * s + i + 1))) (tN (V (40 * s + i + 2))) (tN (V (40 * s + i + 3))) (tN (V (40 * s + i + 4)))
                rw [← p1, ← p2, ← p3, ← p4, ← p5] at g
                exact g
          · rw [if_neg e4, if_pos e4]; exact ref_MW h 11 rfl
/-- acts of the case -/
theorem q_actOf {M' : gk_M} (hk : RF x 5 = x + 283 ∧ LN (x + 283) = 3) (hm : mL LN RF m) {J : Nat} (hJ : J ≤ 3) (h6 : M.1 x 6 = nI J) (h33 : M'.1 m 33 = nI J) (hq : ∀ q, q < J → M.1 (x + 283) q = M'.1 (m + 28) q) (y : Int32) : Ag (f_X7_actOf LN RF x y M) (f_X8_actOf LN RF m y M') := by
  unfold f_X7_actOf f_X8_actOf
  rw [h6, h33]
  simp only [gk_jn]
  rw [rg_if, t_isInL y (by omega), Option.bind_some]
  simp only [bI_0]
  cases e : isL J y with
  | false => rw [if_neg (by decide), if_pos rfl]; exact Ag.mk
  | true =>
    obtain ⟨i, hi, rfl⟩ := isL_s (by omega) e
    rw [if_pos rfl, if_neg tf, show (3 : Int32) = nI 3 from rfl, if_pos (nI_lt (by omega) (by omega)), hk.1, ald_n (by rw [hk.2]; omega) (by omega), hm.2.2.1.2.2.2.2.1, ald_n (by rw [hm.2.2.2.2.2.2.2.1]; omega) (by omega), hq i hi]
    exact Ag.mk
theorem c_rest0 {k : Nat} (hk : M.1 x 8 = nI k) (hk10 : k ≤ 10) (h : k = 10 ∨ M.1 x 7 = 0) : f_X7_restore LN RF x M = some (-1, gk_wr M x 9 (if k = 10 then 2 else 3)) := by
  unfold f_X7_restore f_X7_refused gk_put
  rw [hk, show (10 : Int32) = nI 10 from rfl]
  simp only [nI_ltI (show k < 2 ^ 31 by omega) (show 10 < 2 ^ 31 by omega), Option.bind_some]
  by_cases e : k = 10
  · rw [if_neg (by omega), if_pos e]
  · rw [if_pos (by omega), if_neg e, if_pos (by rcases h with g | g; exact absurd g e; exact g)]
theorem t_rest0 {k : Nat} (hk : M.1 m 24 = nI k) (hk10 : k ≤ 10) (h : k = 10 ∨ M.1 m 23 = 0) : f_X8_restore LN RF m M = some (-1, gk_wr M m 25 (if k = 10 then 2 else 3)) := by
  unfold f_X8_restore f_X8_refused gk_put
  rw [hk]
  simp only [nI_e10 (show k < 2 ^ 31 by omega), Option.bind_some]
  by_cases e : k = 10
  · rw [if_pos e, if_pos e]
  · rw [if_neg e, if_neg e, if_pos (by rcases h with g | g; exact absurd g e; exact g)]
end OD
