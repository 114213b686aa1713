/-! What is asked of the judge: both sides take the same questions -/
def bc (s : Nat) : Nat := cnf (fun k => s.testBit k) 8 0 0
def sok (L : Nat) (a4 : Int32) : Bool := isL (2 ^ L) a4 && decide (bc (tN a4) ≤ 3)
def jok (L : Nat) (a1 a2 a3 a4 a5 : Int32) : Bool := isL 3 a1 && (isL L a2 && (decide (a1 = 1) || isL L a3)) && (sok L a4 && inR a5 1 3)
theorem jn_b {α : Type} {k : Int32 → Option α} {t : (Int32 → Option α) → Option α} {r : Option α} (g : Bool → Option α) (h : ∀ y : Bool, k (bI y) = g y) (ht : ∀ k' : Int32 → Option α, k' 0 = g false → k' 1 = g true → t k' = r) : gk_jn k t = r := ht k (h false) (h true)
theorem jn_u {α : Type} {k : Unit → Option α} {t : (Unit → Option α) → Option α} {r : Option α} (v : Option α) (h : k () = v) (ht : ∀ k' : Unit → Option α, k' () = v → t k' = r) : gk_jn k t = r := ht k h
theorem rg_13 (y : Int32) {α : Type} (A B : α) : (if y < 1 then A else if 3 < y then A else B) = if inR y 1 3 = true then B else A := by
  unfold inR
  have e1 : y < 1 ↔ y.toInt < 1 := Int32.lt_iff_toInt_lt
  have e2 : 3 < y ↔ 3 < y.toInt := Int32.lt_iff_toInt_lt
  by_cases h1 : y.toInt < 1
  · rw [if_pos (e1.mpr h1), if_neg]
    simp only [Bool.and_eq_true, decide_eq_true_eq]; omega
  · rw [if_neg (fun g => h1 (e1.mp g))]
    by_cases h2 : 3 < y.toInt
    · rw [if_pos (e2.mpr h2), if_neg]
      simp only [Bool.and_eq_true, decide_eq_true_eq]; omega
    · rw [if_neg (fun g => h2 (e2.mp g)), if_pos]
      simp only [Bool.and_eq_true, decide_eq_true_eq]; omega
theorem sh_L : ∀ l, l < 9 → (1 : Int32) <<< (nI l &&& 31) = nI (2 ^ l) := by decide +kernel
theorem bc_c (LN : Nat → Nat) (RF : Nat → Nat → Nat) (M : gk_M) : ∀ s, s < 256 → f_J6_bitCount_0f7a4 LN RF (nI s) M = some (nI (bc s)) := by
  have h : ∀ s, s < 256 → f_J6_bitCount_0f7a4 (fun _ => 0) (fun _ _ => 0) (nI s) (fun _ _ => 0, fun _ => 0) = some (nI (bc s)) := by
    unfold f_J6_bitCount_0f7a4
    decide +kernel
  exact h
theorem bc_le (s : Nat) : bc s ≤ 8 := by
  have := cn_bd (fun k => s.testBit k) 8 0 0
  unfold bc; omega
theorem p2_8 {L : Nat} (h : L ≤ 8) : 2 ^ L ≤ 256 := Nat.pow_le_pow_right (by decide) h
section JK
variable {LN : Nat → Nat} {RF : Nat → Nat → Nat} {x m : Nat} {M : gk_M} {W S : zS}
theorem c_isJudged (hx : xL LN RF x) (hH : HR (x + 1) 27 M S) (hI : SI 60 S) (a1 a2 a3 a4 a5 : Int32) : f_X7_isJudged LN RF x a1 a2 a3 a4 a5 M = some (bI (jok (S 20 0) a1 a2 a3 a4 a5)) := by
  have h1 := hI.1.1
  have hp := p2_8 h1
  unfold f_X7_isJudged
  refine jn_b (fun y => some (bI (y && (sok (S 20 0) a4 && inR a5 1 3)))) (fun y => ?_) (fun k' k0 k1 => ?_)
  · refine jn_b (fun z => some (bI (y && (z && inR a5 1 3)))) (fun z => ?_) (fun k' k0 k1 => ?_)
    · simp only [gk_jn, zz_0, zz_1, bI_0]
      rw [rg_13]
      cases y
      · rfl
      · cases z
        · rfl
        · rw [if_neg tf, if_neg tf]
          cases inR a5 1 3 <;> rfl
    · simp only [gk_jn, k0, k1]
      rw [hx.1, hH.1.1, sh_L _ (by omega), rg_if]
      unfold sok
      cases e : isL (2 ^ S 20 0) a4 with
      | false => rw [if_neg (show ¬ (false = true) by decide)]; rfl
      | true =>
        obtain ⟨s, hs, rfl⟩ := isL_s (by omega) e
        have := bc_le s
        rw [if_pos rfl, bc_c LN RF M s (by omega), tN_n (by omega), show (3 : Int32) = nI 3 from rfl]
        simp only [Option.bind_some, nI_ltI (show 3 < 2 ^ 31 by omega) (show bc s < 2 ^ 31 by omega)]
        by_cases g : 3 < bc s
        · rw [if_pos g, decide_eq_false (by omega)]; rfl
        · rw [if_neg g, decide_eq_true (by omega)]; rfl
  · simp only [gk_jn, k0, k1]
    rw [rg_if3 a1 2 3 rfl, hx.1, u_isLine hH, u_isLine hH]
    simp only [Option.bind_some, bI_0]
    unfold jok
    cases isL 3 a1 with
    | false => rfl
    | true =>
      rw [if_pos rfl]
      cases isL (S 20 0) a2 with
      | false => rfl
      | true =>
        rw [if_neg tf]
        by_cases e : a1 = 1
        · rw [if_pos e, decide_eq_true e]; rfl
        · rw [if_neg e, decide_eq_false e]
          cases isL (S 20 0) a3 <;> rfl
theorem lp_bits_s {s : Nat} (hs : s < 256) {K : Int32 → Option Int32} : ∀ (r n k a : Nat), k + r = 8 → r < n → lp_X8_bits_4 LN RF (nI s) M K n (nI a, nI k) = K (nI (cnf (fun k => s.testBit k) r k a))
  | r, 0, k, a, _, g => absurd g (by omega)
  | 0, n + 1, k, a, g1, g2 => by
    rw [lp_X8_bits_4, show (8 : Int32) = nI 8 from rfl, if_pos (nI_le (by omega) (by omega))]; rfl
  | r + 1, n + 1, k, a, g1, g2 => by
    have ih := fun a' => lp_bits_s hs (K := K) r n (k + 1) a' (by omega) (by omega)
    rw [lp_X8_bits_4, show (8 : Int32) = nI 8 from rfl, if_neg (nI_ge (by omega) (by omega))]
    simp only [nI_1, bit_ge s hs k (show k < 8 by omega)]
    rw [cnf]
    cases s.testBit k with
    | false => rw [show nI a + bI false = nI a from Int32.add_zero _, ih]; rfl
    | true => rw [show nI a + bI true = nI (a + 1) from nI_1 a, ih]; rfl
theorem t_bits {s : Nat} (hs : s < 256) : f_X8_bits LN RF (nI s) M = some (nI (bc s)) := by
  unfold f_X8_bits
  simp only [gk_jn]
  rw [show ((0 : Int32), (0 : Int32)) = (nI 0, nI 0) from rfl, lp_bits_s hs 8 gk_fuel 0 0 (by omega) (fuel_gt (by omega))]; rfl
theorem t_isAsked (hm : mL LN RF m) (h : MR m M W S) (hI : SI 60 S) (a1 a2 a3 a4 a5 : Int32) : f_X8_isAsked LN RF m a1 a2 a3 a4 a5 M = some (bI (jok (S 20 0) a1 a2 a3 a4 a5)) := by
  have h1 := hI.1.1
  have hp := p2_8 h1
  unfold f_X8_isAsked
  rw [t_isInK a1 (n := 3) rfl]
  simp only [Option.bind_some]
  refine jn_u (some 0) rfl (fun k33 e33 => ?_)
  rw [t_isLine hm h, show inR a2 0 ((nI (S 20 0)).toInt - 1) = isL (S 20 0) a2 from rfl]
  simp only [Option.bind_some, e33, bI_0]
  unfold jok
  cases isL 3 a1 with
  | false => rfl
  | true =>
    rw [if_neg tf]
    cases isL (S 20 0) a2 with
    | false => rfl
    | true =>
      rw [if_neg tf]
      refine jn_u (some (bI (sok (S 20 0) a4 && inR a5 1 3))) ?_ (fun k' e' => ?_)
      · simp only [gk_jn, zz_0, zz_1]
        rw [mr_L hm h, sh_L _ (by omega), rg_if]
        unfold sok
        cases e : isL (2 ^ S 20 0) a4 with
        | false => rw [if_neg (show ¬ (false = true) by decide)]; rfl
        | true =>
          obtain ⟨s, hs, rfl⟩ := isL_s (by omega) e
          have := bc_le s
          rw [if_pos rfl, t_bits (by omega), tN_n (by omega), show (3 : Int32) = nI 3 from rfl, t_isInI, show ((1 : Int64).toInt) = 1 from rfl, show ((3 : Int64).toInt) = 3 from rfl]
          simp only [Option.bind_some, nI_ltI (show 3 < 2 ^ 31 by omega) (show bc s < 2 ^ 31 by omega), bI_0]
          by_cases g : 3 < bc s
          · rw [if_pos g, decide_eq_false (by omega)]; rfl
          · rw [if_neg g, decide_eq_true (by omega)]
            cases inR a5 1 3 <;> rfl
      · rw [e', t_isLine hm h, show inR a3 0 ((nI (S 20 0)).toInt - 1) = isL (S 20 0) a3 from rfl]
        simp only [Option.bind_some, bI_0]
        by_cases e : a1 = 1
        · rw [if_pos e, decide_eq_true e]; rfl
        · rw [if_neg e, decide_eq_false e]
          cases isL (S 20 0) a3 <;> rfl
end JK
