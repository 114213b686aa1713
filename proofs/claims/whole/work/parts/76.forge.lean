/-! forge: both sides answer alike, with one status -/
def FG (x m : Nat) (M M' : gk_M) (o p : Option (Int32 × gk_M)) : Prop := ∃ (r : Int32) (s : Int32), o = some (r, gk_wr M x 9 s) ∧ p = some (r, gk_wr M' m 25 s)
theorem FG.mk {x m : Nat} {M M' : gk_M} {r s : Int32} : FG x m M M' (some (r, gk_wr M x 9 s)) (some (r, gk_wr M' m 25 s)) := ⟨r, s, rfl, rfl⟩
theorem bnd_id (o : Option (Int32 × gk_M)) : (o.bind fun r => some (r.1, r.2)) = o := by cases o <;> rfl
theorem f7r {LN : Nat → Nat} {RF : Nat → Nat → Nat} {x : Nat} {s : Int32} {M : gk_M} : f_X7_refused LN RF x s M = some (-1, gk_wr M x 9 s) := rfl
theorem f7d {LN : Nat → Nat} {RF : Nat → Nat → Nat} {x : Nat} {r : Int32} {M : gk_M} : f_X7_done LN RF x r M = some (r, gk_wr M x 9 0) := rfl
theorem f8r {LN : Nat → Nat} {RF : Nat → Nat → Nat} {m : Nat} {s : Int32} {M : gk_M} : f_X8_refused LN RF m s M = some (-1, gk_wr M m 25 s) := rfl
theorem f8d {LN : Nat → Nat} {RF : Nat → Nat → Nat} {m : Nat} {r : Int32} {M : gk_M} : f_X8_done LN RF m r M = some (r, gk_wr M m 25 0) := rfl
theorem rg_h (a : Int32) {α : Type} (A B : α) : (if a < -100 then A else if 100 < a then A else B) = if inR a (-100) 100 = true then B else A := by
  unfold inR
  have e1 : a < -100 ↔ a.toInt < -100 := Int32.lt_iff_toInt_lt
  have e2 : 100 < a ↔ 100 < a.toInt := Int32.lt_iff_toInt_lt
  by_cases h1 : a.toInt < -100
  · rw [if_pos (e1.mpr h1), if_neg]
    simp only [Bool.and_eq_true, decide_eq_true_eq]; omega
  · rw [if_neg (fun g => h1 (e1.mp g))]
    by_cases h2 : 100 < a.toInt
    · rw [if_pos (e2.mpr h2), if_neg]
      simp only [Bool.and_eq_true, decide_eq_true_eq]; omega
    · rw [if_neg (fun g => h2 (e2.mp g)), if_pos]
      simp only [Bool.and_eq_true, decide_eq_true_eq]; omega
theorem rg_h2 (a : Int32) {α : Type} (A B : α) : (if a < -100 then A else if a ≤ 100 then B else A) = if inR a (-100) 100 = true then B else A := by
  rw [← rg_h a A B]
  by_cases h1 : a < -100
  · rw [if_pos h1, if_pos h1]
  · rw [if_neg h1, if_neg h1]
    by_cases h2 : a ≤ 100
    · rw [if_pos h2, if_neg (fun g => by have := Int32.le_iff_toInt_le.mp h2; have := Int32.lt_iff_toInt_lt.mp g; omega)]
    · rw [if_neg h2, if_pos (Int32.lt_iff_toInt_lt.mpr (by have : ¬ a.toInt ≤ (100 : Int32).toInt := fun g => h2 (Int32.le_iff_toInt_le.mpr g); omega))]
def mq (a : Int32) (n : Nat) : Nat := (a.toInt % (n : Int)).toNat
def fmc (a : Int32) : Bool := decide (f_J9_floorMod_7cf53 (fun _ => 0) (fun _ _ => 0) a 24 (fun _ _ => 0, fun _ => 0) = some (nI (mq a 24)) ∧ f_J9_floorMod_7cf53 (fun _ => 0) (fun _ _ => 0) a 4 (fun _ _ => 0, fun _ => 0) = some (nI (mq a 4)) ∧ f_J9_floorMod_7cf53 (fun _ => 0) (fun _ _ => 0) a 8 (fun _ _ => 0, fun _ => 0) = some (nI (mq a 8)) ∧ f_J9_floorMod_7cf53 (fun _ => 0) (fun _ _ => 0) a 2 (fun _ _ => 0, fun _ => 0) = some (nI (mq a 2)) ∧ f_X8_modulo (fun _ => 0) (fun _ _ => 0) a 24 (fun _ _ => 0, fun _ => 0) = some (nI (mq a 24)) ∧ f_X8_modulo (fun _ => 0) (fun _ _ => 0) a 4 (fun _ _ => 0, fun _ => 0) = some (nI (mq a 4)) ∧ f_X8_modulo (fun _ => 0) (fun _ _ => 0) a 8 (fun _ _ => 0, fun _ => 0) = some (nI (mq a 8)) ∧ f_X8_modulo (fun _ => 0) (fun _ _ => 0) a 2 (fun _ _ => 0, fun _ => 0) = some (nI (mq a 2)))
theorem fmc_d : ∀ k : Nat, k < 201 → fmc (Int32.ofInt ((k : Int) - 100)) = true := by decide +kernel
theorem fm {LN : Nat → Nat} {RF : Nat → Nat → Nat} {M : gk_M} {a : Int32} (h : inR a (-100) 100 = true) : f_J9_floorMod_7cf53 LN RF a 24 M = some (nI (mq a 24)) ∧ f_J9_floorMod_7cf53 LN RF a 4 M = some (nI (mq a 4)) ∧ f_J9_floorMod_7cf53 LN RF a 8 M = some (nI (mq a 8)) ∧ f_J9_floorMod_7cf53 LN RF a 2 M = some (nI (mq a 2)) ∧ f_X8_modulo LN RF a 24 M = some (nI (mq a 24)) ∧ f_X8_modulo LN RF a 4 M = some (nI (mq a 4)) ∧ f_X8_modulo LN RF a 8 M = some (nI (mq a 8)) ∧ f_X8_modulo LN RF a 2 M = some (nI (mq a 2)) := by
  unfold inR at h
  simp only [Bool.and_eq_true, decide_eq_true_eq] at h
  have hk := fmc_d (a.toInt + 100).toNat (by omega)
  rw [show (((a.toInt + 100).toNat : Int) - 100) = a.toInt by omega, Int32.ofInt_toInt] at hk
  exact of_decide_eq_true hk
theorem mq_lt (a : Int32) (n : Nat) (hn : 0 < n) : mq a n < n := by
  unfold mq
  have h1 := Int.emod_nonneg a.toInt (show (n : Int) ≠ 0 by omega)
  have h2 := Int.emod_lt_of_pos a.toInt (show (0 : Int) < n by omega)
  omega
theorem sw_out {α : Type} {y : Int32} (d : α) : ∀ (ks : List α) (n : Nat), n + ks.length ≤ 7 → isL 7 y = false → gk_sw y (n : Int) ks d = d
  | [], n, _, _ => rfl
  | k :: ks, n, h, hy => by
    simp only [List.length_cons] at h
    have hne : ¬ y = Int32.ofInt (n : Int) := fun g => by
      have : isL 7 y = true := by
        rw [g, show Int32.ofInt (n : Int) = nI n from rfl]
        exact inR_n (by omega) (by omega)
      rw [this] at hy; cases hy
    show (if y = Int32.ofInt (n : Int) then k else gk_sw y ((n : Int) + 1) ks d) = d
    rw [if_neg hne]
    exact sw_out d ks (n + 1) (by omega) hy
theorem sw7_0 {α : Type} {A B C D E F G d : α} : gk_sw (nI 0) 0 [A, B, C, D, E, F, G] d = A := rfl
theorem sw6_0 {α : Type} {A B C D E F d : α} : gk_sw (nI 0) 0 [A, B, C, D, E, F] d = A := rfl
theorem sw7_1 {α : Type} {A B C D E F G d : α} : gk_sw (nI 1) 0 [A, B, C, D, E, F, G] d = B := rfl
theorem sw6_1 {α : Type} {A B C D E F d : α} : gk_sw (nI 1) 0 [A, B, C, D, E, F] d = B := rfl
theorem sw7_2 {α : Type} {A B C D E F G d : α} : gk_sw (nI 2) 0 [A, B, C, D, E, F, G] d = C := rfl
theorem sw6_2 {α : Type} {A B C D E F d : α} : gk_sw (nI 2) 0 [A, B, C, D, E, F] d = C := rfl
theorem sw7_3 {α : Type} {A B C D E F G d : α} : gk_sw (nI 3) 0 [A, B, C, D, E, F, G] d = D := rfl
theorem sw6_3 {α : Type} {A B C D E F d : α} : gk_sw (nI 3) 0 [A, B, C, D, E, F] d = D := rfl
theorem sw7_4 {α : Type} {A B C D E F G d : α} : gk_sw (nI 4) 0 [A, B, C, D, E, F, G] d = E := rfl
theorem sw6_4 {α : Type} {A B C D E F d : α} : gk_sw (nI 4) 0 [A, B, C, D, E, F] d = E := rfl
theorem sw7_5 {α : Type} {A B C D E F G d : α} : gk_sw (nI 5) 0 [A, B, C, D, E, F, G] d = F := rfl
theorem sw6_5 {α : Type} {A B C D E F d : α} : gk_sw (nI 5) 0 [A, B, C, D, E, F] d = F := rfl
theorem sw7_6 {α : Type} {A B C D E F G d : α} : gk_sw (nI 6) 0 [A, B, C, D, E, F, G] d = G := rfl
theorem sw6_6 {α : Type} {A B C D E F d : α} : gk_sw (nI 6) 0 [A, B, C, D, E, F] d = d := rfl
theorem sw7_o {α : Type} {y : Int32} {A B C D E F G d : α} (h : isL 7 y = false) : gk_sw y 0 [A, B, C, D, E, F, G] d = d := sw_out d [A, B, C, D, E, F, G] 0 (by simp) h
def smv (V : Nat → Int32) (p : Nat) : Nat → Nat → Int32 → Int32
  | 0, _, a => a
  | r + 1, i, a => smv V p r (i + 1) (a + V (p + i))
theorem nN_e0 {a : Nat} (h : a < 2 ^ 31) : nN a = 0 ↔ a = 1 := nN_nI (l := 0) h (by omega)
theorem nN_e1 {a : Nat} (h : a < 2 ^ 31) : nN a = 1 ↔ a = 2 := nN_nI (l := 1) h (by omega)
section FO
variable {LN : Nat → Nat} {RF : Nat → Nat → Nat} {x m : Nat} {M M' : gk_M} {W S T : zS} {V : Nat → Int32}
theorem lp_c74_s (hs : sL LN RF x) (hS : SR x M T V) {s n : Nat} (h4 : s < 4) (hn : n ≤ 3) {K : Int32 → Option (Int32 × gk_M)} : ∀ (r f i : Nat) (a : Int32), i + r = n + 1 → r < f → lp_X7_copiedAsBytes_74 LN RF x (nI s) (nI n) M K f (a, nI i) = K (smv V (40 * s) r i a)
  | r, 0, i, a, _, g => absurd g (by omega)
  | 0, f + 1, i, a, g1, g2 => by rw [lp_X7_copiedAsBytes_74, if_pos (nI_lt (by omega) (by omega))]; rfl
  | r + 1, f + 1, i, a, g1, g2 => by
    rw [lp_X7_copiedAsBytes_74, if_neg (nI_nlt (by omega) (by omega)), hs.1, u_read hs hS h4 (by omega), Option.bind_some, nI_1, smv]
    exact lp_c74_s hs hS h4 hn (K := K) r f (i + 1) (a + V (40 * s + i)) (by omega) (by omega)
theorem lp_c69_s (hm : mL LN RF m) (hR : TR m M T V) {s n : Nat} (h4 : s < 4) (hn : n ≤ 3) {K : Int32 → Option (Int32 × gk_M)} : ∀ (r f i : Nat) (a : Int32), i + r = n + 1 → r < f → lp_X8_copied_69 LN RF m (nI s) (nI n) M K f (a, nI i) = K (smv V (40 * s) r i a)
  | r, 0, i, a, _, g => absurd g (by omega)
  | 0, f + 1, i, a, g1, g2 => by rw [lp_X8_copied_69, if_pos (nI_lt (by omega) (by omega))]; rfl
  | r + 1, f + 1, i, a, g1, g2 => by
    rw [lp_X8_copied_69, if_neg (nI_nlt (by omega) (by omega)), nI_40m, m_39 hm hR (by omega), nI_1, smv]
    exact lp_c69_s hm hR h4 hn (K := K) r f (i + 1) (a + V (40 * s + i)) (by omega) (by omega)
theorem q_copied (hs : sL LN RF x) (hm : mL LN RF m) (hS : SR x M T V) (hR : TR m M' T V) (hT : TB T) {s : Nat} (h4 : s < 4) {a2 : Int32} (h2 : inR a2 (-100) 100 = true) : FG x m M M' (f_X7_copiedAsBytes LN RF x (nI s) a2 M) (f_X8_copied LN RF m (nI s) a2 M') := by
  have hb := hT s h4
  unfold f_X7_copiedAsBytes f_X8_copied
  rw [hs.1, u_isMissing hs hS hT h4, hs.2.1, ald_n (by rw [hs.2.2.2.2.1]; omega) (by omega), (hS.1 s h4).1, m_37 hm hR h4, m_37 hm hR h4]
  simp only [Option.bind_some, gk_jn, bnd_id, m_38 hm hR h4, f7r, f7d, f8r, f8d, bI_0, nI_e0 (show T 0 s < 2 ^ 31 by omega), nI_e1 (show T 0 s < 2 ^ 31 by omega), nN_e0 (show T 0 s < 2 ^ 31 by omega)]
  by_cases e0 : T 0 s = 0
  · rw [if_neg (by simp [e0]), if_pos e0]; exact FG.mk
  · rw [if_pos (by simp [e0]), if_neg e0]
    by_cases e1 : T 0 s = 1
    · rw [if_pos (by omega), if_pos e1]
      by_cases c : a2 < 0
      · rw [if_pos c, if_pos c]; exact FG.mk
      · rw [if_neg c, if_neg c]
        obtain ⟨n, hn, rfl⟩ := nI_of (show ¬ a2 < 0 from c)
        have hn100 : n ≤ 100 := by
          unfold inR at h2
          simp only [Bool.and_eq_true, decide_eq_true_eq, nI_toInt hn] at h2
          omega
        rw [nI_add, nI_1, show (6 : Int32) = nI 6 from rfl]
        simp only [nI_ltI (show 6 < 2 ^ 31 by omega) (show n + n < 2 ^ 31 by omega), nI_leI (show n + n < 2 ^ 31 by omega) (show 6 < 2 ^ 31 by omega), nI_ltI (show T 1 s < 2 ^ 31 by omega) (show n + 1 < 2 ^ 31 by omega)]
        have hpl : f_X4_hasPlaces LN RF (x + 279) (nI s) 1 (nI n) M = some (bI (decide (n + 1 ≤ T 1 s))) := by
          unfold f_X4_hasPlaces
          simp only [gk_jn, zz_0, zz_1]
          rw [if_neg (show ¬ (1 : Int32) < 0 by decide), if_neg (nI_pos hn), hs.2.2.1, ald_n (by rw [hs.2.2.2.2.2.1]; omega) (by omega), (hS.1 s h4).2]
          have e2 : nI (T 1 s) - nI n < 1 ↔ (T 1 s : Int) - n < 1 := by rw [Int32.lt_iff_toInt_lt, pk_sub_toInt (by omega) (by omega)]; rfl
          by_cases c2 : (T 1 s : Int) - n < 1
          · rw [if_pos (e2.mpr c2), decide_eq_false (by omega)]; rfl
          · rw [if_neg (fun g => c2 (e2.mp g)), decide_eq_true (by omega)]; rfl
        rw [hpl]
        simp only [Option.bind_some, bI_0]
        by_cases c1 : 6 < n + n
        · rw [if_pos c1, if_neg (show ¬ n + n ≤ 6 by omega), ite_self]; exact FG.mk
        · rw [if_neg c1, if_pos (show n + n ≤ 6 by omega)]
          by_cases c2 : n + 1 ≤ T 1 s
          · rw [if_neg (by simp [c2]), if_neg (by omega)]
            have p1 := lp_c74_s hs hS h4 (show n ≤ 3 by omega) (K := fun y31 => some (y31, gk_wr M x 9 0)) n gk_fuel 1 0 (by omega) (fuel_gt (by omega))
            have p2 := lp_c69_s hm hR h4 (show n ≤ 3 by omega) (K := fun y31 => some (y31, gk_wr M' m 25 0)) n gk_fuel 1 0 (by omega) (fuel_gt (by omega))
            rw [show ((0 : Int32), (1 : Int32)) = (0, nI 1) from rfl, p1, p2]; exact FG.mk
          · rw [if_pos (by simp; omega), if_pos (by omega)]; exact FG.mk
    · rw [if_neg (by omega), if_neg e1]; exact FG.mk
theorem q_short (hs : sL LN RF x) (hm : mL LN RF m) (hS : SR x M T V) (hR : TR m M' T V) (hT : TB T) {s : Nat} (h4 : s < 4) (a2 : Int32) : FG x m M M' (f_X7_readAsShort LN RF x (nI s) a2 M) (gk_ald LN M' (RF m 37) (nI s) fun x53 => if x53 = 0 then (some (-1, gk_wr M' m 25 10)) else gk_ald LN M' (RF m 37) (nI s) fun x56 => if x56 = 2 then gk_ald LN M' (RF m 38) (nI s) fun x58 => (f_X8_isIn LN RF (Int32.toInt64 a2) 0 (Int32.toInt64 (x58 - 1)) M').bind fun r59 => if r59 = 0 then some (-1, gk_wr M' m 25 12) else gk_ald LN M' (RF m 39) ((40 * nI s) + a2) fun x64 => some (x64, gk_wr M' m 25 0) else some (-1, gk_wr M' m 25 11)) := by
  have hb := hT s h4
  unfold f_X7_readAsShort
  rw [hs.1, u_isMissing hs hS hT h4, hs.2.1, ald_n (by rw [hs.2.2.2.2.1]; omega) (by omega), (hS.1 s h4).1, m_37 hm hR h4, m_37 hm hR h4, m_38 hm hR h4, u_places1 hs hS hT h4, t_isInL a2 (by omega)]
  simp only [Option.bind_some, gk_jn, bnd_id, f7r, f7d, bI_0, nI_e0 (show T 0 s < 2 ^ 31 by omega), nI_e2 (show T 0 s < 2 ^ 31 by omega), nN_e1 (show T 0 s < 2 ^ 31 by omega)]
  by_cases e0 : T 0 s = 0
  · rw [if_neg (by simp [e0]), if_pos e0]; exact FG.mk
  · rw [if_pos (by simp [e0]), if_neg e0]
    by_cases e1 : T 0 s = 2
    · rw [if_pos (by omega), if_pos e1]
      cases e2 : isL (T 1 s) a2 with
      | false => rw [if_pos rfl, if_pos rfl]; exact FG.mk
      | true =>
        obtain ⟨i, hi, rfl⟩ := isL_s (by omega) e2
        rw [if_neg tf, if_neg tf, u_read hs hS h4 (by omega), nI_40m, m_39 hm hR (by omega)]
        exact FG.mk
    · rw [if_neg (by omega), if_neg e1]; exact FG.mk
theorem q_forge (hx : xL LN RF x) (hs : sL LN RF x) (hm : mL LN RF m) (hB : BR (x + 2) M W) (hM : MR m M' W S) (hW : WB W) (hS : SR x M T V) (hR : TR m M' T V) (hT : TB T) (a1 a2 a3 : Int32) : FG x m M M' (f_X7_forge LN RF x a1 a2 a3 M) (f_X8_forge LN RF m a1 a2 a3 M') := by
  have h24 := hW.1
  unfold f_X7_forge f_X8_forge
  rw [t_isInK a1 (n := 7) rfl, t_isInI, t_isInI, show ((-100 : Int64)).toInt = -100 from by decide, show ((100 : Int64)).toInt = 100 from by decide]
  simp only [gk_jn, bnd_id, f7r, f7d, f8r, f8d, Option.bind_some, bI_0]
  rw [rg_h2, rg_h]
  cases e2 : inR a2 (-100) 100 with
  | false => rw [if_neg (by decide), if_pos rfl, ite_self]; exact FG.mk
  | true =>
    rw [if_pos rfl, if_neg tf]
    cases e3 : inR a3 (-100) 100 with
    | false => rw [if_neg (by decide), if_pos rfl, ite_self]; exact FG.mk
    | true =>
      rw [if_pos rfl, if_neg tf]
      obtain ⟨c1, c2, -, -, c5, c6, -, -⟩ := fm (LN := LN) (RF := RF) (M := M) e3
      obtain ⟨-, -, -, -, d5, d6, -, -⟩ := fm (LN := LN) (RF := RF) (M := M') e3
      obtain ⟨-, -, c3, c4, -, -, -, -⟩ := fm (LN := LN) (RF := RF) (M := M) e2
      obtain ⟨-, -, -, -, -, -, d7, d8⟩ := fm (LN := LN) (RF := RF) (M := M') e2
      rw [c1, c2, d5, d6]
      simp only [Option.bind_some]
      have w24 := mq_lt a3 24 (by omega)
      have s4 := mq_lt a3 4 (by omega)
      have k8 := mq_lt a2 8 (by omega)
      have b2 := mq_lt a2 2 (by omega)
      cases e1 : isL 7 a1 with
      | false => rw [if_pos rfl, sw7_o e1]; exact FG.mk
      | true =>
        rw [if_neg tf]
        obtain ⟨k, hk, rfl⟩ := isL_s (by omega) e1
        have hwi : isL (W 6 0) (nI (mq a3 24)) = true ↔ mq a3 24 < W 6 0 := by
          constructor
          · intro g
            obtain ⟨i, hi, e⟩ := isL_s (by omega) g
            rw [nI_eq (by omega) (by omega)] at e; omega
          · intro g; exact inR_n (by omega) g
        have hex : k = 0 ∨ k = 1 ∨ k = 2 ∨ k = 3 ∨ k = 4 ∨ k = 5 ∨ k = 6 := by omega
        rcases hex with rfl | rfl | rfl | rfl | rfl | rfl | rfl
        · rw [sw7_0, sw6_0, c3, d7, Option.bind_some, Option.bind_some]
          unfold f_X7_takenForKind
          rw [hx.1, hx.2.1.1.1, u_holds hB, t_isWish hm hM]
          simp only [Option.bind_some, bI_0, gk_jn, bnd_id, f7r, f7d]
          cases eh : isL (W 6 0) (nI (mq a3 24)) with
          | false => rw [if_pos rfl, if_pos rfl]; exact FG.mk
          | true =>
            have hw := hwi.mp eh
            have hkd := (hW.2 _ hw).2.1
            rw [if_neg tf, if_neg tf, ha_w hx.2.1 (by omega), hB.2 _ 1 hw (by decide)]
            simp only [mr_1 hm hM w24, nI_eq (show W 1 (mq a3 24) < 2 ^ 31 by omega) (show mq a2 8 < 2 ^ 31 by omega), nI_e0 (show mq a2 8 < 2 ^ 31 by omega), nI_e2 (show mq a2 8 < 2 ^ 31 by omega), nI_e3 (show W 1 (mq a3 24) < 2 ^ 31 by omega), i10, i00, if_true, if_false]
            by_cases q1 : mq a2 8 = 0
            · rw [if_pos q1, if_pos q1, ite_self]; exact FG.mk
            · rw [if_neg q1, if_neg q1]
              by_cases q2 : W 1 (mq a3 24) = mq a2 8
              · simp only [if_pos q2, ite_self]
                exact FG.mk
              · simp only [if_neg q2]
                by_cases q3 : mq a2 8 = 2
                · simp only [if_pos q3]
                  by_cases q4 : W 1 (mq a3 24) = 3
                  · simp only [if_pos q4]; exact FG.mk
                  · simp only [if_neg q4]; exact FG.mk
                · simp only [if_neg q3]; exact FG.mk
        · rw [sw7_1, sw6_1]
          by_cases q : 0 ≤ a2
          · rw [if_pos q, if_pos q]; exact FG.mk
          · rw [if_neg q, if_neg q]; exact FG.mk
        · rw [sw7_2, sw6_2]; exact q_short hs hm hS hR hT s4 a2
        · rw [sw7_3, sw6_3]; exact q_copied hs hm hS hR hT s4 e2
        · rw [sw7_4, sw6_4]
          unfold f_X7_putAmongShut
          rw [hx.1, hx.2.1.1.1, u_holds hB, t_isWish hm hM]
          simp only [Option.bind_some, bI_0, gk_jn, bnd_id, f7r, f7d]
          cases eh : isL (W 6 0) (nI (mq a3 24)) with
          | false => rw [if_pos rfl, if_pos rfl]; exact FG.mk
          | true =>
            have hw := hwi.mp eh
            have hkd := (hW.2 _ hw).2.1
            rw [if_neg tf, if_neg tf, ha_w hx.2.1 (by omega), hB.2 _ 1 hw (by decide)]
            simp only [mr_1 hm hM w24, nI_e2 (show W 1 (mq a3 24) < 2 ^ 31 by omega), nI_e3 (show W 1 (mq a3 24) < 2 ^ 31 by omega)]
            by_cases q2 : W 1 (mq a3 24) = 2
            · rw [if_pos q2, if_pos q2]; exact FG.mk
            · rw [if_neg q2, if_neg q2]
              by_cases q3 : W 1 (mq a3 24) = 3
              · rw [if_pos q3, if_pos q3]; exact FG.mk
              · rw [if_neg q3, if_neg q3]; exact FG.mk
        · rw [sw7_5, sw6_5]
          by_cases q : a2 = 0
          · rw [if_pos q, if_pos q]; exact FG.mk
          · rw [if_neg q, if_neg q, if_neg q, if_neg q]; exact FG.mk
        · rw [sw7_6, sw6_6, c4, d8, Option.bind_some, Option.bind_some]
          simp only [nI_e0 (show mq a2 2 < 2 ^ 31 by omega)]
          by_cases q : mq a2 2 = 0
          · rw [if_pos q, if_pos q]; exact FG.mk
          · rw [if_neg q, if_neg q]; exact FG.mk
end FO
