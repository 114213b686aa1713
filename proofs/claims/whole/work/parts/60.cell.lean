/-! Cells on both sides -/
def TB (T : zS) : Prop := ∀ s, s < 4 → T 0 s ≤ 3 ∧ T 1 s ≤ 40
def byt (a : Int32) : Int32 := a.toInt8.toInt32
def putV (V : Nat → Int32) (i : Nat) (v : Int32) : Nat → Int32 := fun j => if j = i then v else V j
def cellR (T : zS) (V : Nat → Int32) (a1 a2 a3 : Int32) : Int32 × Nat × zS × (Nat → Int32) := if isL 4 a1 = false ∨ inR a3 (-1000) 1000 = false then (-1, 1, T, V) else if T 0 (tN a1) = 0 then (-1, 10, T, V) else if isL (T 1 (tN a1)) a2 = false then (-1, 12, T, V) else (1, 0, T, putV V (40 * tN a1 + tN a2) (if T 0 (tN a1) = 1 then byt a3 else a3))
theorem byt_d : ∀ k : Nat, k < 2001 → (Int32.ofInt ((k : Int) - 1000)).toInt8.toInt32 = (if (Int32.ofInt ((k : Int) - 1000) &&& 255) ≤ 127 then (Int32.ofInt ((k : Int) - 1000) &&& 255) else (Int32.ofInt ((k : Int) - 1000) &&& 255) - 256) := by decide +kernel
section CE
variable {LN : Nat → Nat} {RF : Nat → Nat → Nat} {x m : Nat} {M : gk_M} {T : zS} {V : Nat → Int32}
theorem t_byteOf {a : Int32} (h : inR a (-1000) 1000 = true) : f_X8_byteOf LN RF a M = some (byt a) := by
  unfold inR at h
  simp only [Bool.and_eq_true, decide_eq_true_eq] at h
  have hk := byt_d (a.toInt + 1000).toNat (by omega)
  have ha : Int32.ofInt (((a.toInt + 1000).toNat : Int) - 1000) = a := by
    rw [show (((a.toInt + 1000).toNat : Int) - 1000) = a.toInt by omega, Int32.ofInt_toInt]
  rw [ha] at hk
  unfold f_X8_byteOf byt
  simp only [gk_jn]
  rw [hk]
  split <;> rfl
theorem rg_m (a : Int32) {α : Type} (A B : α) : (if a < -1000 then A else if a ≤ 1000 then B else A) = if inR a (-1000) 1000 = true then B else A := by
  unfold inR
  by_cases h1 : a < -1000
  · rw [if_pos h1]
    have : ¬ -1000 ≤ a.toInt := by have := Int32.lt_iff_toInt_lt.mp h1; rw [show (-1000 : Int32).toInt = -1000 from by decide] at this; omega
    simp [this]
  · rw [if_neg h1]
    have g1 : -1000 ≤ a.toInt := by have : ¬ a.toInt < (-1000 : Int32).toInt := fun g => h1 (Int32.lt_iff_toInt_lt.mpr g); rw [show (-1000 : Int32).toInt = -1000 from by decide] at this; omega
    by_cases h2 : a ≤ 1000
    · rw [if_pos h2]
      have : a.toInt ≤ 1000 := by have := Int32.le_iff_toInt_le.mp h2; rw [show (1000 : Int32).toInt = 1000 from by decide] at this; omega
      simp [g1, this]
    · rw [if_neg h2]
      have : ¬ a.toInt ≤ 1000 := fun g => h2 (Int32.le_iff_toInt_le.mpr (by rw [show (1000 : Int32).toInt = 1000 from by decide]; omega))
      simp [this]
theorem pre_i {n : Nat} (hn : n < 1000) : (nI n - 1 : Int32).toInt = (nI n).toInt - 1 := by
  have := pre_I hn
  rwa [Int32.toInt_toInt64] at this
theorem u_isMissing (hs : sL LN RF x) (hS : SR x M T V) (hT : TB T) {s : Nat} (h4 : s < 4) : f_X4_isMissing LN RF (x + 279) (nI s) M = some (bI (T 0 s == 0)) := by
  have := (hT s h4).1
  unfold f_X4_isMissing
  rw [hs.2.1, ald_n (by rw [hs.2.2.2.2.1]; omega) (by omega), (hS.1 s h4).1]
  simp only [gk_jn, zz_0, zz_1, nN_m1 (show T 0 s < 2 ^ 31 by omega)]
  by_cases e : T 0 s = 0 <;> simp [e, bI]
theorem u_places1 (hs : sL LN RF x) (hS : SR x M T V) (hT : TB T) {s : Nat} (h4 : s < 4) (y : Int32) : f_X4_hasPlaces LN RF (x + 279) (nI s) y 1 M = some (bI (isL (T 1 s) y)) := by
  have := (hT s h4).2
  unfold f_X4_hasPlaces
  simp only [gk_jn, zz_0, zz_1]
  rw [if_neg (show ¬ (1 : Int32) < 0 by decide), hs.2.2.1, ald_n (by rw [hs.2.2.2.2.2.1]; omega) (by omega), (hS.1 s h4).2, rg_if3 y (nI (T 1 s) - 1) (T 1 s) (pre_i (by omega))]
  cases isL (T 1 s) y <;> rfl
theorem c_cell (hs : sL LN RF x) (hS : SR x M T V) (hT : TB T) (a1 a2 a3 : Int32) : CS x M (f_X7_cell LN RF x a1 a2 a3 M) (cellR T V a1 a2 a3) := by
  unfold f_X7_cell cellR
  rw [u_isSheet, hs.1]
  simp only [gk_jn, Option.bind_some, bI_0]
  rw [rg_m]
  cases e1 : isL 4 a1 with
  | false => rw [if_pos rfl, if_pos (Or.inl rfl)]; exact ref_CS hS 1 rfl
  | true =>
    rw [if_neg tf]
    cases e3 : inR a3 (-1000) 1000 with
    | false => rw [if_neg (show ¬ (false = true) by decide), if_pos (Or.inr rfl)]; exact ref_CS hS 1 rfl
    | true =>
      rw [if_pos rfl, if_neg (show ¬ (true = false ∨ true = false) by simp)]
      obtain ⟨s, h4, rfl⟩ := isL_s (by omega) e1
      have hb := hT s h4
      rw [tN_n (by omega), u_isMissing hs hS hT h4, u_places1 hs hS hT h4]
      simp only [Option.bind_some, bI_0]
      by_cases e0 : T 0 s = 0
      · rw [if_neg (by simp [e0]), if_pos e0]; exact ref_CS hS 10 rfl
      · rw [if_pos (by simp [e0]), if_neg e0]
        cases e2 : isL (T 1 s) a2 with
        | false => rw [if_pos rfl, if_pos rfl]; exact ref_CS hS 12 rfl
        | true =>
          rw [if_neg tf, if_neg tf]
          obtain ⟨i, hi, rfl⟩ := isL_s (by omega) e2
          rw [tN_n (by omega)]
          unfold f_X4_write
          rw [hs.2.1, ald_n (by rw [hs.2.2.2.2.1]; omega) (by omega), (hS.1 s h4).1, nI_m40, hs.2.2.2.1]
          simp only [gk_jn, ast_n (show 40 * s + i < LN (x + 282) by rw [hs.2.2.2.2.2.2]; omega) (show 40 * s + i < 2 ^ 31 by omega)]
          have key : ∀ v, CS x M ((some (gk_wr M (x + 282) (40 * s + i) v)).bind fun r31 => (f_X7_done LN RF x 1 r31).bind fun r32 => some (r32.1, r32.2)) (1, 0, T, putV V (40 * s + i) v) := by
            intro v
            simp only [Option.bind_some]
            refine done_CS ⟨fun t ht => ?_, fun j hj => ?_⟩ 1 rfl (fun a ha => by funext j; rw [wr_1, if_neg (by omega)])
            · rw [wr_1, if_neg (by omega), wr_1, if_neg (by omega)]; exact hS.1 t ht
            · rw [wr_1]; unfold putV
              by_cases e : j = 40 * s + i
              · rw [if_pos ⟨rfl, e⟩, if_pos e]
              · rw [if_neg (fun g => e g.2), if_neg e]; exact hS.2 j hj
          obtain ⟨k, hk⟩ : ∃ k, T 0 s = k + 1 := ⟨T 0 s - 1, by omega⟩
          rw [hk, nN_s]
          simp only [nI_e0 (show k < 2 ^ 31 by omega)]
          by_cases e5 : k = 0
          · rw [if_pos e5, if_pos (by omega)]; exact key (byt a3)
          · rw [if_neg e5, if_neg (by omega)]; exact key a3
theorem t_cell (hm : mL LN RF m) (hR : TR m M T V) (hT : TB T) (a1 a2 a3 : Int32) : MS m M (f_X8_cell LN RF m a1 a2 a3 M) (cellR T V a1 a2 a3) := by
  unfold f_X8_cell cellR
  rw [t_isInK a1 (n := 4) (by decide), t_isInI, show ((-1000 : Int64)).toInt = -1000 from by decide, show ((1000 : Int64)).toInt = 1000 from by decide]
  simp only [gk_jn, Option.bind_some, bI_0]
  cases e1 : isL 4 a1 with
  | false => rw [if_pos rfl, if_pos (Or.inl rfl)]; exact ref_MS hR 1 rfl
  | true =>
    rw [if_neg tf]
    cases e3 : inR a3 (-1000) 1000 with
    | false => rw [if_pos rfl, if_pos (Or.inr rfl)]; exact ref_MS hR 1 rfl
    | true =>
      rw [if_neg tf, if_neg (show ¬ (true = false ∨ true = false) by simp)]
      obtain ⟨s, h4, rfl⟩ := isL_s (by omega) e1
      have hb := hT s h4
      have r37 : ∀ {α : Type} {K : Int32 → Option α}, gk_ald LN M (RF m 37) (nI s) K = K (nI (T 0 s)) := fun {α} {K} => by rw [hm.2.2.1.2.2.2.2.2.2.2.1, ald_n (by rw [hm.2.2.2.2.2.2.2.2.2.2.1]; omega) (by omega), (hR.1 s h4).1]
      have r38 : ∀ {α : Type} {K : Int32 → Option α}, gk_ald LN M (RF m 38) (nI s) K = K (nI (T 1 s)) := fun {α} {K} => by rw [hm.2.2.1.2.2.2.2.2.2.2.2.1, ald_n (by rw [hm.2.2.2.2.2.2.2.2.2.2.2.1]; omega) (by omega), (hR.1 s h4).2]
      rw [tN_n (by omega), r37, r38, r37, t_isInL a2 (show T 1 s < 1000 by omega), t_byteOf e3]
      simp only [Option.bind_some, bI_0, nI_e0 (show T 0 s < 2 ^ 31 by omega), nI_e1 (show T 0 s < 2 ^ 31 by omega)]
      by_cases e0 : T 0 s = 0
      · rw [if_pos e0, if_pos e0]; exact ref_MS hR 10 rfl
      · rw [if_neg e0, if_neg e0]
        cases e2 : isL (T 1 s) a2 with
        | false => rw [if_pos rfl, if_pos rfl]; exact ref_MS hR 12 rfl
        | true =>
          rw [if_neg tf, if_neg tf]
          obtain ⟨i, hi, rfl⟩ := isL_s (by omega) e2
          rw [tN_n (by omega), nI_40m, hm.2.2.1.2.2.2.2.2.2.2.2.2]
          simp only [ast_n (show 40 * s + i < LN (m + 33) by rw [hm.2.2.2.2.2.2.2.2.2.2.2.2]; omega) (show 40 * s + i < 2 ^ 31 by omega)]
          have key : ∀ v, MS m M ((f_X8_done LN RF m 1 (gk_wr M (m + 33) (40 * s + i) v)).bind fun r39 => some (r39.1, r39.2)) (1, 0, T, putV V (40 * s + i) v) := by
            intro v
            refine done_MS ⟨fun t ht => ?_, fun j hj => ?_⟩ 1 rfl (fun a ha => by funext j; rw [wr_1, if_neg (by omega)])
            · rw [wr_1, if_neg (by omega), wr_1, if_neg (by omega)]; exact hR.1 t ht
            · rw [wr_1]; unfold putV
              by_cases e : j = 40 * s + i
              · rw [if_pos ⟨rfl, e⟩, if_pos e]
              · rw [if_neg (fun g => e g.2), if_neg e]; exact hR.2 j hj
          by_cases e5 : T 0 s = 1
          · rw [if_pos e5, if_pos e5]; exact key (byt a3)
          · rw [if_neg e5, if_neg e5]; exact key a3
end CE
