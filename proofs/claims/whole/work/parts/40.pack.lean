/-! Rows of a call as bits (the family wb_ is a starting text of the kit) -/
theorem wb_tb (n : Nat) : (lN n).toBitVec = BitVec.ofNat 64 n := rfl
theorem wb_inj {a b : Int64} (h : a.toBitVec = b.toBitVec) : a = b := Int64.toBitVec_inj.mp h
theorem wb_tn {n : Nat} (h : n < 2 ^ 64) : (lN n).toBitVec.toNat = n := by rw [wb_tb, BitVec.toNat_ofNat, Nat.mod_eq_of_lt h]
theorem wb_of (x : Int64) : ∃ n, n < 2 ^ 64 ∧ x = lN n := ⟨x.toBitVec.toNat, x.toBitVec.isLt, wb_inj (by rw [wb_tb]; simp)⟩
theorem wb_of32 (x : Int32) : ∃ n, n < 2 ^ 32 ∧ x = nI n := ⟨x.toBitVec.toNat, x.toBitVec.isLt, Int32.toBitVec_inj.mp (by show _ = BitVec.ofNat 32 _; simp)⟩
theorem wb_c : ∀ k, k < 64 → ((nI k).toInt64 &&& 63) = lN k := by decide +kernel
theorem wb_cu : ∀ k, k < 64 → ((nI k).toInt64.toUInt64 &&& Int64.toUInt64 63) = UInt64.ofNat k := by decide +kernel
theorem wb_sm : ∀ k, k < 64 → (BitVec.ofNat 64 k).smod 64 = BitVec.ofNat 64 k := by decide +kernel
theorem wb_pw {a b : Nat} (h : a ≤ b) : 2 ^ b = 2 ^ a * 2 ^ (b - a) := by rw [← Nat.pow_add]; congr 1; omega
theorem wb_lt2 {a b : Nat} (h : a < b) : 2 ^ a < 2 ^ b := Nat.pow_lt_pow_right (by decide) h
theorem wb_mod (n : Nat) : lN n = lN (n % 2 ^ 64) := wb_inj (by rw [wb_tb, wb_tb]; apply BitVec.eq_of_toNat_eq; rw [BitVec.toNat_ofNat, BitVec.toNat_ofNat, Nat.mod_mod])
theorem wb_shr {n k : Nat} (hn : n < 2 ^ 64) (hk : k < 64) : ((lN n).toUInt64 >>> ((nI k).toInt64.toUInt64 &&& Int64.toUInt64 63)).toInt64 = lN (n / 2 ^ k) := by
  rw [wb_cu k hk]
  apply wb_inj
  apply BitVec.eq_of_toNat_eq
  show ((lN n).toUInt64 >>> UInt64.ofNat k).toNat = (BitVec.ofNat 64 _).toNat
  have h1 : (UInt64.ofNat k).toNat = k := by
    show (BitVec.ofNat 64 k).toNat = k
    rw [BitVec.toNat_ofNat, Nat.mod_eq_of_lt (by omega)]
  have h2 : (lN n).toUInt64.toNat = n := wb_tn hn
  rw [UInt64.toNat_shiftRight, h1, h2, Nat.mod_eq_of_lt hk, Nat.shiftRight_eq_div_pow, BitVec.toNat_ofNat, Nat.mod_eq_of_lt (Nat.lt_of_le_of_lt (Nat.div_le_self _ _) hn)]
theorem wb_shl (n : Nat) {k : Nat} (hk : k < 64) : lN n <<< ((nI k).toInt64 &&& 63) = lN (n * 2 ^ k) := by
  rw [wb_c k hk]
  apply wb_inj
  rw [Int64.toBitVec_shiftLeft, wb_tb, wb_tb, wb_tb, wb_sm k hk]
  apply BitVec.eq_of_toNat_eq
  rw [BitVec.shiftLeft_eq', BitVec.toNat_shiftLeft, BitVec.toNat_ofNat, BitVec.toNat_ofNat, BitVec.toNat_ofNat, Nat.mod_eq_of_lt (show k < 2 ^ 64 by omega), Nat.shiftLeft_eq, Nat.mul_mod, Nat.mod_mod, ← Nat.mul_mod]
theorem wb_and {a b : Nat} (ha : a < 2 ^ 64) (hb : b < 2 ^ 64) : lN a &&& lN b = lN (a &&& b) := by
  apply wb_inj
  rw [Int64.toBitVec_and, wb_tb, wb_tb, wb_tb]
  apply BitVec.eq_of_toNat_eq
  rw [BitVec.toNat_and, BitVec.toNat_ofNat, BitVec.toNat_ofNat, BitVec.toNat_ofNat, Nat.mod_eq_of_lt ha, Nat.mod_eq_of_lt hb, Nat.mod_eq_of_lt (Nat.and_lt_two_pow _ hb)]
theorem wb_or {a b : Nat} (ha : a < 2 ^ 64) (hb : b < 2 ^ 64) : lN a ||| lN b = lN (a ||| b) := by
  apply wb_inj
  rw [Int64.toBitVec_or, wb_tb, wb_tb, wb_tb]
  apply BitVec.eq_of_toNat_eq
  rw [BitVec.toNat_or, BitVec.toNat_ofNat, BitVec.toNat_ofNat, BitVec.toNat_ofNat, Nat.mod_eq_of_lt ha, Nat.mod_eq_of_lt hb, Nat.mod_eq_of_lt (Nat.or_lt_two_pow ha hb)]
theorem wb_mask {n k : Nat} (hn : n < 2 ^ 64) (hk : k < 64) : lN n &&& lN (2 ^ k - 1) = lN (n % 2 ^ k) := by
  rw [wb_and hn (by have := wb_lt2 hk; omega), Nat.and_two_pow_sub_one_eq_mod]

def pk4 (f : Nat → Nat) : Nat → Nat
  | 0 => 0
  | r + 1 => pk4 f r + f r * 16 ^ r
def pk5 (f : Nat → Nat) : Nat → Nat
  | 0 => 0
  | r + 1 => pk5 f r + f r * 32 ^ r
theorem pk4_lt {f : Nat → Nat} : ∀ r, (∀ i, i < r → f i < 16) → pk4 f r < 16 ^ r
  | 0, _ => by simp [pk4]
  | r + 1, h => by
    have h1 := pk4_lt r (fun i hi => h i (by omega))
    have h2 := h r (by omega)
    have h3 : f r * 16 ^ r ≤ 15 * 16 ^ r := Nat.mul_le_mul_right _ (by omega)
    rw [pk4, Nat.pow_succ]
    omega
theorem pk5_lt {f : Nat → Nat} : ∀ r, (∀ i, i < r → f i < 32) → pk5 f r < 32 ^ r
  | 0, _ => by simp [pk5]
  | r + 1, h => by
    have h1 := pk5_lt r (fun i hi => h i (by omega))
    have h2 := h r (by omega)
    have h3 : f r * 32 ^ r ≤ 31 * 32 ^ r := Nat.mul_le_mul_right _ (by omega)
    rw [pk5, Nat.pow_succ]
    omega
theorem pk4_at {f : Nat → Nat} : ∀ r i, (∀ i, i < r → f i < 16) → i < r → pk4 f r / 16 ^ i % 16 = f i
  | 0, i, _, hi => by omega
  | r + 1, i, h, hi => by
    have h1 := pk4_lt r (fun j hj => h j (by omega))
    rw [pk4]
    by_cases e : i = r
    · subst e
      rw [Nat.add_mul_div_right _ _ (Nat.pow_pos (by decide)), Nat.div_eq_of_lt h1, Nat.zero_add, Nat.mod_eq_of_lt (h i (by omega))]
    · have ih := pk4_at r i (fun j hj => h j (by omega)) (by omega)
      have hp : 16 ^ r = 16 ^ i * (16 * 16 ^ (r - i - 1)) := by
        rw [← Nat.pow_succ', ← Nat.pow_add]; congr 1; omega
      rw [hp, show pk4 f r + f r * (16 ^ i * (16 * 16 ^ (r - i - 1))) = pk4 f r + (16 * (f r * 16 ^ (r - i - 1))) * 16 ^ i by
        rw [Nat.mul_comm (16 ^ i), ← Nat.mul_assoc, ← Nat.mul_assoc, Nat.mul_comm (f r) 16, Nat.mul_assoc 16], Nat.add_mul_div_right _ _ (Nat.pow_pos (by decide)), Nat.add_mul_mod_self_left]
      exact ih
theorem pk5_at {f : Nat → Nat} : ∀ r i, (∀ i, i < r → f i < 32) → i < r → pk5 f r / 32 ^ i % 32 = f i
  | 0, i, _, hi => by omega
  | r + 1, i, h, hi => by
    have h1 := pk5_lt r (fun j hj => h j (by omega))
    rw [pk5]
    by_cases e : i = r
    · subst e
      rw [Nat.add_mul_div_right _ _ (Nat.pow_pos (by decide)), Nat.div_eq_of_lt h1, Nat.zero_add, Nat.mod_eq_of_lt (h i (by omega))]
    · have ih := pk5_at r i (fun j hj => h j (by omega)) (by omega)
      have hp : 32 ^ r = 32 ^ i * (32 * 32 ^ (r - i - 1)) := by
        rw [← Nat.pow_succ', ← Nat.pow_add]; congr 1; omega
      rw [hp, show pk5 f r + f r * (32 ^ i * (32 * 32 ^ (r - i - 1))) = pk5 f r + (32 * (f r * 32 ^ (r - i - 1))) * 32 ^ i by
        rw [Nat.mul_comm (32 ^ i), ← Nat.mul_assoc, ← Nat.mul_assoc, Nat.mul_comm (f r) 32, Nat.mul_assoc 32], Nat.add_mul_div_right _ _ (Nat.pow_pos (by decide)), Nat.add_mul_mod_self_left]
      exact ih
theorem pk4_cg {f g : Nat → Nat} : ∀ r, (∀ i, i < r → f i = g i) → pk4 f r = pk4 g r
  | 0, _ => rfl
  | r + 1, h => by rw [pk4, pk4, pk4_cg r (fun i hi => h i (by omega)), h r (by omega)]
theorem pk5_cg {f g : Nat → Nat} : ∀ r, (∀ i, i < r → f i = g i) → pk5 f r = pk5 g r
  | 0, _ => rfl
  | r + 1, h => by rw [pk5, pk5, pk5_cg r (fun i hi => h i (by omega)), h r (by omega)]
theorem nI_or (a b : Nat) : nI a ||| nI b = nI (a ||| b) := by
  apply Int32.toBitVec_inj.mp
  rw [Int32.toBitVec_or]
  show BitVec.ofNat 32 a ||| BitVec.ofNat 32 b = BitVec.ofNat 32 (a ||| b)
  apply BitVec.eq_of_toNat_eq
  simp [Nat.or_mod_two_pow]
theorem or_add {a l k : Nat} (h : a < 2 ^ k) : a ||| l * 2 ^ k = a + l * 2 ^ k := by
  rw [Nat.or_comm, Nat.mul_comm l, ← Nat.two_pow_add_eq_or_of_lt h, Nat.add_comm]
theorem p16 (r : Nat) : 16 ^ r = 2 ^ (4 * r) := by rw [Nat.pow_mul]
theorem p32 (r : Nat) : 32 ^ r = 2 ^ (5 * r) := by rw [Nat.pow_mul]
theorem sh4 : ∀ r, r < 8 → ((((4 : Int32) * nI r) &&& 31).toBitVec.smod 32).toNat = 4 * r := by decide +kernel
theorem us4 : ∀ r, r < 8 → ((((4 : Int32) * nI r).toUInt32 &&& Int32.toUInt32 31).toBitVec % 32).toNat = 4 * r := by decide +kernel
/-- one more line in a packed row -/
theorem row_in {f : Nat → Nat} {r l : Nat} (hr : r < 8) (hf : ∀ i, i < r → f i < 16) (hl : l < 16) : nI (pk4 f r) ||| (nI l <<< (((4 : Int32) * nI r) &&& 31)) = nI (pk4 f r + l * 16 ^ r) := by
  have h1 := pk4_lt r hf
  have h2 : l * 2 ^ (4 * r) < 2 ^ 32 := by
    have a : l * 2 ^ (4 * r) < 16 * 2 ^ (4 * r) := Nat.mul_lt_mul_of_pos_right hl (Nat.pow_pos (by decide))
    have b : 16 * 2 ^ (4 * r) ≤ 2 ^ 32 := by
      rw [show (16 : Nat) = 2 ^ 4 from rfl, ← Nat.pow_add]; exact Nat.pow_le_pow_right (by decide) (by omega)
    omega
  rw [pk_shlN _ (4 * r) (sh4 r hr) h2, nI_or, or_add (by rw [← p16]; exact h1), p16]
theorem row_at {f : Nat → Nat} {r i : Nat} (hr : r ≤ 8) (hf : ∀ i, i < r → f i < 16) (hi : i < r) : ((nI (pk4 f r)).toUInt32 >>> (((4 : Int32) * nI i).toUInt32 &&& Int32.toUInt32 31)).toInt32 &&& 15 = nI (f i) := by
  have h1 := pk4_lt r hf
  have h2 : pk4 f r < 2 ^ 32 := by
    have : 16 ^ r ≤ 16 ^ 8 := Nat.pow_le_pow_right (by decide) hr
    have e : (16 : Nat) ^ 8 = 2 ^ 32 := by decide
    omega
  rw [pk_ushrN h2 _ (4 * i) (us4 i (by omega)), pk_andN (Nat.lt_of_le_of_lt (Nat.div_le_self _ _) h2) 4 (by decide), ← p16]
  rw [show (2 : Nat) ^ 4 = 16 from rfl, pk4_at r i hf hi]
theorem act_in {f : Nat → Nat} {r w : Nat} (hr : r < 10) (hf : ∀ i, i < r → f i < 32) (hw : w < 32) : lN (pk5 f r) ||| ((nI w).toInt64 <<< (((5 : Int32) * nI r).toInt64 &&& 63)) = lN (pk5 f r + w * 32 ^ r) := by
  have h1 := pk5_lt r hf
  have h2 : w * 2 ^ (5 * r) < 2 ^ 64 := by
    have a : w * 2 ^ (5 * r) < 32 * 2 ^ (5 * r) := Nat.mul_lt_mul_of_pos_right hw (Nat.pow_pos (by decide))
    have b : 32 * 2 ^ (5 * r) ≤ 2 ^ 64 := by
      rw [show (32 : Nat) = 2 ^ 5 from rfl, ← Nat.pow_add]; exact Nat.pow_le_pow_right (by decide) (by omega)
    omega
  have h3 : pk5 f r < 2 ^ 64 := by
    have : 32 ^ r ≤ 32 ^ 10 := Nat.pow_le_pow_right (by decide) (by omega)
    have e : (32 : Nat) ^ 10 < 2 ^ 64 := by decide
    omega
  rw [show (5 : Int32) * nI r = nI (5 * r) by rw [show (5 : Int32) = nI 5 from rfl, pk_mul], nI_l (show w < 2 ^ 31 by omega), wb_shl w (show 5 * r < 64 by omega), wb_or h3 h2, or_add (by rw [← p32]; exact h1), p32]
theorem act_at {f : Nat → Nat} {r i : Nat} (hr : r ≤ 10) (hf : ∀ i, i < r → f i < 32) (hi : i < r) : (((lN (pk5 f r)).toUInt64 >>> ((((5 : Int32) * nI i).toInt64).toUInt64 &&& Int64.toUInt64 63)).toInt64 &&& 31).toInt32 = nI (f i) := by
  have h1 := pk5_lt r hf
  have h3 : pk5 f r < 2 ^ 64 := by
    have : 32 ^ r ≤ 32 ^ 10 := Nat.pow_le_pow_right (by decide) (by omega)
    have e : (32 : Nat) ^ 10 < 2 ^ 64 := by decide
    omega
  rw [show (5 : Int32) * nI i = nI (5 * i) by rw [show (5 : Int32) = nI 5 from rfl, pk_mul], wb_shr h3 (show 5 * i < 64 by omega), show (31 : Int64) = lN (2 ^ 5 - 1) from rfl, wb_mask (Nat.lt_of_le_of_lt (Nat.div_le_self _ _) h3) (by decide), ← p32, show (2 : Nat) ^ 5 = 32 from rfl, pk5_at r i hf hi, lN_i]
