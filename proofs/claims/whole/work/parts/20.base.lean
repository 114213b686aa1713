/-! Numbers: naturals as ints, 'none' as -1; first, last, any, least of a kind; rows read at a natural place -/
/-- 0: none (-1); l + 1: l -/
def nN (o : Nat) : Int32 := nI o - 1
def bI (b : Bool) : Int32 := if b then 1 else 0
theorem nN_0 : nN 0 = -1 := by decide
theorem nN_s (l : Nat) : nN (l + 1) = nI l := nI_pred l
theorem nI_z : (0 : Int32) = nI 0 := rfl
theorem bI_t : bI true = 1 := rfl
theorem bI_f : bI false = 0 := rfl
theorem bI_0 (b : Bool) : bI b = 0 ↔ b = false := by cases b <;> decide
theorem bI_1 (b : Bool) : bI b = 1 ↔ b = true := by cases b <;> decide
theorem bI_01 (b : Bool) : bI b = 0 ∨ bI b = 1 := by cases b <;> decide
theorem nI_lt0 {a : Nat} (h : a < 2 ^ 31) : (nI a < 0) = False := eq_false (nI_pos h)
theorem nI_ge0 {a : Nat} (h : a < 2 ^ 31) : ((0 : Int32) ≤ nI a) = True := eq_true (nI_pos' h)
theorem nN_lt0 {o : Nat} (h : o < 2 ^ 31) : nN o < 0 ↔ o = 0 := by
  cases o with
  | zero => rw [nN_0]; decide
  | succ l => rw [nN_s]; simp [nI_lt0 (show l < 2 ^ 31 by omega)]
theorem nN_ge0 {o : Nat} (h : o < 2 ^ 31) : (0 : Int32) ≤ nN o ↔ o ≠ 0 := by
  cases o with
  | zero => rw [nN_0]; decide
  | succ l => rw [nN_s]; simp [nI_ge0 (show l < 2 ^ 31 by omega)]
theorem nN_inj {a b : Nat} (ha : a < 2 ^ 31) (hb : b < 2 ^ 31) : nN a = nN b ↔ a = b := by
  constructor
  · intro h
    have h2 : nI a = nI b := by
      have := congrArg (· + 1) h
      simpa [nN, Int32.sub_add_cancel] using this
    exact (nI_eq ha hb).mp h2
  · intro h; rw [h]
theorem nN_nI {a l : Nat} (ha : a < 2 ^ 31) (hl : l < 2 ^ 30) : nN a = nI l ↔ a = l + 1 := by
  rw [← nN_s, nN_inj ha (by omega)]
theorem nN_m1 {a : Nat} (ha : a < 2 ^ 31) : nN a = -1 ↔ a = 0 := by
  rw [← nN_0, nN_inj ha (by omega)]
theorem nI_m1 {a : Nat} (ha : a < 2 ^ 30) : nI a = -1 ↔ False := by
  rw [← nN_s, nN_m1 (by omega)]; simp
theorem nI_e0 {a : Nat} (h : a < 2 ^ 31) : nI a = 0 ↔ a = 0 := by rw [show (0 : Int32) = nI 0 from rfl, nI_eq h (by decide)]
theorem nI_e1 {a : Nat} (h : a < 2 ^ 31) : nI a = 1 ↔ a = 1 := by rw [show (1 : Int32) = nI 1 from rfl, nI_eq h (by decide)]
theorem nI_e2 {a : Nat} (h : a < 2 ^ 31) : nI a = 2 ↔ a = 2 := by rw [show (2 : Int32) = nI 2 from rfl, nI_eq h (by decide)]
theorem nI_e3 {a : Nat} (h : a < 2 ^ 31) : nI a = 3 ↔ a = 3 := by rw [show (3 : Int32) = nI 3 from rfl, nI_eq h (by decide)]
theorem nI_e4 {a : Nat} (h : a < 2 ^ 31) : nI a = 4 ↔ a = 4 := by rw [show (4 : Int32) = nI 4 from rfl, nI_eq h (by decide)]
theorem nI_e5 {a : Nat} (h : a < 2 ^ 31) : nI a = 5 ↔ a = 5 := by rw [show (5 : Int32) = nI 5 from rfl, nI_eq h (by decide)]
theorem nI_e6 {a : Nat} (h : a < 2 ^ 31) : nI a = 6 ↔ a = 6 := by rw [show (6 : Int32) = nI 6 from rfl, nI_eq h (by decide)]
theorem nI_e7 {a : Nat} (h : a < 2 ^ 31) : nI a = 7 ↔ a = 7 := by rw [show (7 : Int32) = nI 7 from rfl, nI_eq h (by decide)]
theorem nI_e8 {a : Nat} (h : a < 2 ^ 31) : nI a = 8 ↔ a = 8 := by rw [show (8 : Int32) = nI 8 from rfl, nI_eq h (by decide)]
theorem nI_e9 {a : Nat} (h : a < 2 ^ 31) : nI a = 9 ↔ a = 9 := by rw [show (9 : Int32) = nI 9 from rfl, nI_eq h (by decide)]
theorem nI_e10 {a : Nat} (h : a < 2 ^ 31) : nI a = 10 ↔ a = 10 := by rw [show (10 : Int32) = nI 10 from rfl, nI_eq h (by decide)]
theorem nI_e11 {a : Nat} (h : a < 2 ^ 31) : nI a = 11 ↔ a = 11 := by rw [show (11 : Int32) = nI 11 from rfl, nI_eq h (by decide)]
theorem nI_e24 {a : Nat} (h : a < 2 ^ 31) : nI a = 24 ↔ a = 24 := by rw [show (24 : Int32) = nI 24 from rfl, nI_eq h (by decide)]
theorem nI_e60 {a : Nat} (h : a < 2 ^ 31) : nI a = 60 ↔ a = 60 := by rw [show (60 : Int32) = nI 60 from rfl, nI_eq h (by decide)]
theorem nI_e1000 {a : Nat} (h : a < 2 ^ 31) : nI a = 1000 ↔ a = 1000 := by rw [show (1000 : Int32) = nI 1000 from rfl, nI_eq h (by decide)]
theorem nI_toI {n : Nat} (h : n < 2 ^ 31) : (nI n).toInt = (n : Int) := nI_toInt h
/-- rows at a natural place -/
theorem ald_n {LN : Nat → Nat} {M : gk_M} {a i : Nat} {α : Type} {k : Int32 → Option α} (h : i < LN a) (h2 : i < 2 ^ 31) : gk_ald LN M a (nI i) k = k (M.1 a i) := by
  unfold gk_ald
  rw [nI_toInt h2, nI_clamp h2, if_pos ⟨by omega, by omega⟩]
theorem aldr_n {LN : Nat → Nat} {RF : Nat → Nat → Nat} {a i : Nat} {α : Type} {k : Nat → Option α} (h : i < LN a) (h2 : i < 2 ^ 31) : gk_aldr LN RF a (nI i) k = k (RF a i) := by
  unfold gk_aldr
  rw [nI_toInt h2, nI_clamp h2, if_pos ⟨by omega, by omega⟩]
theorem ast_n {LN : Nat → Nat} {M : gk_M} {a i : Nat} {v : Int32} {α : Type} {k : gk_M → Option α} (h : i < LN a) (h2 : i < 2 ^ 31) : gk_ast LN M a (nI i) v k = k (gk_wr M a i v) := by
  unfold gk_ast
  rw [nI_toInt h2, nI_clamp h2, if_pos ⟨by omega, by omega⟩]
theorem wr_1 (M : gk_M) (a k : Nat) (v : Int32) (b j : Nat) : (gk_wr M a k v).1 b j = if b = a ∧ j = k then v else M.1 b j := rfl
theorem wr_2 (M : gk_M) (a k : Nat) (v : Int32) : (gk_wr M a k v).2 = M.2 := rfl
theorem wl_1 (M : gk_M) (a : Nat) (v : Int64) : (gk_wl M a v).1 = M.1 := rfl
theorem wl_2 (M : gk_M) (a : Nat) (v : Int64) (b : Nat) : (gk_wl M a v).2 b = if b = a then v else M.2 b := rfl
/-- any, first, last, least -/
def anf (p : Nat → Bool) : Nat → Nat → Bool → Bool
  | 0, _, b => b
  | r + 1, i, b => anf p r (i + 1) (b || p i)
def fsf (p : Nat → Bool) : Nat → Nat → Nat
  | 0, _ => 0
  | r + 1, i => if p i then i + 1 else fsf p r (i + 1)
def lsf (p : Nat → Bool) : Nat → Nat → Nat → Nat
  | 0, _, a => a
  | r + 1, i, a => lsf p r (i + 1) (if p i then i + 1 else a)
def ami (key : Nat → Nat) (p : Nat → Bool) : Nat → Nat → Nat → Nat
  | 0, _, a => a
  | r + 1, i, a => ami key p r (i + 1) (if p i && (a == 0 || decide (key i < key (a - 1))) then i + 1 else a)
theorem anf_iff (p : Nat → Bool) : ∀ r i b, anf p r i b = true ↔ b = true ∨ ∃ j, i ≤ j ∧ j < i + r ∧ p j = true
  | 0, i, b => by simp only [anf]; constructor <;> intro h; exact Or.inl h; rcases h with h | ⟨j, h1, h2, _⟩; exact h; omega
  | r + 1, i, b => by
    rw [anf, anf_iff p r (i + 1), Bool.or_eq_true]
    constructor
    · rintro ((h | h) | ⟨j, h1, h2, h3⟩)
      · exact Or.inl h
      · exact Or.inr ⟨i, by omega, by omega, h⟩
      · exact Or.inr ⟨j, by omega, by omega, h3⟩
    · rintro (h | ⟨j, h1, h2, h3⟩)
      · exact Or.inl (Or.inl h)
      · by_cases hj : j = i
        · subst hj; exact Or.inl (Or.inr h3)
        · exact Or.inr ⟨j, by omega, by omega, h3⟩
theorem fsf_0 (p : Nat → Bool) : ∀ r i, fsf p r i = 0 ↔ ∀ j, i ≤ j → j < i + r → p j = false
  | 0, i => by simp only [fsf]; constructor <;> intro h; intro j h1 h2; omega; trivial
  | r + 1, i => by
    rw [fsf]
    by_cases hp : p i = true
    · simp only [hp, if_true]
      constructor
      · intro h; omega
      · intro h; have := h i (by omega) (by omega); rw [hp] at this; cases this
    · have hp' : p i = false := by simpa using hp
      simp only [hp', Bool.false_eq_true, if_false]
      rw [fsf_0 p r (i + 1)]
      constructor
      · intro h j h1 h2
        by_cases hj : j = i
        · subst hj; exact hp'
        · exact h j (by omega) (by omega)
      · intro h j h1 h2; exact h j (by omega) (by omega)
theorem fsf_s (p : Nat → Bool) : ∀ r i c, fsf p r i = c + 1 → i ≤ c ∧ c < i + r ∧ p c = true ∧ ∀ j, i ≤ j → j < c → p j = false
  | 0, i, c => by intro h; simp [fsf] at h
  | r + 1, i, c => by
    rw [fsf]
    by_cases hp : p i = true
    · simp only [hp, if_true]
      intro h
      have : i = c := by omega
      subst this
      exact ⟨by omega, by omega, hp, fun j h1 h2 => by omega⟩
    · have hp' : p i = false := by simpa using hp
      simp only [hp', Bool.false_eq_true, if_false]
      intro h
      obtain ⟨h1, h2, h3, h4⟩ := fsf_s p r (i + 1) c h
      exact ⟨by omega, by omega, h3, fun j h5 h6 => by
        by_cases hj : j = i
        · subst hj; exact hp'
        · exact h4 j (by omega) h6⟩
theorem lsf_spec (p : Nat → Bool) : ∀ r i a, (lsf p r i a = a ∧ ∀ j, i ≤ j → j < i + r → p j = false) ∨ ∃ c, lsf p r i a = c + 1 ∧ i ≤ c ∧ c < i + r ∧ p c = true
  | 0, i, a => Or.inl ⟨rfl, fun j h1 h2 => by omega⟩
  | r + 1, i, a => by
    rw [lsf]
    by_cases hp : p i = true
    · simp only [hp, if_true]
      rcases lsf_spec p r (i + 1) (i + 1) with ⟨h1, _⟩ | ⟨c, h1, h2, h3, h4⟩
      · exact Or.inr ⟨i, h1, by omega, by omega, hp⟩
      · exact Or.inr ⟨c, h1, by omega, by omega, h4⟩
    · have hp' : p i = false := by simpa using hp
      simp only [hp', Bool.false_eq_true, if_false]
      rcases lsf_spec p r (i + 1) a with ⟨h1, h2⟩ | ⟨c, h1, h2, h3, h4⟩
      · exact Or.inl ⟨h1, fun j h3 h4 => by
          by_cases hj : j = i
          · subst hj; exact hp'
          · exact h2 j (by omega) (by omega)⟩
      · exact Or.inr ⟨c, h1, by omega, by omega, h4⟩
/-- 'a' is none, or one of the kind in reach -/
theorem ami_lt (key : Nat → Nat) (p : Nat → Bool) : ∀ r i a, a ≤ i + r → ami key p r i a ≤ i + r
  | 0, i, a => fun h => h
  | r + 1, i, a => fun h => by
    rw [ami]
    have := ami_lt key p r (i + 1) (if p i && (a == 0 || decide (key i < key (a - 1))) then i + 1 else a) (by split <;> omega)
    omega
theorem ami_spec (key : Nat → Nat) (p : Nat → Bool) : ∀ r i a, (ami key p r i a = a ∨ ∃ c, ami key p r i a = c + 1 ∧ i ≤ c ∧ c < i + r ∧ p c = true ∧ (a = 0 ∨ key c < key (a - 1))) ∧ (∀ j, i ≤ j → j < i + r → p j = true → ami key p r i a ≠ 0 ∧ key (ami key p r i a - 1) ≤ key j) ∧ (a ≠ 0 → ami key p r i a ≠ 0 ∧ key (ami key p r i a - 1) ≤ key (a - 1))
  | 0, i, a => by
    refine ⟨Or.inl rfl, fun j h1 h2 => by omega, fun h => ⟨h, Nat.le_refl _⟩⟩
  | r + 1, i, a => by
    rw [ami]
    by_cases hc : (p i && (a == 0 || decide (key i < key (a - 1)))) = true
    · rw [if_pos hc]
      obtain ⟨h1, h2, h3⟩ := ami_spec key p r (i + 1) (i + 1)
      obtain ⟨h4, h5⟩ := h3 (by omega)
      simp only [Nat.add_sub_cancel] at h5
      have hp : p i = true := by simp only [Bool.and_eq_true] at hc; exact hc.1
      have ha : a = 0 ∨ key i < key (a - 1) := by
        simp only [Bool.and_eq_true, Bool.or_eq_true, beq_iff_eq, decide_eq_true_eq] at hc; exact hc.2
      refine ⟨Or.inr ?_, fun j g1 g2 g3 => ?_, fun ha0 => ⟨h4, ?_⟩⟩
      · rcases h1 with h1 | ⟨c, g1, g2, g3, g4, g5⟩
        · exact ⟨i, h1, by omega, by omega, hp, ha⟩
        · refine ⟨c, g1, by omega, by omega, g4, ?_⟩
          rcases ha with ha | ha
          · exact Or.inl ha
          · right
            rw [g1] at h5
            simp only [Nat.add_sub_cancel] at h5
            omega
      · by_cases hj : j = i
        · subst hj; exact ⟨h4, h5⟩
        · exact h2 j (by omega) (by omega) g3
      · rcases ha with ha | ha
        · exact absurd ha ha0
        · omega
    · rw [if_neg hc]
      obtain ⟨h1, h2, h3⟩ := ami_spec key p r (i + 1) a
      refine ⟨?_, fun j g1 g2 g3 => ?_, h3⟩
      · rcases h1 with h1 | ⟨c, g1, g2, g3, g4, g5⟩
        · exact Or.inl h1
        · exact Or.inr ⟨c, g1, by omega, by omega, g4, g5⟩
      · by_cases hj : j = i
        · subst hj
          simp only [Bool.and_eq_true, Bool.or_eq_true, beq_iff_eq, decide_eq_true_eq] at hc
          have hc1 : a ≠ 0 := fun g => hc ⟨g3, Or.inl g⟩
          have hc2 : ¬ key j < key (a - 1) := fun g => hc ⟨g3, Or.inr g⟩
          obtain ⟨q1, q2⟩ := h3 hc1
          exact ⟨q1, by omega⟩
        · exact h2 j (by omega) (by omega) g3
/-- the least of a kind below n -/
def amin (key : Nat → Nat) (p : Nat → Bool) (n : Nat) : Nat := ami key p n 0 0
theorem amin_0 {key : Nat → Nat} {p : Nat → Bool} {n : Nat} : amin key p n = 0 ↔ ∀ j, j < n → p j = false := by
  obtain ⟨h1, h2, -⟩ := ami_spec key p n 0 0
  constructor
  · intro h j hj
    cases hp : p j with
    | false => rfl
    | true => exact absurd h (h2 j (by omega) (by omega) hp).1
  · intro h
    rcases h1 with h1 | ⟨c, g1, g2, g3, g4, _⟩
    · exact h1
    · rw [h c (by omega)] at g4; cases g4
theorem amin_s {key : Nat → Nat} {p : Nat → Bool} {n c : Nat} (h : amin key p n = c + 1) : c < n ∧ p c = true ∧ ∀ j, j < n → p j = true → key c ≤ key j := by
  obtain ⟨h1, h2, -⟩ := ami_spec key p n 0 0
  have h' : ami key p n 0 0 = c + 1 := h
  refine ⟨?_, ?_, fun j hj hp => ?_⟩
  · rcases h1 with h1 | ⟨c', g1, g2, g3, g4, _⟩ <;> omega
  · rcases h1 with h1 | ⟨c', g1, g2, g3, g4, _⟩
    · omega
    · rwa [show c = c' by omega]
  · have := (h2 j (by omega) (by omega) hp).2
    rw [h'] at this
    simpa using this
theorem amin_eq {key : Nat → Nat} {p : Nat → Bool} {n c : Nat} (hk : ∀ i j, i < n → j < n → key i = key j → i = j) (hc : c < n) (hp : p c = true) (hl : ∀ j, j < n → p j = true → key c ≤ key j) : amin key p n = c + 1 := by
  cases h : amin key p n with
  | zero => rw [amin_0.mp h c hc] at hp; cases hp
  | succ d =>
    obtain ⟨h1, h2, h3⟩ := amin_s h
    have := hk d c h1 hc (by have := h3 c hc hp; have := hl d h1 h2; omega)
    omega
/-- going from one to the next in order until one is of the kind: the least of the kind -/
theorem amin_next {key : Nat → Nat} {p q : Nat → Bool} {n w : Nat} (hk : ∀ i j, i < n → j < n → key i = key j → i = j) (hw : w < n) (hpw : p w = true) (hq : q w = false) (hb : ∀ j, j < n → p j = true → q j = true → key w ≤ key j) : ∀ j, j < n → p j = true → q j = true → key w < key j := by
  intro j hj h1 h2
  have h3 := hb j hj h1 h2
  rcases Nat.lt_or_eq_of_le h3 with h | h
  · exact h
  · have := hk w j hw hj h
    subst this
    rw [hq] at h2; cases h2
/-- as many places as things: eight lines at most in a row -/
theorem pigeon : ∀ (n r : Nat) (f : Nat → Nat), (∀ i, i < r → f i < n) → (∀ i j, i < r → j < r → f i = f j → i = j) → r ≤ n
  | 0, r, f, h, _ => by
    cases r with
    | zero => exact Nat.le_refl _
    | succ r => exact absurd (h 0 (by omega)) (by omega)
  | n + 1, r, f, h, hi => by
    by_cases hx : ∃ i, i < r ∧ f i = n
    · obtain ⟨i, hir, hif⟩ := hx
      have := pigeon n (r - 1) (fun j => if j = i then f (r - 1) else f j) (fun j hj => ?_) (fun a b ha hb hab => ?_)
      · omega
      · by_cases hji : j = i
        · simp only [hji, if_true]
          have h1 := h (r - 1) (by omega)
          have h2 : f (r - 1) ≠ n := fun g => by have := hi (r - 1) i (by omega) hir (by omega); omega
          omega
        · simp only [hji, if_false]
          have h1 := h j (by omega)
          have h2 : f j ≠ n := fun g => hji (hi j i (by omega) hir (by omega))
          omega
      · by_cases hai : a = i <;> by_cases hbi : b = i
        · omega
        · simp only [hai, if_true, hbi, if_false] at hab
          have := hi (r - 1) b (by omega) (by omega) hab
          omega
        · simp only [hai, if_false, hbi, if_true] at hab
          have := hi a (r - 1) (by omega) (by omega) hab
          omega
        · simp only [hai, if_false, hbi, if_false] at hab
          exact hi a b (by omega) (by omega) hab
    · have := pigeon n r f (fun i hir => by
        have h1 := h i hir
        have h2 : f i ≠ n := fun g => hx ⟨i, hir, g⟩
        omega) hi
      omega
/-- bits of a set of lines -/
theorem bit_ge : ∀ r, r < 256 → ∀ l, l < 8 → ((nI r >>> (nI l &&& 31)) &&& 1) = bI (r.testBit l) := by decide +kernel
theorem bit_or : ∀ r, r < 256 → ∀ l, l < 8 → nI r ||| ((1 : Int32) <<< (nI l &&& 31)) = nI (r ||| 2 ^ l) := by decide +kernel
theorem bit_1 : ∀ l, l < 8 → (1 : Int32) <<< (nI l &&& 31) = nI (2 ^ l) := by decide +kernel
