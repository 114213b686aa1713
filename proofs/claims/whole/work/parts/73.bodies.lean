/-! Bodies: what an act answers, which bodies run -/
def payS (q : Nat) (r t x : Int32) : Int32 × List Nat := if q = 5 then (x - r + t, [60, 12]) else if q = 7 then ((x - r) * 2, [80, 12]) else (x - r, [12])
def heaS (o q : Nat) (n r t x : Int32) : Int32 × List Nat := if q = 2 then ((x + n) * 3, [30, 10]) else if q = 3 then ((x + n) * 3 - (payS o r t x).1, [40, 30, 10] ++ (payS o r t x).2) else (x + n, [10])
def plaT (o : Nat) (n r t x : Int32) : Int32 × List Nat := ((heaS o o n r t x).1 * 2, 11 :: (heaS o o n r t x).2)
def turS (o q : Nat) (n r t x : Int32) : Int32 × List Nat := if q = 1 then ((plaT o n r t x).1 + t, 20 :: (plaT o n r t x).2) else if q = 3 then ((plaT o n r t (x - t)).1, 41 :: (plaT o n r t (x - t)).2) else if q = 6 then ((plaT o n r t x).1 ^^^ (heaS o o n r t t).1, 70 :: ((plaT o n r t x).2 ++ (heaS o o n r t t).2)) else plaT o n r t x
def plaE (o : Nat) (n r t x : Int32) : Int32 × List Nat := ((turS o o n r t x).1 ^^^ (payS o r t x).1, 13 :: ((turS o o n r t x).2 ++ (payS o r t x).2))
def endB (o q : Nat) (n r t x : Int32) : Int32 × List Nat := if q = 2 ∨ q = 3 then ((plaE o n r t (x + 1)).1, 31 :: (plaE o n r t (x + 1)).2) else if q = 4 then ((payS o r t x).1 - (plaE o n r t x).1, 50 :: ((payS o r t x).2 ++ (plaE o n r t x).2)) else plaE o n r t x
theorem pay_l (q : Nat) (r t x : Int32) : (payS q r t x).2.length ≤ 2 := by unfold payS; split; simp; split <;> simp
theorem hea_l (o q : Nat) (n r t x : Int32) : (heaS o q n r t x).2.length ≤ 5 := by
  have := pay_l o r t x
  unfold heaS; split; simp; split
  · simp only [List.length_append, List.length_cons, List.length_nil]; omega
  · simp
theorem tur_l (o q : Nat) (n r t x : Int32) : (turS o q n r t x).2.length ≤ 12 := by
  have h1 := hea_l o o n r t x
  have h2 := hea_l o o n r t (x - t)
  have h3 := hea_l o o n r t t
  unfold turS plaT
  split
  · simp only [List.length_cons]; omega
  · split
    · simp only [List.length_cons]; omega
    · split
      · simp only [List.length_append, List.length_cons]; omega
      · simp only [List.length_cons]; omega
theorem plaE_l (o : Nat) (n r t x : Int32) : (plaE o n r t x).2.length ≤ 15 := by
  have h1 := tur_l o o n r t x
  have h2 := pay_l o r t x
  unfold plaE
  simp only [List.length_append, List.length_cons]; omega
theorem end_l (o q : Nat) (n r t x : Int32) : (endB o q n r t x).2.length ≤ 18 := by
  have h1 := plaE_l o n r t x
  have h3 := plaE_l o n r t (x + 1)
  have h2 := pay_l o r t x
  unfold endB
  split
  · simp only [List.length_cons]; omega
  · split
    · simp only [List.length_append, List.length_cons]; omega
    · omega
/-- the class's bodies: b its object, b + 1 its row -/
def bL (LN : Nat → Nat) (RF : Nat → Nat → Nat) (b : Nat) : Prop := RF b 0 = b + 1 ∧ LN (b + 1) = 50
def BT (b : Nat) (M : gk_M) (l : List Nat) : Prop := LR (M.1 b 1) (M.1 (b + 1)) l
def BM (b : Nat) (M : gk_M) (o : Nat) (n r t : Int32) : Prop := M.1 b 2 = nI o ∧ M.1 b 3 = n ∧ M.1 b 4 = r ∧ M.1 b 5 = t
def BF (b : Nat) (M M' : gk_M) : Prop := M'.2 = M.2 ∧ ∀ a i, a ≠ b + 1 → ¬ (a = b ∧ i = 1) → M'.1 a i = M.1 a i
theorem BF.rf {b : Nat} {M : gk_M} : BF b M M := ⟨rfl, fun _ _ _ _ => rfl⟩
theorem BF.tr {b : Nat} {A B C : gk_M} (h1 : BF b A B) (h2 : BF b B C) : BF b A C := ⟨h2.1.trans h1.1, fun a i p q => (h2.2 a i p q).trans (h1.2 a i p q)⟩
theorem BM.fr {b o : Nat} {M M' : gk_M} {n r t : Int32} (h : BM b M o n r t) (hf : BF b M M') : BM b M' o n r t := by
  obtain ⟨h1, h2, h3, h4⟩ := h
  exact ⟨by rw [hf.2 _ _ (by omega) (by omega)]; exact h1, by rw [hf.2 _ _ (by omega) (by omega)]; exact h2, by rw [hf.2 _ _ (by omega) (by omega)]; exact h3, by rw [hf.2 _ _ (by omega) (by omega)]; exact h4⟩
/-- a body has run: its answer, the list, what stays -/
def BD (b : Nat) (M : gk_M) (l : List Nat) (p : Option (Int32 × gk_M)) (R : Int32 × List Nat) : Prop := ∃ M', p = some (R.1, M') ∧ BT b M' (l ++ R.2) ∧ BF b M M'
theorem lk2 {α : Type} {q a b : Nat} (hq : q < 8) (ha : a < 8) (hb : b < 8) {A B D : α} : gk_lk (nI q) [((a : Int), A), ((b : Int), B)] D = if q = a then A else if q = b then B else D := by
  show (if nI q = nI a then A else if nI q = nI b then B else D) = _
  simp only [nI_eq (show q < 2 ^ 31 by omega) (show a < 2 ^ 31 by omega), nI_eq (show q < 2 ^ 31 by omega) (show b < 2 ^ 31 by omega)]
theorem lk3 {α : Type} {q a b c : Nat} (hq : q < 8) (ha : a < 8) (hb : b < 8) (hc : c < 8) {A B C D : α} : gk_lk (nI q) [((a : Int), A), ((b : Int), B), ((c : Int), C)] D = if q = a then A else if q = b then B else if q = c then C else D := by
  show (if nI q = nI a then A else if nI q = nI b then B else if nI q = nI c then C else D) = _
  simp only [nI_eq (show q < 2 ^ 31 by omega) (show a < 2 ^ 31 by omega), nI_eq (show q < 2 ^ 31 by omega) (show b < 2 ^ 31 by omega), nI_eq (show q < 2 ^ 31 by omega) (show c < 2 ^ 31 by omega)]
theorem sw2 {α : Type} {A B C D : α} {k : Nat} (hk : k < 100) : gk_sw (nI k) 2 [A, B, C] D = if k = 2 then A else if k = 3 then B else if k = 4 then C else D := by
  show (if nI k = nI 2 then A else if nI k = nI 3 then B else if nI k = nI 4 then C else D) = _
  simp only [nI_eq (show k < 2 ^ 31 by omega) (show 4 < 2 ^ 31 by omega), nI_eq (show k < 2 ^ 31 by omega) (show 2 < 2 ^ 31 by omega), nI_eq (show k < 2 ^ 31 by omega) (show 3 < 2 ^ 31 by omega)]
theorem sw0 {α : Type} {A B C D : α} {k : Nat} (hk : k < 100) : gk_sw (nI k) 0 [A, B, C] D = if k = 0 then A else if k = 1 then B else if k = 2 then C else D := by
  show (if nI k = nI 0 then A else if nI k = nI 1 then B else if nI k = nI 2 then C else D) = _
  simp only [nI_eq (show k < 2 ^ 31 by omega) (show 0 < 2 ^ 31 by omega), nI_eq (show k < 2 ^ 31 by omega) (show 1 < 2 ^ 31 by omega), nI_eq (show k < 2 ^ 31 by omega) (show 2 < 2 ^ 31 by omega)]
section BO
variable {LN : Nat → Nat} {RF : Nat → Nat → Nat} {b o : Nat} {n r t : Int32}
theorem bg (hb : bL LN RF b) {M : gk_M} {l : List Nat} (h : BT b M l) (hl : l.length < 50) {e : Nat} {v : Int32} (hv : v = nI e) : ∃ M', f_X0_begin LN RF b v M = some M' ∧ BT b M' (l ++ [e]) ∧ BF b M M' := by
  subst hv
  unfold f_X0_begin
  simp only [gk_jn]
  rw [h.1, show (50 : Int32) = nI 50 from rfl, if_neg (nI_ge (by omega) (by omega)), hb.1, ast_n (by rw [hb.2]; omega) (by omega)]
  unfold gk_put
  have e4 : (gk_wr M (b + 1) l.length (nI e)).1 b 1 = M.1 b 1 := by rw [wr_1, if_neg (by omega)]
  refine ⟨_, rfl, ?_, rfl, fun a i p q => ?_⟩
  · have : (gk_wr (gk_wr M (b + 1) l.length (nI e)) b 1 ((gk_wr M (b + 1) l.length (nI e)).1 b 1 + 1)).1 b 1 = M.1 b 1 + 1 := by rw [wr_1, if_pos ⟨rfl, rfl⟩, e4]
    unfold BT
    rw [this]
    refine LR.push h (fun i => ?_)
    rw [wr_1, if_neg (by omega), wr_1]
    by_cases g : i = l.length
    · rw [if_pos ⟨rfl, g⟩, if_pos g]
    · rw [if_neg (fun q => g q.2), if_neg g]
  · rw [wr_1, if_neg q, wr_1, if_neg (fun g => p g.1)]
theorem c_pay (hb : bL LN RF b) {M : gk_M} {l : List Nat} (h : BT b M l) (hB : BM b M o n r t) (hl : l.length ≤ 48) {q : Nat} (hq : q < 8) (g : Nat) (x : Int32) : BD b M l (rc_B LN RF (g + 2) 2 b (nI q) x M) (payS q r t x) := by
  have pl : ∀ (M : gk_M) (l : List Nat) (g : Nat), BT b M l → BM b M o n r t → l.length < 50 → ∃ M', rc_B LN RF (g + 1) 2 b 0 x M = some (x - r, M') ∧ BT b M' (l ++ [12]) ∧ BF b M M' := fun M l g h hB hl => by
    rw [rc_B, if_neg (by decide), if_neg (by decide), if_pos rfl]
    unfold f_X0_pay
    rw [show (0 : Int32) = nI 0 from rfl, show ((5 : Int)) = ((5 : Nat) : Int) from rfl, show ((7 : Int)) = ((7 : Nat) : Int) from rfl, lk2 (by decide) (by decide) (by decide), if_neg (by decide), if_neg (by decide)]
    obtain ⟨M1, p1, p2, p3⟩ := bg hb h hl (e := 12) (v := 12) rfl
    rw [p1, Option.bind_some, (hB.fr p3).2.2.1]
    exact ⟨M1, rfl, p2, p3⟩
  have ll : ∀ e, (l ++ [e]).length < 50 := fun e => by rw [List.length_append, List.length_cons, List.length_nil]; omega
  by_cases e0 : q = 5
  · rw [rc_B, if_neg (by decide), if_neg (by decide), if_pos rfl]
    unfold f_X0_pay payS
    rw [show ((5 : Int)) = ((5 : Nat) : Int) from rfl, show ((7 : Int)) = ((7 : Nat) : Int) from rfl, lk2 hq (by decide) (by decide), if_pos e0, if_pos e0]
    obtain ⟨M1, p1, p2, p3⟩ := bg hb h (by omega) (e := 60) (v := 60) rfl
    obtain ⟨M2, q1, q2, q3⟩ := pl M1 _ g p2 (hB.fr p3) (ll _)
    rw [p1, Option.bind_some, q1, Option.bind_some]
    simp only [((hB.fr p3).fr q3).2.2.2]
    exact ⟨M2, rfl, by rw [List.append_assoc] at q2; exact q2, p3.tr q3⟩
  · by_cases e1 : q = 7
    · rw [rc_B, if_neg (by decide), if_neg (by decide), if_pos rfl]
      unfold f_X0_pay payS
      rw [show ((5 : Int)) = ((5 : Nat) : Int) from rfl, show ((7 : Int)) = ((7 : Nat) : Int) from rfl, lk2 hq (by decide) (by decide), if_neg e0, if_pos e1, if_neg e0, if_pos e1]
      obtain ⟨M1, p1, p2, p3⟩ := bg hb h (by omega) (e := 80) (v := 80) rfl
      obtain ⟨M2, q1, q2, q3⟩ := pl M1 _ g p2 (hB.fr p3) (ll _)
      rw [p1, Option.bind_some, q1, Option.bind_some]
      exact ⟨M2, rfl, by rw [List.append_assoc] at q2; exact q2, p3.tr q3⟩
    · rw [rc_B, if_neg (by decide), if_neg (by decide), if_pos rfl]
      unfold f_X0_pay payS
      rw [show ((5 : Int)) = ((5 : Nat) : Int) from rfl, show ((7 : Int)) = ((7 : Nat) : Int) from rfl, lk2 hq (by decide) (by decide), if_neg e0, if_neg e1, if_neg e0, if_neg e1]
      obtain ⟨M1, p1, p2, p3⟩ := bg hb h (by omega) (e := 12) (v := 12) rfl
      rw [p1, Option.bind_some, (hB.fr p3).2.2.1]
      exact ⟨M1, rfl, p2, p3⟩
theorem c_hear (hb : bL LN RF b) (ho : o < 8) {M : gk_M} {l : List Nat} (h : BT b M l) (hB : BM b M o n r t) (hl : l.length ≤ 45) {q : Nat} (hq : q < 8) (g : Nat) (x : Int32) : BD b M l (rc_B LN RF (g + 3) 0 b (nI q) x M) (heaS o q n r t x) := by
  have ll : ∀ (l : List Nat) e, (l ++ [e]).length = l.length + 1 := fun l e => by rw [List.length_append, List.length_cons, List.length_nil]
  have p0 : ∀ (M : gk_M) (l : List Nat) (g : Nat), BT b M l → BM b M o n r t → l.length < 50 → ∃ M', rc_B LN RF (g + 1) 0 b 0 x M = some (x + n, M') ∧ BT b M' (l ++ [10]) ∧ BF b M M' := fun M l g h hB hl => by
    rw [rc_B, if_pos rfl]
    unfold f_X0_hear
    rw [show (0 : Int32) = nI 0 from rfl, show ((2 : Int)) = ((2 : Nat) : Int) from rfl, show ((3 : Int)) = ((3 : Nat) : Int) from rfl, lk2 (by decide) (by decide) (by decide), if_neg (by decide), if_neg (by decide)]
    obtain ⟨M1, p1, p2, p3⟩ := bg hb h hl (e := 10) (v := 10) rfl
    rw [p1, Option.bind_some, (hB.fr p3).2.1]
    exact ⟨M1, rfl, p2, p3⟩
  have p2 : ∀ (M : gk_M) (l : List Nat) (g : Nat), BT b M l → BM b M o n r t → l.length < 49 → ∃ M', rc_B LN RF (g + 2) 0 b 2 x M = some ((x + n) * 3, M') ∧ BT b M' (l ++ [30, 10]) ∧ BF b M M' := fun M l g h hB hl => by
    rw [rc_B, if_pos rfl]
    unfold f_X0_hear
    rw [show (2 : Int32) = nI 2 from rfl, show ((2 : Int)) = ((2 : Nat) : Int) from rfl, show ((3 : Int)) = ((3 : Nat) : Int) from rfl, lk2 (by decide) (by decide) (by decide), if_pos rfl]
    obtain ⟨M1, a1, a2, a3⟩ := bg hb h (by omega) (e := 30) (v := 30) rfl
    obtain ⟨M2, b1, b2, b3⟩ := p0 M1 _ g a2 (hB.fr a3) (by rw [ll]; omega)
    rw [a1, Option.bind_some, b1, Option.bind_some]
    exact ⟨M2, rfl, by rw [List.append_assoc] at b2; exact b2, a3.tr b3⟩
  by_cases e0 : q = 2
  · subst e0
    unfold heaS
    rw [if_pos rfl]
    exact p2 M l (g + 1) h hB (by omega)
  · by_cases e1 : q = 3
    · rw [rc_B, if_pos rfl]
      unfold f_X0_hear heaS
      rw [show ((2 : Int)) = ((2 : Nat) : Int) from rfl, show ((3 : Int)) = ((3 : Nat) : Int) from rfl, lk2 hq (by decide) (by decide), if_neg e0, if_pos e1, if_neg e0, if_pos e1]
      obtain ⟨M1, a1, a2, a3⟩ := bg hb h (by omega) (e := 40) (v := 40) rfl
      obtain ⟨M2, b1, b2, b3⟩ := p2 M1 _ g a2 (hB.fr a3) (by rw [ll]; omega)
      obtain ⟨M3, c1, c2, c3⟩ := c_pay hb b2 ((hB.fr a3).fr b3) (by simp only [List.length_append, List.length_cons, List.length_nil]; omega) ho g x
      rw [a1, Option.bind_some, b1, Option.bind_some]
      simp only [((hB.fr a3).fr b3).1]
      rw [c1, Option.bind_some]
      exact ⟨M3, rfl, by simp only [List.append_assoc] at c2; exact c2, (a3.tr b3).tr c3⟩
    · rw [rc_B, if_pos rfl]
      unfold f_X0_hear heaS
      rw [show ((2 : Int)) = ((2 : Nat) : Int) from rfl, show ((3 : Int)) = ((3 : Nat) : Int) from rfl, lk2 hq (by decide) (by decide), if_neg e0, if_neg e1, if_neg e0, if_neg e1]
      obtain ⟨M1, a1, a2, a3⟩ := bg hb h (by omega) (e := 10) (v := 10) rfl
      rw [a1, Option.bind_some, (hB.fr a3).2.1]
      exact ⟨M1, rfl, a2, a3⟩
theorem c_turn (hb : bL LN RF b) (ho : o < 8) {M : gk_M} {l : List Nat} (h : BT b M l) (hB : BM b M o n r t) (hl : l.length ≤ 35) {q : Nat} (hq : q < 8) (g : Nat) (x : Int32) : BD b M l (rc_B LN RF (g + 5) 1 b (nI q) x M) (turS o q n r t x) := by
  have ll : ∀ (l : List Nat) e, (l ++ [e]).length = l.length + 1 := fun l e => by rw [List.length_append, List.length_cons, List.length_nil]
  have pl : ∀ (M : gk_M) (l : List Nat) (q g : Nat) (x : Int32), q ≠ 1 → q ≠ 3 → q ≠ 6 → q < 8 → BT b M l → BM b M o n r t → l.length ≤ 40 → BD b M l (rc_B LN RF (g + 4) 1 b (nI q) x M) (plaT o n r t x) := fun M l q g x n1 n3 n6 hq h hB hl => by
    rw [rc_B, if_neg (by decide), if_pos rfl]
    unfold f_X0_turn plaT
    rw [show ((1 : Int)) = ((1 : Nat) : Int) from rfl, show ((3 : Int)) = ((3 : Nat) : Int) from rfl, show ((6 : Int)) = ((6 : Nat) : Int) from rfl, lk3 hq (by decide) (by decide) (by decide), if_neg n1, if_neg n3, if_neg n6]
    obtain ⟨M1, a1, a2, a3⟩ := bg hb h (by omega) (e := 11) (v := 11) rfl
    obtain ⟨M2, b1, b2, b3⟩ := c_hear hb ho a2 (hB.fr a3) (by rw [ll]; omega) ho g x
    rw [a1, Option.bind_some, (hB.fr a3).1, b1, Option.bind_some]
    exact ⟨M2, rfl, by rw [List.append_assoc] at b2; exact b2, a3.tr b3⟩
  by_cases e1 : q = 1
  · rw [rc_B, if_neg (by decide), if_pos rfl]
    unfold f_X0_turn turS
    rw [show ((1 : Int)) = ((1 : Nat) : Int) from rfl, show ((3 : Int)) = ((3 : Nat) : Int) from rfl, show ((6 : Int)) = ((6 : Nat) : Int) from rfl, lk3 hq (by decide) (by decide) (by decide), if_pos e1, if_pos e1]
    obtain ⟨M1, a1, a2, a3⟩ := bg hb h (by omega) (e := 20) (v := 20) rfl
    obtain ⟨M2, b1, b2, b3⟩ := pl M1 _ 0 g x (by decide) (by decide) (by decide) (by decide) a2 (hB.fr a3) (by rw [ll]; omega)
    rw [a1, Option.bind_some, show (0 : Int32) = nI 0 from rfl, b1, Option.bind_some]
    simp only [((hB.fr a3).fr b3).2.2.2]
    exact ⟨M2, rfl, by rw [List.append_assoc] at b2; exact b2, a3.tr b3⟩
  · by_cases e3 : q = 3
    · rw [rc_B, if_neg (by decide), if_pos rfl]
      unfold f_X0_turn turS
      rw [show ((1 : Int)) = ((1 : Nat) : Int) from rfl, show ((3 : Int)) = ((3 : Nat) : Int) from rfl, show ((6 : Int)) = ((6 : Nat) : Int) from rfl, lk3 hq (by decide) (by decide) (by decide), if_neg e1, if_pos e3, if_neg e1, if_pos e3]
      obtain ⟨M1, a1, a2, a3⟩ := bg hb h (by omega) (e := 41) (v := 41) rfl
      obtain ⟨M2, b1, b2, b3⟩ := pl M1 _ 2 g (x - t) (by decide) (by decide) (by decide) (by decide) a2 (hB.fr a3) (by rw [ll]; omega)
      rw [a1, Option.bind_some, (hB.fr a3).2.2.2, show (2 : Int32) = nI 2 from rfl, b1, Option.bind_some]
      exact ⟨M2, rfl, by rw [List.append_assoc] at b2; exact b2, a3.tr b3⟩
    · by_cases e6 : q = 6
      · rw [rc_B, if_neg (by decide), if_pos rfl]
        unfold f_X0_turn turS
        rw [show ((1 : Int)) = ((1 : Nat) : Int) from rfl, show ((3 : Int)) = ((3 : Nat) : Int) from rfl, show ((6 : Int)) = ((6 : Nat) : Int) from rfl, lk3 hq (by decide) (by decide) (by decide), if_neg e1, if_neg e3, if_pos e6, if_neg e1, if_neg e3, if_pos e6]
        obtain ⟨M1, a1, a2, a3⟩ := bg hb h (by omega) (e := 70) (v := 70) rfl
        obtain ⟨M2, b1, b2, b3⟩ := pl M1 _ 0 g x (by decide) (by decide) (by decide) (by decide) a2 (hB.fr a3) (by rw [ll]; omega)
        have hh := hea_l o o n r t x
        obtain ⟨M3, c1, c2, c3⟩ := c_hear hb ho b2 ((hB.fr a3).fr b3) (by unfold plaT; simp only [List.length_append, List.length_cons, List.length_nil]; omega) ho (g + 1) t
        rw [a1, Option.bind_some, show (0 : Int32) = nI 0 from rfl, b1, Option.bind_some]
        simp only [((hB.fr a3).fr b3).2.2.2, ((hB.fr a3).fr b3).1]
        rw [c1, Option.bind_some]
        exact ⟨M3, rfl, by simp only [List.append_assoc] at c2; exact c2, (a3.tr b3).tr c3⟩
      · unfold turS
        rw [if_neg e1, if_neg e3, if_neg e6]
        exact pl M l q (g + 1) x e1 e3 e6 hq h hB (by omega)
theorem c_end (hb : bL LN RF b) (ho : o < 8) {M : gk_M} {l : List Nat} (h : BT b M l) (hB : BM b M o n r t) (hl : l.length ≤ 20) {q : Nat} (hq : q < 8) (g : Nat) (x : Int32) : BD b M l (rc_B LN RF (g + 7) 3 b (nI q) x M) (endB o q n r t x) := by
  have ll : ∀ (l : List Nat) e, (l ++ [e]).length = l.length + 1 := fun l e => by rw [List.length_append, List.length_cons, List.length_nil]
  have pl : ∀ (M : gk_M) (l : List Nat) (q g : Nat) (x : Int32), q ≠ 2 → q ≠ 3 → q ≠ 4 → q < 8 → BT b M l → BM b M o n r t → l.length ≤ 28 → BD b M l (rc_B LN RF (g + 6) 3 b (nI q) x M) (plaE o n r t x) := fun M l q g x n1 n3 n6 hq h hB hl => by
    rw [rc_B, if_neg (by decide), if_neg (by decide), if_neg (by decide)]
    unfold f_X0_end plaE
    simp only [gk_jn]
    rw [sw2 (by omega), if_neg n1, if_neg n3, if_neg n6]
    obtain ⟨M1, a1, a2, a3⟩ := bg hb h (by omega) (e := 13) (v := 13) rfl
    obtain ⟨M2, b1, b2, b3⟩ := c_turn hb ho a2 (hB.fr a3) (by rw [ll]; omega) ho g x
    have ht := tur_l o o n r t x
    obtain ⟨M3, c1, c2, c3⟩ := c_pay hb b2 ((hB.fr a3).fr b3) (by simp only [List.length_append, List.length_cons, List.length_nil]; omega) ho (g + 3) x
    rw [a1, Option.bind_some, (hB.fr a3).1, b1, Option.bind_some]
    simp only [((hB.fr a3).fr b3).1]
    rw [c1, Option.bind_some]
    exact ⟨M3, rfl, by simp only [List.append_assoc] at c2; exact c2, (a3.tr b3).tr c3⟩
  by_cases e2 : q = 2 ∨ q = 3
  · rw [rc_B, if_neg (by decide), if_neg (by decide), if_neg (by decide)]
    unfold f_X0_end endB
    simp only [gk_jn]
    rw [sw2 (by omega), if_pos e2]
    have e : (if q = 2 then (f_X0_begin LN RF b 31 M).bind fun r23 => (rc_B LN RF (g + 6) 3 b 0 (x + 1) r23).bind fun r24 => some (r24.1, r24.2) else if q = 3 then (f_X0_begin LN RF b 31 M).bind fun r23 => (rc_B LN RF (g + 6) 3 b 0 (x + 1) r23).bind fun r24 => some (r24.1, r24.2) else if q = 4 then (f_X0_begin LN RF b 50 M).bind fun r25 => (rc_B LN RF (g + 6) 2 b (r25.1 b 2) x r25).bind fun r26 => (rc_B LN RF (g + 6) 3 b 0 x r26.2).bind fun r27 => some (r26.1 - r27.1, r27.2) else (f_X0_begin LN RF b 13 M).bind fun r28 => (rc_B LN RF (g + 6) 1 b (r28.1 b 2) x r28).bind fun r29 => (rc_B LN RF (g + 6) 2 b (r29.2.1 b 2) x r29.2).bind fun r30 => some (r29.1 ^^^ r30.1, r30.2)) = (f_X0_begin LN RF b 31 M).bind fun r23 => (rc_B LN RF (g + 6) 3 b 0 (x + 1) r23).bind fun r24 => some (r24.1, r24.2) := by
      rcases e2 with g2 | g2
      · rw [if_pos g2]
      · rw [if_neg (by omega), if_pos g2]
    rw [e]
    obtain ⟨M1, a1, a2, a3⟩ := bg hb h (by omega) (e := 31) (v := 31) rfl
    obtain ⟨M2, b1, b2, b3⟩ := pl M1 _ 0 g (x + 1) (by decide) (by decide) (by decide) (by decide) a2 (hB.fr a3) (by rw [ll]; omega)
    rw [a1, Option.bind_some, show (0 : Int32) = nI 0 from rfl, b1, Option.bind_some]
    exact ⟨M2, rfl, by rw [List.append_assoc] at b2; exact b2, a3.tr b3⟩
  · by_cases e4 : q = 4
    · rw [rc_B, if_neg (by decide), if_neg (by decide), if_neg (by decide)]
      unfold f_X0_end endB
      simp only [gk_jn]
      rw [sw2 (by omega), if_neg (by omega), if_neg (by omega), if_pos e4, if_neg e2, if_pos e4]
      obtain ⟨M1, a1, a2, a3⟩ := bg hb h (by omega) (e := 50) (v := 50) rfl
      obtain ⟨M2, b1, b2, b3⟩ := c_pay hb a2 (hB.fr a3) (by rw [ll]; omega) ho (g + 4) x
      have hp := pay_l o r t x
      obtain ⟨M3, c1, c2, c3⟩ := pl M2 _ 0 g x (by decide) (by decide) (by decide) (by decide) b2 ((hB.fr a3).fr b3) (by simp only [List.length_append, List.length_cons, List.length_nil]; omega)
      rw [a1, Option.bind_some, (hB.fr a3).1, b1, Option.bind_some, show (0 : Int32) = nI 0 from rfl]
      simp only
      rw [c1, Option.bind_some]
      exact ⟨M3, rfl, by simp only [List.append_assoc] at c2; exact c2, (a3.tr b3).tr c3⟩
    · unfold endB
      rw [if_neg e2, if_neg e4]
      exact pl M l q (g + 1) x (by omega) (by omega) (by omega) hq h hB (by omega)
end BO
