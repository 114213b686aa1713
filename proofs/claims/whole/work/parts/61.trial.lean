/-! Trials of the judge over the abstract state: acts as numbers; how many calls and backs there can be; what is judged -/
def actX (e : Nat) : Nat := e % 1000 / 10
def ali (N : Nat) (S : zS) (e : Nat) : Bool := if e / 1000 = 1 then decide (S 20 2 < N) && cOf S (actX e) == 0 else if e / 1000 = 2 then rinS S (actX e) else if e / 1000 = 3 then !(cOf S (actX e) == 0) && !rinS S (actX e) else decide (S 20 3 < 1000)
def stp (W : zS) (N : Nat) (S : zS) (e : Nat) : zS := if e / 1000 = 1 then diaS W S (actX e) (e % 10) else if e / 1000 = 2 then takS S (actX e) else if e / 1000 = 3 then dowS S (actX e) else tckS W N S
def gA (L e : Nat) : Prop := (e / 1000 = 1 ∧ actX e < L ∧ e % 10 < L) ∨ ((e / 1000 = 2 ∨ e / 1000 = 3) ∧ actX e < L) ∨ e / 1000 = 4
theorem sets_20 : ∀ (r l : Nat) (S : zS) (i : Nat), setS r l S 20 i = S 20 i
  | 0, _, _, _ => rfl
  | r + 1, l, S, i => by
    rw [setS, sets_20 r]
    unfold set1
    split
    · exact r_o _ _ _ _ _ (by decide) (by decide) (by decide) (by decide)
    · rfl
theorem sett_20 {S : zS} {i : Nat} : settS S 20 i = S 20 i := sets_20 _ _ _ _
theorem tak_20 {S : zS} {l i : Nat} : takS S l 20 i = S 20 i := by
  unfold takS
  rw [sett_20, su_k (by decide), su_k (by decide), su_k (by decide)]
theorem dow_20 {S : zS} {l i : Nat} : dowS S l 20 i = S 20 i := by
  unfold dowS
  rw [sett_20, e_o _ _ _ _ _ (by decide) (by decide) (by decide) (by decide)]
theorem bck_4 {S : zS} {f t : Nat} : bckS S f t 20 4 ≤ S 20 4 + 1 := by
  unfold bckS
  split
  · omega
  · rw [su_s]; omega
theorem arr_20 {W S : zS} {c t : Nat} : arrS W S c t 20 2 = S 20 2 ∧ arrS W S c t 20 4 ≤ S 20 4 + 1 := by
  have eo : ∀ i, endS S c 3 20 i = S 20 i := fun i => e_o _ _ _ _ _ (by decide) (by decide) (by decide) (by decide)
  unfold arrS
  split
  · rw [r_o _ _ _ _ _ (by decide) (by decide) (by decide) (by decide), r_o _ _ _ _ _ (by decide) (by decide) (by decide) (by decide)]; exact ⟨rfl, by omega⟩
  · split
    · have := @bck_4 (endS S c 3) (S 6 c) t
      rw [bck_20.2.1, eo]
      rw [eo] at this
      exact ⟨rfl, this⟩
    · rw [eo, eo]; exact ⟨rfl, by omega⟩
theorem go_20 (W : zS) : ∀ (n : Nat) (S : zS) (c t s : Nat), goS W n S c t s 20 2 = S 20 2 ∧ goS W n S c t s 20 4 ≤ S 20 4 + 1
  | 0, S, c, t, s => by rw [goS]; exact ⟨rfl, by omega⟩
  | n + 1, S, c, t, s => by
    have hc : ∀ i, comS W S c t s 20 i = S 20 i := fun i => c_o _ _ _ _ _ _ _ (by decide) (by decide) (by decide)
    have hn : ∀ w i, notS (comS W S c t s) c w 20 i = S 20 i := fun w i => by rw [n_o _ _ _ _ _ (by decide) (by decide), hc]
    rw [goS]
    split
    · rw [e_o _ _ _ _ _ (by decide) (by decide) (by decide) (by decide), e_o _ _ _ _ _ (by decide) (by decide) (by decide) (by decide)]; exact ⟨rfl, by omega⟩
    · split
      · have := @arr_20 W (comS W S c t s) c t
        rw [hc, hc] at this; exact this
      · split
        · rw [e_o _ _ _ _ _ (by decide) (by decide) (by decide) (by decide), e_o _ _ _ _ _ (by decide) (by decide) (by decide) (by decide), hn, hn]; exact ⟨rfl, by omega⟩
        · split
          · rw [k_o _ _ _ _ _ (by decide) (by decide) (by decide), k_o _ _ _ _ _ (by decide) (by decide) (by decide), hn, hn]; exact ⟨rfl, by omega⟩
          · have := go_20 W n (notS (comS W S c t s) c (actsS W (comS W S c t s) c t s - 1)) c (W 3 (actsS W (comS W S c t s) c t s - 1)) t
            rw [hn, hn] at this; exact this
theorem dia_20 {W S : zS} {l t : Nat} : diaS W S l t 20 2 = S 20 2 + 1 ∧ diaS W S l t 20 4 ≤ S 20 4 + 1 := by
  have h := go_20 W 9 (newS S l) (S 20 2) t l
  rw [nw_c, nw_20 (by decide)] at h
  unfold diaS
  rw [sett_20, sett_20]
  exact h
theorem rgo_20 {W S : zS} {c : Nat} : rgoS W S c 20 2 = S 20 2 ∧ rgoS W S c 20 4 ≤ S 20 4 + 1 := by
  unfold rgoS
  split
  · rw [su_k (by decide), su_k (by decide)]; exact ⟨rfl, by omega⟩
  · have h := go_20 W 9 (su (notS (su S 14 c (S 14 c + 1)) c (onwS W S c - 1)) 12 c 0) c (W 3 (onwS W S c - 1)) (lastS S c)
    rw [su_k (by decide), su_k (by decide), n_o _ _ _ _ _ (by decide) (by decide), n_o _ _ _ _ _ (by decide) (by decide), su_k (by decide), su_k (by decide)] at h
    exact h
theorem rga_20 (W : zS) : ∀ (r c : Nat) (S : zS), rgaS W r c S 20 2 = S 20 2 ∧ rgaS W r c S 20 4 ≤ S 20 4 + r
  | 0, c, S => ⟨rfl, Nat.le_refl _⟩
  | r + 1, c, S => by
    obtain ⟨h1, h2⟩ := rga_20 W r (c + 1) (rg1 W S c)
    have h3 : rg1 W S c 20 2 = S 20 2 ∧ rg1 W S c 20 4 ≤ S 20 4 + 1 := by
      unfold rg1
      split
      · rw [sett_20, sett_20]; exact rgo_20
      · exact ⟨rfl, by omega⟩
    rw [rgaS]
    exact ⟨h1.trans h3.1, by omega⟩
theorem bk1_20 {W : zS} {N : Nat} {S : zS} {p : Nat} : bk1 W N S p 20 2 = S 20 2 + 1 ∧ bk1 W N S p 20 4 ≤ S 20 4 - 1 + 1 := by
  unfold bk1
  have h := @dia_20 W (drpS S p) (S 17 p) (S 18 p)
  rw [dr_20 (by decide), dr_4] at h
  exact h
theorem bka_20 (W : zS) (N : Nat) : ∀ (r p : Nat) (S : zS), bkaS W N r p S 20 2 ≤ S 20 2 + r ∧ bkaS W N r p S 20 4 ≤ max (S 20 4) 1
  | 0, p, S => by rw [bkaS]; omega
  | r + 1, p, S => by
    rw [bkaS]
    split
    · obtain ⟨h1, h2⟩ := bka_20 W N r p (bk1 W N S p)
      obtain ⟨g1, g2⟩ := @bk1_20 W N S p
      omega
    · obtain ⟨h1, h2⟩ := bka_20 W N r (p + 1) S
      omega
theorem bka_N (W : zS) : ∀ (r p : Nat) (S : zS), S 20 2 + r ≤ 8 → bkaS W 8 r p S = bkaS W 60 r p S
  | 0, p, S, _ => rfl
  | r + 1, p, S, h => by
    have e : bkgS S 8 p = bkgS S 60 p := by
      unfold bkgS
      rw [decide_eq_true (show S 20 2 < 8 by omega), decide_eq_true (show S 20 2 < 60 by omega)]
    rw [bkaS, bkaS, e]
    split
    · have g := (@bk1_20 W 8 S p).1
      exact bka_N W r p (bk1 W 8 S p) (by omega)
    · exact bka_N W r (p + 1) S (by omega)
theorem tk0_20 {S : zS} : tk0 S 20 2 = S 20 2 ∧ tk0 S 20 4 = S 20 4 := by
  unfold tk0
  rw [e19_chg _ _ _ 20 (by decide), su_i, su_i, if_neg (by decide), if_neg (by decide)]; exact ⟨rfl, rfl⟩
theorem tck_e {W S : zS} {N : Nat} : tckS W N S = bkaS W N (rgaS W (S 20 2) 0 (tk0 S) 20 4) 0 (rgaS W (S 20 2) 0 (tk0 S)) := rfl
theorem tck_20 {W S : zS} {N : Nat} : tckS W N S 20 2 ≤ 2 * S 20 2 + S 20 4 ∧ tckS W N S 20 4 ≤ S 20 4 + S 20 2 := by
  obtain ⟨h1, h2⟩ := rga_20 W (S 20 2) 0 (tk0 S)
  obtain ⟨g1, g2⟩ := @tk0_20 S
  obtain ⟨b1, b2⟩ := bka_20 W N (rgaS W (S 20 2) 0 (tk0 S) 20 4) 0 (rgaS W (S 20 2) 0 (tk0 S))
  rw [tck_e]
  refine ⟨by omega, ?_⟩
  by_cases e : 1 ≤ rgaS W (S 20 2) 0 (tk0 S) 20 4
  · omega
  · rw [show rgaS W (S 20 2) 0 (tk0 S) 20 4 = 0 by omega, bkaS]; omega
theorem tck_N {W S : zS} (h : S 20 2 + (S 20 4 + S 20 2) ≤ 8) : tckS W 8 S = tckS W 60 S := by
  obtain ⟨h1, h2⟩ := rga_20 W (S 20 2) 0 (tk0 S)
  obtain ⟨g1, g2⟩ := @tk0_20 S
  rw [tck_e, tck_e]
  exact bka_N W _ _ _ (by omega)
def cC : Nat → Nat
  | 0 => 0
  | 1 => 1
  | 2 => 3
  | _ => 8
def cB : Nat → Nat
  | 0 => 0
  | 1 => 1
  | 2 => 2
  | _ => 5
def CB (k : Nat) (S : zS) : Prop := S 20 2 ≤ cC k ∧ S 20 4 ≤ cB k
theorem stp_cb {W S : zS} {k e : Nat} (hk : k < 3) (h : CB k S) : CB (k + 1) (stp W 60 S e) := by
  have hc : stp W 60 S e 20 2 ≤ max (S 20 2 + 1) (2 * S 20 2 + S 20 4) ∧ stp W 60 S e 20 4 ≤ max (S 20 4 + 1) (S 20 4 + S 20 2) := by
    unfold stp
    split
    · obtain ⟨h1, h2⟩ := @dia_20 W S (actX e) (e % 10); omega
    · split
      · rw [tak_20, tak_20]; omega
      · split
        · rw [dow_20, dow_20]; omega
        · obtain ⟨h1, h2⟩ := @tck_20 W S 60; omega
  obtain ⟨h1, h2⟩ := h
  rcases (show k = 0 ∨ k = 1 ∨ k = 2 by omega) with rfl | rfl | rfl
  · have a1 : S 20 2 ≤ 0 := h1
    have a2 : S 20 4 ≤ 0 := h2
    exact ⟨show _ ≤ 1 by omega, show _ ≤ 1 by omega⟩
  · have a1 : S 20 2 ≤ 1 := h1
    have a2 : S 20 4 ≤ 1 := h2
    exact ⟨show _ ≤ 3 by omega, show _ ≤ 2 by omega⟩
  · have a1 : S 20 2 ≤ 3 := h1
    have a2 : S 20 4 ≤ 2 := h2
    exact ⟨show _ ≤ 8 by omega, show _ ≤ 5 by omega⟩
theorem CB.le {S : zS} {k : Nat} (h : CB k S) : S 20 2 ≤ 8 := by
  have h1 := h.1
  rcases (show k = 0 ∨ k = 1 ∨ k = 2 ∨ 3 ≤ k by omega) with rfl | rfl | rfl | g
  · have : S 20 2 ≤ 0 := h1
    omega
  · have : S 20 2 ≤ 1 := h1
    omega
  · have : S 20 2 ≤ 3 := h1
    omega
  · obtain ⟨j, rfl⟩ : ∃ j, k = j + 3 := ⟨k - 3, by omega⟩
    exact h1
theorem CB.lt {S : zS} {k : Nat} (hk : k < 3) (h : CB k S) : S 20 2 + (S 20 4 + S 20 2) ≤ 8 := by
  obtain ⟨h1, h2⟩ := h
  rcases (show k = 0 ∨ k = 1 ∨ k = 2 by omega) with rfl | rfl | rfl
  · have a1 : S 20 2 ≤ 0 := h1
    have a2 : S 20 4 ≤ 0 := h2
    omega
  · have a1 : S 20 2 ≤ 1 := h1
    have a2 : S 20 4 ≤ 1 := h2
    omega
  · have a1 : S 20 2 ≤ 3 := h1
    have a2 : S 20 4 ≤ 2 := h2
    omega
theorem stp_8 {W S : zS} {k e : Nat} (hk : k < 3) (h : CB k S) : stp W 8 S e = stp W 60 S e ∧ ali 8 S e = ali 60 S e := by
  have hl := h.lt hk
  have h2 : S 20 2 < 8 := by
    have h1 := h.1
    rcases (show k = 0 ∨ k = 1 ∨ k = 2 by omega) with rfl | rfl | rfl
    · have a1 : S 20 2 ≤ 0 := h1
      omega
    · have a1 : S 20 2 ≤ 1 := h1
      omega
    · have a1 : S 20 2 ≤ 3 := h1
      omega
  unfold stp ali
  rw [tck_N hl, decide_eq_true h2, decide_eq_true (show S 20 2 < 60 by omega)]
  exact ⟨rfl, rfl⟩
theorem stp_ok {W S : zS} (h : IV W S) {e : Nat} (hg : gA (S 20 0) e) (ha : ali 60 S e = true) : IV W (stp W 60 S e) ∧ stp W 60 S e 20 0 = S 20 0 := by
  have h8 := h.2.1.1
  rcases hg with ⟨e1, hx, hy⟩ | ⟨e1 | e1, hx⟩ | e1
  · unfold ali at ha
    rw [if_pos e1] at ha
    simp only [Bool.and_eq_true, decide_eq_true_eq, beq_iff_eq] at ha
    obtain ⟨hW, hI, hR, hD, hN⟩ := h
    obtain ⟨a1, a2, a3, -⟩ := dia_ok hW hI hR hN hx hy ha.2 ha.1
    obtain ⟨b1, -⟩ := dia_sd hW hI hN hx hy ha.2 ha.1
    unfold stp
    rw [if_pos e1]
    exact ⟨⟨hW, a1, a2, b1, hN.cn a3⟩, a3⟩
  · unfold ali at ha
    rw [if_neg (by omega), if_pos e1] at ha
    have g := h.take (nI (actX e))
    unfold takeR at g
    rw [if_neg (by rw [show isL (S 20 0) (nI (actX e)) = true from inR_n (by omega) hx]; exact tf), tN_n (by omega), if_neg (by rw [ha]; exact tf)] at g
    unfold stp
    rw [if_neg (by omega), if_pos e1]
    exact ⟨g, tak_20⟩
  · unfold ali at ha
    rw [if_neg (by omega), if_neg (by omega), if_pos e1] at ha
    simp only [Bool.and_eq_true, Bool.not_eq_true', beq_eq_false_iff_ne, ne_eq] at ha
    have g := h.down (nI (actX e))
    unfold downR at g
    rw [if_neg (by rw [show isL (S 20 0) (nI (actX e)) = true from inR_n (by omega) hx]; exact tf), tN_n (by omega), if_neg (by rw [ha.2]; rintro (q | q); exact ha.1 q; cases q)] at g
    unfold stp
    rw [if_neg (by omega), if_neg (by omega), if_pos e1]
    exact ⟨g, dow_20⟩
  · unfold ali at ha
    rw [if_neg (by omega), if_neg (by omega), if_neg (by omega)] at ha
    have ht : S 20 3 < 1000 := by simpa using ha
    obtain ⟨hW, hI, hR, hD, hN⟩ := h
    obtain ⟨a1, a2, a3, a4, -⟩ := tck_ok hW hI hR hD hN ht
    unfold stp
    rw [if_neg (by omega), if_neg (by omega), if_neg (by omega)]
    exact ⟨⟨hW, a1, a2, a3, hN.cn a4⟩, a4⟩
/-- what the judge begins with -/
def empS (S : zS) : zS := fun k i => if k = 20 ∧ (i = 2 ∨ i = 3 ∨ i = 4) then 0 else if k = 19 ∧ i < 8 then 0 else S k i
theorem emp_0 {S : zS} : empS S 20 0 = S 20 0 := by unfold empS; simp
theorem emp_c {S : zS} : empS S 20 2 = 0 ∧ empS S 20 3 = 0 ∧ empS S 20 4 = 0 := by unfold empS; simp
theorem emp_IV {W S : zS} (h : IV W S) : IV W (empS S) := by
  obtain ⟨hW, hI, hR, hD, hN⟩ := h
  obtain ⟨e2, e3, e4⟩ := @emp_c S
  refine ⟨hW, ⟨⟨by rw [emp_0]; exact hI.1.1, by omega, by omega, by omega⟩, fun c hc => by omega, fun l c c' hc => by omega, fun l c c' hc => by omega, fun i hi => by omega, fun i j hi => by omega⟩, fun c hc => by omega, fun l hl hk => ?_, fun w hw => by rw [emp_0]; exact hN w hw⟩
  exact absurd (by rw [kAt_0]; intro c hc; omega) hk
theorem emp_cb {S : zS} : CB 0 (empS S) := by
  obtain ⟨e2, e3, e4⟩ := @emp_c S
  exact ⟨by rw [e2]; exact Nat.le_refl _, by rw [e4]; exact Nat.le_refl _⟩
/-- k acts, told by a number v with k digits to the base n: D d is the act of the digit d -/
def trS (W : zS) (D : Nat → Nat) (n : Nat) (S : zS) : Nat → Nat → Option zS
  | 0, _ => some (empS S)
  | k + 1, v => (trS W D n S k (v / n)).bind fun T => if ali 60 T (D (v % n)) = true then some (stp W 60 T (D (v % n))) else none
def brk1 (W S : zS) (kd a b c : Nat) : Bool := if kd = 0 then S 7 c == 1 && ((S 6 c == a && S 13 c == b + 1) || (S 6 c == b && S 13 c == a + 1)) else S 6 c == a && (rchS S c b && !anf (hidP W (S 6 c) b) (W 6 0) 0 false)
def brk (W S : zS) (kd a b : Nat) : Bool := if kd = 1 then !decide (nI (S 19 a) ≤ 0) else anf (brk1 W S kd a b) (S 20 2) 0 false
def tst (W : zS) (D : Nat → Nat) (n : Nat) (S : zS) (kd a b k v : Nat) : Bool := match trS W D n S k v with
  | none => false
  | some T => brk W T kd a b
theorem tr_ok {W : zS} {D : Nat → Nat} {n : Nat} {S : zS} (h : IV W S) (hn : 0 < n) (hD : ∀ i, i < n → gA (S 20 0) (D i)) : ∀ (k v : Nat) (T : zS), k ≤ 3 → trS W D n S k v = some T → IV W T ∧ T 20 0 = S 20 0 ∧ CB k T
  | 0, v, T, _, e => by
    rw [trS] at e
    cases e
    exact ⟨emp_IV h, emp_0, emp_cb⟩
  | k + 1, v, T, hk, e => by
    rw [trS] at e
    cases g : trS W D n S k (v / n) with
    | none => rw [g] at e; cases e
    | some U =>
      rw [g] at e
      obtain ⟨i1, i2, i3⟩ := tr_ok h hn hD k (v / n) U (by omega) g
      simp only [Option.bind_some] at e
      by_cases ea : ali 60 U (D (v % n)) = true
      · rw [if_pos ea] at e
        cases e
        obtain ⟨j1, j2⟩ := stp_ok i1 (by rw [i2]; exact hD _ (Nat.mod_lt _ hn)) ea
        exact ⟨j1, j2.trans i2, stp_cb (by omega) i3⟩
      · rw [if_neg ea] at e; cases e
/-- an act that is refused: no trial goes on from there -/
theorem tr_none {W : zS} {D : Nat → Nat} {n : Nat} {S : zS} (k : Nat) : ∀ (d j : Nat), trS W D n S k (j / n ^ d) = none → trS W D n S (k + d) j = none
  | 0, j, e => by simpa using e
  | d + 1, j, e => by
    rw [show k + (d + 1) = (k + d) + 1 by omega, trS, tr_none k d (j / n) (by rw [Nat.div_div_eq_div_mul, ← Nat.pow_succ']; exact e)]; rfl
