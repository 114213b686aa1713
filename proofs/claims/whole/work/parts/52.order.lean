/-! A line's questions, the order of its wishes, counts -/
def cnf (p : Nat → Bool) : Nat → Nat → Nat → Nat
  | 0, _, a => a
  | r + 1, i, a => cnf p r (i + 1) (if p i = true then a + 1 else a)
theorem cn_add (p : Nat → Bool) : ∀ r i a, cnf p r i a = a + cnf p r i 0
  | 0, i, a => rfl
  | r + 1, i, a => by
    rw [cnf, cnf, cn_add p r (i + 1) (if p i = true then a + 1 else a), cn_add p r (i + 1) (if p i = true then 0 + 1 else 0)]
    split <;> omega
theorem cn_bd (p : Nat → Bool) : ∀ r i a, cnf p r i a ≤ a + r
  | 0, i, a => Nat.le_refl _
  | r + 1, i, a => by
    rw [cnf]
    by_cases e : p i = true
    · rw [if_pos e]; have := cn_bd p r (i + 1) (a + 1); omega
    · rw [if_neg e]; have := cn_bd p r (i + 1) a; omega
theorem cn_le {p q : Nat → Bool} : ∀ r i, (∀ j, i ≤ j → j < i + r → p j = true → q j = true) → cnf p r i 0 ≤ cnf q r i 0
  | 0, i, _ => Nat.le_refl _
  | r + 1, i, h => by
    rw [cnf, cnf, cn_add p r (i + 1), cn_add q r (i + 1)]
    have ih := cn_le (p := p) (q := q) r (i + 1) (fun j h1 h2 => h j (by omega) (by omega))
    have hi := h i (by omega) (by omega)
    by_cases e : p i = true
    · rw [if_pos e, if_pos (hi e)]; omega
    · rw [if_neg e]; split <;> omega
theorem cn_one {p q : Nat → Bool} : ∀ r i w, i ≤ w → w < i + r → p w = false → q w = true → (∀ j, i ≤ j → j < i + r → j ≠ w → p j = q j) → cnf q r i 0 = cnf p r i 0 + 1
  | 0, i, w, h1, h2, _, _, _ => by omega
  | r + 1, i, w, h1, h2, hp, hq, h => by
    rw [cnf, cnf, cn_add p r (i + 1), cn_add q r (i + 1)]
    by_cases e : w = i
    · subst e
      rw [hp, hq, if_pos rfl, if_neg (by decide)]
      have a1 := cn_le (p := p) (q := q) r (w + 1) (fun j g1 g2 g3 => by rw [← h j (by omega) (by omega) (by omega)]; exact g3)
      have a2 := cn_le (p := q) (q := p) r (w + 1) (fun j g1 g2 g3 => by rw [h j (by omega) (by omega) (by omega)]; exact g3)
      omega
    · have ih := cn_one (p := p) (q := q) r (i + 1) w (by omega) (by omega) hp hq (fun j g1 g2 g3 => h j (by omega) (by omega) g3)
      rw [h i (by omega) (by omega) (fun g => e g.symm)]
      omega
theorem cn_cg {p q : Nat → Bool} (r i : Nat) (h : ∀ j, i ≤ j → j < i + r → p j = q j) : cnf p r i 0 = cnf q r i 0 :=
  Nat.le_antisymm (cn_le r i (fun j a b c => by rw [← h j a b]; exact c)) (cn_le r i (fun j a b c => by rw [h j a b]; exact c))
/-- how many of a line's wishes come before w; how many there are -/
def plc (W : zS) (l w : Nat) : Nat := cnf (fun j => onOf W l j && decide (keyW W j < keyW W w)) (W 6 0) 0 0
def tot (W : zS) (l : Nat) : Nat := cnf (onOf W l) (W 6 0) 0 0
/-- the p-th of a line's wishes, by going on -/
def itr (W : zS) (l : Nat) : Nat → Nat
  | 0 => amin (keyW W) (nxtP W l 0) (W 6 0)
  | p + 1 => if itr W l p = 0 then 0 else amin (keyW W) (nxtP W l (itr W l p)) (W 6 0)
theorem plc_lt {W : zS} (l : Nat) {v w : Nat} (hv : v < W 6 0) (ho : onOf W l v = true) (h : keyW W v < keyW W w) : plc W l v < plc W l w := by
  have a1 := cn_one (p := fun j => onOf W l j && decide (keyW W j < keyW W v)) (q := fun j => (onOf W l j && decide (keyW W j < keyW W v)) || j == v) (W 6 0) 0 v (by omega) (by omega) (by simp) (by simp) (fun j _ _ hj => by simp [hj])
  have a2 := cn_le (p := fun j => (onOf W l j && decide (keyW W j < keyW W v)) || j == v) (q := fun j => onOf W l j && decide (keyW W j < keyW W w)) (W 6 0) 0 (fun j _ _ hj => by
    rw [Bool.or_eq_true] at hj
    rcases hj with hj | hj
    · rw [Bool.and_eq_true, decide_eq_true_eq] at hj
      rw [Bool.and_eq_true, decide_eq_true_eq]; exact ⟨hj.1, by omega⟩
    · rw [beq_iff_eq] at hj; subst hj
      rw [Bool.and_eq_true, decide_eq_true_eq]; exact ⟨ho, h⟩)
  unfold plc
  omega
theorem plc_tot {W : zS} (l : Nat) {v : Nat} (hv : v < W 6 0) (ho : onOf W l v = true) : plc W l v < tot W l := by
  have a1 := cn_one (p := fun j => onOf W l j && decide (keyW W j < keyW W v)) (q := fun j => (onOf W l j && decide (keyW W j < keyW W v)) || j == v) (W 6 0) 0 v (by omega) (by omega) (by simp) (by simp) (fun j _ _ hj => by simp [hj])
  have a2 := cn_le (p := fun j => (onOf W l j && decide (keyW W j < keyW W v)) || j == v) (q := onOf W l) (W 6 0) 0 (fun j _ _ hj => by
    rw [Bool.or_eq_true] at hj
    rcases hj with hj | hj
    · rw [Bool.and_eq_true] at hj; exact hj.1
    · rw [beq_iff_eq] at hj; subst hj; exact ho)
  unfold plc tot
  omega
theorem itr_ok {W : zS} (hW : WB W) (l : Nat) : ∀ p, (itr W l p = 0 → tot W l ≤ p) ∧ ∀ w, itr W l p = w + 1 → w < W 6 0 ∧ onOf W l w = true ∧ plc W l w = p
  | 0 => by
    refine ⟨fun h => ?_, fun w h => ?_⟩
    · rw [itr, amin_0] at h
      have := cn_le (p := onOf W l) (q := fun _ => false) (W 6 0) 0 (fun j _ hj g => by
        have := h j (by omega)
        unfold nxtP at this
        rw [g] at this
        simp at this)
      have z : ∀ r i, cnf (fun _ => false) r i 0 = 0 := by
        intro r
        induction r with
        | zero => intro i; rfl
        | succ r ih => intro i; rw [cnf, if_neg (by decide)]; exact ih _
      rw [z] at this
      exact this
    · rw [itr] at h
      obtain ⟨h1, h2, h3⟩ := amin_s h
      have ho : onOf W l w = true := by unfold nxtP at h2; simpa using h2
      refine ⟨h1, ho, ?_⟩
      have := cn_le (p := fun j => onOf W l j && decide (keyW W j < keyW W w)) (q := fun _ => false) (W 6 0) 0 (fun j _ hj g => by
        rw [Bool.and_eq_true, decide_eq_true_eq] at g
        have := h3 j (by omega) (by unfold nxtP; rw [g.1]; rfl)
        omega)
      have z : ∀ r i, cnf (fun _ => false) r i 0 = 0 := by
        intro r
        induction r with
        | zero => intro i; rfl
        | succ r ih => intro i; rw [cnf, if_neg (by decide)]; exact ih _
      rw [z] at this
      unfold plc
      omega
  | p + 1 => by
    obtain ⟨i1, i2⟩ := itr_ok hW l p
    rw [itr]
    cases ei : itr W l p with
    | zero =>
      rw [if_pos rfl]
      exact ⟨fun _ => by have := i1 ei; omega, fun w h => by omega⟩
    | succ v =>
      obtain ⟨v1, v2, v3⟩ := i2 v ei
      rw [if_neg (by omega)]
      refine ⟨fun h => ?_, fun w h => ?_⟩
      · rw [amin_0] at h
        have a2 := cn_le (p := onOf W l) (q := fun j => (onOf W l j && decide (keyW W j < keyW W v)) || j == v) (W 6 0) 0 (fun j _ hj g => by
          have := h j (by omega)
          unfold nxtP at this
          rw [g] at this
          simp at this
          by_cases e : j = v
          · simp [e]
          · have : keyW W j ≠ keyW W v := fun q => e (key_inj hW j v (by omega) v1 q)
            rw [g, decide_eq_true (show keyW W j < keyW W v by omega)]; rfl)
        have a1 := cn_one (p := fun j => onOf W l j && decide (keyW W j < keyW W v)) (q := fun j => (onOf W l j && decide (keyW W j < keyW W v)) || j == v) (W 6 0) 0 v (by omega) (by omega) (by simp) (by simp) (fun j _ _ hj => by simp [hj])
        unfold plc at v3
        unfold tot
        omega
      · obtain ⟨h1, h2, h3⟩ := amin_s h
        unfold nxtP at h2
        simp only [Bool.and_eq_true, Nat.add_sub_cancel] at h2
        have hk : keyW W v < keyW W w := by simpa using h2.2
        refine ⟨h1, h2.1, ?_⟩
        have hlt := plc_lt l v1 v2 hk
        have a2 := cn_le (p := fun j => onOf W l j && decide (keyW W j < keyW W w)) (q := fun j => (onOf W l j && decide (keyW W j < keyW W v)) || j == v) (W 6 0) 0 (fun j _ hj g => by
          rw [Bool.and_eq_true, decide_eq_true_eq] at g
          by_cases e : j = v
          · simp [e]
          · have hne : keyW W j ≠ keyW W v := fun q => e (key_inj hW j v (by omega) v1 q)
            by_cases e2 : keyW W j < keyW W v
            · rw [g.1, decide_eq_true e2]; rfl
            · have := h3 j (by omega) (by unfold nxtP; rw [g.1, Nat.add_sub_cancel, decide_eq_true (show keyW W v < keyW W j by omega)]; simp)
              omega)
        have a1 := cn_one (p := fun j => onOf W l j && decide (keyW W j < keyW W v)) (q := fun j => (onOf W l j && decide (keyW W j < keyW W v)) || j == v) (W 6 0) 0 v (by omega) (by omega) (by simp) (by simp) (fun j _ _ hj => by simp [hj])
        unfold plc at v3 hlt ⊢
        omega
theorem Ag.sn {x : Int32} {n : Int} {k l d e : Option Int32} {ks ls : List (Option Int32)} (h1 : x = Int32.ofInt n → Ag k l) (h2 : x ≠ Int32.ofInt n → Ag (gk_sw x (n + 1) ks d) (gk_sw x (n + 1) ls e)) : Ag (gk_sw x n (k :: ks) d) (gk_sw x n (l :: ls) e) := Ag.ite h1 h2
section OR
variable {LN : Nat → Nat} {RF : Nat → Nat → Nat} {h o n b x m : Nat} {M M' : gk_M} {W S : zS}
theorem lp_con_s (hl : hL LN RF h o n b) (hB : BR b M W) (hW : WB W) {l : Nat} (h8 : l < 100) {K : Int32 → Option Int32} : ∀ r n' w a, w + r = W 6 0 → r < n' → lp_X6_countOn_4 LN RF b (nI l) M K n' (nI a, nI w) = K (nI (cnf (onOf W l) r w a))
  | r, 0, w, a, _, g => absurd g (by omega)
  | 0, n' + 1, w, a, g1, g2 => by
    rw [lp_X6_countOn_4, hB.1, if_pos (nI_le (by omega) (by have := hW.1; omega))]; rfl
  | r + 1, n' + 1, w, a, g1, g2 => by
    have hn := hW.1
    have ih := fun a' => lp_con_s hl hB hW h8 (K := K) r n' (w + 1) a' (by omega) (by omega)
    rw [lp_X6_countOn_4, hB.1, if_neg (nI_ge (by omega) (by omega)), ha_w hl (by omega), u_isOnFor hB hW (by omega) h8]
    simp only [gk_jn, nI_1, Option.bind_some, bI_0]
    rw [cnf]
    cases onOf W l w with
    | false => rw [if_pos rfl, ih, if_neg (by decide)]
    | true => rw [if_neg (by decide), ih, if_pos rfl]
theorem lp_plc_s (hl : hL LN RF h o n b) (hB : BR b M W) (hW : WB W) {v : Nat} (hv : v < W 6 0) {K : Int32 → Option Int32} : ∀ r n' w a, w + r = W 6 0 → r < n' → lp_X6_placeOf_12 LN RF b (nI v) (b + 2 + v) M K n' (nI a, nI w) = K (nI (cnf (fun j => onOf W (W 0 v) j && decide (keyW W j < keyW W v)) r w a))
  | r, 0, w, a, _, g => absurd g (by omega)
  | 0, n' + 1, w, a, g1, g2 => by
    rw [lp_X6_placeOf_12, hB.1, if_pos (nI_le (by omega) (by have := hW.1; omega))]; rfl
  | r + 1, n' + 1, w, a, g1, g2 => by
    have hn := hW.1
    have hbv := hW.2 v hv
    have hbw := hW.2 w (by omega)
    have ih := fun a' => lp_plc_s hl hB hW hv (K := K) r n' (w + 1) a' (by omega) (by omega)
    rw [lp_X6_placeOf_12, hB.1, if_neg (nI_ge (by omega) (by omega)), ha_w hl (by omega)]
    simp only [gk_jn, nI_1, hB.2 v 0 hv (by decide), hB.2 v 2 hv (by decide), hB.2 w 2 (show w < W 6 0 by omega) (by decide), u_isOnFor hB hW (show w < W 6 0 by omega) (show W 0 v < 100 by omega), Option.bind_some, bI_0, i10, i00, if_true, if_false, nI_ltI (show W 2 w < 2 ^ 31 by omega) (show W 2 v < 2 ^ 31 by omega), nI_eq (show W 2 w < 2 ^ 31 by omega) (show W 2 v < 2 ^ 31 by omega), nI_leI (show v < 2 ^ 31 by omega) (show w < 2 ^ 31 by omega)]
    rw [cnf]
    unfold keyW at ih ⊢
    by_cases e1 : W 2 w < W 2 v
    · rw [if_pos e1, decide_eq_true (show W 2 w * 24 + w < W 2 v * 24 + v by omega), Bool.and_true]
      cases onOf W (W 0 v) w with
      | false => rw [if_pos rfl, ih, if_neg (by decide)]
      | true => rw [if_neg (by decide), ih, if_pos rfl]
    · rw [if_neg e1]
      by_cases e2 : W 2 w = W 2 v
      · rw [if_pos e2]
        by_cases e3 : v ≤ w
        · rw [if_pos e3, ih, decide_eq_false (show ¬ W 2 w * 24 + w < W 2 v * 24 + v by omega), Bool.and_false, if_neg (by decide)]
        · rw [if_neg e3, decide_eq_true (show W 2 w * 24 + w < W 2 v * 24 + v by omega), Bool.and_true]
          cases onOf W (W 0 v) w with
          | false => rw [if_pos rfl, ih, if_neg (by decide)]
          | true => rw [if_neg (by decide), ih, if_pos rfl]
      · rw [if_neg e2, ih, decide_eq_false (show ¬ W 2 w * 24 + w < W 2 v * 24 + v by omega), Bool.and_false, if_neg (by decide)]
theorem u_placeOf (hl : hL LN RF h o n b) (hB : BR b M W) (hW : WB W) {v : Nat} (hv : v < W 6 0) : f_X6_placeOf LN RF b (nI v) M = some (nI (plc W (W 0 v) v)) := by
  have hn := hW.1
  unfold f_X6_placeOf
  rw [ha_w hl (by omega)]
  simp only [gk_jn]
  rw [show ((0 : Int32), (0 : Int32)) = (nI 0, nI 0) from rfl, lp_plc_s hl hB hW hv (W 6 0) gk_fuel 0 0 (by omega) (fuel_gt (by omega))]; rfl
theorem lp_ino_s (hl : hL LN RF h o n b) (hB : BR b M W) (hW : WB W) {l p : Nat} (h8 : l < 100) (hp : p < 2 ^ 31) {K : Unit → Option Int32} : ∀ r n' w, w + r = W 6 0 → r < n' → (∀ j, j < w → ¬ (onOf W l j = true ∧ plc W l j = p)) → lp_X6_inOrder_2 LN RF b (nI l) (nI p) M K n' (nI w) = if itr W l p = 0 then K () else some (nN (itr W l p))
  | r, 0, w, _, g, _ => absurd g (by omega)
  | 0, n' + 1, w, g1, g2, hj => by
    rw [lp_X6_inOrder_2, hB.1, if_pos (nI_le (by omega) (by have := hW.1; omega))]
    cases ei : itr W l p with
    | zero => rw [if_pos rfl]
    | succ v =>
      obtain ⟨v1, v2, v3⟩ := (itr_ok hW l p).2 v ei
      exact absurd ⟨v2, v3⟩ (hj v (by omega))
  | r + 1, n' + 1, w, g1, g2, hj => by
    have hn := hW.1
    rw [lp_X6_inOrder_2, hB.1, if_neg (nI_ge (by omega) (by omega)), ha_w hl (by omega), u_isOnFor hB hW (show w < W 6 0 by omega) h8, u_placeOf hl hB hW (show w < W 6 0 by omega)]
    have hbd := cn_bd (fun j => onOf W (W 0 w) j && decide (keyW W j < keyW W w)) (W 6 0) 0 0
    have hbd' : plc W (W 0 w) w ≤ 24 := by unfold plc; omega
    simp only [gk_jn, nI_1, Option.bind_some, bI_0, nI_eq (show plc W (W 0 w) w < 2 ^ 31 by omega) hp]
    have ih := fun h' => lp_ino_s hl hB hW h8 hp (K := K) r n' (w + 1) (by omega) (by omega) h'
    by_cases eo : onOf W l w = true
    · have e0 : W 0 w = l := by unfold onOf at eo; simp at eo; exact eo.2
      rw [if_neg (by rw [eo]; decide), e0]
      by_cases ep : plc W l w = p
      · rw [if_pos ep]
        cases ei : itr W l p with
        | zero =>
          have := (itr_ok hW l p).1 ei
          have := plc_tot l (show w < W 6 0 by omega) eo
          omega
        | succ v =>
          obtain ⟨v1, v2, v3⟩ := (itr_ok hW l p).2 v ei
          rw [if_neg (by omega), nN_s]
          by_cases e : keyW W v = keyW W w
          · rw [key_inj hW v w v1 (by omega) e]
          · rcases Nat.lt_or_gt_of_ne e with g | g
            · have := plc_lt l v1 v2 g; omega
            · have := plc_lt l (show w < W 6 0 by omega) eo g; omega
      · rw [if_neg ep]
        exact ih (fun j hj' => by
          by_cases e : j = w
          · subst e; exact fun g => ep g.2
          · exact hj j (by omega))
    · rw [if_pos (by simpa using eo)]
      exact ih (fun j hj' => by
        by_cases e : j = w
        · subst e; exact fun g => eo g.1
        · exact hj j (by omega))
theorem u_inOrder (hl : hL LN RF h o n b) (hB : BR b M W) (hW : WB W) {l p : Nat} (h8 : l < 100) (hp : p < 2 ^ 31) : f_X6_inOrder LN RF b (nI l) (nI p) M = some (nN (itr W l p)) := by
  have hn := hW.1
  unfold f_X6_inOrder
  simp only [gk_jn]
  rw [nI_z, lp_ino_s hl hB hW h8 hp (W 6 0) gk_fuel 0 (by omega) (fuel_gt (by omega)) (fun j hj => by omega)]
  by_cases e : itr W l p = 0
  · rw [if_pos e, e, nN_0]
  · rw [if_neg e]
theorem lp_lt102_s (hm : mL LN RF m) (hR : MR m M W S) (hW : WB W) {l : Nat} (h8 : l < 8) {K : Int32 → Option Int32} : ∀ r n' w a, w + r = W 6 0 → r < n' → lp_X8_lineTold_102 LN RF m (nI l) M K n' (nI a, nI w) = K (nI (cnf (onOf W l) r w a))
  | r, 0, w, a, _, g => absurd g (by omega)
  | 0, n' + 1, w, a, g1, g2 => by
    rw [lp_X8_lineTold_102, mr_W hm hR, if_pos (nI_le (by omega) (by have := hW.1; omega))]; rfl
  | r + 1, n' + 1, w, a, g1, g2 => by
    have hn := hW.1
    have hb := hW.2 w (by omega)
    have ih := fun a' => lp_lt102_s hm hR hW h8 (K := K) r n' (w + 1) a' (by omega) (by omega)
    rw [lp_X8_lineTold_102, mr_W hm hR, if_neg (nI_ge (by omega) (by omega)), mr_0 hm hR (by omega)]
    simp only [gk_jn, nI_1, mr_5 hm hR (show w < 24 by omega), nI_eq (show W 0 w < 2 ^ 31 by omega) (show l < 2 ^ 31 by omega)]
    rw [cnf]
    unfold onOf at ih ⊢
    by_cases e1 : W 0 w = l
    · rw [if_pos e1]
      by_cases e5 : W 5 w = 0
      · rw [e5, if_neg (by simp), show nI a + nI 0 = nI a from by rw [show nI 0 = (0 : Int32) from rfl, Int32.add_zero], ih]
      · rw [show W 5 w = 1 by omega, if_pos (by simp [e1]), show nI a + nI 1 = nI (a + 1) from nI_1 a, ih]
    · rw [if_neg e1, if_neg (by simp [e1]), Int32.add_zero, ih]
theorem itr_st {W : zS} {l p : Nat} (h : itr W l p = 0) : ∀ d, itr W l (p + d) = 0
  | 0 => h
  | d + 1 => by rw [← Nat.add_assoc, itr, if_pos (itr_st h d)]
theorem lp_lt160_s (hm : mL LN RF m) (hR : MR m M W S) (hW : WB W) {l q : Nat} (h8 : l < 8) (hq : q + 5 < 2 ^ 31) {K : Int32 → Option Int32} : ∀ n' p, p ≤ q → 26 < n' + p → p ≤ 25 → lp_X8_lineTold_160 LN RF m (nI l) (nI (q + 5)) M K n' (nN (itr W l p), nI (5 + p)) = K (nN (itr W l q))
  | 0, p, hpq, g, g2 => absurd g (by omega)
  | n' + 1, p, hpq, g, g2 => by
    have hn := hW.1
    rw [lp_X8_lineTold_160]
    simp only [nI_leI (show q + 5 < 2 ^ 31 by omega) (show 5 + p < 2 ^ 31 by omega), nI_1]
    by_cases e : q + 5 ≤ 5 + p
    · rw [if_pos e, show p = q by omega]
    · rw [if_neg e]
      cases ei : itr W l p with
      | zero =>
        rw [if_pos (by decide)]
        have := itr_st ei (q - p)
        rw [show p + (q - p) = q by omega] at this
        rw [this]
      | succ v =>
        obtain ⟨v1, v2, v3⟩ := (itr_ok hW l p).2 v ei
        rw [nN_s, if_neg (nI_pos (by omega)), ← nN_s v, t_wishBehind hm hR hW h8 (by omega)]
        simp only [Option.bind_some]
        have hs : itr W l (p + 1) = amin (keyW W) (nxtP W l (v + 1)) (W 6 0) := by rw [itr, ei, if_neg (by omega)]
        have hbd : p < 25 := by
          have := plc_tot l v1 v2
          have h2 := cn_bd (onOf W l) (W 6 0) 0 0
          unfold tot at this
          omega
        rw [← hs]
        exact lp_lt160_s hm hR hW h8 hq (K := K) n' (p + 1) (by omega) (by omega) (by omega)
theorem q_lineTold (hx : xL LN RF x) (hm : mL LN RF m) (hH : HR (x + 1) 27 M S) (hB : BR (x + 2) M W) (hR : MR m M' W S) (hW : WB W) (hI : SI 60 S) (y z : Int32) : Ag (f_X7_lineTold LN RF x y z M) (f_X8_lineTold LN RF m y z M') := by
  have h1 := hI.1
  have hn := hW.1
  have hS := hI.sb (Nat.le_refl 60)
  unfold f_X7_lineTold f_X8_lineTold
  rw [hx.1, u_isLine hH, t_isLine hm hR, show inR y 0 ((nI (S 20 0)).toInt - 1) = isL (S 20 0) y from rfl]
  simp only [Option.bind_some, bI_0, gk_jn]
  refine Ag.ite (fun _ => Ag.mk) (fun e => ?_)
  have e' : isL (S 20 0) y = true := by simpa using e
  obtain ⟨l, hl, rfl⟩ := isL_s (by omega) e'
  by_cases z0 : 0 ≤ z
  · rw [if_pos z0, t_callOf hm hR hS (by omega)]
    simp only [Option.bind_some]
    have hv := hH.2.2.1 l (by omega)
    refine Ag.sn (fun _ => ?_) (fun n0 => Ag.sn (fun _ => ?_) (fun n1 => Ag.sn (fun _ => ?_) (fun n2 => Ag.sn (fun _ => ?_) (fun n3 => Ag.sn (fun _ => ?_) (fun n4 => Ag.s0 ?_)))))
    · rw [ha_2 hx.2.1 (by omega)]; exact Ag.eq hv.1
    · rw [ha_3 hx.2.1 (by omega), t_knockAt hm hR hS (by omega)]; exact Ag.eq hv.2.1
    · rw [ha_4 hx.2.1 (by omega), mr_19 hm hR (by omega)]; exact Ag.eq hv.2.2
    · rw [u_isRinging hx.2.1 hH (Nat.le_refl 60) hI (by omega)]
      have hle := cOf_le S l
      simp only [Option.bind_some, bI_0, nN_lt0 (show cOf S l < 2 ^ 31 by omega)]
      cases hc : cOf S l with
      | zero =>
        have : rinS S l = false := by unfold rinS; rw [hc]; rfl
        rw [this, if_pos rfl, if_pos rfl]; exact Ag.mk
      | succ c =>
        obtain ⟨hcn, -⟩ := cOf_s hc
        rw [if_neg (show ¬ c + 1 = 0 by omega), nN_s, mr_12 hm hR (by omega), bit_ge _ (hS.2.1 c hcn).2.2.2.1 l (by omega), rin_c hc]
        simp only [bI_1]
        cases (S 12 c).testBit l <;> exact Ag.mk
    · unfold f_X6_countOn
      simp only [gk_jn]
      rw [hx.2.1.1.1, show ((0 : Int32), (0 : Int32)) = (nI 0, nI 0) from rfl, lp_con_s hx.2.1 hB hW (show l < 100 by omega) (W 6 0) gk_fuel 0 0 (by omega) (fuel_gt (by omega)), lp_lt102_s hm hR hW (show l < 8 by omega) (W 6 0) gk_fuel 0 0 (by omega) (fuel_gt (by omega))]
      exact Ag.mk
    · obtain ⟨q', hq', rfl⟩ : ∃ q', q' < 2 ^ 31 ∧ z = nI q' := ⟨z.toInt.toNat, by have := Int32.toInt_lt z; omega, by
        have g0 : 0 ≤ z.toInt := by have := Int32.le_iff_toInt_le.mp z0; simpa using this
        rw [← Int32.toInt_inj, nI_toInt (by have := Int32.toInt_lt z; omega)]; omega⟩
      have h5 : 5 ≤ q' := by
        rcases Nat.lt_or_ge q' 5 with g | g
        · have : q' = 0 ∨ q' = 1 ∨ q' = 2 ∨ q' = 3 ∨ q' = 4 := by omega
          rcases this with rfl | rfl | rfl | rfl | rfl
          · exact absurd rfl n0
          · exact absurd rfl n1
          · exact absurd rfl n2
          · exact absurd rfl n3
          · exact absurd rfl n4
        · exact g
      obtain ⟨q, rfl⟩ : ∃ q, q' = q + 5 := ⟨q' - 5, by omega⟩
      rw [show (5 : Int32) = nI 5 from rfl, if_pos (by rw [nI_leI (by omega) (by omega)]; omega), show nI (q + 5) - nI 5 = nI q from by unfold nI; rw [Int32.ofNat_add, Int32.add_sub_cancel], hx.2.1.1.1, u_inOrder hx.2.1 hB hW (by omega) (by omega), ← nN_0, t_wishBehind hm hR hW (by omega) (by omega)]
      simp only [Option.bind_some]
      have := lp_lt160_s hm hR hW (show l < 8 by omega) hq' (K := fun y => some y) gk_fuel 0 (by omega) (by have := fuel_gt (r := 26) (by omega); omega) (by omega)
      rw [show nN (amin (keyW W) (nxtP W l 0) (W 6 0)) = nN (itr W l 0) from rfl]
      exact ⟨_, rfl, this⟩
  · rw [if_neg z0]
    have hz : ∀ j : Int32, 0 ≤ j → z ≠ j := fun j hj e => z0 (e ▸ hj)
    rw [gk_sw, if_neg (hz _ (by decide)), gk_sw, if_neg (hz _ (by decide)), gk_sw, if_neg (hz _ (by decide)), gk_sw, if_neg (hz _ (by decide)), gk_sw, if_neg (hz _ (by decide)), gk_sw, if_neg (fun g => z0 (Int32.le_iff_toInt_le.mpr (by have := Int32.le_iff_toInt_le.mp g; simp at this ⊢; omega)))]
    exact Ag.mk
end OR
