/-! The law's own body: the script's cells, its branches, its calls -/
def lkX : gk_Z → gk_Y → Nat → Nat → (Nat → Int32) → Prop
  | (_, _, _, _, s, _, _, _, _, _, _, _, _), Y, b, L, xs => va_X b L xs s s.heap ∧ b < s.heap.size ∧ ¬ gk_A Y b
abbrev lkL (b x m i : Nat) : List (Nat × Value) := [(0, .ref b), (1, .ref x), (2, .ref m), (3, .int (nI i))]
section LK
variable {Z : gk_Z} {Y : gk_Y} {cc : ByteArray} {nL d pc q : Nat} {own : String} {α : Type} {ρ : α → Option Value × gk_M} {lv lv' : List (Nat × Value)} {st : List Value} {M : gk_M} {k : Option α}
theorem lk_sld (hC : gk_C Z Y cc nL own d) {b L i : Nat} {xs : Nat → Int32} (hX : lkX Z Y b L xs) (hi : i < L) (hL : L ≤ 3584) (hd : decode cc pc = .ok (.iaload, 1)) (hq : pc + 1 = q) (h : gk_K Z Y nL ρ q lv (.int (xs i) :: st) M k) : gk_K Z Y nL ρ pc lv (.int (nI i) :: .ref b :: st) M k := by
  subst hq
  obtain ⟨p, l, e, R, s, m, args, below, meth, c, cells, slots, Qf⟩ := Z
  obtain ⟨hx, hb, -⟩ := hC
  obtain ⟨x1, x2, x3⟩ := hX
  intro z hk ls H locs hh hP hS
  refine va_sld hx hb x1 x2 x3 hS (nI_in hi (by omega)) hd ?_
  rw [nI_clamp (by omega)]
  exact h z hk ls H locs hh hP hS
theorem lk_slen (hC : gk_C Z Y cc nL own d) {b L : Nat} {xs : Nat → Int32} (hX : lkX Z Y b L xs) (hd : decode cc pc = .ok (.arraylength, 1)) (hq : pc + 1 = q) (h : gk_K Z Y nL ρ q lv (.int (nI L) :: st) M k) : gk_K Z Y nL ρ pc lv (.ref b :: st) M k := by
  subst hq
  obtain ⟨p, l, e, R, s, m, args, below, meth, c, cells, slots, Qf⟩ := Z
  obtain ⟨hx, hb, -⟩ := hC
  obtain ⟨x1, x2, x3⟩ := hX
  intro z hk ls H locs hh hP hS
  exact va_slen hx hb x1 x2 x3 hS hd (h z hk ls H locs hh hP hS)
theorem lk_gt (hC : gk_C Z Y cc nL own d) {x y : Int32} {off : Int} {tg : Nat} (hd : decode cc pc = .ok (.if_icmp .gt off, 3)) (ht : (pc : Int) + off = (tg : Int)) (hq : pc + 3 = q) (h1 : y < x → gk_K Z Y nL ρ tg lv st M k) (h2 : ¬ y < x → gk_K Z Y nL ρ q lv st M k) : gk_K Z Y nL ρ pc lv (.int y :: .int x :: st) M k := by
  subst hq
  obtain ⟨p, l, e, R, s, m, args, below, meth, c, cells, slots, Qf⟩ := Z
  obtain ⟨hx, hb, -⟩ := hC
  intro z hk ls H locs hh hP hS
  exact lv_icmp_gt hx hb hd ht (fun g => h1 g z hk ls H locs hh hP hS) (fun g => h2 g z hk ls H locs hh hP hS)
theorem lk_eq (hC : gk_C Z Y cc nL own d) {x : Int32} {off : Int} {tg : Nat} (hd : decode cc pc = .ok (.if_icmp .eq off, 3)) (ht : (pc : Int) + off = (tg : Int)) (h1 : gk_K Z Y nL ρ tg lv st M k) : gk_K Z Y nL ρ pc lv (.int x :: .int x :: st) M k := by
  obtain ⟨p, l, e, R, s, m, args, below, meth, c, cells, slots, Qf⟩ := Z
  obtain ⟨hx, hb, -⟩ := hC
  intro z hk ls H locs hh hP hS
  exact lv_icmp_eq hx hb hd ht (fun _ => h1 z hk ls H locs hh hP hS) (fun g => absurd rfl g)
theorem lk_if_eq (hC : gk_C Z Y cc nL own d) {x : Int32} {off : Int} {tg : Nat} (hd : decode cc pc = .ok (.ifCond .eq off, 3)) (ht : (pc : Int) + off = (tg : Int)) (hq : pc + 3 = q) (h1 : x = 0 → gk_K Z Y nL ρ tg lv st M k) (h2 : ¬ x = 0 → gk_K Z Y nL ρ q lv st M k) : gk_K Z Y nL ρ pc lv (.int x :: st) M k := by
  subst hq
  obtain ⟨p, l, e, R, s, m, args, below, meth, c, cells, slots, Qf⟩ := Z
  obtain ⟨hx, hb, -⟩ := hC
  intro z hk ls H locs hh hP hS
  exact lv_if_eq hx hb hd ht (fun g => h1 g z hk ls H locs hh hP hS) (fun g => h2 g z hk ls H locs hh hP hS)
theorem lk_tabIn (hC : gk_C Z Y cc nL own d) {dflt lo hi : Int} {offs : Array Int} {len : Nat} {x : Int32} {off : Int} {tg : Nat} (hd : decode cc pc = .ok (.tableswitch dflt lo hi offs, len)) (h1 : ¬ x.toInt < lo) (h2 : ¬ hi < x.toInt) (ho : offs[(x.toInt - lo).toNat]? = some off) (ht : (pc : Int) + off = (tg : Int)) (h : gk_K Z Y nL ρ tg lv st M k) : gk_K Z Y nL ρ pc lv (.int x :: st) M k := by
  obtain ⟨p, l, e, R, s, m, args, below, meth, c, cells, slots, Qf⟩ := Z
  obtain ⟨hx, hb, -⟩ := hC
  intro z hk ls H locs hh hP hS
  exact lv_tableIn hx hb hd h1 h2 ho ht (h z hk ls H locs hh hP hS)
theorem lk_tabOut (hC : gk_C Z Y cc nL own d) {dflt lo hi : Int} {offs : Array Int} {len : Nat} {x : Int32} {tg : Nat} (hd : decode cc pc = .ok (.tableswitch dflt lo hi offs, len)) (h1 : x.toInt < lo ∨ hi < x.toInt) (ht : (pc : Int) + dflt = (tg : Int)) (h : gk_K Z Y nL ρ tg lv st M k) : gk_K Z Y nL ρ pc lv (.int x :: st) M k := by
  obtain ⟨p, l, e, R, s, m, args, below, meth, c, cells, slots, Qf⟩ := Z
  obtain ⟨hx, hb, -⟩ := hC
  intro z hk ls H locs hh hP hS
  exact lv_tableOut hx hb hd h1 ht (h z hk ls H locs hh hP hS)
/-- a call whose picture is known -/
theorem lk_callV {idx dc maxL a n t N : Nat} {T : u_T} {y : MethodName} {bytes : ByteArray} {ret : Option FieldType} {As rest : List Value} {β : Type} {ρc : β → Option Value × gk_M} {kc : Option β} {x0 : β} (hC : gk_C Z Y cc nL own d) (hM : ∀ l, gk_MF l Y y bytes maxL ret dc (.ref a :: As) M ρc kc) (hk0 : kc = some x0) (hw : Cond.methodLink own idx y ∈ gk_U) (hO : gk_OV y bytes maxL ret n) (hd : decode cc pc = .ok (.invokevirtual idx, 3))
    (ha : gk_T Y t a) (ht : t < 100 ∧ vwCl[t - 10]? = some (y.cls, T, N)) (hn : As.length = n) (hdc : dc + 1 ≤ d) (hr : (rest.map fun v => v.category).sum ≤ 8) (hst : st = As.reverse ++ .ref a :: rest) (hq : pc + 3 = q) (h : gk_K Z Y nL ρ q lv ((ρc x0).1.toList ++ rest) (ρc x0).2 k) : gk_K Z Y nL ρ pc lv st M k := by
  subst hk0
  have g := gk_callV (ρ := ρ) (kk := fun y => @ite _ (y = x0) (Classical.propDecidable _) k none) hC hM hw hO hd ha ht hn hdc hr hst hq (fun y => by
    by_cases hy : y = x0
    · subst hy
      rw [if_pos rfl]
      exact h
    · rw [if_neg hy]
      exact gk_none)
  rw [show (some x0).bind (fun y => @ite _ (y = x0) (Classical.propDecidable _) k none) = k by show @ite _ (x0 = x0) (Classical.propDecidable _) k none = k; rw [if_pos rfl]] at g
  exact g
/-- a cell of the script, by the step's number -/
theorem lk_S (hC : gk_C Z Y cc nL own d) {b L i x m j : Nat} {n : Int} {xs : Nat → Int32} (hX : lkX Z Y b L xs) (hi : i + 7 ≤ L) (hL : L ≤ 3584) (hj : j < 7) (hv : Int32.ofInt n = nI j) (h0 : decode cc pc = .ok (.aload_n 0, 1)) (h1 : decode cc (pc + 1) = .ok (.iload_n 3, 1)) (h2 : decode cc (pc + 2) = .ok (.iconst n, 1)) (h3 : decode cc (pc + 3) = .ok (.iadd, 1)) (h4 : decode cc (pc + 4) = .ok (.iaload, 1)) (hq : pc + 5 = q) (h : gk_K Z Y nL ρ q (lkL b x m i) (.int (xs (i + j)) :: st) M k) : gk_K Z Y nL ρ pc (lkL b x m i) st M k := by
  subst hq
  refine gk_aload_n hC 0 h0 rfl rfl (gk_iload_n hC 3 h1 rfl rfl (gk_iconst hC h2 hv rfl (gk_iadd hC h3 rfl ?_)))
  rw [nI_add]
  exact lk_sld hC hX (by omega) hL h4 rfl h
theorem lk_S6 (hC : gk_C Z Y cc nL own d) {b L i x m : Nat} {xs : Nat → Int32} (hX : lkX Z Y b L xs) (hi : i + 7 ≤ L) (hL : L ≤ 3584) (h0 : decode cc pc = .ok (.aload_n 0, 1)) (h1 : decode cc (pc + 1) = .ok (.iload_n 3, 1)) (h2 : decode cc (pc + 2) = .ok (.bipush 6, 2)) (h3 : decode cc (pc + 4) = .ok (.iadd, 1)) (h4 : decode cc (pc + 5) = .ok (.iaload, 1)) (hq : pc + 6 = q) (h : gk_K Z Y nL ρ q (lkL b x m i) (.int (xs (i + 6)) :: st) M k) : gk_K Z Y nL ρ pc (lkL b x m i) st M k := by
  subst hq
  refine gk_aload_n hC 0 h0 rfl rfl (gk_iload_n hC 3 h1 rfl rfl (gk_bipush hC (v := nI 6) h2 rfl rfl (gk_iadd hC h3 rfl ?_)))
  rw [nI_add]
  exact lk_sld hC hX (by omega) hL h4 rfl h
end LK
/-- what holds at each turn of the law's loop -/
def LC (Z : gk_Z) (Y : gk_Y) (b L : Nat) (xs : Nat → Int32) (x m i : Nat) : Prop := gk_C Z Y cL_law 4 R_law 14 ∧ lkX Z Y b L xs ∧ LY (gk_ln Y) (gk_rf Y) x m ∧ gk_WF Y ∧ gk_T Y 17 x ∧ gk_T Y 18 m ∧ i + 7 ≤ L ∧ L ≤ 3584
theorem nI_room {L i : Nat} (hL : L ≤ 3584) (hi : i ≤ 4000) (h : ¬ nI L - 7 < nI i) : i + 7 ≤ L := by
  by_cases h7 : 7 ≤ L
  · obtain ⟨n, rfl⟩ : ∃ n, L = n + 7 := ⟨L - 7, by omega⟩
    rw [show nI (n + 7) - 7 = nI n by rw [← nI_add, show nI 7 = 7 from rfl, Int32.add_sub_cancel]] at h
    have := nI_lt (a := n) (b := i)
    by_cases hn : n < i
    · exact absurd (this hn (by omega)) h
    · omega
  · exfalso
    apply h
    have hc : L = 0 ∨ L = 1 ∨ L = 2 ∨ L = 3 ∨ L = 4 ∨ L = 5 ∨ L = 6 := by omega
    have hp := nI_pos' (n := i) (by omega)
    rcases hc with rfl | rfl | rfl | rfl | rfl | rfl | rfl <;> exact Int32.lt_of_lt_of_le (by decide) hp
