def lw_P (b : Addr) (xs : List Int32) (args : Array Value) (s : State) : Prop := args = #[.ref b] ∧ s.IntsAt b xs ∧ xs.length ≤ 3584 ∧ (Jvm.Cond.and given_1 narrow_1).before args s = true
def lw_Q (_ : Array Value) (s : State) (o : Outcome) (t : State) : Prop := o = .returned (some (.int 1)) ∧ Framed s o t [] 600000 7302250
def lw_Z (below : List Frame) (a : Array Value) (s : State) : State → Prop := fun t => ∃ o, t.status = .running ∧ Ended t below o ∧ lw_Q a s o t
/-- the law's own end, with 1 on the stack, nothing written that was there before, its room as the claim has it -/
theorem lw_ret {p : Program} {l : Launch} {e : Env} {s : State} {m : MethodId} {below : List Frame} {meth : Method} {c : Code} {b : Nat} (hx : p.tables.exec = Jvm.exec) (hb : c.code = code) (hr : meth.sig.returnType = ret) (hlocks : meth.locks = false) {pc : Nat} {H : Heap} {ls : Array Slot} (hdg : decode code pc = .ok (.ireturn, 1)) : W p l e room_1 s m #[Value.ref b] below meth c H [] 600000 7302250 (lw_Z below #[Value.ref b] s) (F0 m pc ls [.int 1]) := by
  intro T hT X
  obtain ⟨fs, hret, hrun, hended, hW, hframe⟩ := X.leave (v := some (.int 1)) (hlocks := hlocks) (fun h => by rw [hr] at h; cases h)
  have hmeth' : T.vm.method? m = some meth := X.method'
  refine ⟨T.setFrames fs, ?_, .returned (some (.int 1)), hrun, hended, rfl, ⟨_, rfl⟩, hW, hframe⟩
  jvm_step X.here [X.here.top, hx, hb, hdg, hmeth', hr, ret, narrow_b1]
  (try refine ⟨rfl, ?_⟩); (try refine ⟨rfl, ?_⟩)
  first | (intro acts; rw [hret _ acts rfl rfl rfl]) | rw [hret _ _ rfl rfl rfl]
  exact Steps.refl _
/-- what holds at the law's entry: the machine, the code, the tables' words (any of lw_tbl by 'hts w (by decide +kernel)'), the script of L ints xs at the cell b, what the Statement gives of the start (any of its parts by flat_of_before) -/
def lw_At (p : Program) (s : State) (m : MethodId) (meth : Method) (c : Code) (b L : Nat) (xs : Nat → Int32) : Prop :=
  p.tables.exec = Jvm.exec ∧ c.code = code ∧ meth.sig.returnType = ret ∧ c.maxLocals = 4 ∧ s.vm.findClass R_law = some m.cls ∧ (∀ w ∈ lw_tbl, w.before #[Value.ref b] s = true) ∧ va_X b L xs s s.heap ∧ b < s.heap.size ∧ meth.locks = false ∧ (Jvm.Cond.and given_1 narrow_1).before #[Value.ref b] s = true
/-! The whole: from the law's entry to its end -/
theorem lineL_len {cA : Nat → ClassId} {h : Nat} : (lineL cA h).length = 283 := by
  unfold lineL
  simp only [List.length_append, List.length_cons, List.length_nil, houseB_len, judgeL_len, sheetsL_len]
theorem t1_in {w : Cond} (h : w ∈ tables_1_1) : w ∈ lw_tbl := List.mem_append_right _ (List.mem_append_left _ h)
theorem dX_of {s : State} {A : Array Value} (hts : ∀ w ∈ lw_tbl, w.before A s = true) : dX s :=
  ⟨va_AO.of (hts _ (t1_in (List.mem_of_getElem? (i := 30) rfl))), va_AO.of (hts _ (t1_in (List.mem_of_getElem? (i := 89) rfl))), va_AO.of (hts _ (t1_in (List.mem_of_getElem? (i := 201) rfl))), va_Nw.of rfl (hts _ (t1_in (List.mem_of_getElem? (i := 32) rfl))), va_Nw.of rfl (hts _ (t1_in (List.mem_of_getElem? (i := 91) rfl))), va_Nw.of rfl (hts _ (t1_in (List.mem_of_getElem? (i := 232) rfl)))⟩
theorem va_K_start {s : State} {A : Array Value} (hU : ∀ w ∈ gk_U, w.before A s = true) (hX : dX s) : ∃ (D : va_G) (cA : Nat → ClassId), va_K D vwCl (dT cA) s := by
  obtain ⟨c0, i0, hk0⟩ := u_known hU inX0 (hU _ (gk_t1 (List.mem_of_getElem? (i := 231) rfl) rfl))
  obtain ⟨c1, i1, hk1⟩ := u_known hU inX1 (hU _ (gk_t1 (List.mem_of_getElem? (i := 90) rfl) rfl))
  obtain ⟨c2, i2, hk2⟩ := u_known hU inX2 (hU _ (gk_t1 (List.mem_of_getElem? (i := 22) rfl) rfl))
  obtain ⟨c3, i3, hk3⟩ := u_known hU inX3 (hU _ (gk_t1 (List.mem_of_getElem? (i := 193) rfl) rfl))
  obtain ⟨c4, i4, hk4⟩ := u_known hU inX4 (hU _ (gk_t2 (List.mem_of_getElem? (i := 18) rfl) rfl))
  obtain ⟨c5, i5, hk5⟩ := u_known hU inX5 (hU _ (gk_t1 (List.mem_of_getElem? (i := 31) rfl) rfl))
  obtain ⟨c6, i6, hk6⟩ := u_known hU inX6 (hU _ (gk_t1 (List.mem_of_getElem? (i := 24) rfl) rfl))
  obtain ⟨c7, i7, hk7⟩ := u_known hU inX7 (hU _ (gk_t1 (List.mem_of_getElem? (i := 14) rfl) rfl))
  obtain ⟨c8, i8, hk8⟩ := u_known hU inX8 (hU _ (gk_t4 (List.mem_of_getElem? (i := 54) rfl) rfl))
  obtain ⟨a0, ka0, comp0, ha0, hb0, hc0⟩ := Cond.arrayClass_spec (hU _ (gk_t1 (List.mem_of_getElem? (i := 144) rfl) rfl))
  obtain ⟨comp1, a1, ka1, f1, -, f2, f3, f4⟩ := Cond.arrayOver_spec hX.2.1
  obtain ⟨comp2, a2, ka2, g1, -, g2, g3, g4⟩ := Cond.arrayOver_spec hX.1
  obtain ⟨comp3, a3, ka3, h1, -, h2, h3, h4⟩ := Cond.arrayOver_spec hX.2.2.1
  refine ⟨(fun c => [c0, c1, c2, c3, c4, c5, c6, c7, c8].getD c c0, fun c => [i0, i1, i2, i3, i4, i5, i6, i7, i8].getD c i0), fun t => if t = 100 then a0 else if t = 101 then a1 else if t = 102 then a2 else a3, ?_, ?_⟩
  · intro c q hc
    match c, hc with
    | 0, hc => cases hc; exact hk0
    | 1, hc => cases hc; exact hk1
    | 2, hc => cases hc; exact hk2
    | 3, hc => cases hc; exact hk3
    | 4, hc => cases hc; exact hk4
    | 5, hc => cases hc; exact hk5
    | 6, hc => cases hc; exact hk6
    | 7, hc => cases hc; exact hk7
    | 8, hc => cases hc; exact hk8
    | n + 9, hc => cases hc
  · intro t q ht
    match t, ht with
    | 0, ht => cases ht; exact ⟨fun n z => ⟨(fun k h => by cases h), ka0, hb0, comp0, hc0⟩, ha0⟩
    | 1, ht => cases ht; exact ⟨fun n z => ⟨(fun k h => by cases h), ka1, f2, comp1, f3⟩, ka1, comp1, f2, f3, f1, f4⟩
    | 2, ht => cases ht; exact ⟨fun n z => ⟨(fun k h => by cases h), ka2, g2, comp2, g3⟩, ka2, comp2, g2, g3, g1, g4⟩
    | 3, ht => cases ht; exact ⟨fun n z => ⟨(fun k h => by cases h), ka3, h2, comp3, h3⟩, ka3, comp3, h2, h3, h1, h4⟩
    | n + 4, ht => cases ht
/-- the cells that the two constructors leave, by their distances -/
def wE1 (E : Nat → va_E) (x : Nat) : Nat → va_E := dU E x (.inr (7, zF7))
def wE2 (E : Nat → va_E) (cA : Nat → ClassId) (x : Nat) : Nat → va_E := dJ (wE1 E x) (dL x (x + 1) (lineO (x + 1)) (lineL cA (x + 1))) x (x + 1)
def wE3 (E : Nat → va_E) (cA : Nat → ClassId) (x : Nat) : Nat → va_E := dU (wE2 E cA x) (x + 284) (.inr (8, zF8))
def wE4 (E : Nat → va_E) (cA : Nat → ClassId) (x : Nat) : Nat → va_E := dJ (wE3 E cA x) (dL (x + 284) (x + 285) (modelO (x + 285)) (modelL cA)) (x + 284) (x + 285)
def wA (x : Nat) : List Nat := ((([] ++ [x]) ++ dR 283 (x + 1)) ++ [x + 284]) ++ dR 33 (x + 285)
theorem wA_mem {x i : Nat} (hi : i < 318) : x + i ∈ wA x := by
  unfold wA
  by_cases h1 : 285 ≤ i
  · exact List.mem_append_right _ (dR_mem.mpr ⟨by omega, by omega⟩)
  · refine List.mem_append_left _ ?_
    by_cases h2 : i = 284
    · subst h2; exact List.mem_append_right _ List.mem_cons_self
    · refine List.mem_append_left _ ?_
      by_cases h3 : i = 0
      · subst h3; exact List.mem_append_left _ (List.mem_append_right _ List.mem_cons_self)
      · exact List.mem_append_right _ (dR_mem.mpr ⟨by omega, by omega⟩)
theorem wE_sim {E : Nat → va_E} {cA : Nat → ClassId} {x i : Nat} (hi : i < 318) : Sim (wE4 E cA x (x + i)) (FF cA x i) := by
  unfold wE4 dJ
  by_cases h1 : 284 ≤ i
  · rw [if_pos (by omega)]
    unfold dL
    by_cases h2 : i = 284
    · subst h2; rw [if_pos rfl]; exact k_mod0
    · rw [if_neg (by omega), List.getD_eq_getElem?_getD, List.getElem?_eq_getElem (by show _ < 33; omega)]
      have := k_mod (cA := cA) (x := x) (i - 285) _ (List.getElem?_eq_getElem (by show _ < 33; omega))
      rw [show 285 + (i - 285) = i by omega] at this
      have e : x + i - (x + 285) = i - 285 := by omega
      simp only [e, Option.getD_some]
      exact this
  · rw [if_neg (by omega)]
    unfold wE3 dU
    rw [if_neg (by omega)]
    unfold wE2 dJ
    rw [if_pos (by omega)]
    unfold dL
    by_cases h2 : i = 0
    · subst h2; rw [if_pos (by omega)]; exact k_line0
    · rw [if_neg (by omega), List.getD_eq_getElem?_getD, List.getElem?_eq_getElem (by rw [lineL_len]; omega)]
      have := k_line (cA := cA) (x := x) (i - 1) _ (List.getElem?_eq_getElem (by rw [lineL_len]; omega))
      rw [show 1 + (i - 1) = i by omega] at this
      have e : x + i - (x + 1) = i - 1 := by omega
      simp only [e, Option.getD_some]
      exact this
theorem wE_P {D : va_G} {E : Nat → va_E} {cA : Nat → ClassId} {x : Nat} {H : Heap} (hP : va_P D vwCl (dW (wE4 E cA x) (wA x)) H) : va_P D vwCl (gk_ws (Y0 D cA x) (M0 x)) H := by
  intro k q hq
  have hq2 := List.mem_of_getElem? hq
  unfold gk_ws at hq2
  obtain ⟨r, hr, rfl⟩ := List.mem_map.mp hq2
  obtain ⟨i, hi, e1, e2⟩ := Y0_T.mp (show gk_T (Y0 D cA x) r.2 r.1 from hr)
  rw [e1, e2, ce_off]
  obtain ⟨q0, -, hat⟩ := dW_at (E := wE4 E cA x) (wA_mem (x := x) hi)
  exact (wE_sim hi).at (hP q0 _ hat)
theorem whole_start {p : Program} {e : Env} {s : State} {m : MethodId} {below : List Frame} {meth : Method} {c : Code} (l : Launch) {b L : Nat} {xs : Nat → Int32} (hL : L ≤ 3584) (C0 : lw_At p s m meth c b L xs) : W p l e room_1 s m #[Value.ref b] below meth c s.heap [] 0 0 (lw_Z below #[Value.ref b] s) (entryFrame m ([Value.ref b] : List Value).toArray 4) := by
  obtain ⟨hx, hb, hret, hml, hown, hts, hX, hbl, hlk, -⟩ := C0
  have hU : ∀ w ∈ gk_U, w.before #[Value.ref b] s = true := fun w hw => hts w (gk_Uin w hw)
  have hdX := dX_of hts
  obtain ⟨D, cA, hK⟩ := va_K_start hU hdX
  obtain ⟨x, hxs⟩ : ∃ x, s.heap.size = x := ⟨_, rfl⟩
  have hC : djC (p, l, e, room_1, s, m, #[Value.ref b], below, meth, c, lw_Z below #[Value.ref b] s) (D, cA, fun q => x ≤ q) cL_law 4 R_law 14 600000 7302250 := ⟨hx, hb, hml, hown, hU, hK, hdX, fun q hq => (by show x ≤ q; omega), by decide, by decide, by decide, by decide⟩
  have key : dj (p, l, e, room_1, s, m, #[Value.ref b], below, meth, c, lw_Z below #[Value.ref b] s) (D, cA, fun q => x ≤ q) 4 0 [(0, .ref b)] [] (fun _ => .inr (7, zF7)) [] x 0 0 := by
    have ct7 : ∀ l, CT l D cA yX7_init cX7_init 1 4 283 2898 (.ref x :: []) x (.inr (7, zF7)) (x + 1) (dL x (x + 1) (lineO (x + 1)) (lineL cA (x + 1))) 283 := fun l => by
      have h := ctX7 (l := l) (D := D) (cA := cA) (o := x) (h := x + 1)
      unfold CL at h
      rw [lineL_len] at h
      exact h
    have ct8 : ∀ l, CT l D cA yX8_init cX8_init 1 1 33 7611 (.ref (x + 284) :: []) (x + 284) (.inr (8, zF8)) (x + 285) (dL (x + 284) (x + 285) (modelO (x + 285)) (modelL cA)) 33 := fun l => ctX8 (l := l) (D := D) (cA := cA) (o := x + 284) (h := x + 285)
    have hO0 : dOK (fun q => x ≤ q) [] x := ⟨(fun i j a hi => by cases hi), fun a ha => absurd ha List.not_mem_nil⟩
    refine dj_new hC hO0 (gk_t1 (List.mem_of_getElem? (i := 13) rfl) rfl) (gk_t1 (List.mem_of_getElem? (i := 14) rfl) rfl) (gk_t1 (List.mem_of_getElem? (i := 1) rfl) rfl) bX7.1 bX7.2.1 tyX7 bX7.2.2.1 (fs := zF7) (dfs_of rfl) dL_law_0 (by decide) (by decide) rfl fun hO1 => ?_
    refine dj_dup hC dL_law_3 rfl rfl ?_
    refine dj_callI hC hO1 ct7 (List.mem_append_right _ List.mem_cons_self) (by unfold dU; rw [if_pos rfl]) (gk_t1 (List.mem_of_getElem? (i := 15) rfl) rfl) oX7 rfl dL_law_4 (by decide) (by decide) (by decide) (by show List.sum [1] ≤ 8; decide) rfl rfl fun hO2 => ?_
    refine dj_astore_n hC (lv' := [(0, .ref b), (1, .ref x)]) [1, 0] dL_law_7 (by decide) rfl rfl ?_
    change dj _ _ 4 8 _ [] (wE2 (fun _ => .inr (7, zF7)) cA x) (([] ++ [x]) ++ dR 283 (x + 1)) (x + 284) _ _
    change dOK _ _ (x + 284) at hO2
    refine dj_new hC hO2 (gk_t4 (List.mem_of_getElem? (i := 53) rfl) rfl) (gk_t4 (List.mem_of_getElem? (i := 54) rfl) rfl) (gk_t1 (List.mem_of_getElem? (i := 9) rfl) rfl) bX8.1 bX8.2.1 tyX8 bX8.2.2.1 (fs := zF8) (dfs_of rfl) dL_law_8 (by decide) (by decide) rfl fun hO3 => ?_
    refine dj_dup hC dL_law_11 rfl rfl ?_
    refine dj_callI hC hO3 ct8 (List.mem_append_right _ List.mem_cons_self) (by unfold dU; rw [if_pos rfl]) (gk_t4 (List.mem_of_getElem? (i := 55) rfl) rfl) oX8 rfl dL_law_12 (by decide) (by decide) (by decide) (by show List.sum [1] ≤ 8; decide) rfl rfl fun hO4 => ?_
    refine dj_astore_n hC (lv' := [(0, .ref b), (1, .ref x), (2, .ref (x + 284))]) [1, 2, 0] dL_law_15 (by decide) rfl rfl ?_
    refine dj_iconst hC (v := nI 0) dL_law_16 rfl rfl ?_
    refine dj_istore_n hC (lv' := lkL b x (x + 284) 0) [1, 2, 3, 0] dL_law_17 (by decide) rfl rfl ?_
    intro ls H locs hl hP hz hS
    have hP2 : va_P D vwCl (gk_ws (Y0 D cA x) (M0 x)) H := wE_P (E := fun _ => .inr (7, zF7)) hP
    refine W.widen (k := 600000) (n := 7302250) (by decide) (by decide) ?_
    have hG : gk_C (p, l, e, room_1, s, m, #[Value.ref b], below, meth, c, 600000, 7302250, fun _ => lw_Z below #[Value.ref b] s) (Y0 D cA x) cL_law 4 R_law 14 := ⟨hx, hb, hml, hown, hU, hK, Y0_WF, by decide, by decide, by decide, by decide⟩
    refine lk_loop (α := Unit) (ρ := fun _ => (none, M0 x)) (k := some ()) hG ⟨hX, hbl, fun g => by have : x ≤ b := g; omega⟩ Y0_LY Y0_WF (Y0_T.mpr ⟨0, by decide, rfl, rfl⟩) (Y0_T.mpr ⟨284, by decide, rfl, rfl⟩) hL (fun i M => ?_) L 0 (M0 x) (by omega) (by omega) M0_JJ () rfl ls H locs hl hP2 hS
    refine gk_iconst hG (v := 1) dL_law_1212 rfl rfl ?_
    intro z _ ls H locs hl hP hS
    exact va_forget (fun q hq => by have : x ≤ q.base := hS.2.2 q hq; omega) (lw_ret hx hb hret hlk dL_law_1213)
  have e0 : entryFrame m ([Value.ref b] : List Value).toArray 4 = F0 m 0 _ [] := lg_entry_eq ..
  rw [e0]
  exact key _ s.heap [] (lv_entry [Value.ref b] (by show 1 ≤ 4; decide)) (fun k q hq => by cases hq) hxs va_S.rf
