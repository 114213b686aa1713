theorem set_same {α : Type} {L : List α} {i : Nat} {e : α} (h : L[i]? = some e) : L.set i e ++ [] = L := by
  rw [List.append_nil]
  apply List.ext_getElem?
  intro j
  rw [List.getElem?_set]
  by_cases hj : i = j
  · subst hj
    rw [if_pos rfl, if_pos (List.getElem?_eq_some_iff.mp h).1, h]
  · rw [if_neg hj]
theorem at_end {α : Type} {L : List α} {n : Nat} {x : α} {M : List α} (h : L.length = n) : (L ++ x :: M)[n]? = some x := by
  subst h; simp
theorem set_end {α : Type} {L : List α} {n : Nat} {x y : α} {M : List α} (h : L.length = n) : (L ++ x :: M).set n y = L ++ y :: M := by
  subst h; simp
theorem dl_eq {Z : dj_Z} {D : va_G} {cA : Nat → ClassId} {nL pc : Nat} {lv : List (Nat × Value)} {st : List Value} {o h : Nat} {e0 : va_E} {L : List va_E} {n n' cells cells' slots slots' : Nat} (h1 : n = n') (h2 : cells = cells') (h3 : slots = slots') (g : dl Z D cA nL pc lv st o h e0 L n' cells' slots') : dl Z D cA nL pc lv st o h e0 L n cells slots := by
  subst h1; subst h2; subst h3; exact g
theorem bookL_len {cA : Nat → ClassId} {h : Nat} : (bookL cA h).length = 25 := rfl
theorem houseL_len {cA : Nat → ClassId} {h room : Nat} : (houseL cA h room).length = 6 + room := by simp [houseL]; omega
def sheetsL (cA : Nat → ClassId) : List va_E := [mI cA 4 4, zI cA 4, zI cA 160]
theorem ctX4 {l : Launch} {D : va_G} {cA : Nat → ClassId} {o h : Nat} : CL l D cA yX4_init cX4_init 2 1 3 168 [.ref o] o (.inr (4, zF4)) h (.inr (4, [.ref h, .ref (h + 1), .ref (h + 2)])) (sheetsL cA) := by
  refine dl_met rfl (by show 1 ≤ _; decide) rfl rfl fun Z hC hN hR ho => ?_
  have hn : ([] : List va_E).length = 0 := rfl
  have lp : ∀ k i : Nat, i + k = 4 → dl Z D cA 2 29 [(0, .ref o), (1, .int (nI i))] [] o h (.inr (4, [.ref h, .ref (h + 1), .ref (h + 2)])) [mI cA 4 i, zI cA 4, zI cA 160] 3 3 168 := by
    intro k
    induction k with
    | zero =>
      intro i hi
      obtain rfl : 4 = i := by omega
      refine dj_iload_n hC 1 dX4_init_29 rfl rfl ?_
      refine dj_iconst hC (v := nI 4) dX4_init_30 rfl rfl ?_
      refine dj_icmp_ge hC (tg := 47) dX4_init_31 rfl rfl (fun _ => ?_) (fun hx => absurd (nI_le (a := 4) (b := 4) (Nat.le_refl _) (by omega)) hx)
      exact dl_ret hC hR dX4_init_47 rfl rfl rfl (by decide) (by decide)
    | succ k ih =>
      intro i hi
      have hn : ([mI cA 4 i, zI cA 4, zI cA 160] : List va_E).length = 3 := by rfl
      refine dj_iload_n hC 1 dX4_init_29 rfl rfl ?_
      refine dj_iconst hC (v := nI 4) dX4_init_30 rfl rfl ?_
      refine dj_icmp_ge hC (tg := 47) dX4_init_31 rfl rfl (fun hx => absurd hx (nI_ge (a := i) (b := 4) (by omega) (by omega))) (fun _ => ?_)
      refine dj_aload_n hC 0 dX4_init_34 rfl rfl ?_
      refine dl_get hC bX4 0 (by decide) (gk_t2 (List.mem_of_getElem? (i := 23) rfl) rfl) rfl dX4_init_35 rfl ?_
      refine dj_iload_n hC 1 dX4_init_38 rfl rfl ?_
      refine dj_iconst hC (v := -1) dX4_init_39 rfl rfl ?_
      refine dl_iast hC ho hn (i := 0) rfl (by omega) (by decide) dX4_init_40 rfl (L' := [mI cA 4 (i + 1), zI cA 4, zI cA 160]) (congrArg (fun e => [e, zI cA 4, zI cA 160]) mI_s) fun hn => ?_
      refine dj_iinc hC 1 [1, 0] dX4_init_41 rfl rfl (by decide) (show _ = [(0, .ref o), (1, .int (nI (i + 1)))] by rw [nI_succ]; rfl) rfl ?_
      refine dj_goto hC (q := 29) dX4_init_44 rfl ?_
      exact ih (i + 1) (by omega)
  refine dj_aload_n hC 0 dX4_init_0 rfl rfl ?_
  refine dj_objInit hC (by decide) (gk_t2 (List.mem_of_getElem? (i := 22) rfl) rfl) (gk_t1 (List.mem_of_getElem? (i := 19) rfl) rfl) (gk_t1 (List.mem_of_getElem? (i := 20) rfl) rfl) dX4_init_1 rfl ?_
  refine dj_aload_n hC 0 dX4_init_4 rfl rfl ?_
  refine dj_iconst hC dX4_init_5 rfl rfl ?_
  refine dl_newa hC ho hn (gk_t1 (List.mem_of_getElem? (i := 144) rfl) rfl) (N := 4) (by rfl) (by decide) dX4_init_6 (by omega) (by omega) rfl (L' := [zI cA 4]) rfl fun hn => ?_
  refine dl_putF hC hN ho hn bX4 0 (by decide) (gk_t2 (List.mem_of_getElem? (i := 23) rfl) rfl) rfl rfl rfl rfl (by show 0 < 3; decide) dX4_init_8 rfl (fs' := [.ref h, .null, .null]) rfl ?_
  refine dj_aload_n hC 0 dX4_init_11 rfl rfl ?_
  refine dj_iconst hC dX4_init_12 rfl rfl ?_
  refine dl_newa hC ho hn (gk_t1 (List.mem_of_getElem? (i := 144) rfl) rfl) (N := 4) (by rfl) (by decide) dX4_init_13 (by omega) (by omega) rfl (L' := [zI cA 4, zI cA 4]) rfl fun hn => ?_
  refine dl_putF hC hN ho hn bX4 1 (by decide) (gk_t2 (List.mem_of_getElem? (i := 25) rfl) rfl) rfl rfl rfl rfl (by show 1 < 3; decide) dX4_init_15 rfl (fs' := [.ref h, .ref (h + 1), .null]) rfl ?_
  refine dj_aload_n hC 0 dX4_init_18 rfl rfl ?_
  refine dj_sipush hC dX4_init_19 rfl rfl ?_
  refine dl_newa hC ho hn (gk_t1 (List.mem_of_getElem? (i := 144) rfl) rfl) (N := 160) (by rfl) (by decide) dX4_init_22 (by omega) (by omega) rfl (L' := [zI cA 4, zI cA 4, zI cA 160]) rfl fun hn => ?_
  refine dl_putF hC hN ho hn bX4 2 (by decide) (gk_t2 (List.mem_of_getElem? (i := 26) rfl) rfl) rfl rfl rfl rfl (by show 2 < 3; decide) dX4_init_24 rfl (fs' := [.ref h, .ref (h + 1), .ref (h + 2)]) rfl ?_
  refine dj_iconst hC (v := nI 0) dX4_init_27 rfl rfl ?_
  refine dj_istore_n hC [1, 0] dX4_init_28 (by decide) rfl rfl ?_
  have h0 := lp 4 0 rfl
  rw [← mI_0] at h0
  exact h0
theorem ctX6 {l : Launch} {D : va_G} {cA : Nat → ClassId} {o h : Nat} : CL l D cA yX6_init cX6_init 2 2 25 168 [.ref o] o (.inr (6, zF6)) h (.inr (6, [.ref h, .int 0])) (bookL cA h) := by
  refine dl_met rfl (by show 1 ≤ _; decide) rfl rfl fun Z hC hN hR ho => ?_
  have hn : ([] : List va_E).length = 0 := rfl
  have lp : ∀ k i : Nat, i + k = 24 → dl Z D cA 2 15 [(0, .ref o), (1, .int (nI i))] [] o h (.inr (6, [.ref h, .int 0])) (qR cA 102 24 i (h + 1) 1 :: List.replicate i (.inr (5, zF5))) (1 + i) (1 + i) (24 + 6 * i) := by
    intro k
    induction k with
    | zero =>
      intro i hi
      obtain rfl : 24 = i := by omega
      refine dj_iload_n hC 1 dX6_init_15 rfl rfl ?_
      refine dj_bipush hC (v := nI 24) dX6_init_16 rfl rfl ?_
      refine dj_icmp_ge hC (tg := 40) dX6_init_18 rfl rfl (fun _ => ?_) (fun hx => absurd (nI_le (a := 24) (b := 24) (Nat.le_refl _) (by omega)) hx)
      exact dl_ret hC hR dX6_init_40 rfl rfl rfl (by decide) (by decide)
    | succ k ih =>
      intro i hi
      have hn : ((qR cA 102 24 i (h + 1) 1 :: List.replicate i (.inr (5, zF5))) : List va_E).length = (1 + i) := by rw [List.length_cons, List.length_replicate]; omega
      refine dj_iload_n hC 1 dX6_init_15 rfl rfl ?_
      refine dj_bipush hC (v := nI 24) dX6_init_16 rfl rfl ?_
      refine dj_icmp_ge hC (tg := 40) dX6_init_18 rfl rfl (fun hx => absurd hx (nI_ge (a := i) (b := 24) (by omega) (by omega))) (fun _ => ?_)
      refine dj_aload_n hC 0 dX6_init_21 rfl rfl ?_
      refine dl_get hC bX6 0 (by decide) (gk_t1 (List.mem_of_getElem? (i := 73) rfl) rfl) rfl dX6_init_22 rfl ?_
      refine dj_iload_n hC 1 dX6_init_25 rfl rfl ?_
      refine dl_new hC ho hn bX5 (gk_t1 (List.mem_of_getElem? (i := 29) rfl) rfl) (gk_t1 (List.mem_of_getElem? (i := 31) rfl) rfl) (gk_t1 (List.mem_of_getElem? (i := 4) rfl) rfl) (fs := zF5) rfl dX6_init_26 (by omega) (by omega) rfl (L' := (qR cA 102 24 i (h + 1) 1 :: List.replicate (i + 1) (.inr (5, zF5)))) (by rw [List.cons_append, ← List.replicate_succ']) fun hn => ?_
      refine dj_dup hC dX6_init_29 rfl rfl ?_
      have hat : ((qR cA 102 24 i (h + 1) 1 :: List.replicate (i + 1) (.inr (5, zF5))) : List va_E)[(1 + i)]? = some (.inr (5, zF5)) := by rw [Nat.add_comm 1 i, List.getElem?_cons_succ, List.getElem?_replicate, if_pos (by omega)]
      refine dl_callN hC ho hn (i := (1 + i)) (As := []) (fun l => ctX5) hat (fun _ h => h.2.2.2.1) oX5 rfl dX6_init_30 (by decide) (by omega) (by omega) (by show List.sum [1, 1, 1] ≤ 8; decide) rfl rfl rfl (L' := (qR cA 102 24 i (h + 1) 1 :: List.replicate (i + 1) (.inr (5, zF5)))) (set_same hat) fun hn => ?_
      refine dl_aast hC ho hn (t0 := 2) (tg := 102) (i := 0) (w := (1 + i)) bX5 rfl rfl hat (by omega) (by omega) dX6_init_33 rfl (L' := (qR cA 102 24 (i + 1) (h + 1) 1 :: List.replicate (i + 1) (.inr (5, zF5)))) (congrArg (fun e => (e :: List.replicate (i + 1) (.inr (5, zF5)) : List va_E)) (qR_s (by omega))) fun hn => ?_
      refine dj_iinc hC 1 [1, 0] dX6_init_34 rfl rfl (by decide) (show _ = [(0, .ref o), (1, .int (nI (i + 1)))] by rw [nI_succ]; rfl) rfl ?_
      refine dj_goto hC (q := 15) dX6_init_37 rfl ?_
      exact dl_eq (by omega) (by omega) (by omega) (ih (i + 1) (by omega))
  refine dj_aload_n hC 0 dX6_init_0 rfl rfl ?_
  refine dj_objInit hC (by decide) (gk_t1 (List.mem_of_getElem? (i := 28) rfl) rfl) (gk_t1 (List.mem_of_getElem? (i := 19) rfl) rfl) (gk_t1 (List.mem_of_getElem? (i := 20) rfl) rfl) dX6_init_1 rfl ?_
  refine dj_aload_n hC 0 dX6_init_4 rfl rfl ?_
  refine dj_bipush hC dX6_init_5 rfl rfl ?_
  refine dl_newq hC ho hn (gk_t1 (List.mem_of_getElem? (i := 29) rfl) rfl) (fun _ h => h.1) (t0 := 2) (tg := 102) rfl (N := 24) (by rfl) (by decide) dX6_init_7 (by omega) (by omega) rfl (L' := [qR cA 102 24 0 (h + 1) 1]) (congrArg (fun e => [e]) (qR_0 cA 102 24 (h + 1) 1)) fun hn => ?_
  refine dl_putF hC hN ho hn bX6 0 (by decide) (gk_t1 (List.mem_of_getElem? (i := 73) rfl) rfl) rfl rfl rfl rfl (by show 0 < 2; decide) dX6_init_10 rfl (fs' := [.ref h, .int 0]) rfl ?_
  refine dj_iconst hC (v := nI 0) dX6_init_13 rfl rfl ?_
  refine dj_istore_n hC [1, 0] dX6_init_14 (by decide) rfl rfl ?_
  exact lp 24 0 rfl
theorem ctX2 {l : Launch} {D : va_G} {cA : Nat → ClassId} {o h : Nat} {b room : Nat} (hr : room < 1000) : CL l D cA yX2_init cX2_init 4 2 (6 + room) (40 + 12 * room) [.ref o, .ref b, .int (nI room)] o (.inr (2, zF2)) h (houseO b h) (houseL cA h room) := by
  refine dl_met rfl (by show 3 ≤ _; decide) rfl rfl fun Z hC hN hR ho => ?_
  have hn : ([] : List va_E).length = 0 := rfl
  have lq : ∀ k i : Nat, i + k = 8 → dl Z D cA 4 85 [(0, .ref o), (1, .ref b), (2, .int (nI room)), (3, .int (nI i))] [] o h (.inr (2, [.ref b, .ref (h + 5), .ref (h + 0), .ref (h + 1), .ref (h + 2), .ref (h + 3), .ref (h + 4), .int 0, .int 0, .int 0, .int 0])) ([mI cA 8 i, mI cA 8 i, zI cA 8, zI cA 8, zI cA 8, qR cA 101 room room (h + 6) 1] ++ List.replicate room (.inr (1, zF1))) (6 + room) (6 + room) (40 + 12 * room) := by
    intro k
    induction k with
    | zero =>
      intro i hi
      obtain rfl : 8 = i := by omega
      refine dj_iload_n hC 3 dX2_init_85 rfl rfl ?_
      refine dj_bipush hC (v := nI 8) dX2_init_86 rfl rfl ?_
      refine dj_icmp_ge hC (tg := 111) dX2_init_88 rfl rfl (fun _ => ?_) (fun hx => absurd (nI_le (a := 8) (b := 8) (Nat.le_refl _) (by omega)) hx)
      exact dl_ret hC hR dX2_init_111 rfl rfl houseL_len (by omega) (by omega)
    | succ k ih =>
      intro i hi
      have hn : (([mI cA 8 i, mI cA 8 i, zI cA 8, zI cA 8, zI cA 8, qR cA 101 room room (h + 6) 1] ++ List.replicate room (.inr (1, zF1))) : List va_E).length = (6 + room) := by simp; omega
      refine dj_iload_n hC 3 dX2_init_85 rfl rfl ?_
      refine dj_bipush hC (v := nI 8) dX2_init_86 rfl rfl ?_
      refine dj_icmp_ge hC (tg := 111) dX2_init_88 rfl rfl (fun hx => absurd hx (nI_ge (a := i) (b := 8) (by omega) (by omega))) (fun _ => ?_)
      refine dj_aload_n hC 0 dX2_init_91 rfl rfl ?_
      refine dl_get hC bX2 2 (by decide) (gk_t1 (List.mem_of_getElem? (i := 150) rfl) rfl) rfl dX2_init_92 rfl ?_
      refine dj_iload_n hC 3 dX2_init_95 rfl rfl ?_
      refine dj_iconst hC (v := -1) dX2_init_96 rfl rfl ?_
      refine dl_iast hC ho hn (i := 0) rfl (by omega) (by decide) dX2_init_97 rfl (L' := ([mI cA 8 (i + 1), mI cA 8 i, zI cA 8, zI cA 8, zI cA 8, qR cA 101 room room (h + 6) 1] ++ List.replicate room (.inr (1, zF1)))) (congrArg (fun e => ([e, mI cA 8 i, zI cA 8, zI cA 8, zI cA 8, qR cA 101 room room (h + 6) 1] ++ List.replicate room (.inr (1, zF1)) : List va_E)) mI_s) fun hn => ?_
      refine dj_aload_n hC 0 dX2_init_98 rfl rfl ?_
      refine dl_get hC bX2 3 (by decide) (gk_t1 (List.mem_of_getElem? (i := 152) rfl) rfl) rfl dX2_init_99 rfl ?_
      refine dj_iload_n hC 3 dX2_init_102 rfl rfl ?_
      refine dj_iconst hC (v := -1) dX2_init_103 rfl rfl ?_
      refine dl_iast hC ho hn (i := 1) rfl (by omega) (by decide) dX2_init_104 rfl (L' := ([mI cA 8 (i + 1), mI cA 8 (i + 1), zI cA 8, zI cA 8, zI cA 8, qR cA 101 room room (h + 6) 1] ++ List.replicate room (.inr (1, zF1)))) (congrArg (fun e => ([mI cA 8 (i + 1), e, zI cA 8, zI cA 8, zI cA 8, qR cA 101 room room (h + 6) 1] ++ List.replicate room (.inr (1, zF1)) : List va_E)) mI_s) fun hn => ?_
      refine dj_iinc hC 3 [1, 2, 3, 0] dX2_init_105 rfl rfl (by decide) (show _ = [(0, .ref o), (1, .ref b), (2, .int (nI room)), (3, .int (nI (i + 1)))] by rw [nI_succ]; rfl) rfl ?_
      refine dj_goto hC (q := 85) dX2_init_108 rfl ?_
      exact ih (i + 1) (by omega)
  have lp : ∀ k i : Nat, i + k = room → dl Z D cA 4 59 [(0, .ref o), (1, .ref b), (2, .int (nI room)), (3, .int (nI i))] [] o h (.inr (2, [.ref b, .ref (h + 5), .ref (h + 0), .ref (h + 1), .ref (h + 2), .ref (h + 3), .ref (h + 4), .int 0, .int 0, .int 0, .int 0])) ([zI cA 8, zI cA 8, zI cA 8, zI cA 8, zI cA 8, qR cA 101 room i (h + 6) 1] ++ List.replicate i (.inr (1, zF1))) (6 + i) (6 + i) (40 + room + 11 * i) := by
    intro k
    induction k with
    | zero =>
      intro i hi
      obtain rfl : room = i := by omega
      refine dj_iload_n hC 3 dX2_init_59 rfl rfl ?_
      refine dj_iload_n hC 2 dX2_init_60 rfl rfl ?_
      refine dj_icmp_ge hC (tg := 83) dX2_init_61 rfl rfl (fun _ => ?_) (fun hx => absurd (nI_le (a := room) (b := room) (Nat.le_refl _) (by omega)) hx)
      refine dj_iconst hC (v := nI 0) dX2_init_83 rfl rfl ?_
      refine dj_istore_n hC [1, 2, 3, 0] dX2_init_84 (by decide) rfl rfl ?_
      have h0 := lq 8 0 rfl
      rw [← mI_0] at h0
      exact dl_eq rfl rfl (by omega) h0
    | succ k ih =>
      intro i hi
      have hn : (([zI cA 8, zI cA 8, zI cA 8, zI cA 8, zI cA 8, qR cA 101 room i (h + 6) 1] ++ List.replicate i (.inr (1, zF1))) : List va_E).length = (6 + i) := by simp; omega
      refine dj_iload_n hC 3 dX2_init_59 rfl rfl ?_
      refine dj_iload_n hC 2 dX2_init_60 rfl rfl ?_
      refine dj_icmp_ge hC (tg := 83) dX2_init_61 rfl rfl (fun hx => absurd hx (nI_ge (a := i) (b := room) (by omega) (by omega))) (fun _ => ?_)
      refine dj_aload_n hC 0 dX2_init_64 rfl rfl ?_
      refine dl_get hC bX2 1 (by decide) (gk_t1 (List.mem_of_getElem? (i := 148) rfl) rfl) rfl dX2_init_65 rfl ?_
      refine dj_iload_n hC 3 dX2_init_68 rfl rfl ?_
      refine dl_new hC ho hn bX1 (gk_t1 (List.mem_of_getElem? (i := 88) rfl) rfl) (gk_t1 (List.mem_of_getElem? (i := 90) rfl) rfl) (gk_t1 (List.mem_of_getElem? (i := 5) rfl) rfl) (fs := zF1) rfl dX2_init_69 (by omega) (by omega) rfl (L' := ([zI cA 8, zI cA 8, zI cA 8, zI cA 8, zI cA 8, qR cA 101 room i (h + 6) 1] ++ List.replicate (i + 1) (.inr (1, zF1)))) (by rw [List.append_assoc, ← List.replicate_succ']) fun hn => ?_
      refine dj_dup hC dX2_init_72 rfl rfl ?_
      have hat : (([zI cA 8, zI cA 8, zI cA 8, zI cA 8, zI cA 8, qR cA 101 room i (h + 6) 1] ++ List.replicate (i + 1) (.inr (1, zF1))) : List va_E)[(6 + i)]? = some (.inr (1, zF1)) := by rw [List.getElem?_append_right (by show 6 ≤ _; omega), List.getElem?_replicate, if_pos (by show 6 + i - 6 < _; omega)]
      refine dl_callN hC ho hn (i := (6 + i)) (As := []) (fun l => ctX1) hat (fun _ h => h.2.2.2.2.1) oX1 rfl dX2_init_73 (by decide) (by omega) (by omega) (by show List.sum [1, 1, 1] ≤ 8; decide) rfl rfl rfl (L' := ([zI cA 8, zI cA 8, zI cA 8, zI cA 8, zI cA 8, qR cA 101 room i (h + 6) 1] ++ List.replicate (i + 1) (.inr (1, zF1)))) (set_same hat) fun hn => ?_
      refine dl_aast hC ho hn (t0 := 1) (tg := 101) (i := 5) (w := (6 + i)) bX1 rfl rfl hat (by omega) (by omega) dX2_init_76 rfl (L' := ([zI cA 8, zI cA 8, zI cA 8, zI cA 8, zI cA 8, qR cA 101 room (i + 1) (h + 6) 1] ++ List.replicate (i + 1) (.inr (1, zF1)))) (congrArg (fun e => ([zI cA 8, zI cA 8, zI cA 8, zI cA 8, zI cA 8, e] ++ List.replicate (i + 1) (.inr (1, zF1)) : List va_E)) (qR_s (by omega))) fun hn => ?_
      refine dj_iinc hC 3 [1, 2, 3, 0] dX2_init_77 rfl rfl (by decide) (show _ = [(0, .ref o), (1, .ref b), (2, .int (nI room)), (3, .int (nI (i + 1)))] by rw [nI_succ]; rfl) rfl ?_
      refine dj_goto hC (q := 59) dX2_init_80 rfl ?_
      exact dl_eq (by omega) (by omega) (by omega) (ih (i + 1) (by omega))
  refine dj_aload_n hC 0 dX2_init_0 rfl rfl ?_
  refine dj_objInit hC (by decide) (gk_t1 (List.mem_of_getElem? (i := 87) rfl) rfl) (gk_t1 (List.mem_of_getElem? (i := 19) rfl) rfl) (gk_t1 (List.mem_of_getElem? (i := 20) rfl) rfl) dX2_init_1 rfl ?_
  refine dj_aload_n hC 0 dX2_init_4 rfl rfl ?_
  refine dj_bipush hC dX2_init_5 rfl rfl ?_
  refine dl_newa hC ho hn (gk_t1 (List.mem_of_getElem? (i := 144) rfl) rfl) (N := 8) (by rfl) (by decide) dX2_init_7 (by omega) (by omega) rfl (L' := [zI cA 8]) rfl fun hn => ?_
  refine dl_putF hC hN ho hn bX2 2 (by decide) (gk_t1 (List.mem_of_getElem? (i := 150) rfl) rfl) rfl rfl rfl rfl (by show 2 < 11; decide) dX2_init_9 rfl (fs' := [.null, .null, .ref (h + 0), .null, .null, .null, .null, .int 0, .int 0, .int 0, .int 0]) rfl ?_
  refine dj_aload_n hC 0 dX2_init_12 rfl rfl ?_
  refine dj_bipush hC dX2_init_13 rfl rfl ?_
  refine dl_newa hC ho hn (gk_t1 (List.mem_of_getElem? (i := 144) rfl) rfl) (N := 8) (by rfl) (by decide) dX2_init_15 (by omega) (by omega) rfl (L' := [zI cA 8, zI cA 8]) rfl fun hn => ?_
  refine dl_putF hC hN ho hn bX2 3 (by decide) (gk_t1 (List.mem_of_getElem? (i := 152) rfl) rfl) rfl rfl rfl rfl (by show 3 < 11; decide) dX2_init_17 rfl (fs' := [.null, .null, .ref (h + 0), .ref (h + 1), .null, .null, .null, .int 0, .int 0, .int 0, .int 0]) rfl ?_
  refine dj_aload_n hC 0 dX2_init_20 rfl rfl ?_
  refine dj_bipush hC dX2_init_21 rfl rfl ?_
  refine dl_newa hC ho hn (gk_t1 (List.mem_of_getElem? (i := 144) rfl) rfl) (N := 8) (by rfl) (by decide) dX2_init_23 (by omega) (by omega) rfl (L' := [zI cA 8, zI cA 8, zI cA 8]) rfl fun hn => ?_
  refine dl_putF hC hN ho hn bX2 4 (by decide) (gk_t1 (List.mem_of_getElem? (i := 154) rfl) rfl) rfl rfl rfl rfl (by show 4 < 11; decide) dX2_init_25 rfl (fs' := [.null, .null, .ref (h + 0), .ref (h + 1), .ref (h + 2), .null, .null, .int 0, .int 0, .int 0, .int 0]) rfl ?_
  refine dj_aload_n hC 0 dX2_init_28 rfl rfl ?_
  refine dj_bipush hC dX2_init_29 rfl rfl ?_
  refine dl_newa hC ho hn (gk_t1 (List.mem_of_getElem? (i := 144) rfl) rfl) (N := 8) (by rfl) (by decide) dX2_init_31 (by omega) (by omega) rfl (L' := [zI cA 8, zI cA 8, zI cA 8, zI cA 8]) rfl fun hn => ?_
  refine dl_putF hC hN ho hn bX2 5 (by decide) (gk_t1 (List.mem_of_getElem? (i := 156) rfl) rfl) rfl rfl rfl rfl (by show 5 < 11; decide) dX2_init_33 rfl (fs' := [.null, .null, .ref (h + 0), .ref (h + 1), .ref (h + 2), .ref (h + 3), .null, .int 0, .int 0, .int 0, .int 0]) rfl ?_
  refine dj_aload_n hC 0 dX2_init_36 rfl rfl ?_
  refine dj_bipush hC dX2_init_37 rfl rfl ?_
  refine dl_newa hC ho hn (gk_t1 (List.mem_of_getElem? (i := 144) rfl) rfl) (N := 8) (by rfl) (by decide) dX2_init_39 (by omega) (by omega) rfl (L' := [zI cA 8, zI cA 8, zI cA 8, zI cA 8, zI cA 8]) rfl fun hn => ?_
  refine dl_putF hC hN ho hn bX2 6 (by decide) (gk_t1 (List.mem_of_getElem? (i := 158) rfl) rfl) rfl rfl rfl rfl (by show 6 < 11; decide) dX2_init_41 rfl (fs' := [.null, .null, .ref (h + 0), .ref (h + 1), .ref (h + 2), .ref (h + 3), .ref (h + 4), .int 0, .int 0, .int 0, .int 0]) rfl ?_
  refine dj_aload_n hC 0 dX2_init_44 rfl rfl ?_
  refine dj_aload_n hC 1 dX2_init_45 rfl rfl ?_
  refine dl_putF hC hN ho hn bX2 0 (by decide) (gk_t1 (List.mem_of_getElem? (i := 145) rfl) rfl) rfl rfl rfl rfl (by show 0 < 11; decide) dX2_init_46 rfl (fs' := [.ref b, .null, .ref (h + 0), .ref (h + 1), .ref (h + 2), .ref (h + 3), .ref (h + 4), .int 0, .int 0, .int 0, .int 0]) rfl ?_
  refine dj_aload_n hC 0 dX2_init_49 rfl rfl ?_
  refine dj_iload_n hC 2 dX2_init_50 rfl rfl ?_
  refine dl_newq hC ho hn (gk_t1 (List.mem_of_getElem? (i := 88) rfl) rfl) (fun _ h => h.2.1) (t0 := 1) (tg := 101) rfl (N := room) (by rfl) (by omega) dX2_init_51 (by omega) (by omega) rfl (L' := [zI cA 8, zI cA 8, zI cA 8, zI cA 8, zI cA 8, qR cA 101 room 0 (h + 6) 1]) (congrArg (fun e => [zI cA 8, zI cA 8, zI cA 8, zI cA 8, zI cA 8, e]) (qR_0 cA 101 room (h + 6) 1)) fun hn => ?_
  refine dl_putF hC hN ho hn bX2 1 (by decide) (gk_t1 (List.mem_of_getElem? (i := 148) rfl) rfl) rfl rfl rfl rfl (by show 1 < 11; decide) dX2_init_54 rfl (fs' := [.ref b, .ref (h + 5), .ref (h + 0), .ref (h + 1), .ref (h + 2), .ref (h + 3), .ref (h + 4), .int 0, .int 0, .int 0, .int 0]) rfl ?_
  refine dj_iconst hC (v := nI 0) dX2_init_57 rfl rfl ?_
  refine dj_istore_n hC [1, 2, 3, 0] dX2_init_58 (by decide) rfl rfl ?_
  exact dl_eq rfl rfl (by omega) (lp room 0 (by omega))
