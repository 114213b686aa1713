def bookB (cA : Nat → ClassId) (h : Nat) : List va_E := .inr (6, [.ref (h + 1), .int 0]) :: bookL cA (h + 1)
def housesL (cA : Nat → ClassId) (h : Nat) : Nat → List va_E
  | 0 => []
  | i + 1 => housesL cA h i ++ (houseO h (h + (29 + 15 * i + 1)) :: houseL cA (h + (29 + 15 * i + 1)) 8)
theorem housesL_len {cA : Nat → ClassId} {h : Nat} : ∀ i, (housesL cA h i).length = 15 * i
  | 0 => rfl
  | i + 1 => by
    show (housesL cA h i ++ _).length = _
    rw [List.length_append, housesL_len i, List.length_cons, houseL_len]
    omega
def judgeH (cA : Nat → ClassId) (h i : Nat) : List va_E := bookB cA h ++ [qR cA 103 4 i (h + 29) 15, zI cA 13, zI cA 3]
def judgeL (cA : Nat → ClassId) (h : Nat) : List va_E := judgeH cA h 4 ++ housesL cA h 4
theorem judgeH_len {cA : Nat → ClassId} {h i : Nat} : (judgeH cA h i).length = 29 := rfl
theorem judgeH_set {cA : Nat → ClassId} {h i : Nat} {e : va_E} {M : List va_E} (he : e = qR cA 103 4 (i + 1) (h + 29) 15) : (judgeH cA h i ++ M).set 26 e = judgeH cA h (i + 1) ++ M := by subst he; rfl
abbrev judgeO (h : Nat) : va_E := .inr (3, [.ref h, .ref (h + 26), .ref (h + 27), .ref (h + 28), .int 0, .int 0, .int 0, .int 0])
theorem ctX3 {l : Launch} {D : va_G} {cA : Nat → ClassId} {o h : Nat} : CL l D cA yX3_init cX3_init 2 3 89 778 [.ref o] o (.inr (3, zF3)) h (judgeO h) (judgeL cA h) := by
  refine dl_met rfl (by show 1 ≤ _; decide) rfl rfl fun Z hC hN hR ho => ?_
  have hn : ([] : List va_E).length = 0 := rfl
  have lp : ∀ k i : Nat, i + k = 4 → dl Z D cA 2 40 [(0, .ref o), (1, .int (nI i))] [] o h (judgeO h) (judgeH cA h i ++ housesL cA h i) (29 + 15 * i) (29 + 15 * i) (190 + 147 * i) := by
    intro k
    induction k with
    | zero =>
      intro i hi
      obtain rfl : 4 = i := by omega
      refine dj_iload_n hC 1 dX3_init_40 rfl rfl ?_
      refine dj_iconst hC (v := nI 3) dX3_init_41 rfl rfl ?_
      refine dj_icmp_gt hC (tg := 70) dX3_init_42 rfl rfl (fun _ => ?_) (fun hx => absurd (nI_lt (a := 3) (b := 4) (by omega) (by omega)) hx)
      exact dl_ret hC hR dX3_init_70 rfl rfl (by rw [List.length_append, judgeH_len, housesL_len]) (by decide) (by decide)
    | succ k ih =>
      intro i hi
      have hn : ((judgeH cA h i ++ housesL cA h i) : List va_E).length = (29 + 15 * i) := by rw [List.length_append, judgeH_len, housesL_len]
      refine dj_iload_n hC 1 dX3_init_40 rfl rfl ?_
      refine dj_iconst hC (v := nI 3) dX3_init_41 rfl rfl ?_
      refine dj_icmp_gt hC (tg := 70) dX3_init_42 rfl rfl (fun hx => absurd hx (nI_nlt (a := 3) (b := i) (by omega) (by omega))) (fun _ => ?_)
      refine dj_aload_n hC 0 dX3_init_45 rfl rfl ?_
      refine dl_get hC bX3 1 (by decide) (gk_t1 (List.mem_of_getElem? (i := 205) rfl) rfl) rfl dX3_init_46 rfl ?_
      refine dj_iload_n hC 1 dX3_init_49 rfl rfl ?_
      have hn2 := hn
      refine dl_new hC ho hn bX2 (gk_t1 (List.mem_of_getElem? (i := 200) rfl) rfl) (gk_t1 (List.mem_of_getElem? (i := 22) rfl) rfl) (gk_t1 (List.mem_of_getElem? (i := 2) rfl) rfl) (fs := zF2) rfl dX3_init_50 (by omega) (by omega) rfl (L' := ((judgeH cA h i ++ housesL cA h i) ++ [.inr (2, zF2)])) rfl fun hn => ?_
      refine dj_dup hC dX3_init_53 rfl rfl ?_
      refine dj_aload_n hC 0 dX3_init_54 rfl rfl ?_
      refine dl_get hC bX3 0 (by decide) (gk_t1 (List.mem_of_getElem? (i := 203) rfl) rfl) rfl dX3_init_55 rfl ?_
      refine dj_bipush hC (v := nI 8) dX3_init_58 rfl rfl ?_
      refine dl_callI hC ho hn (i := (29 + 15 * i)) (As := [.ref h, .int (nI 8)]) (fun l => ctX2 (by decide)) (at_end hn2) (gk_t1 (List.mem_of_getElem? (i := 202) rfl) rfl) oX2 rfl dX3_init_60 (by decide) (by omega) (by omega) (by show List.sum [1, 1, 1] ≤ 8; decide) rfl rfl (k := 14) houseL_len (L' := ((judgeH cA h i ++ housesL cA h i) ++ houseO h (h + (29 + 15 * i + 1)) :: houseL cA (h + (29 + 15 * i + 1)) 8)) (by rw [set_end hn2, List.append_assoc]; rfl) fun hn => ?_
      refine dl_aast hC ho hn (t0 := 3) (tg := 103) (i := 26) (w := (29 + 15 * i)) bX2 rfl rfl (at_end hn2) (by omega) (by decide) dX3_init_63 rfl (L' := (judgeH cA h (i + 1) ++ housesL cA h (i + 1))) (by rw [List.append_assoc, judgeH_set (qR_s (by omega))]; rfl) fun hn => ?_
      refine dj_iinc hC 1 [1, 0] dX3_init_64 rfl rfl (by decide) (show _ = [(0, .ref o), (1, .int (nI (i + 1)))] by rw [nI_succ]; rfl) rfl ?_
      refine dj_goto hC (q := 40) dX3_init_67 rfl ?_
      exact dl_eq (by omega) (by omega) (by omega) (ih (i + 1) (by omega))
  refine dj_aload_n hC 0 dX3_init_0 rfl rfl ?_
  refine dj_objInit hC (by decide) (gk_t1 (List.mem_of_getElem? (i := 197) rfl) rfl) (gk_t1 (List.mem_of_getElem? (i := 19) rfl) rfl) (gk_t1 (List.mem_of_getElem? (i := 20) rfl) rfl) dX3_init_1 rfl ?_
  refine dj_aload_n hC 0 dX3_init_4 rfl rfl ?_
  refine dl_new hC ho hn bX6 (gk_t1 (List.mem_of_getElem? (i := 198) rfl) rfl) (gk_t1 (List.mem_of_getElem? (i := 24) rfl) rfl) (gk_t1 (List.mem_of_getElem? (i := 3) rfl) rfl) (fs := zF6) rfl dX3_init_5 (by omega) (by omega) rfl (L' := [.inr (6, zF6)]) rfl fun hn => ?_
  refine dj_dup hC dX3_init_8 rfl rfl ?_
  refine dl_callI hC ho hn (i := 0) (As := []) (fun l => ctX6) rfl (gk_t1 (List.mem_of_getElem? (i := 199) rfl) rfl) oX6 rfl dX3_init_9 (by decide) (by omega) (by omega) (by show List.sum [1, 1] ≤ 8; decide) rfl rfl bookL_len (L' := (bookB cA h)) rfl fun hn => ?_
  refine dl_putF hC hN ho hn bX3 0 (by decide) (gk_t1 (List.mem_of_getElem? (i := 203) rfl) rfl) rfl rfl rfl rfl (by show 0 < 8; decide) dX3_init_12 rfl (fs' := [.ref h, .null, .null, .null, .int 0, .int 0, .int 0, .int 0]) rfl ?_
  refine dj_aload_n hC 0 dX3_init_15 rfl rfl ?_
  refine dj_iconst hC dX3_init_16 rfl rfl ?_
  refine dl_newq hC ho hn (gk_t1 (List.mem_of_getElem? (i := 200) rfl) rfl) (fun _ h => h.2.2.1) (t0 := 3) (tg := 103) rfl (N := 4) (by rfl) (by decide) dX3_init_17 (by omega) (by omega) rfl (L' := (bookB cA h ++ [qR cA 103 4 0 (h + 29) 15])) (congrArg (fun e => bookB cA h ++ [e]) (qR_0 cA 103 4 (h + 29) 15)) fun hn => ?_
  refine dl_putF hC hN ho hn bX3 1 (by decide) (gk_t1 (List.mem_of_getElem? (i := 205) rfl) rfl) rfl rfl rfl rfl (by show 1 < 8; decide) dX3_init_20 rfl (fs' := [.ref h, .ref (h + 26), .null, .null, .int 0, .int 0, .int 0, .int 0]) rfl ?_
  refine dj_aload_n hC 0 dX3_init_23 rfl rfl ?_
  refine dj_bipush hC dX3_init_24 rfl rfl ?_
  refine dl_newa hC ho hn (gk_t1 (List.mem_of_getElem? (i := 144) rfl) rfl) (N := 13) (by rfl) (by decide) dX3_init_26 (by omega) (by omega) rfl (L' := (bookB cA h ++ [qR cA 103 4 0 (h + 29) 15, zI cA 13])) (List.append_assoc _ _ _) fun hn => ?_
  refine dl_putF hC hN ho hn bX3 2 (by decide) (gk_t1 (List.mem_of_getElem? (i := 206) rfl) rfl) rfl rfl rfl rfl (by show 2 < 8; decide) dX3_init_28 rfl (fs' := [.ref h, .ref (h + 26), .ref (h + 27), .null, .int 0, .int 0, .int 0, .int 0]) rfl ?_
  refine dj_aload_n hC 0 dX3_init_31 rfl rfl ?_
  refine dj_iconst hC dX3_init_32 rfl rfl ?_
  refine dl_newa hC ho hn (gk_t1 (List.mem_of_getElem? (i := 144) rfl) rfl) (N := 3) (by rfl) (by decide) dX3_init_33 (by omega) (by omega) rfl (L' := (judgeH cA h 0)) (List.append_assoc _ _ _) fun hn => ?_
  refine dl_putF hC hN ho hn bX3 3 (by decide) (gk_t1 (List.mem_of_getElem? (i := 207) rfl) rfl) rfl rfl rfl rfl (by show 3 < 8; decide) dX3_init_35 rfl (fs' := [.ref h, .ref (h + 26), .ref (h + 27), .ref (h + 28), .int 0, .int 0, .int 0, .int 0]) rfl ?_
  refine dj_iconst hC (v := nI 0) dX3_init_38 rfl rfl ?_
  refine dj_istore_n hC [1, 0] dX3_init_39 (by decide) rfl rfl ?_
  have h0 := lp 4 0 rfl
  rw [show housesL cA h 0 = [] from rfl, List.append_nil] at h0
  exact h0
def houseB (cA : Nat → ClassId) (h : Nat) : List va_E := houseO (h + 1) (h + 27) :: (bookB cA (h + 1) ++ houseL cA (h + 27) 60)
theorem houseB_len {cA : Nat → ClassId} {h : Nat} : (houseB cA h).length = 93 := rfl
theorem judgeL_len {cA : Nat → ClassId} {h : Nat} : (judgeL cA h).length = 89 := rfl
theorem set_mid {α : Type} {L : List α} {n : Nat} {x y : α} {B M : List α} (h : L.length = n) : ((L ++ [x]) ++ B).set n y ++ M = L ++ y :: (B ++ M) := by
  rw [List.append_assoc, show [x] ++ B = x :: B from rfl, set_end h, List.append_assoc]; rfl
theorem at_mid {α : Type} {L : List α} {n : Nat} {x : α} {B : List α} (h : L.length = n) : ((L ++ [x]) ++ B)[n]? = some x := by
  rw [List.append_assoc]; exact at_end h
theorem set_new {α : Type} {L : List α} {n : Nat} {x y : α} {M : List α} (h : L.length = n) : (L ++ [x]).set n y ++ M = L ++ y :: M := by
  rw [set_end h, List.append_assoc]; rfl
abbrev lineO (h : Nat) : va_E := .inr (7, [.ref h, .ref (h + 93), .ref (h + 186), .ref (h + 276), .ref (h + 278), .ref (h + 282), .int 0, .int 0, .int 0, .int 0])
def lineL (cA : Nat → ClassId) (h : Nat) : List va_E := (((((houseB cA h ++ houseB cA (h + 93)) ++ judgeO (h + 187) :: judgeL cA (h + 187)) ++ [(.inr (0, [.ref (h + 277), .int 0, .int 0, .int 0, .int 0, .int 0]) : va_E), zI cA 50]) ++ (.inr (4, [.ref (h + 279), .ref (h + 280), .ref (h + 281)]) : va_E) :: sheetsL cA) ++ [zI cA 3])
theorem ctX7 {l : Launch} {D : va_G} {cA : Nat → ClassId} {o h : Nat} : CL l D cA yX7_init cX7_init 1 4 283 2898 [.ref o] o (.inr (7, zF7)) h (lineO h) (lineL cA h) := by
  refine dl_met rfl (by show 1 ≤ _; decide) rfl rfl fun Z hC hN hR ho => ?_
  have hn : ([] : List va_E).length = 0 := rfl
  refine dj_aload_n hC 0 dX7_init_0 rfl rfl ?_
  refine dj_objInit hC (by decide) (gk_t1 (List.mem_of_getElem? (i := 18) rfl) rfl) (gk_t1 (List.mem_of_getElem? (i := 19) rfl) rfl) (gk_t1 (List.mem_of_getElem? (i := 20) rfl) rfl) dX7_init_1 rfl ?_
  refine dj_aload_n hC 0 dX7_init_4 rfl rfl ?_
  have hn0 := hn
  refine dl_new hC ho hn bX2 (gk_t1 (List.mem_of_getElem? (i := 21) rfl) rfl) (gk_t1 (List.mem_of_getElem? (i := 22) rfl) rfl) (gk_t1 (List.mem_of_getElem? (i := 2) rfl) rfl) (fs := zF2) rfl dX7_init_5 (by omega) (by omega) rfl (L' := ([] ++ [.inr (2, zF2)])) rfl fun hn => ?_
  have hn1 := hn
  refine dj_dup hC dX7_init_8 rfl rfl ?_
  refine dl_new hC ho hn bX6 (gk_t1 (List.mem_of_getElem? (i := 23) rfl) rfl) (gk_t1 (List.mem_of_getElem? (i := 24) rfl) rfl) (gk_t1 (List.mem_of_getElem? (i := 3) rfl) rfl) (fs := zF6) rfl dX7_init_9 (by omega) (by omega) rfl (L' := (([] ++ [.inr (2, zF2)]) ++ [.inr (6, zF6)])) rfl fun hn => ?_
  refine dj_dup hC dX7_init_12 rfl rfl ?_
  refine dl_callI hC ho hn (i := 1) (As := []) (fun l => ctX6) (at_end hn1) (gk_t1 (List.mem_of_getElem? (i := 25) rfl) rfl) oX6 rfl dX7_init_13 (by decide) (by omega) (by omega) (by show List.sum [1, 1, 1, 1] ≤ 8; decide) rfl rfl (k := 25) bookL_len (L' := (([] ++ [.inr (2, zF2)]) ++ bookB cA (h + 1))) (set_new hn1) fun hn => ?_
  refine dj_bipush hC (v := nI 60) dX7_init_16 rfl rfl ?_
  refine dl_callI hC ho hn (i := 0) (As := [.ref (h + 1), .int (nI 60)]) (fun l => ctX2 (by decide)) (at_mid hn0) (gk_t1 (List.mem_of_getElem? (i := 84) rfl) rfl) oX2 rfl dX7_init_18 (by decide) (by omega) (by omega) (by show List.sum [1, 1] ≤ 8; decide) rfl rfl (k := 66) houseL_len (L' := (houseB cA h)) (set_mid hn0) fun hn => ?_
  refine dl_putF hC hN ho hn bX7 0 (by decide) (gk_t2 (List.mem_of_getElem? (i := 34) rfl) rfl) rfl rfl rfl rfl (by show 0 < 10; decide) dX7_init_21 rfl (fs' := [.ref h, .null, .null, .null, .null, .null, .int 0, .int 0, .int 0, .int 0]) rfl ?_
  refine dj_aload_n hC 0 dX7_init_24 rfl rfl ?_
  have hn0 := hn
  refine dl_new hC ho hn bX2 (gk_t1 (List.mem_of_getElem? (i := 21) rfl) rfl) (gk_t1 (List.mem_of_getElem? (i := 22) rfl) rfl) (gk_t1 (List.mem_of_getElem? (i := 2) rfl) rfl) (fs := zF2) rfl dX7_init_25 (by omega) (by omega) rfl (L' := ((houseB cA h) ++ [.inr (2, zF2)])) rfl fun hn => ?_
  have hn1 := hn
  refine dj_dup hC dX7_init_28 rfl rfl ?_
  refine dl_new hC ho hn bX6 (gk_t1 (List.mem_of_getElem? (i := 23) rfl) rfl) (gk_t1 (List.mem_of_getElem? (i := 24) rfl) rfl) (gk_t1 (List.mem_of_getElem? (i := 3) rfl) rfl) (fs := zF6) rfl dX7_init_29 (by omega) (by omega) rfl (L' := (((houseB cA h) ++ [.inr (2, zF2)]) ++ [.inr (6, zF6)])) rfl fun hn => ?_
  refine dj_dup hC dX7_init_32 rfl rfl ?_
  refine dl_callI hC ho hn (i := 94) (As := []) (fun l => ctX6) (at_end hn1) (gk_t1 (List.mem_of_getElem? (i := 25) rfl) rfl) oX6 rfl dX7_init_33 (by decide) (by omega) (by omega) (by show List.sum [1, 1, 1, 1] ≤ 8; decide) rfl rfl (k := 25) bookL_len (L' := (((houseB cA h) ++ [.inr (2, zF2)]) ++ bookB cA (h + 94))) (set_new hn1) fun hn => ?_
  refine dj_bipush hC (v := nI 60) dX7_init_36 rfl rfl ?_
  refine dl_callI hC ho hn (i := 93) (As := [.ref (h + 94), .int (nI 60)]) (fun l => ctX2 (by decide)) (at_mid hn0) (gk_t1 (List.mem_of_getElem? (i := 84) rfl) rfl) oX2 rfl dX7_init_38 (by decide) (by omega) (by omega) (by show List.sum [1, 1] ≤ 8; decide) rfl rfl (k := 66) houseL_len (L' := (houseB cA h ++ houseB cA (h + 93))) (set_mid hn0) fun hn => ?_
  refine dl_putF hC hN ho hn bX7 1 (by decide) (gk_t2 (List.mem_of_getElem? (i := 35) rfl) rfl) rfl rfl rfl rfl (by show 1 < 10; decide) dX7_init_41 rfl (fs' := [.ref h, .ref (h + 93), .null, .null, .null, .null, .int 0, .int 0, .int 0, .int 0]) rfl ?_
  refine dj_aload_n hC 0 dX7_init_44 rfl rfl ?_
  have hn0 := hn
  refine dl_new hC ho hn bX3 (gk_t1 (List.mem_of_getElem? (i := 192) rfl) rfl) (gk_t1 (List.mem_of_getElem? (i := 193) rfl) rfl) (gk_t1 (List.mem_of_getElem? (i := 6) rfl) rfl) (fs := zF3) rfl dX7_init_45 (by omega) (by omega) rfl (L' := ((houseB cA h ++ houseB cA (h + 93)) ++ [.inr (3, zF3)])) rfl fun hn => ?_
  refine dj_dup hC dX7_init_48 rfl rfl ?_
  refine dl_callI hC ho hn (i := 186) (As := []) (fun l => ctX3) (at_end hn0) (gk_t1 (List.mem_of_getElem? (i := 194) rfl) rfl) oX3 rfl dX7_init_49 (by decide) (by omega) (by omega) (by show List.sum [1, 1] ≤ 8; decide) rfl rfl (k := 89) judgeL_len (L' := ((houseB cA h ++ houseB cA (h + 93)) ++ judgeO (h + 187) :: judgeL cA (h + 187))) (set_new hn0) fun hn => ?_
  refine dl_putF hC hN ho hn bX7 2 (by decide) (gk_t2 (List.mem_of_getElem? (i := 36) rfl) rfl) rfl rfl rfl rfl (by show 2 < 10; decide) dX7_init_52 rfl (fs' := [.ref h, .ref (h + 93), .ref (h + 186), .null, .null, .null, .int 0, .int 0, .int 0, .int 0]) rfl ?_
  refine dj_aload_n hC 0 dX7_init_55 rfl rfl ?_
  have hn0 := hn
  refine dl_new hC ho hn bX0 (gk_t1 (List.mem_of_getElem? (i := 230) rfl) rfl) (gk_t1 (List.mem_of_getElem? (i := 231) rfl) rfl) (gk_t1 (List.mem_of_getElem? (i := 7) rfl) rfl) (fs := zF0) rfl dX7_init_56 (by omega) (by omega) rfl (L' := (((houseB cA h ++ houseB cA (h + 93)) ++ judgeO (h + 187) :: judgeL cA (h + 187)) ++ [.inr (0, zF0)])) rfl fun hn => ?_
  refine dj_dup hC dX7_init_59 rfl rfl ?_
  refine dl_callN hC ho hn (i := 276) (As := []) (fun l => ctX0) (at_end hn0) (fun _ h => h.2.2.2.2.2) oX0 rfl dX7_init_60 (by decide) (by omega) (by omega) (by show List.sum [1, 1] ≤ 8; decide) rfl rfl (k := 1) rfl (L' := (((houseB cA h ++ houseB cA (h + 93)) ++ judgeO (h + 187) :: judgeL cA (h + 187)) ++ [(.inr (0, [.ref (h + 277), .int 0, .int 0, .int 0, .int 0, .int 0]) : va_E), zI cA 50])) (set_new hn0) fun hn => ?_
  refine dl_putF hC hN ho hn bX7 3 (by decide) (gk_t2 (List.mem_of_getElem? (i := 37) rfl) rfl) rfl rfl rfl rfl (by show 3 < 10; decide) dX7_init_63 rfl (fs' := [.ref h, .ref (h + 93), .ref (h + 186), .ref (h + 276), .null, .null, .int 0, .int 0, .int 0, .int 0]) rfl ?_
  refine dj_aload_n hC 0 dX7_init_66 rfl rfl ?_
  have hn0 := hn
  refine dl_new hC ho hn bX4 (gk_t2 (List.mem_of_getElem? (i := 17) rfl) rfl) (gk_t2 (List.mem_of_getElem? (i := 18) rfl) rfl) (gk_t1 (List.mem_of_getElem? (i := 8) rfl) rfl) (fs := zF4) rfl dX7_init_67 (by omega) (by omega) rfl (L' := ((((houseB cA h ++ houseB cA (h + 93)) ++ judgeO (h + 187) :: judgeL cA (h + 187)) ++ [(.inr (0, [.ref (h + 277), .int 0, .int 0, .int 0, .int 0, .int 0]) : va_E), zI cA 50]) ++ [.inr (4, zF4)])) rfl fun hn => ?_
  refine dj_dup hC dX7_init_70 rfl rfl ?_
  refine dl_callI hC ho hn (i := 278) (As := []) (fun l => ctX4) (at_end hn0) (gk_t2 (List.mem_of_getElem? (i := 19) rfl) rfl) oX4 rfl dX7_init_71 (by decide) (by omega) (by omega) (by show List.sum [1, 1] ≤ 8; decide) rfl rfl (k := 3) rfl (L' := ((((houseB cA h ++ houseB cA (h + 93)) ++ judgeO (h + 187) :: judgeL cA (h + 187)) ++ [(.inr (0, [.ref (h + 277), .int 0, .int 0, .int 0, .int 0, .int 0]) : va_E), zI cA 50]) ++ (.inr (4, [.ref (h + 279), .ref (h + 280), .ref (h + 281)]) : va_E) :: sheetsL cA)) (set_new hn0) fun hn => ?_
  refine dl_putF hC hN ho hn bX7 4 (by decide) (gk_t2 (List.mem_of_getElem? (i := 38) rfl) rfl) rfl rfl rfl rfl (by show 4 < 10; decide) dX7_init_74 rfl (fs' := [.ref h, .ref (h + 93), .ref (h + 186), .ref (h + 276), .ref (h + 278), .null, .int 0, .int 0, .int 0, .int 0]) rfl ?_
  refine dj_aload_n hC 0 dX7_init_77 rfl rfl ?_
  refine dj_iconst hC dX7_init_78 rfl rfl ?_
  refine dl_newa hC ho hn (gk_t1 (List.mem_of_getElem? (i := 144) rfl) rfl) (N := 3) (by rfl) (by decide) dX7_init_79 (by omega) (by omega) rfl (L' := (((((houseB cA h ++ houseB cA (h + 93)) ++ judgeO (h + 187) :: judgeL cA (h + 187)) ++ [(.inr (0, [.ref (h + 277), .int 0, .int 0, .int 0, .int 0, .int 0]) : va_E), zI cA 50]) ++ (.inr (4, [.ref (h + 279), .ref (h + 280), .ref (h + 281)]) : va_E) :: sheetsL cA) ++ [zI cA 3])) rfl fun hn => ?_
  refine dl_putF hC hN ho hn bX7 5 (by decide) (gk_t2 (List.mem_of_getElem? (i := 39) rfl) rfl) rfl rfl rfl rfl (by show 5 < 10; decide) dX7_init_81 rfl (fs' := [.ref h, .ref (h + 93), .ref (h + 186), .ref (h + 276), .ref (h + 278), .ref (h + 282), .int 0, .int 0, .int 0, .int 0]) rfl ?_
  exact dl_ret hC hR dX7_init_84 rfl rfl hn (by decide) (by decide)
