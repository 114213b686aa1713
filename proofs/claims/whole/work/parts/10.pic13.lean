noncomputable section
def lp_X8_peace_39 (LN : Nat → Nat) (RF : Nat → Nat → Nat) (v0 : Nat) (v1 : Int32) (v2 : Int32) (v3 : Int32) (v4 : Int32) (v5 : Int32) (v6 : Int32) (v7 : Int32) (k84 : (Int32 × gk_M) → Option (Int32 × gk_M)) : Nat → (Int32 × Int32 × gk_M) → Option (Int32 × gk_M)
  | 0, _ => none
  | n + 1, x =>
    if 9 < x.2.1 then
      k84 (x.1, x.2.2)
    else
    if 0 ≤ x.1 then
      k84 (x.1, x.2.2)
    else
    gk_ast LN x.2.2 (RF v0 2) v1 x.2.1 fun M2 =>
    (f_X8_search LN RF v0 v2 v3 v4 v5 v6 M2).bind fun r3 =>
    gk_jn (fun y4 : Int32 =>
      lp_X8_peace_39 LN RF v0 v1 v2 v3 v4 v5 v6 v7 k84 n (y4, (x.2.1 + 1), r3.2)) fun k78_4 =>
    if r3.1 = 0 then
      k78_4 x.2.1
    else
    k78_4 x.1
def f_X8_peace (LN : Nat → Nat) (RF : Nat → Nat → Nat) (a0 : Nat) (a1 : Int32) (a2 : Int32) (a3 : Int32) (a4 : Int32) (a5 : Int32) (a6 : Int32) (M : gk_M) : Option (Int32 × gk_M) :=
  (f_X8_isWish LN RF a0 a1 M).bind fun r21 =>
  gk_jn (fun y22 : Unit =>
    some ((-1), M)) fun k23_22 =>
  if r21 = 0 then
    k23_22 ()
  else
  (f_X8_isAsked LN RF a0 a2 a3 a4 a5 a6 M).bind fun r24 =>
  if r24 = 0 then
    k23_22 ()
  else
  gk_ald LN M (RF a0 2) a1 fun x26 =>
  gk_jn (fun y27 : Int32 × gk_M =>
    gk_ast LN y27.2 (RF a0 2) a1 x26 fun M30 =>
    some (y27.1, M30)) fun k84_27 =>
  lp_X8_peace_39 LN RF a0 a1 a2 a3 a4 a5 a6 x26 k84_27 gk_fuel ((-1), 0, M)
set_option maxHeartbeats 4000000 in
set_option maxRecDepth 100000 in
theorem lk_X8_peace_39 {Z : gk_Z} {Y : gk_Y} (hY : gk_WF Y) (hC : gk_C Z Y cX8_peace 10 RX8 11) (hR : gk_R Z Y (some .int)) (v0 : Nat) (v1 : Int32) (v2 : Int32) (v3 : Int32) (v4 : Int32) (v5 : Int32) (v6 : Int32) (v7 : Int32) (tv0 : gk_T Y 18 v0) (k84 : (Int32 × gk_M) → Option (Int32 × gk_M)) (hk84 : ∀ z31 : Int32 × gk_M, gk_K Z Y 10 gk_rI 84 [(0, .ref v0), (1, .int v1), (7, .int v7), (8, .int z31.1)] [] z31.2 (k84 z31)) : ∀ (n : Nat) (x : Int32 × Int32 × gk_M), gk_K Z Y 10 gk_rI 39 [(0, .ref v0), (1, .int v1), (2, .int v2), (3, .int v3), (4, .int v4), (5, .int v5), (6, .int v6), (7, .int v7), (8, .int x.1), (9, .int x.2.1)] [] x.2.2 (lp_X8_peace_39 (gk_ln Y) (gk_rf Y) v0 v1 v2 v3 v4 v5 v6 v7 k84 n x) := by
  intro n
  induction n with
  | zero => intro x; exact gk_none
  | succ n ih =>
    intro x
    rw [lp_X8_peace_39]
    refine gk_iload hC 9 dX8_peace_39 rfl (q := 41) rfl ?_
    refine gk_bipush hC (v := 9) dX8_peace_41 kc_b_9 (q := 43) rfl ?_
    refine gk_icmp_gt hC dX8_peace_43 (tg := 84) rfl (q := 46) rfl ?_ ?_
    · refine gk_pick [0, 1, 7, 8] rfl ?_
      exact hk84 (x.1, x.2.2)
    · refine gk_iload hC 8 dX8_peace_46 rfl (q := 48) rfl ?_
      refine gk_if_ge hC dX8_peace_48 (tg := 84) rfl (q := 51) rfl ?_ ?_
      · refine gk_pick [0, 1, 7, 8] rfl ?_
        exact hk84 (x.1, x.2.2)
      · refine gk_aload_n hC 0 dX8_peace_51 rfl (q := 52) rfl ?_
        refine gk_getR hC dX8_peace_52 fl_RX8_16 (by decide) tv0 (q := 55) rfl (fun t1 => ?_)
        refine gk_iload_n hC 1 dX8_peace_55 rfl (q := 56) rfl ?_
        refine gk_iload hC 9 dX8_peace_56 rfl (q := 58) rfl ?_
        refine gk_iast hC dX8_peace_58 t1 (q := 59) rfl (fun M2 => ?_)
        refine gk_aload_n hC 0 dX8_peace_59 rfl (q := 60) rfl ?_
        refine gk_iload_n hC 2 dX8_peace_60 rfl (q := 61) rfl ?_
        refine gk_iload_n hC 3 dX8_peace_61 rfl (q := 62) rfl ?_
        refine gk_iload hC 4 dX8_peace_62 rfl (q := 64) rfl ?_
        refine gk_iload hC 5 dX8_peace_64 rfl (q := 66) rfl ?_
        refine gk_iload hC 6 dX8_peace_66 rfl (q := 68) rfl ?_
        refine gk_callV (As := [.int v2, .int v3, .int v4, .int v5, .int v6]) (rest := []) hC (fun l => m_X8_search l hY v0 v2 v3 v4 v5 v6 M2 tv0) ml_RX8_277 ok_X8_search dX8_peace_68 tv0 ⟨by decide, rfl⟩ rfl (by decide) (Nat.le_of_ble_eq_true rfl) rfl (q := 71) rfl (fun r3 => ?_)
        show gk_K Z Y 10 gk_rI 71 [(0, .ref v0), (1, .int v1), (2, .int v2), (3, .int v3), (4, .int v4), (5, .int v5), (6, .int v6), (7, .int v7), (8, .int x.1), (9, .int x.2.1)] [.int r3.1] r3.2 _
        refine gk_jnR (fun k78_4 => ∀ z5 : Int32, gk_K Z Y 10 gk_rI 78 [(0, .ref v0), (1, .int v1), (2, .int v2), (3, .int v3), (4, .int v4), (5, .int v5), (6, .int v6), (7, .int v7), (8, .int z5), (9, .int x.2.1)] [] r3.2 (k78_4 z5)) (fun y4 => ?_) (fun k78_4 hk78_4 => ?_)
        · show gk_K Z Y 10 gk_rI 78 [(0, .ref v0), (1, .int v1), (2, .int v2), (3, .int v3), (4, .int v4), (5, .int v5), (6, .int v6), (7, .int v7), (8, .int y4), (9, .int x.2.1)] [] r3.2 _
          refine gk_iinc hC (v := 1) 9 (lv' := [(0, .ref v0), (1, .int v1), (2, .int v2), (3, .int v3), (4, .int v4), (5, .int v5), (6, .int v6), (7, .int v7), (8, .int y4), (9, .int (x.2.1 + 1))]) [1, 2, 3, 4, 5, 6, 7, 8, 9, 0] dX8_peace_78 rfl kc_i_1 (by decide) rfl (q := 81) rfl ?_
          refine gk_goto hC dX8_peace_81 (q := 39) rfl ?_
          exact ih (y4, (x.2.1 + 1), r3.2)
        · refine gk_if_ne hC dX8_peace_71 (tg := 78) rfl (q := 74) rfl ?_ ?_
          · refine gk_iload hC 9 dX8_peace_74 rfl (q := 76) rfl ?_
            refine gk_istore hC (lv' := [(0, .ref v0), (1, .int v1), (2, .int v2), (3, .int v3), (4, .int v4), (5, .int v5), (6, .int v6), (7, .int v7), (8, .int x.2.1), (9, .int x.2.1)]) [1, 2, 3, 4, 5, 6, 7, 8, 0, 9] dX8_peace_76 (by decide) rfl (q := 78) rfl ?_
            exact hk78_4 x.2.1
          · exact hk78_4 x.1
set_option maxHeartbeats 4000000 in
set_option maxRecDepth 100000 in
theorem m_X8_peace (l : Launch) {Y : gk_Y} (hY : gk_WF Y) (a0 : Nat) (a1 : Int32) (a2 : Int32) (a3 : Int32) (a4 : Int32) (a5 : Int32) (a6 : Int32) (M : gk_M) (t0 : gk_T Y 18 a0) : gk_MF l Y yX8_peace cX8_peace 10 (some .int) 11 [.ref a0, .int a1, .int a2, .int a3, .int a4, .int a5, .int a6] M gk_rI (f_X8_peace (gk_ln Y) (gk_rf Y) a0 a1 a2 a3 a4 a5 a6 M) := by
  refine gk_met hY (plainFor_of_name (by decide)) (Nat.le_of_ble_eq_true rfl) fun Z hC hR => ?_
  show gk_K Z Y 10 gk_rI 0 [(0, .ref a0), (1, .int a1), (2, .int a2), (3, .int a3), (4, .int a4), (5, .int a5), (6, .int a6)] [] M _
  unfold f_X8_peace
  refine gk_aload_n hC 0 dX8_peace_0 rfl (q := 1) rfl ?_
  refine gk_iload_n hC 1 dX8_peace_1 rfl (q := 2) rfl ?_
  refine gk_callV (As := [.int a1]) (rest := []) hC (fun l => m_X8_isWish l hY a0 a1 M t0) ml_RX8_142 ok_X8_isWish dX8_peace_2 t0 ⟨by decide, rfl⟩ rfl (by decide) (Nat.le_of_ble_eq_true rfl) rfl (q := 5) rfl (fun r21 => ?_)
  show gk_K Z Y 10 gk_rI 5 [(0, .ref a0), (1, .int a1), (2, .int a2), (3, .int a3), (4, .int a4), (5, .int a5), (6, .int a6)] [.int r21] M _
  refine gk_jnR (fun k23_22 => ∀ z23 : Unit, gk_K Z Y 10 gk_rI 23 [] [] M (k23_22 z23)) (fun y22 => ?_) (fun k23_22 hk23_22 => ?_)
  · show gk_K Z Y 10 gk_rI 23 [] [] M _
    refine gk_iconst hC (v := (-1)) dX8_peace_23 kc_i_m1 (q := 24) rfl ?_
    exact gk_iret hC hR dX8_peace_24 rfl
  · refine gk_if_eq hC dX8_peace_5 (tg := 23) rfl (q := 8) rfl ?_ ?_
    · refine gk_pick [] rfl ?_
      exact hk23_22 ()
    · refine gk_aload_n hC 0 dX8_peace_8 rfl (q := 9) rfl ?_
      refine gk_iload_n hC 2 dX8_peace_9 rfl (q := 10) rfl ?_
      refine gk_iload_n hC 3 dX8_peace_10 rfl (q := 11) rfl ?_
      refine gk_iload hC 4 dX8_peace_11 rfl (q := 13) rfl ?_
      refine gk_iload hC 5 dX8_peace_13 rfl (q := 15) rfl ?_
      refine gk_iload hC 6 dX8_peace_15 rfl (q := 17) rfl ?_
      refine gk_callV (As := [.int a2, .int a3, .int a4, .int a5, .int a6]) (rest := []) hC (fun l => m_X8_isAsked l hY a0 a2 a3 a4 a5 a6 M t0) ml_RX8_274 ok_X8_isAsked dX8_peace_17 t0 ⟨by decide, rfl⟩ rfl (by decide) (Nat.le_of_ble_eq_true rfl) rfl (q := 20) rfl (fun r24 => ?_)
      show gk_K Z Y 10 gk_rI 20 [(0, .ref a0), (1, .int a1), (2, .int a2), (3, .int a3), (4, .int a4), (5, .int a5), (6, .int a6)] [.int r24] M _
      refine gk_if_ne hC dX8_peace_20 (tg := 25) rfl (q := 23) rfl ?_ ?_
      · refine gk_pick [] rfl ?_
        exact hk23_22 ()
      · refine gk_aload_n hC 0 dX8_peace_25 rfl (q := 26) rfl ?_
        refine gk_getR hC dX8_peace_26 fl_RX8_16 (by decide) t0 (q := 29) rfl (fun t25 => ?_)
        refine gk_iload_n hC 1 dX8_peace_29 rfl (q := 30) rfl ?_
        refine gk_iald hC dX8_peace_30 t25 (q := 31) rfl (fun x26 => ?_)
        refine gk_istore hC (lv' := [(0, .ref a0), (1, .int a1), (2, .int a2), (3, .int a3), (4, .int a4), (5, .int a5), (6, .int a6), (7, .int x26)]) [1, 2, 3, 4, 5, 6, 7, 0] dX8_peace_31 (by decide) rfl (q := 33) rfl ?_
        refine gk_iconst hC (v := (-1)) dX8_peace_33 kc_i_m1 (q := 34) rfl ?_
        refine gk_istore hC (lv' := [(0, .ref a0), (1, .int a1), (2, .int a2), (3, .int a3), (4, .int a4), (5, .int a5), (6, .int a6), (7, .int x26), (8, .int (-1))]) [1, 2, 3, 4, 5, 6, 7, 8, 0] dX8_peace_34 (by decide) rfl (q := 36) rfl ?_
        refine gk_iconst hC (v := 0) dX8_peace_36 kc_i_0 (q := 37) rfl ?_
        refine gk_istore hC (lv' := [(0, .ref a0), (1, .int a1), (2, .int a2), (3, .int a3), (4, .int a4), (5, .int a5), (6, .int a6), (7, .int x26), (8, .int (-1)), (9, .int 0)]) [1, 2, 3, 4, 5, 6, 7, 8, 9, 0] dX8_peace_37 (by decide) rfl (q := 39) rfl ?_
        refine gk_jnR (fun k84_27 => ∀ z28 : Int32 × gk_M, gk_K Z Y 10 gk_rI 84 [(0, .ref a0), (1, .int a1), (7, .int x26), (8, .int z28.1)] [] z28.2 (k84_27 z28)) (fun y27 => ?_) (fun k84_27 hk84_27 => ?_)
        · show gk_K Z Y 10 gk_rI 84 [(0, .ref a0), (1, .int a1), (7, .int x26), (8, .int y27.1)] [] y27.2 _
          refine gk_aload_n hC 0 dX8_peace_84 rfl (q := 85) rfl ?_
          refine gk_getR hC dX8_peace_85 fl_RX8_16 (by decide) t0 (q := 88) rfl (fun t29 => ?_)
          refine gk_iload_n hC 1 dX8_peace_88 rfl (q := 89) rfl ?_
          refine gk_iload hC 2 dX8_peace_89 rfl (q := 91) rfl ?_
          refine gk_iast hC dX8_peace_91 t29 (q := 92) rfl (fun M30 => ?_)
          refine gk_iload hC 3 dX8_peace_92 rfl (q := 94) rfl ?_
          exact gk_iret hC hR dX8_peace_94 rfl
        · exact lk_X8_peace_39 hY hC hR a0 a1 a2 a3 a4 a5 a6 x26 t0 k84_27 hk84_27 gk_fuel ((-1), 0, M)
def lp_X8_count_57 (LN : Nat → Nat) (RF : Nat → Nat → Nat) (v0 : Nat) (M : gk_M) (k91 : Int32 → Option (Int32)) : Nat → (Int32 × Int32) → Option (Int32)
  | 0, _ => none
  | n + 1, x =>
    gk_ald LN M (RF v0 20) 2 fun x2 =>
    if x2 ≤ x.2 then
      k91 x.1
    else
    gk_ald LN M (RF v0 7) x.2 fun x4 =>
    gk_jn (fun y5 : Int32 =>
      lp_X8_count_57 LN RF v0 M k91 n ((x.1 + y5), (x.2 + 1))) fun k83_5 =>
    if x4 = 3 then
      k83_5 0
    else
    k83_5 1
def f_X8_count (LN : Nat → Nat) (RF : Nat → Nat → Nat) (a0 : Nat) (a1 : Int32) (M : gk_M) : Option (Int32) :=
  gk_jn (fun y21 : Unit =>
    gk_ald LN M (RF a0 20) a1 fun x24 =>
    some x24) fun k48_21 =>
  gk_sw a1 0 [k48_21 (),
    k48_21 (),
    k48_21 (),
    k48_21 (),
    k48_21 (),
    gk_jn (fun y25 : Int32 =>
      some y25) fun k91_25 =>
    lp_X8_count_57 LN RF a0 M k91_25 gk_fuel (0, 0),
    some (M.1 a0 33),
    some (M.1 a0 36)]
  (some (-1))
set_option maxHeartbeats 4000000 in
set_option maxRecDepth 100000 in
theorem lk_X8_count_57 {Z : gk_Z} {Y : gk_Y} (hY : gk_WF Y) (hC : gk_C Z Y cX8_count 4 RX8 0) (hR : gk_R Z Y (some .int)) (v0 : Nat) (M : gk_M) (tv0 : gk_T Y 18 v0) (k91 : Int32 → Option (Int32)) (hk91 : ∀ z27 : Int32, gk_K Z Y 4 (gk_rR M) 91 [(2, .int z27)] [] M (k91 z27)) : ∀ (n : Nat) (x : Int32 × Int32), gk_K Z Y 4 (gk_rR M) 57 [(0, .ref v0), (2, .int x.1), (3, .int x.2)] [] M (lp_X8_count_57 (gk_ln Y) (gk_rf Y) v0 M k91 n x) := by
  intro n
  induction n with
  | zero => intro x; exact gk_none
  | succ n ih =>
    intro x
    rw [lp_X8_count_57]
    refine gk_iload_n hC 2 dX8_count_57 rfl (q := 58) rfl ?_
    refine gk_aload_n hC 0 dX8_count_58 rfl (q := 59) rfl ?_
    refine gk_getR hC dX8_count_59 fl_RX8_70 (by decide) tv0 (q := 62) rfl (fun t1 => ?_)
    refine gk_iconst hC (v := 2) dX8_count_62 kc_i_2 (q := 63) rfl ?_
    refine gk_iald hC dX8_count_63 t1 (q := 64) rfl (fun x2 => ?_)
    refine gk_icmp_ge hC dX8_count_64 (tg := 91) rfl (q := 67) rfl ?_ ?_
    · refine gk_pick [1] rfl ?_
      exact hk91 x.1
    · refine gk_iload_n hC 1 dX8_count_67 rfl (q := 68) rfl ?_
      refine gk_aload_n hC 0 dX8_count_68 rfl (q := 69) rfl ?_
      refine gk_getR hC dX8_count_69 fl_RX8_31 (by decide) tv0 (q := 72) rfl (fun t3 => ?_)
      refine gk_iload_n hC 2 dX8_count_72 rfl (q := 73) rfl ?_
      refine gk_iald hC dX8_count_73 t3 (q := 74) rfl (fun x4 => ?_)
      refine gk_iconst hC (v := 3) dX8_count_74 kc_i_3 (q := 75) rfl ?_
      refine gk_jnR (fun k83_5 => ∀ z6 : Int32, gk_K Z Y 4 (gk_rR M) 83 [(0, .ref v0), (3, .int x.2)] [.int z6, .int x.1] M (k83_5 z6)) (fun y5 => ?_) (fun k83_5 hk83_5 => ?_)
      · show gk_K Z Y 4 (gk_rR M) 83 [(0, .ref v0), (3, .int x.2)] [.int y5, .int x.1] M _
        refine gk_iadd hC dX8_count_83 (q := 84) rfl ?_
        refine gk_istore_n hC (lv' := [(0, .ref v0), (2, .int (x.1 + y5)), (3, .int x.2)]) [1, 0, 2] dX8_count_84 (by decide) rfl (q := 85) rfl ?_
        refine gk_iinc hC (v := 1) 2 (lv' := [(0, .ref v0), (2, .int (x.1 + y5)), (3, .int (x.2 + 1))]) [1, 2, 0] dX8_count_85 rfl kc_i_1 (by decide) rfl (q := 88) rfl ?_
        refine gk_goto hC dX8_count_88 (q := 57) rfl ?_
        exact ih ((x.1 + y5), (x.2 + 1))
      · refine gk_icmp_eq hC dX8_count_75 (tg := 82) rfl (q := 78) rfl ?_ ?_
        · refine gk_iconst hC (v := 0) dX8_count_82 kc_i_0 (q := 83) rfl ?_
          refine gk_pick [0, 2] rfl ?_
          exact hk83_5 0
        · refine gk_iconst hC (v := 1) dX8_count_78 kc_i_1 (q := 79) rfl ?_
          refine gk_goto hC dX8_count_79 (q := 83) rfl ?_
          refine gk_pick [0, 2] rfl ?_
          exact hk83_5 1
set_option maxHeartbeats 4000000 in
set_option maxRecDepth 100000 in
theorem m_X8_count (l : Launch) {Y : gk_Y} (hY : gk_WF Y) (a0 : Nat) (a1 : Int32) (M : gk_M) (t0 : gk_T Y 18 a0) : gk_MF l Y yX8_count cX8_count 4 (some .int) 0 [.ref a0, .int a1] M (gk_rR M) (f_X8_count (gk_ln Y) (gk_rf Y) a0 a1 M) := by
  refine gk_met hY (plainFor_of_name (by decide)) (Nat.le_of_ble_eq_true rfl) fun Z hC hR => ?_
  show gk_K Z Y 4 (gk_rR M) 0 [(0, .ref a0), (1, .int a1)] [] M _
  unfold f_X8_count
  refine gk_iconst hC (v := 0) dX8_count_0 kc_i_0 (q := 1) rfl ?_
  refine gk_istore_n hC (lv' := [(0, .ref a0), (1, .int a1), (2, .int 0)]) [1, 2, 0] dX8_count_1 (by decide) rfl (q := 2) rfl ?_
  refine gk_iload_n hC 1 dX8_count_2 rfl (q := 3) rfl ?_
  refine gk_jnR (fun k48_21 => ∀ z22 : Unit, gk_K Z Y 4 (gk_rR M) 48 [(0, .ref a0), (1, .int a1)] [] M (k48_21 z22)) (fun y21 => ?_) (fun k48_21 hk48_21 => ?_)
  · show gk_K Z Y 4 (gk_rR M) 48 [(0, .ref a0), (1, .int a1)] [] M _
    refine gk_aload_n hC 0 dX8_count_48 rfl (q := 49) rfl ?_
    refine gk_getR hC dX8_count_49 fl_RX8_70 (by decide) t0 (q := 52) rfl (fun t23 => ?_)
    refine gk_iload_n hC 1 dX8_count_52 rfl (q := 53) rfl ?_
    refine gk_iald hC dX8_count_53 t23 (q := 54) rfl (fun x24 => ?_)
    exact gk_iret hC hR dX8_count_54 rfl
  · refine gk_table hC (ts := [48, 48, 48, 48, 48, 55, 93, 98]) (tg := 103) dX8_count_3 (by decide) (by decide) rfl ⟨?_, ?_, ?_, ?_, ?_, ?_, ?_, ?_, trivial⟩ ?_
    · refine gk_pick [0, 1] rfl ?_
      exact hk48_21 ()
    · refine gk_pick [0, 1] rfl ?_
      exact hk48_21 ()
    · refine gk_pick [0, 1] rfl ?_
      exact hk48_21 ()
    · refine gk_pick [0, 1] rfl ?_
      exact hk48_21 ()
    · refine gk_pick [0, 1] rfl ?_
      exact hk48_21 ()
    · refine gk_iconst hC (v := 0) dX8_count_55 kc_i_0 (q := 56) rfl ?_
      refine gk_istore_n hC (lv' := [(0, .ref a0), (2, .int 0), (3, .int 0)]) [1, 3, 0] dX8_count_56 (by decide) rfl (q := 57) rfl ?_
      refine gk_jnR (fun k91_25 => ∀ z26 : Int32, gk_K Z Y 4 (gk_rR M) 91 [(2, .int z26)] [] M (k91_25 z26)) (fun y25 => ?_) (fun k91_25 hk91_25 => ?_)
      · show gk_K Z Y 4 (gk_rR M) 91 [(2, .int y25)] [] M _
        refine gk_iload_n hC 0 dX8_count_91 rfl (q := 92) rfl ?_
        exact gk_iret hC hR dX8_count_92 rfl
      · exact lk_X8_count_57 hY hC hR a0 M t0 k91_25 hk91_25 gk_fuel (0, 0)
    · refine gk_aload_n hC 0 dX8_count_93 rfl (q := 94) rfl ?_
      refine gk_getI hC dX8_count_94 fl_RX8_280 t0 (q := 97) rfl ?_
      exact gk_iret hC hR dX8_count_97 rfl
    · refine gk_aload_n hC 0 dX8_count_98 rfl (q := 99) rfl ?_
      refine gk_getI hC dX8_count_99 fl_RX8_286 t0 (q := 102) rfl ?_
      exact gk_iret hC hR dX8_count_102 rfl
    · refine gk_iconst hC (v := (-1)) dX8_count_103 kc_i_m1 (q := 104) rfl ?_
      exact gk_iret hC hR dX8_count_104 rfl
def f_X8_traces (LN : Nat → Nat) (RF : Nat → Nat → Nat) (a0 : Nat) (a1 : Int32) (M : gk_M) : Option (gk_M) :=
  gk_jn (fun y21 : gk_M =>
    gk_put y21 a0 36 ((y21.1 a0 36) + 1) fun M23 =>
    some M23) fun k19_21 =>
  if 50 ≤ (M.1 a0 36) then
    k19_21 M
  else
  gk_ast LN M (RF a0 35) (M.1 a0 36) a1 fun M25 =>
  k19_21 M25
set_option maxHeartbeats 4000000 in
set_option maxRecDepth 100000 in
theorem m_X8_traces (l : Launch) {Y : gk_Y} (hY : gk_WF Y) (a0 : Nat) (a1 : Int32) (M : gk_M) (t0 : gk_T Y 18 a0) : gk_MF l Y yX8_traces cX8_traces 2 none 0 [.ref a0, .int a1] M gk_rV (f_X8_traces (gk_ln Y) (gk_rf Y) a0 a1 M) := by
  refine gk_met hY (plainFor_of_name (by decide)) (Nat.le_of_ble_eq_true rfl) fun Z hC hR => ?_
  show gk_K Z Y 2 gk_rV 0 [(0, .ref a0), (1, .int a1)] [] M _
  unfold f_X8_traces
  refine gk_aload_n hC 0 dX8_traces_0 rfl (q := 1) rfl ?_
  refine gk_getI hC dX8_traces_1 fl_RX8_286 t0 (q := 4) rfl ?_
  refine gk_bipush hC (v := 50) dX8_traces_4 kc_b_50 (q := 6) rfl ?_
  refine gk_jnR (fun k19_21 => ∀ z22 : gk_M, gk_K Z Y 2 gk_rV 19 [(0, .ref a0)] [] z22 (k19_21 z22)) (fun y21 => ?_) (fun k19_21 hk19_21 => ?_)
  · show gk_K Z Y 2 gk_rV 19 [(0, .ref a0)] [] y21 _
    refine gk_aload_n hC 0 dX8_traces_19 rfl (q := 20) rfl ?_
    refine gk_dup hC dX8_traces_20 rfl (q := 21) rfl ?_
    refine gk_getI hC dX8_traces_21 fl_RX8_286 t0 (q := 24) rfl ?_
    refine gk_iconst hC (v := 1) dX8_traces_24 kc_i_1 (q := 25) rfl ?_
    refine gk_iadd hC dX8_traces_25 (q := 26) rfl ?_
    refine gk_putI hC dX8_traces_26 fp_RX8_286 t0 (q := 29) rfl (fun M23 => ?_)
    exact gk_vret hC hR dX8_traces_29 rfl
  · refine gk_icmp_ge hC dX8_traces_6 (tg := 19) rfl (q := 9) rfl ?_ ?_
    · refine gk_pick [0] rfl ?_
      exact hk19_21 M
    · refine gk_aload_n hC 0 dX8_traces_9 rfl (q := 10) rfl ?_
      refine gk_getR hC dX8_traces_10 fl_RX8_97 (by decide) t0 (q := 13) rfl (fun t24 => ?_)
      refine gk_aload_n hC 0 dX8_traces_13 rfl (q := 14) rfl ?_
      refine gk_getI hC dX8_traces_14 fl_RX8_286 t0 (q := 17) rfl ?_
      refine gk_iload_n hC 1 dX8_traces_17 rfl (q := 18) rfl ?_
      refine gk_iast hC dX8_traces_18 t24 (q := 19) rfl (fun M25 => ?_)
      refine gk_pick [0] rfl ?_
      exact hk19_21 M25
def f_X8_plainHear (LN : Nat → Nat) (RF : Nat → Nat → Nat) (a0 : Nat) (a1 : Int32) (a2 : Int32) (M : gk_M) : Option (Int32 × gk_M) :=
  (f_X8_traces LN RF a0 10 M).bind fun r21 =>
  some ((a2 + a1), r21)
set_option maxHeartbeats 4000000 in
set_option maxRecDepth 100000 in
theorem m_X8_plainHear (l : Launch) {Y : gk_Y} (hY : gk_WF Y) (a0 : Nat) (a1 : Int32) (a2 : Int32) (M : gk_M) (t0 : gk_T Y 18 a0) : gk_MF l Y yX8_plainHear cX8_plainHear 3 (some .int) 1 [.ref a0, .int a1, .int a2] M gk_rI (f_X8_plainHear (gk_ln Y) (gk_rf Y) a0 a1 a2 M) := by
  refine gk_met hY (plainFor_of_name (by decide)) (Nat.le_of_ble_eq_true rfl) fun Z hC hR => ?_
  show gk_K Z Y 3 gk_rI 0 [(0, .ref a0), (1, .int a1), (2, .int a2)] [] M _
  unfold f_X8_plainHear
  refine gk_aload_n hC 0 dX8_plainHear_0 rfl (q := 1) rfl ?_
  refine gk_bipush hC (v := 10) dX8_plainHear_1 kc_b_10 (q := 3) rfl ?_
  refine gk_callV (As := [.int 10]) (rest := []) hC (fun l => m_X8_traces l hY a0 10 M t0) ml_RX8_289 ok_X8_traces dX8_plainHear_3 t0 ⟨by decide, rfl⟩ rfl (by decide) (Nat.le_of_ble_eq_true rfl) rfl (q := 6) rfl (fun r21 => ?_)
  show gk_K Z Y 3 gk_rI 6 [(0, .ref a0), (1, .int a1), (2, .int a2)] [] r21 _
  refine gk_iload_n hC 2 dX8_plainHear_6 rfl (q := 7) rfl ?_
  refine gk_iload_n hC 1 dX8_plainHear_7 rfl (q := 8) rfl ?_
  refine gk_iadd hC dX8_plainHear_8 (q := 9) rfl ?_
  exact gk_iret hC hR dX8_plainHear_9 rfl
def f_X8_shutHear (LN : Nat → Nat) (RF : Nat → Nat → Nat) (a0 : Nat) (a1 : Int32) (a2 : Int32) (M : gk_M) : Option (Int32 × gk_M) :=
  (f_X8_traces LN RF a0 30 M).bind fun r21 =>
  (f_X8_plainHear LN RF a0 a1 a2 r21).bind fun r22 =>
  some ((r22.1 * 3), r22.2)
set_option maxHeartbeats 4000000 in
set_option maxRecDepth 100000 in
theorem m_X8_shutHear (l : Launch) {Y : gk_Y} (hY : gk_WF Y) (a0 : Nat) (a1 : Int32) (a2 : Int32) (M : gk_M) (t0 : gk_T Y 18 a0) : gk_MF l Y yX8_shutHear cX8_shutHear 3 (some .int) 2 [.ref a0, .int a1, .int a2] M gk_rI (f_X8_shutHear (gk_ln Y) (gk_rf Y) a0 a1 a2 M) := by
  refine gk_met hY (plainFor_of_name (by decide)) (Nat.le_of_ble_eq_true rfl) fun Z hC hR => ?_
  show gk_K Z Y 3 gk_rI 0 [(0, .ref a0), (1, .int a1), (2, .int a2)] [] M _
  unfold f_X8_shutHear
  refine gk_aload_n hC 0 dX8_shutHear_0 rfl (q := 1) rfl ?_
  refine gk_bipush hC (v := 30) dX8_shutHear_1 kc_b_30 (q := 3) rfl ?_
  refine gk_callV (As := [.int 30]) (rest := []) hC (fun l => m_X8_traces l hY a0 30 M t0) ml_RX8_289 ok_X8_traces dX8_shutHear_3 t0 ⟨by decide, rfl⟩ rfl (by decide) (Nat.le_of_ble_eq_true rfl) rfl (q := 6) rfl (fun r21 => ?_)
  show gk_K Z Y 3 gk_rI 6 [(0, .ref a0), (1, .int a1), (2, .int a2)] [] r21 _
  refine gk_aload_n hC 0 dX8_shutHear_6 rfl (q := 7) rfl ?_
  refine gk_iload_n hC 1 dX8_shutHear_7 rfl (q := 8) rfl ?_
  refine gk_iload_n hC 2 dX8_shutHear_8 rfl (q := 9) rfl ?_
  refine gk_callV (As := [.int a1, .int a2]) (rest := []) hC (fun l => m_X8_plainHear l hY a0 a1 a2 r21 t0) ml_RX8_291 ok_X8_plainHear dX8_shutHear_9 t0 ⟨by decide, rfl⟩ rfl (by decide) (Nat.le_of_ble_eq_true rfl) rfl (q := 12) rfl (fun r22 => ?_)
  show gk_K Z Y 3 gk_rI 12 [(0, .ref a0), (1, .int a1), (2, .int a2)] [.int r22.1] r22.2 _
  refine gk_iconst hC (v := 3) dX8_shutHear_12 kc_i_3 (q := 13) rfl ?_
  refine gk_imul hC dX8_shutHear_13 (q := 14) rfl ?_
  exact gk_iret hC hR dX8_shutHear_14 rfl
def f_X8_plainPay (LN : Nat → Nat) (RF : Nat → Nat → Nat) (a0 : Nat) (a1 : Int32) (a2 : Int32) (M : gk_M) : Option (Int32 × gk_M) :=
  (f_X8_traces LN RF a0 12 M).bind fun r21 =>
  gk_ald LN r21 (RF a0 2) a1 fun x23 =>
  some ((a2 - x23), r21)
set_option maxHeartbeats 4000000 in
set_option maxRecDepth 100000 in
theorem m_X8_plainPay (l : Launch) {Y : gk_Y} (hY : gk_WF Y) (a0 : Nat) (a1 : Int32) (a2 : Int32) (M : gk_M) (t0 : gk_T Y 18 a0) : gk_MF l Y yX8_plainPay cX8_plainPay 3 (some .int) 1 [.ref a0, .int a1, .int a2] M gk_rI (f_X8_plainPay (gk_ln Y) (gk_rf Y) a0 a1 a2 M) := by
  refine gk_met hY (plainFor_of_name (by decide)) (Nat.le_of_ble_eq_true rfl) fun Z hC hR => ?_
  show gk_K Z Y 3 gk_rI 0 [(0, .ref a0), (1, .int a1), (2, .int a2)] [] M _
  unfold f_X8_plainPay
  refine gk_aload_n hC 0 dX8_plainPay_0 rfl (q := 1) rfl ?_
  refine gk_bipush hC (v := 12) dX8_plainPay_1 kc_b_12 (q := 3) rfl ?_
  refine gk_callV (As := [.int 12]) (rest := []) hC (fun l => m_X8_traces l hY a0 12 M t0) ml_RX8_289 ok_X8_traces dX8_plainPay_3 t0 ⟨by decide, rfl⟩ rfl (by decide) (Nat.le_of_ble_eq_true rfl) rfl (q := 6) rfl (fun r21 => ?_)
  show gk_K Z Y 3 gk_rI 6 [(0, .ref a0), (1, .int a1), (2, .int a2)] [] r21 _
  refine gk_iload_n hC 2 dX8_plainPay_6 rfl (q := 7) rfl ?_
  refine gk_aload_n hC 0 dX8_plainPay_7 rfl (q := 8) rfl ?_
  refine gk_getR hC dX8_plainPay_8 fl_RX8_16 (by decide) t0 (q := 11) rfl (fun t22 => ?_)
  refine gk_iload_n hC 1 dX8_plainPay_11 rfl (q := 12) rfl ?_
  refine gk_iald hC dX8_plainPay_12 t22 (q := 13) rfl (fun x23 => ?_)
  refine gk_isub hC dX8_plainPay_13 (q := 14) rfl ?_
  exact gk_iret hC hR dX8_plainPay_14 rfl
def f_X8_pay (LN : Nat → Nat) (RF : Nat → Nat → Nat) (a0 : Nat) (a1 : Int32) (a2 : Int32) (M : gk_M) : Option (Int32 × gk_M) :=
  gk_ald LN M (RF a0 1) a1 fun x22 =>
  if x22 = 5 then
    (f_X8_traces LN RF a0 60 M).bind fun r23 =>
    (f_X8_plainPay LN RF a0 a1 a2 r23).bind fun r24 =>
    gk_ald LN r24.2 (RF a0 3) a1 fun x26 =>
    some ((r24.1 + x26), r24.2)
  else
  gk_ald LN M (RF a0 1) a1 fun x28 =>
  if x28 = 7 then
    (f_X8_traces LN RF a0 80 M).bind fun r29 =>
    (f_X8_plainPay LN RF a0 a1 a2 r29).bind fun r30 =>
    some ((r30.1 * 2), r30.2)
  else
  (f_X8_plainPay LN RF a0 a1 a2 M).bind fun r31 =>
  some (r31.1, r31.2)
set_option maxHeartbeats 4000000 in
set_option maxRecDepth 100000 in
theorem m_X8_pay (l : Launch) {Y : gk_Y} (hY : gk_WF Y) (a0 : Nat) (a1 : Int32) (a2 : Int32) (M : gk_M) (t0 : gk_T Y 18 a0) : gk_MF l Y yX8_pay cX8_pay 3 (some .int) 2 [.ref a0, .int a1, .int a2] M gk_rI (f_X8_pay (gk_ln Y) (gk_rf Y) a0 a1 a2 M) := by
  refine gk_met hY (plainFor_of_name (by decide)) (Nat.le_of_ble_eq_true rfl) fun Z hC hR => ?_
  show gk_K Z Y 3 gk_rI 0 [(0, .ref a0), (1, .int a1), (2, .int a2)] [] M _
  unfold f_X8_pay
  refine gk_aload_n hC 0 dX8_pay_0 rfl (q := 1) rfl ?_
  refine gk_getR hC dX8_pay_1 fl_RX8_13 (by decide) t0 (q := 4) rfl (fun t21 => ?_)
  refine gk_iload_n hC 1 dX8_pay_4 rfl (q := 5) rfl ?_
  refine gk_iald hC dX8_pay_5 t21 (q := 6) rfl (fun x22 => ?_)
  refine gk_iconst hC (v := 5) dX8_pay_6 kc_i_5 (q := 7) rfl ?_
  refine gk_icmp_ne hC dX8_pay_7 (tg := 30) rfl (q := 10) rfl ?_ ?_
  · refine gk_aload_n hC 0 dX8_pay_10 rfl (q := 11) rfl ?_
    refine gk_bipush hC (v := 60) dX8_pay_11 kc_b_60 (q := 13) rfl ?_
    refine gk_callV (As := [.int 60]) (rest := []) hC (fun l => m_X8_traces l hY a0 60 M t0) ml_RX8_289 ok_X8_traces dX8_pay_13 t0 ⟨by decide, rfl⟩ rfl (by decide) (Nat.le_of_ble_eq_true rfl) rfl (q := 16) rfl (fun r23 => ?_)
    show gk_K Z Y 3 gk_rI 16 [(0, .ref a0), (1, .int a1), (2, .int a2)] [] r23 _
    refine gk_aload_n hC 0 dX8_pay_16 rfl (q := 17) rfl ?_
    refine gk_iload_n hC 1 dX8_pay_17 rfl (q := 18) rfl ?_
    refine gk_iload_n hC 2 dX8_pay_18 rfl (q := 19) rfl ?_
    refine gk_callV (As := [.int a1, .int a2]) (rest := []) hC (fun l => m_X8_plainPay l hY a0 a1 a2 r23 t0) ml_RX8_300 ok_X8_plainPay dX8_pay_19 t0 ⟨by decide, rfl⟩ rfl (by decide) (Nat.le_of_ble_eq_true rfl) rfl (q := 22) rfl (fun r24 => ?_)
    show gk_K Z Y 3 gk_rI 22 [(0, .ref a0), (1, .int a1), (2, .int a2)] [.int r24.1] r24.2 _
    refine gk_aload_n hC 0 dX8_pay_22 rfl (q := 23) rfl ?_
    refine gk_getR hC dX8_pay_23 fl_RX8_19 (by decide) t0 (q := 26) rfl (fun t25 => ?_)
    refine gk_iload_n hC 1 dX8_pay_26 rfl (q := 27) rfl ?_
    refine gk_iald hC dX8_pay_27 t25 (q := 28) rfl (fun x26 => ?_)
    refine gk_iadd hC dX8_pay_28 (q := 29) rfl ?_
    exact gk_iret hC hR dX8_pay_29 rfl
  · refine gk_aload_n hC 0 dX8_pay_30 rfl (q := 31) rfl ?_
    refine gk_getR hC dX8_pay_31 fl_RX8_13 (by decide) t0 (q := 34) rfl (fun t27 => ?_)
    refine gk_iload_n hC 1 dX8_pay_34 rfl (q := 35) rfl ?_
    refine gk_iald hC dX8_pay_35 t27 (q := 36) rfl (fun x28 => ?_)
    refine gk_bipush hC (v := 7) dX8_pay_36 kc_b_7 (q := 38) rfl ?_
    refine gk_icmp_eq hC dX8_pay_38 (tg := 48) rfl (q := 41) rfl ?_ ?_
    · refine gk_aload_n hC 0 dX8_pay_48 rfl (q := 49) rfl ?_
      refine gk_bipush hC (v := 80) dX8_pay_49 kc_b_80 (q := 51) rfl ?_
      refine gk_callV (As := [.int 80]) (rest := []) hC (fun l => m_X8_traces l hY a0 80 M t0) ml_RX8_289 ok_X8_traces dX8_pay_51 t0 ⟨by decide, rfl⟩ rfl (by decide) (Nat.le_of_ble_eq_true rfl) rfl (q := 54) rfl (fun r29 => ?_)
      show gk_K Z Y 3 gk_rI 54 [(0, .ref a0), (1, .int a1), (2, .int a2)] [] r29 _
      refine gk_aload_n hC 0 dX8_pay_54 rfl (q := 55) rfl ?_
      refine gk_iload_n hC 1 dX8_pay_55 rfl (q := 56) rfl ?_
      refine gk_iload_n hC 2 dX8_pay_56 rfl (q := 57) rfl ?_
      refine gk_callV (As := [.int a1, .int a2]) (rest := []) hC (fun l => m_X8_plainPay l hY a0 a1 a2 r29 t0) ml_RX8_300 ok_X8_plainPay dX8_pay_57 t0 ⟨by decide, rfl⟩ rfl (by decide) (Nat.le_of_ble_eq_true rfl) rfl (q := 60) rfl (fun r30 => ?_)
      show gk_K Z Y 3 gk_rI 60 [(0, .ref a0), (1, .int a1), (2, .int a2)] [.int r30.1] r30.2 _
      refine gk_iconst hC (v := 2) dX8_pay_60 kc_i_2 (q := 61) rfl ?_
      refine gk_imul hC dX8_pay_61 (q := 62) rfl ?_
      exact gk_iret hC hR dX8_pay_62 rfl
    · refine gk_aload_n hC 0 dX8_pay_41 rfl (q := 42) rfl ?_
      refine gk_iload_n hC 1 dX8_pay_42 rfl (q := 43) rfl ?_
      refine gk_iload_n hC 2 dX8_pay_43 rfl (q := 44) rfl ?_
      refine gk_callV (As := [.int a1, .int a2]) (rest := []) hC (fun l => m_X8_plainPay l hY a0 a1 a2 M t0) ml_RX8_300 ok_X8_plainPay dX8_pay_44 t0 ⟨by decide, rfl⟩ rfl (by decide) (Nat.le_of_ble_eq_true rfl) rfl (q := 47) rfl (fun r31 => ?_)
      show gk_K Z Y 3 gk_rI 47 [(0, .ref a0), (1, .int a1), (2, .int a2)] [.int r31.1] r31.2 _
      exact gk_iret hC hR dX8_pay_47 rfl
def f_X8_hear (LN : Nat → Nat) (RF : Nat → Nat → Nat) (a0 : Nat) (a1 : Int32) (a2 : Int32) (M : gk_M) : Option (Int32 × gk_M) :=
  gk_ald LN M (RF a0 1) a1 fun x22 =>
  if x22 = 3 then
    (f_X8_traces LN RF a0 40 M).bind fun r23 =>
    (f_X8_shutHear LN RF a0 a1 a2 r23).bind fun r24 =>
    (f_X8_pay LN RF a0 a1 a2 r24.2).bind fun r25 =>
    some ((r24.1 - r25.1), r25.2)
  else
  gk_ald LN M (RF a0 1) a1 fun x27 =>
  gk_jn (fun y28 : Int32 × gk_M =>
    some (y28.1, y28.2)) fun k57_28 =>
  if x27 = 2 then
    (f_X8_shutHear LN RF a0 a1 a2 M).bind fun r30 =>
    k57_28 (r30.1, r30.2)
  else
  (f_X8_plainHear LN RF a0 a1 a2 M).bind fun r31 =>
  k57_28 (r31.1, r31.2)
set_option maxHeartbeats 4000000 in
set_option maxRecDepth 100000 in
theorem m_X8_hear (l : Launch) {Y : gk_Y} (hY : gk_WF Y) (a0 : Nat) (a1 : Int32) (a2 : Int32) (M : gk_M) (t0 : gk_T Y 18 a0) : gk_MF l Y yX8_hear cX8_hear 4 (some .int) 3 [.ref a0, .int a1, .int a2] M gk_rI (f_X8_hear (gk_ln Y) (gk_rf Y) a0 a1 a2 M) := by
  refine gk_met hY (plainFor_of_name (by decide)) (Nat.le_of_ble_eq_true rfl) fun Z hC hR => ?_
  show gk_K Z Y 4 gk_rI 0 [(0, .ref a0), (1, .int a1), (2, .int a2)] [] M _
  unfold f_X8_hear
  refine gk_aload_n hC 0 dX8_hear_0 rfl (q := 1) rfl ?_
  refine gk_getR hC dX8_hear_1 fl_RX8_13 (by decide) t0 (q := 4) rfl (fun t21 => ?_)
  refine gk_iload_n hC 1 dX8_hear_4 rfl (q := 5) rfl ?_
  refine gk_iald hC dX8_hear_5 t21 (q := 6) rfl (fun x22 => ?_)
  refine gk_iconst hC (v := 3) dX8_hear_6 kc_i_3 (q := 7) rfl ?_
  refine gk_icmp_ne hC dX8_hear_7 (tg := 32) rfl (q := 10) rfl ?_ ?_
  · refine gk_aload_n hC 0 dX8_hear_10 rfl (q := 11) rfl ?_
    refine gk_bipush hC (v := 40) dX8_hear_11 kc_b_40 (q := 13) rfl ?_
    refine gk_callV (As := [.int 40]) (rest := []) hC (fun l => m_X8_traces l hY a0 40 M t0) ml_RX8_289 ok_X8_traces dX8_hear_13 t0 ⟨by decide, rfl⟩ rfl (by decide) (Nat.le_of_ble_eq_true rfl) rfl (q := 16) rfl (fun r23 => ?_)
    show gk_K Z Y 4 gk_rI 16 [(0, .ref a0), (1, .int a1), (2, .int a2)] [] r23 _
    refine gk_aload_n hC 0 dX8_hear_16 rfl (q := 17) rfl ?_
    refine gk_iload_n hC 1 dX8_hear_17 rfl (q := 18) rfl ?_
    refine gk_iload_n hC 2 dX8_hear_18 rfl (q := 19) rfl ?_
    refine gk_callV (As := [.int a1, .int a2]) (rest := []) hC (fun l => m_X8_shutHear l hY a0 a1 a2 r23 t0) ml_RX8_294 ok_X8_shutHear dX8_hear_19 t0 ⟨by decide, rfl⟩ rfl (by decide) (Nat.le_of_ble_eq_true rfl) rfl (q := 22) rfl (fun r24 => ?_)
    show gk_K Z Y 4 gk_rI 22 [(0, .ref a0), (1, .int a1), (2, .int a2)] [.int r24.1] r24.2 _
    refine gk_istore_n hC (lv' := [(0, .ref a0), (1, .int a1), (2, .int a2), (3, .int r24.1)]) [1, 2, 3, 0] dX8_hear_22 (by decide) rfl (q := 23) rfl ?_
    refine gk_iload_n hC 3 dX8_hear_23 rfl (q := 24) rfl ?_
    refine gk_aload_n hC 0 dX8_hear_24 rfl (q := 25) rfl ?_
    refine gk_iload_n hC 1 dX8_hear_25 rfl (q := 26) rfl ?_
    refine gk_iload_n hC 2 dX8_hear_26 rfl (q := 27) rfl ?_
    refine gk_callV (As := [.int a1, .int a2]) (rest := [.int r24.1]) hC (fun l => m_X8_pay l hY a0 a1 a2 r24.2 t0) ml_RX8_297 ok_X8_pay dX8_hear_27 t0 ⟨by decide, rfl⟩ rfl (by decide) (Nat.le_of_ble_eq_true rfl) rfl (q := 30) rfl (fun r25 => ?_)
    show gk_K Z Y 4 gk_rI 30 [(0, .ref a0), (1, .int a1), (2, .int a2), (3, .int r24.1)] [.int r25.1, .int r24.1] r25.2 _
    refine gk_isub hC dX8_hear_30 (q := 31) rfl ?_
    exact gk_iret hC hR dX8_hear_31 rfl
  · refine gk_aload_n hC 0 dX8_hear_32 rfl (q := 33) rfl ?_
    refine gk_getR hC dX8_hear_33 fl_RX8_13 (by decide) t0 (q := 36) rfl (fun t26 => ?_)
    refine gk_iload_n hC 1 dX8_hear_36 rfl (q := 37) rfl ?_
    refine gk_iald hC dX8_hear_37 t26 (q := 38) rfl (fun x27 => ?_)
    refine gk_iconst hC (v := 2) dX8_hear_38 kc_i_2 (q := 39) rfl ?_
    refine gk_jnR (fun k57_28 => ∀ z29 : Int32 × gk_M, gk_K Z Y 4 gk_rI 57 [] [.int z29.1] z29.2 (k57_28 z29)) (fun y28 => ?_) (fun k57_28 hk57_28 => ?_)
    · show gk_K Z Y 4 gk_rI 57 [] [.int y28.1] y28.2 _
      exact gk_iret hC hR dX8_hear_57 rfl
    · refine gk_icmp_ne hC dX8_hear_39 (tg := 51) rfl (q := 42) rfl ?_ ?_
      · refine gk_aload_n hC 0 dX8_hear_42 rfl (q := 43) rfl ?_
        refine gk_iload_n hC 1 dX8_hear_43 rfl (q := 44) rfl ?_
        refine gk_iload_n hC 2 dX8_hear_44 rfl (q := 45) rfl ?_
        refine gk_callV (As := [.int a1, .int a2]) (rest := []) hC (fun l => m_X8_shutHear l hY a0 a1 a2 M t0) ml_RX8_294 ok_X8_shutHear dX8_hear_45 t0 ⟨by decide, rfl⟩ rfl (by decide) (Nat.le_of_ble_eq_true rfl) rfl (q := 48) rfl (fun r30 => ?_)
        show gk_K Z Y 4 gk_rI 48 [(0, .ref a0), (1, .int a1), (2, .int a2)] [.int r30.1] r30.2 _
        refine gk_goto hC dX8_hear_48 (q := 57) rfl ?_
        refine gk_pick [] rfl ?_
        exact hk57_28 (r30.1, r30.2)
      · refine gk_aload_n hC 0 dX8_hear_51 rfl (q := 52) rfl ?_
        refine gk_iload_n hC 1 dX8_hear_52 rfl (q := 53) rfl ?_
        refine gk_iload_n hC 2 dX8_hear_53 rfl (q := 54) rfl ?_
        refine gk_callV (As := [.int a1, .int a2]) (rest := []) hC (fun l => m_X8_plainHear l hY a0 a1 a2 M t0) ml_RX8_291 ok_X8_plainHear dX8_hear_54 t0 ⟨by decide, rfl⟩ rfl (by decide) (Nat.le_of_ble_eq_true rfl) rfl (q := 57) rfl (fun r31 => ?_)
        show gk_K Z Y 4 gk_rI 57 [(0, .ref a0), (1, .int a1), (2, .int a2)] [.int r31.1] r31.2 _
        refine gk_pick [] rfl ?_
        exact hk57_28 (r31.1, r31.2)
def f_X8_plainTurn (LN : Nat → Nat) (RF : Nat → Nat → Nat) (a0 : Nat) (a1 : Int32) (a2 : Int32) (M : gk_M) : Option (Int32 × gk_M) :=
  (f_X8_traces LN RF a0 11 M).bind fun r21 =>
  (f_X8_hear LN RF a0 a1 a2 r21).bind fun r22 =>
  some ((r22.1 * 2), r22.2)
set_option maxHeartbeats 4000000 in
set_option maxRecDepth 100000 in
theorem m_X8_plainTurn (l : Launch) {Y : gk_Y} (hY : gk_WF Y) (a0 : Nat) (a1 : Int32) (a2 : Int32) (M : gk_M) (t0 : gk_T Y 18 a0) : gk_MF l Y yX8_plainTurn cX8_plainTurn 3 (some .int) 4 [.ref a0, .int a1, .int a2] M gk_rI (f_X8_plainTurn (gk_ln Y) (gk_rf Y) a0 a1 a2 M) := by
  refine gk_met hY (plainFor_of_name (by decide)) (Nat.le_of_ble_eq_true rfl) fun Z hC hR => ?_
  show gk_K Z Y 3 gk_rI 0 [(0, .ref a0), (1, .int a1), (2, .int a2)] [] M _
  unfold f_X8_plainTurn
  refine gk_aload_n hC 0 dX8_plainTurn_0 rfl (q := 1) rfl ?_
  refine gk_bipush hC (v := 11) dX8_plainTurn_1 kc_b_11 (q := 3) rfl ?_
  refine gk_callV (As := [.int 11]) (rest := []) hC (fun l => m_X8_traces l hY a0 11 M t0) ml_RX8_289 ok_X8_traces dX8_plainTurn_3 t0 ⟨by decide, rfl⟩ rfl (by decide) (Nat.le_of_ble_eq_true rfl) rfl (q := 6) rfl (fun r21 => ?_)
  show gk_K Z Y 3 gk_rI 6 [(0, .ref a0), (1, .int a1), (2, .int a2)] [] r21 _
  refine gk_aload_n hC 0 dX8_plainTurn_6 rfl (q := 7) rfl ?_
  refine gk_iload_n hC 1 dX8_plainTurn_7 rfl (q := 8) rfl ?_
  refine gk_iload_n hC 2 dX8_plainTurn_8 rfl (q := 9) rfl ?_
  refine gk_callV (As := [.int a1, .int a2]) (rest := []) hC (fun l => m_X8_hear l hY a0 a1 a2 r21 t0) ml_RX8_303 ok_X8_hear dX8_plainTurn_9 t0 ⟨by decide, rfl⟩ rfl (by decide) (Nat.le_of_ble_eq_true rfl) rfl (q := 12) rfl (fun r22 => ?_)
  show gk_K Z Y 3 gk_rI 12 [(0, .ref a0), (1, .int a1), (2, .int a2)] [.int r22.1] r22.2 _
  refine gk_iconst hC (v := 2) dX8_plainTurn_12 kc_i_2 (q := 13) rfl ?_
  refine gk_imul hC dX8_plainTurn_13 (q := 14) rfl ?_
  exact gk_iret hC hR dX8_plainTurn_14 rfl
def f_X8_turn (LN : Nat → Nat) (RF : Nat → Nat → Nat) (a0 : Nat) (a1 : Int32) (a2 : Int32) (M : gk_M) : Option (Int32 × gk_M) :=
  gk_ald LN M (RF a0 1) a1 fun x22 =>
  if x22 = 1 then
    (f_X8_traces LN RF a0 20 M).bind fun r23 =>
    (f_X8_plainTurn LN RF a0 a1 a2 r23).bind fun r24 =>
    gk_ald LN r24.2 (RF a0 3) a1 fun x26 =>
    some ((r24.1 + x26), r24.2)
  else
  gk_ald LN M (RF a0 1) a1 fun x28 =>
  if x28 = 3 then
    (f_X8_traces LN RF a0 41 M).bind fun r29 =>
    gk_ald LN r29 (RF a0 3) a1 fun x31 =>
    (f_X8_plainTurn LN RF a0 a1 (a2 - x31) r29).bind fun r32 =>
    some (r32.1, r32.2)
  else
  gk_ald LN M (RF a0 1) a1 fun x34 =>
  if x34 = 6 then
    (f_X8_traces LN RF a0 70 M).bind fun r35 =>
    (f_X8_plainTurn LN RF a0 a1 a2 r35).bind fun r36 =>
    gk_ald LN r36.2 (RF a0 3) a1 fun x38 =>
    (f_X8_hear LN RF a0 a1 x38 r36.2).bind fun r39 =>
    some ((r36.1 ^^^ r39.1), r39.2)
  else
  (f_X8_plainTurn LN RF a0 a1 a2 M).bind fun r40 =>
  some (r40.1, r40.2)
set_option maxHeartbeats 4000000 in
set_option maxRecDepth 100000 in
theorem m_X8_turn (l : Launch) {Y : gk_Y} (hY : gk_WF Y) (a0 : Nat) (a1 : Int32) (a2 : Int32) (M : gk_M) (t0 : gk_T Y 18 a0) : gk_MF l Y yX8_turn cX8_turn 4 (some .int) 5 [.ref a0, .int a1, .int a2] M gk_rI (f_X8_turn (gk_ln Y) (gk_rf Y) a0 a1 a2 M) := by
  refine gk_met hY (plainFor_of_name (by decide)) (Nat.le_of_ble_eq_true rfl) fun Z hC hR => ?_
  show gk_K Z Y 4 gk_rI 0 [(0, .ref a0), (1, .int a1), (2, .int a2)] [] M _
  unfold f_X8_turn
  refine gk_aload_n hC 0 dX8_turn_0 rfl (q := 1) rfl ?_
  refine gk_getR hC dX8_turn_1 fl_RX8_13 (by decide) t0 (q := 4) rfl (fun t21 => ?_)
  refine gk_iload_n hC 1 dX8_turn_4 rfl (q := 5) rfl ?_
  refine gk_iald hC dX8_turn_5 t21 (q := 6) rfl (fun x22 => ?_)
  refine gk_iconst hC (v := 1) dX8_turn_6 kc_i_1 (q := 7) rfl ?_
  refine gk_icmp_ne hC dX8_turn_7 (tg := 30) rfl (q := 10) rfl ?_ ?_
  · refine gk_aload_n hC 0 dX8_turn_10 rfl (q := 11) rfl ?_
    refine gk_bipush hC (v := 20) dX8_turn_11 kc_b_20 (q := 13) rfl ?_
    refine gk_callV (As := [.int 20]) (rest := []) hC (fun l => m_X8_traces l hY a0 20 M t0) ml_RX8_289 ok_X8_traces dX8_turn_13 t0 ⟨by decide, rfl⟩ rfl (by decide) (Nat.le_of_ble_eq_true rfl) rfl (q := 16) rfl (fun r23 => ?_)
    show gk_K Z Y 4 gk_rI 16 [(0, .ref a0), (1, .int a1), (2, .int a2)] [] r23 _
    refine gk_aload_n hC 0 dX8_turn_16 rfl (q := 17) rfl ?_
    refine gk_iload_n hC 1 dX8_turn_17 rfl (q := 18) rfl ?_
    refine gk_iload_n hC 2 dX8_turn_18 rfl (q := 19) rfl ?_
    refine gk_callV (As := [.int a1, .int a2]) (rest := []) hC (fun l => m_X8_plainTurn l hY a0 a1 a2 r23 t0) ml_RX8_306 ok_X8_plainTurn dX8_turn_19 t0 ⟨by decide, rfl⟩ rfl (by decide) (Nat.le_of_ble_eq_true rfl) rfl (q := 22) rfl (fun r24 => ?_)
    show gk_K Z Y 4 gk_rI 22 [(0, .ref a0), (1, .int a1), (2, .int a2)] [.int r24.1] r24.2 _
    refine gk_aload_n hC 0 dX8_turn_22 rfl (q := 23) rfl ?_
    refine gk_getR hC dX8_turn_23 fl_RX8_19 (by decide) t0 (q := 26) rfl (fun t25 => ?_)
    refine gk_iload_n hC 1 dX8_turn_26 rfl (q := 27) rfl ?_
    refine gk_iald hC dX8_turn_27 t25 (q := 28) rfl (fun x26 => ?_)
    refine gk_iadd hC dX8_turn_28 (q := 29) rfl ?_
    exact gk_iret hC hR dX8_turn_29 rfl
  · refine gk_aload_n hC 0 dX8_turn_30 rfl (q := 31) rfl ?_
    refine gk_getR hC dX8_turn_31 fl_RX8_13 (by decide) t0 (q := 34) rfl (fun t27 => ?_)
    refine gk_iload_n hC 1 dX8_turn_34 rfl (q := 35) rfl ?_
    refine gk_iald hC dX8_turn_35 t27 (q := 36) rfl (fun x28 => ?_)
    refine gk_iconst hC (v := 3) dX8_turn_36 kc_i_3 (q := 37) rfl ?_
    refine gk_icmp_ne hC dX8_turn_37 (tg := 60) rfl (q := 40) rfl ?_ ?_
    · refine gk_aload_n hC 0 dX8_turn_40 rfl (q := 41) rfl ?_
      refine gk_bipush hC (v := 41) dX8_turn_41 kc_b_41 (q := 43) rfl ?_
      refine gk_callV (As := [.int 41]) (rest := []) hC (fun l => m_X8_traces l hY a0 41 M t0) ml_RX8_289 ok_X8_traces dX8_turn_43 t0 ⟨by decide, rfl⟩ rfl (by decide) (Nat.le_of_ble_eq_true rfl) rfl (q := 46) rfl (fun r29 => ?_)
      show gk_K Z Y 4 gk_rI 46 [(0, .ref a0), (1, .int a1), (2, .int a2)] [] r29 _
      refine gk_aload_n hC 0 dX8_turn_46 rfl (q := 47) rfl ?_
      refine gk_iload_n hC 1 dX8_turn_47 rfl (q := 48) rfl ?_
      refine gk_iload_n hC 2 dX8_turn_48 rfl (q := 49) rfl ?_
      refine gk_aload_n hC 0 dX8_turn_49 rfl (q := 50) rfl ?_
      refine gk_getR hC dX8_turn_50 fl_RX8_19 (by decide) t0 (q := 53) rfl (fun t30 => ?_)
      refine gk_iload_n hC 1 dX8_turn_53 rfl (q := 54) rfl ?_
      refine gk_iald hC dX8_turn_54 t30 (q := 55) rfl (fun x31 => ?_)
      refine gk_isub hC dX8_turn_55 (q := 56) rfl ?_
      refine gk_callV (As := [.int a1, .int (a2 - x31)]) (rest := []) hC (fun l => m_X8_plainTurn l hY a0 a1 (a2 - x31) r29 t0) ml_RX8_306 ok_X8_plainTurn dX8_turn_56 t0 ⟨by decide, rfl⟩ rfl (by decide) (Nat.le_of_ble_eq_true rfl) rfl (q := 59) rfl (fun r32 => ?_)
      show gk_K Z Y 4 gk_rI 59 [(0, .ref a0), (1, .int a1), (2, .int a2)] [.int r32.1] r32.2 _
      exact gk_iret hC hR dX8_turn_59 rfl
    · refine gk_aload_n hC 0 dX8_turn_60 rfl (q := 61) rfl ?_
      refine gk_getR hC dX8_turn_61 fl_RX8_13 (by decide) t0 (q := 64) rfl (fun t33 => ?_)
      refine gk_iload_n hC 1 dX8_turn_64 rfl (q := 65) rfl ?_
      refine gk_iald hC dX8_turn_65 t33 (q := 66) rfl (fun x34 => ?_)
      refine gk_bipush hC (v := 6) dX8_turn_66 kc_b_6 (q := 68) rfl ?_
      refine gk_icmp_eq hC dX8_turn_68 (tg := 78) rfl (q := 71) rfl ?_ ?_
      · refine gk_aload_n hC 0 dX8_turn_78 rfl (q := 79) rfl ?_
        refine gk_bipush hC (v := 70) dX8_turn_79 kc_b_70 (q := 81) rfl ?_
        refine gk_callV (As := [.int 70]) (rest := []) hC (fun l => m_X8_traces l hY a0 70 M t0) ml_RX8_289 ok_X8_traces dX8_turn_81 t0 ⟨by decide, rfl⟩ rfl (by decide) (Nat.le_of_ble_eq_true rfl) rfl (q := 84) rfl (fun r35 => ?_)
        show gk_K Z Y 4 gk_rI 84 [(0, .ref a0), (1, .int a1), (2, .int a2)] [] r35 _
        refine gk_aload_n hC 0 dX8_turn_84 rfl (q := 85) rfl ?_
        refine gk_iload_n hC 1 dX8_turn_85 rfl (q := 86) rfl ?_
        refine gk_iload_n hC 2 dX8_turn_86 rfl (q := 87) rfl ?_
        refine gk_callV (As := [.int a1, .int a2]) (rest := []) hC (fun l => m_X8_plainTurn l hY a0 a1 a2 r35 t0) ml_RX8_306 ok_X8_plainTurn dX8_turn_87 t0 ⟨by decide, rfl⟩ rfl (by decide) (Nat.le_of_ble_eq_true rfl) rfl (q := 90) rfl (fun r36 => ?_)
        show gk_K Z Y 4 gk_rI 90 [(0, .ref a0), (1, .int a1), (2, .int a2)] [.int r36.1] r36.2 _
        refine gk_istore_n hC (lv' := [(0, .ref a0), (1, .int a1), (3, .int r36.1)]) [1, 2, 0] dX8_turn_90 (by decide) rfl (q := 91) rfl ?_
        refine gk_iload_n hC 2 dX8_turn_91 rfl (q := 92) rfl ?_
        refine gk_aload_n hC 0 dX8_turn_92 rfl (q := 93) rfl ?_
        refine gk_iload_n hC 1 dX8_turn_93 rfl (q := 94) rfl ?_
        refine gk_aload_n hC 0 dX8_turn_94 rfl (q := 95) rfl ?_
        refine gk_getR hC dX8_turn_95 fl_RX8_19 (by decide) t0 (q := 98) rfl (fun t37 => ?_)
        refine gk_iload_n hC 1 dX8_turn_98 rfl (q := 99) rfl ?_
        refine gk_iald hC dX8_turn_99 t37 (q := 100) rfl (fun x38 => ?_)
        refine gk_callV (As := [.int a1, .int x38]) (rest := [.int r36.1]) hC (fun l => m_X8_hear l hY a0 a1 x38 r36.2 t0) ml_RX8_303 ok_X8_hear dX8_turn_100 t0 ⟨by decide, rfl⟩ rfl (by decide) (Nat.le_of_ble_eq_true rfl) rfl (q := 103) rfl (fun r39 => ?_)
        show gk_K Z Y 4 gk_rI 103 [(0, .ref a0), (1, .int a1), (3, .int r36.1)] [.int r39.1, .int r36.1] r39.2 _
        refine gk_ixor hC dX8_turn_103 (q := 104) rfl ?_
        exact gk_iret hC hR dX8_turn_104 rfl
      · refine gk_aload_n hC 0 dX8_turn_71 rfl (q := 72) rfl ?_
        refine gk_iload_n hC 1 dX8_turn_72 rfl (q := 73) rfl ?_
        refine gk_iload_n hC 2 dX8_turn_73 rfl (q := 74) rfl ?_
        refine gk_callV (As := [.int a1, .int a2]) (rest := []) hC (fun l => m_X8_plainTurn l hY a0 a1 a2 M t0) ml_RX8_306 ok_X8_plainTurn dX8_turn_74 t0 ⟨by decide, rfl⟩ rfl (by decide) (Nat.le_of_ble_eq_true rfl) rfl (q := 77) rfl (fun r40 => ?_)
        show gk_K Z Y 4 gk_rI 77 [(0, .ref a0), (1, .int a1), (2, .int a2)] [.int r40.1] r40.2 _
        exact gk_iret hC hR dX8_turn_77 rfl
def f_X8_plainEnd (LN : Nat → Nat) (RF : Nat → Nat → Nat) (a0 : Nat) (a1 : Int32) (a2 : Int32) (M : gk_M) : Option (Int32 × gk_M) :=
  (f_X8_traces LN RF a0 13 M).bind fun r21 =>
  (f_X8_turn LN RF a0 a1 a2 r21).bind fun r22 =>
  (f_X8_pay LN RF a0 a1 a2 r22.2).bind fun r23 =>
  some ((r22.1 ^^^ r23.1), r23.2)
set_option maxHeartbeats 4000000 in
set_option maxRecDepth 100000 in
theorem m_X8_plainEnd (l : Launch) {Y : gk_Y} (hY : gk_WF Y) (a0 : Nat) (a1 : Int32) (a2 : Int32) (M : gk_M) (t0 : gk_T Y 18 a0) : gk_MF l Y yX8_plainEnd cX8_plainEnd 4 (some .int) 6 [.ref a0, .int a1, .int a2] M gk_rI (f_X8_plainEnd (gk_ln Y) (gk_rf Y) a0 a1 a2 M) := by
  refine gk_met hY (plainFor_of_name (by decide)) (Nat.le_of_ble_eq_true rfl) fun Z hC hR => ?_
  show gk_K Z Y 4 gk_rI 0 [(0, .ref a0), (1, .int a1), (2, .int a2)] [] M _
  unfold f_X8_plainEnd
  refine gk_aload_n hC 0 dX8_plainEnd_0 rfl (q := 1) rfl ?_
  refine gk_bipush hC (v := 13) dX8_plainEnd_1 kc_b_13 (q := 3) rfl ?_
  refine gk_callV (As := [.int 13]) (rest := []) hC (fun l => m_X8_traces l hY a0 13 M t0) ml_RX8_289 ok_X8_traces dX8_plainEnd_3 t0 ⟨by decide, rfl⟩ rfl (by decide) (Nat.le_of_ble_eq_true rfl) rfl (q := 6) rfl (fun r21 => ?_)
  show gk_K Z Y 4 gk_rI 6 [(0, .ref a0), (1, .int a1), (2, .int a2)] [] r21 _
  refine gk_aload_n hC 0 dX8_plainEnd_6 rfl (q := 7) rfl ?_
  refine gk_iload_n hC 1 dX8_plainEnd_7 rfl (q := 8) rfl ?_
  refine gk_iload_n hC 2 dX8_plainEnd_8 rfl (q := 9) rfl ?_
  refine gk_callV (As := [.int a1, .int a2]) (rest := []) hC (fun l => m_X8_turn l hY a0 a1 a2 r21 t0) ml_RX8_309 ok_X8_turn dX8_plainEnd_9 t0 ⟨by decide, rfl⟩ rfl (by decide) (Nat.le_of_ble_eq_true rfl) rfl (q := 12) rfl (fun r22 => ?_)
  show gk_K Z Y 4 gk_rI 12 [(0, .ref a0), (1, .int a1), (2, .int a2)] [.int r22.1] r22.2 _
  refine gk_istore_n hC (lv' := [(0, .ref a0), (1, .int a1), (2, .int a2), (3, .int r22.1)]) [1, 2, 3, 0] dX8_plainEnd_12 (by decide) rfl (q := 13) rfl ?_
  refine gk_iload_n hC 3 dX8_plainEnd_13 rfl (q := 14) rfl ?_
  refine gk_aload_n hC 0 dX8_plainEnd_14 rfl (q := 15) rfl ?_
  refine gk_iload_n hC 1 dX8_plainEnd_15 rfl (q := 16) rfl ?_
  refine gk_iload_n hC 2 dX8_plainEnd_16 rfl (q := 17) rfl ?_
  refine gk_callV (As := [.int a1, .int a2]) (rest := [.int r22.1]) hC (fun l => m_X8_pay l hY a0 a1 a2 r22.2 t0) ml_RX8_297 ok_X8_pay dX8_plainEnd_17 t0 ⟨by decide, rfl⟩ rfl (by decide) (Nat.le_of_ble_eq_true rfl) rfl (q := 20) rfl (fun r23 => ?_)
  show gk_K Z Y 4 gk_rI 20 [(0, .ref a0), (1, .int a1), (2, .int a2), (3, .int r22.1)] [.int r23.1, .int r22.1] r23.2 _
  refine gk_ixor hC dX8_plainEnd_20 (q := 21) rfl ?_
  exact gk_iret hC hR dX8_plainEnd_21 rfl
def f_X8_end (LN : Nat → Nat) (RF : Nat → Nat → Nat) (a0 : Nat) (a1 : Int32) (a2 : Int32) (M : gk_M) : Option (Int32 × gk_M) :=
  gk_ald LN M (RF a0 1) a1 fun x22 =>
  gk_jn (fun y23 : Unit =>
    (f_X8_traces LN RF a0 31 M).bind fun r25 =>
    (f_X8_plainEnd LN RF a0 a1 (a2 + 1) r25).bind fun r26 =>
    some (r26.1, r26.2)) fun k20_23 =>
  if x22 = 2 then
    k20_23 ()
  else
  gk_ald LN M (RF a0 1) a1 fun x28 =>
  if x28 = 3 then
    k20_23 ()
  else
  gk_ald LN M (RF a0 1) a1 fun x30 =>
  if x30 = 4 then
    (f_X8_traces LN RF a0 50 M).bind fun r31 =>
    (f_X8_pay LN RF a0 a1 a2 r31).bind fun r32 =>
    (f_X8_plainEnd LN RF a0 a1 a2 r32.2).bind fun r33 =>
    some ((r32.1 - r33.1), r33.2)
  else
  (f_X8_plainEnd LN RF a0 a1 a2 M).bind fun r34 =>
  some (r34.1, r34.2)
set_option maxHeartbeats 4000000 in
set_option maxRecDepth 100000 in
theorem m_X8_end (l : Launch) {Y : gk_Y} (hY : gk_WF Y) (a0 : Nat) (a1 : Int32) (a2 : Int32) (M : gk_M) (t0 : gk_T Y 18 a0) : gk_MF l Y yX8_end cX8_end 4 (some .int) 7 [.ref a0, .int a1, .int a2] M gk_rI (f_X8_end (gk_ln Y) (gk_rf Y) a0 a1 a2 M) := by
  refine gk_met hY (plainFor_of_name (by decide)) (Nat.le_of_ble_eq_true rfl) fun Z hC hR => ?_
  show gk_K Z Y 4 gk_rI 0 [(0, .ref a0), (1, .int a1), (2, .int a2)] [] M _
  unfold f_X8_end
  refine gk_aload_n hC 0 dX8_end_0 rfl (q := 1) rfl ?_
  refine gk_getR hC dX8_end_1 fl_RX8_13 (by decide) t0 (q := 4) rfl (fun t21 => ?_)
  refine gk_iload_n hC 1 dX8_end_4 rfl (q := 5) rfl ?_
  refine gk_iald hC dX8_end_5 t21 (q := 6) rfl (fun x22 => ?_)
  refine gk_iconst hC (v := 2) dX8_end_6 kc_i_2 (q := 7) rfl ?_
  refine gk_jnR (fun k20_23 => ∀ z24 : Unit, gk_K Z Y 4 gk_rI 20 [(0, .ref a0), (1, .int a1), (2, .int a2)] [] M (k20_23 z24)) (fun y23 => ?_) (fun k20_23 hk20_23 => ?_)
  · show gk_K Z Y 4 gk_rI 20 [(0, .ref a0), (1, .int a1), (2, .int a2)] [] M _
    refine gk_aload_n hC 0 dX8_end_20 rfl (q := 21) rfl ?_
    refine gk_bipush hC (v := 31) dX8_end_21 kc_b_31 (q := 23) rfl ?_
    refine gk_callV (As := [.int 31]) (rest := []) hC (fun l => m_X8_traces l hY a0 31 M t0) ml_RX8_289 ok_X8_traces dX8_end_23 t0 ⟨by decide, rfl⟩ rfl (by decide) (Nat.le_of_ble_eq_true rfl) rfl (q := 26) rfl (fun r25 => ?_)
    show gk_K Z Y 4 gk_rI 26 [(0, .ref a0), (1, .int a1), (2, .int a2)] [] r25 _
    refine gk_aload_n hC 0 dX8_end_26 rfl (q := 27) rfl ?_
    refine gk_iload_n hC 1 dX8_end_27 rfl (q := 28) rfl ?_
    refine gk_iload_n hC 2 dX8_end_28 rfl (q := 29) rfl ?_
    refine gk_iconst hC (v := 1) dX8_end_29 kc_i_1 (q := 30) rfl ?_
    refine gk_iadd hC dX8_end_30 (q := 31) rfl ?_
    refine gk_callV (As := [.int a1, .int (a2 + 1)]) (rest := []) hC (fun l => m_X8_plainEnd l hY a0 a1 (a2 + 1) r25 t0) ml_RX8_312 ok_X8_plainEnd dX8_end_31 t0 ⟨by decide, rfl⟩ rfl (by decide) (Nat.le_of_ble_eq_true rfl) rfl (q := 34) rfl (fun r26 => ?_)
    show gk_K Z Y 4 gk_rI 34 [(0, .ref a0), (1, .int a1), (2, .int a2)] [.int r26.1] r26.2 _
    exact gk_iret hC hR dX8_end_34 rfl
  · refine gk_icmp_eq hC dX8_end_7 (tg := 20) rfl (q := 10) rfl ?_ ?_
    · exact hk20_23 ()
    · refine gk_aload_n hC 0 dX8_end_10 rfl (q := 11) rfl ?_
      refine gk_getR hC dX8_end_11 fl_RX8_13 (by decide) t0 (q := 14) rfl (fun t27 => ?_)
      refine gk_iload_n hC 1 dX8_end_14 rfl (q := 15) rfl ?_
      refine gk_iald hC dX8_end_15 t27 (q := 16) rfl (fun x28 => ?_)
      refine gk_iconst hC (v := 3) dX8_end_16 kc_i_3 (q := 17) rfl ?_
      refine gk_icmp_ne hC dX8_end_17 (tg := 35) rfl (q := 20) rfl ?_ ?_
      · exact hk20_23 ()
      · refine gk_aload_n hC 0 dX8_end_35 rfl (q := 36) rfl ?_
        refine gk_getR hC dX8_end_36 fl_RX8_13 (by decide) t0 (q := 39) rfl (fun t29 => ?_)
        refine gk_iload_n hC 1 dX8_end_39 rfl (q := 40) rfl ?_
        refine gk_iald hC dX8_end_40 t29 (q := 41) rfl (fun x30 => ?_)
        refine gk_iconst hC (v := 4) dX8_end_41 kc_i_4 (q := 42) rfl ?_
        refine gk_icmp_eq hC dX8_end_42 (tg := 52) rfl (q := 45) rfl ?_ ?_
        · refine gk_aload_n hC 0 dX8_end_52 rfl (q := 53) rfl ?_
          refine gk_bipush hC (v := 50) dX8_end_53 kc_b_50 (q := 55) rfl ?_
          refine gk_callV (As := [.int 50]) (rest := []) hC (fun l => m_X8_traces l hY a0 50 M t0) ml_RX8_289 ok_X8_traces dX8_end_55 t0 ⟨by decide, rfl⟩ rfl (by decide) (Nat.le_of_ble_eq_true rfl) rfl (q := 58) rfl (fun r31 => ?_)
          show gk_K Z Y 4 gk_rI 58 [(0, .ref a0), (1, .int a1), (2, .int a2)] [] r31 _
          refine gk_aload_n hC 0 dX8_end_58 rfl (q := 59) rfl ?_
          refine gk_iload_n hC 1 dX8_end_59 rfl (q := 60) rfl ?_
          refine gk_iload_n hC 2 dX8_end_60 rfl (q := 61) rfl ?_
          refine gk_callV (As := [.int a1, .int a2]) (rest := []) hC (fun l => m_X8_pay l hY a0 a1 a2 r31 t0) ml_RX8_297 ok_X8_pay dX8_end_61 t0 ⟨by decide, rfl⟩ rfl (by decide) (Nat.le_of_ble_eq_true rfl) rfl (q := 64) rfl (fun r32 => ?_)
          show gk_K Z Y 4 gk_rI 64 [(0, .ref a0), (1, .int a1), (2, .int a2)] [.int r32.1] r32.2 _
          refine gk_istore_n hC (lv' := [(0, .ref a0), (1, .int a1), (2, .int a2), (3, .int r32.1)]) [1, 2, 3, 0] dX8_end_64 (by decide) rfl (q := 65) rfl ?_
          refine gk_iload_n hC 3 dX8_end_65 rfl (q := 66) rfl ?_
          refine gk_aload_n hC 0 dX8_end_66 rfl (q := 67) rfl ?_
          refine gk_iload_n hC 1 dX8_end_67 rfl (q := 68) rfl ?_
          refine gk_iload_n hC 2 dX8_end_68 rfl (q := 69) rfl ?_
          refine gk_callV (As := [.int a1, .int a2]) (rest := [.int r32.1]) hC (fun l => m_X8_plainEnd l hY a0 a1 a2 r32.2 t0) ml_RX8_312 ok_X8_plainEnd dX8_end_69 t0 ⟨by decide, rfl⟩ rfl (by decide) (Nat.le_of_ble_eq_true rfl) rfl (q := 72) rfl (fun r33 => ?_)
          show gk_K Z Y 4 gk_rI 72 [(0, .ref a0), (1, .int a1), (2, .int a2), (3, .int r32.1)] [.int r33.1, .int r32.1] r33.2 _
          refine gk_isub hC dX8_end_72 (q := 73) rfl ?_
          exact gk_iret hC hR dX8_end_73 rfl
        · refine gk_aload_n hC 0 dX8_end_45 rfl (q := 46) rfl ?_
          refine gk_iload_n hC 1 dX8_end_46 rfl (q := 47) rfl ?_
          refine gk_iload_n hC 2 dX8_end_47 rfl (q := 48) rfl ?_
          refine gk_callV (As := [.int a1, .int a2]) (rest := []) hC (fun l => m_X8_plainEnd l hY a0 a1 a2 M t0) ml_RX8_312 ok_X8_plainEnd dX8_end_48 t0 ⟨by decide, rfl⟩ rfl (by decide) (Nat.le_of_ble_eq_true rfl) rfl (q := 51) rfl (fun r34 => ?_)
          show gk_K Z Y 4 gk_rI 51 [(0, .ref a0), (1, .int a1), (2, .int a2)] [.int r34.1] r34.2 _
          exact gk_iret hC hR dX8_end_51 rfl
def f_X8_act (LN : Nat → Nat) (RF : Nat → Nat → Nat) (a0 : Nat) (a1 : Int32) (a2 : Int32) (a3 : Int32) (M : gk_M) : Option (Int32 × gk_M) :=
  (f_X8_isWish LN RF a0 a1 M).bind fun r21 =>
  gk_jn (fun y22 : Unit =>
    (f_X8_refused LN RF a0 1 M).bind fun r24 =>
    some (r24.1, r24.2)) fun k20_22 =>
  if r21 = 0 then
    k20_22 ()
  else
  (f_X8_isIn LN RF (Int32.toInt64 a2) 0 3 M).bind fun r25 =>
  if r25 = 0 then
    k20_22 ()
  else
  gk_put M a0 36 0 fun M26 =>
  gk_jn (fun y27 : Int32 × gk_M =>
    (f_X8_done LN RF a0 y27.1 y27.2).bind fun r29 =>
    some (r29.1, r29.2)) fun k79_27 =>
  if a2 = 0 then
    (f_X8_hear LN RF a0 a1 a3 M26).bind fun r30 =>
    k79_27 (r30.1, r30.2)
  else
  if a2 = 1 then
    (f_X8_turn LN RF a0 a1 a3 M26).bind fun r31 =>
    k79_27 (r31.1, r31.2)
  else
  if a2 = 2 then
    (f_X8_pay LN RF a0 a1 a3 M26).bind fun r32 =>
    k79_27 (r32.1, r32.2)
  else
  (f_X8_end LN RF a0 a1 a3 M26).bind fun r33 =>
  k79_27 (r33.1, r33.2)
set_option maxHeartbeats 4000000 in
set_option maxRecDepth 100000 in
theorem m_X8_act (l : Launch) {Y : gk_Y} (hY : gk_WF Y) (a0 : Nat) (a1 : Int32) (a2 : Int32) (a3 : Int32) (M : gk_M) (t0 : gk_T Y 18 a0) : gk_MF l Y yX8_act cX8_act 4 (some .int) 8 [.ref a0, .int a1, .int a2, .int a3] M gk_rI (f_X8_act (gk_ln Y) (gk_rf Y) a0 a1 a2 a3 M) := by
  refine gk_met hY (plainFor_of_name (by decide)) (Nat.le_of_ble_eq_true rfl) fun Z hC hR => ?_
  show gk_K Z Y 4 gk_rI 0 [(0, .ref a0), (1, .int a1), (2, .int a2), (3, .int a3)] [] M _
  unfold f_X8_act
  refine gk_aload_n hC 0 dX8_act_0 rfl (q := 1) rfl ?_
  refine gk_iload_n hC 1 dX8_act_1 rfl (q := 2) rfl ?_
  refine gk_callV (As := [.int a1]) (rest := []) hC (fun l => m_X8_isWish l hY a0 a1 M t0) ml_RX8_142 ok_X8_isWish dX8_act_2 t0 ⟨by decide, rfl⟩ rfl (by decide) (Nat.le_of_ble_eq_true rfl) rfl (q := 5) rfl (fun r21 => ?_)
  show gk_K Z Y 4 gk_rI 5 [(0, .ref a0), (1, .int a1), (2, .int a2), (3, .int a3)] [.int r21] M _
  refine gk_jnR (fun k20_22 => ∀ z23 : Unit, gk_K Z Y 4 gk_rI 20 [(0, .ref a0)] [] M (k20_22 z23)) (fun y22 => ?_) (fun k20_22 hk20_22 => ?_)
  · show gk_K Z Y 4 gk_rI 20 [(0, .ref a0)] [] M _
    refine gk_aload_n hC 0 dX8_act_20 rfl (q := 21) rfl ?_
    refine gk_iconst hC (v := 1) dX8_act_21 kc_i_1 (q := 22) rfl ?_
    refine gk_callV (As := [.int 1]) (rest := []) hC (fun l => m_X8_refused l hY a0 1 M t0) ml_RX8_113 ok_X8_refused dX8_act_22 t0 ⟨by decide, rfl⟩ rfl (by decide) (Nat.le_of_ble_eq_true rfl) rfl (q := 25) rfl (fun r24 => ?_)
    show gk_K Z Y 4 gk_rI 25 [(0, .ref a0)] [.int r24.1] r24.2 _
    exact gk_iret hC hR dX8_act_25 rfl
  · refine gk_if_eq hC dX8_act_5 (tg := 20) rfl (q := 8) rfl ?_ ?_
    · refine gk_pick [0] rfl ?_
      exact hk20_22 ()
    · refine gk_iload_n hC 2 dX8_act_8 rfl (q := 9) rfl ?_
      refine gk_i2l hC dX8_act_9 (q := 10) rfl ?_
      refine gk_lconst hC (v := 0) dX8_act_10 kc_l_0 (q := 11) rfl ?_
      refine gk_ldc2 hC (v := 3) cl_RX8_272 dX8_act_11 (q := 14) rfl ?_
      refine gk_callS (As := [.long (Int32.toInt64 a2), .long 0, .long 3]) (rest := []) hC (fun l => m_X8_isIn l hY (Int32.toInt64 a2) 0 3 M) ml_RX8_126 ok_X8_isIn dX8_act_14 rfl (by decide) (Nat.le_of_ble_eq_true rfl) rfl (q := 17) rfl (fun r25 => ?_)
      show gk_K Z Y 4 gk_rI 17 [(0, .ref a0), (1, .int a1), (2, .int a2), (3, .int a3)] [.int r25] M _
      refine gk_if_ne hC dX8_act_17 (tg := 26) rfl (q := 20) rfl ?_ ?_
      · refine gk_pick [0] rfl ?_
        exact hk20_22 ()
      · refine gk_aload_n hC 0 dX8_act_26 rfl (q := 27) rfl ?_
        refine gk_iconst hC (v := 0) dX8_act_27 kc_i_0 (q := 28) rfl ?_
        refine gk_putI hC dX8_act_28 fp_RX8_286 t0 (q := 31) rfl (fun M26 => ?_)
        refine gk_aload_n hC 0 dX8_act_31 rfl (q := 32) rfl ?_
        refine gk_iload_n hC 2 dX8_act_32 rfl (q := 33) rfl ?_
        refine gk_jnR (fun k79_27 => ∀ z28 : Int32 × gk_M, gk_K Z Y 4 gk_rI 79 [] [.int z28.1, .ref a0] z28.2 (k79_27 z28)) (fun y27 => ?_) (fun k79_27 hk79_27 => ?_)
        · show gk_K Z Y 4 gk_rI 79 [] [.int y27.1, .ref a0] y27.2 _
          refine gk_callV (As := [.int y27.1]) (rest := []) hC (fun l => m_X8_done l hY a0 y27.1 y27.2 t0) ml_RX8_117 ok_X8_done dX8_act_79 t0 ⟨by decide, rfl⟩ rfl (by decide) (Nat.le_of_ble_eq_true rfl) rfl (q := 82) rfl (fun r29 => ?_)
          show gk_K Z Y 4 gk_rI 82 [] [.int r29.1] r29.2 _
          exact gk_iret hC hR dX8_act_82 rfl
        · refine gk_if_ne hC dX8_act_33 (tg := 45) rfl (q := 36) rfl ?_ ?_
          · refine gk_aload_n hC 0 dX8_act_36 rfl (q := 37) rfl ?_
            refine gk_iload_n hC 1 dX8_act_37 rfl (q := 38) rfl ?_
            refine gk_iload_n hC 3 dX8_act_38 rfl (q := 39) rfl ?_
            refine gk_callV (As := [.int a1, .int a3]) (rest := [.ref a0]) hC (fun l => m_X8_hear l hY a0 a1 a3 M26 t0) ml_RX8_303 ok_X8_hear dX8_act_39 t0 ⟨by decide, rfl⟩ rfl (by decide) (Nat.le_of_ble_eq_true rfl) rfl (q := 42) rfl (fun r30 => ?_)
            show gk_K Z Y 4 gk_rI 42 [(0, .ref a0), (1, .int a1), (2, .int a2), (3, .int a3)] [.int r30.1, .ref a0] r30.2 _
            refine gk_goto hC dX8_act_42 (q := 79) rfl ?_
            refine gk_pick [] rfl ?_
            exact hk79_27 (r30.1, r30.2)
          · refine gk_iload_n hC 2 dX8_act_45 rfl (q := 46) rfl ?_
            refine gk_iconst hC (v := 1) dX8_act_46 kc_i_1 (q := 47) rfl ?_
            refine gk_icmp_ne hC dX8_act_47 (tg := 59) rfl (q := 50) rfl ?_ ?_
            · refine gk_aload_n hC 0 dX8_act_50 rfl (q := 51) rfl ?_
              refine gk_iload_n hC 1 dX8_act_51 rfl (q := 52) rfl ?_
              refine gk_iload_n hC 3 dX8_act_52 rfl (q := 53) rfl ?_
              refine gk_callV (As := [.int a1, .int a3]) (rest := [.ref a0]) hC (fun l => m_X8_turn l hY a0 a1 a3 M26 t0) ml_RX8_309 ok_X8_turn dX8_act_53 t0 ⟨by decide, rfl⟩ rfl (by decide) (Nat.le_of_ble_eq_true rfl) rfl (q := 56) rfl (fun r31 => ?_)
              show gk_K Z Y 4 gk_rI 56 [(0, .ref a0), (1, .int a1), (2, .int a2), (3, .int a3)] [.int r31.1, .ref a0] r31.2 _
              refine gk_goto hC dX8_act_56 (q := 79) rfl ?_
              refine gk_pick [] rfl ?_
              exact hk79_27 (r31.1, r31.2)
            · refine gk_iload_n hC 2 dX8_act_59 rfl (q := 60) rfl ?_
              refine gk_iconst hC (v := 2) dX8_act_60 kc_i_2 (q := 61) rfl ?_
              refine gk_icmp_ne hC dX8_act_61 (tg := 73) rfl (q := 64) rfl ?_ ?_
              · refine gk_aload_n hC 0 dX8_act_64 rfl (q := 65) rfl ?_
                refine gk_iload_n hC 1 dX8_act_65 rfl (q := 66) rfl ?_
                refine gk_iload_n hC 3 dX8_act_66 rfl (q := 67) rfl ?_
                refine gk_callV (As := [.int a1, .int a3]) (rest := [.ref a0]) hC (fun l => m_X8_pay l hY a0 a1 a3 M26 t0) ml_RX8_297 ok_X8_pay dX8_act_67 t0 ⟨by decide, rfl⟩ rfl (by decide) (Nat.le_of_ble_eq_true rfl) rfl (q := 70) rfl (fun r32 => ?_)
                show gk_K Z Y 4 gk_rI 70 [(0, .ref a0), (1, .int a1), (2, .int a2), (3, .int a3)] [.int r32.1, .ref a0] r32.2 _
                refine gk_goto hC dX8_act_70 (q := 79) rfl ?_
                refine gk_pick [] rfl ?_
                exact hk79_27 (r32.1, r32.2)
              · refine gk_aload_n hC 0 dX8_act_73 rfl (q := 74) rfl ?_
                refine gk_iload_n hC 1 dX8_act_74 rfl (q := 75) rfl ?_
                refine gk_iload_n hC 3 dX8_act_75 rfl (q := 76) rfl ?_
                refine gk_callV (As := [.int a1, .int a3]) (rest := [.ref a0]) hC (fun l => m_X8_end l hY a0 a1 a3 M26 t0) ml_RX8_315 ok_X8_end dX8_act_76 t0 ⟨by decide, rfl⟩ rfl (by decide) (Nat.le_of_ble_eq_true rfl) rfl (q := 79) rfl (fun r33 => ?_)
                show gk_K Z Y 4 gk_rI 79 [(0, .ref a0), (1, .int a1), (2, .int a2), (3, .int a3)] [.int r33.1, .ref a0] r33.2 _
                refine gk_pick [] rfl ?_
                exact hk79_27 (r33.1, r33.2)
def f_X8_trace (LN : Nat → Nat) (RF : Nat → Nat → Nat) (a0 : Nat) (a1 : Int32) (M : gk_M) : Option (Int32) :=
  gk_jn (fun y21 : Int32 =>
    (f_X8_isIn LN RF (Int32.toInt64 a1) 0 (Int32.toInt64 (y21 - 1)) M).bind fun r23 =>
    gk_jn (fun y24 : Int32 =>
      some y24) fun k40_24 =>
    if r23 = 0 then
      k40_24 (-1)
    else
    gk_ald LN M (RF a0 35) a1 fun x27 =>
    k40_24 x27) fun k21_21 =>
  if 50 ≤ (M.1 a0 36) then
    k21_21 50
  else
  k21_21 (M.1 a0 36)
set_option maxHeartbeats 4000000 in
set_option maxRecDepth 100000 in
theorem m_X8_trace (l : Launch) {Y : gk_Y} (hY : gk_WF Y) (a0 : Nat) (a1 : Int32) (M : gk_M) (t0 : gk_T Y 18 a0) : gk_MF l Y yX8_trace cX8_trace 2 (some .int) 1 [.ref a0, .int a1] M (gk_rR M) (f_X8_trace (gk_ln Y) (gk_rf Y) a0 a1 M) := by
  refine gk_met hY (plainFor_of_name (by decide)) (Nat.le_of_ble_eq_true rfl) fun Z hC hR => ?_
  show gk_K Z Y 2 (gk_rR M) 0 [(0, .ref a0), (1, .int a1)] [] M _
  unfold f_X8_trace
  refine gk_iload_n hC 1 dX8_trace_0 rfl (q := 1) rfl ?_
  refine gk_i2l hC dX8_trace_1 (q := 2) rfl ?_
  refine gk_lconst hC (v := 0) dX8_trace_2 kc_l_0 (q := 3) rfl ?_
  refine gk_aload_n hC 0 dX8_trace_3 rfl (q := 4) rfl ?_
  refine gk_getI hC dX8_trace_4 fl_RX8_286 t0 (q := 7) rfl ?_
  refine gk_bipush hC (v := 50) dX8_trace_7 kc_b_50 (q := 9) rfl ?_
  refine gk_jnR (fun k21_21 => ∀ z22 : Int32, gk_K Z Y 2 (gk_rR M) 21 [(0, .ref a0), (1, .int a1)] [.int z22, .long 0, .long (Int32.toInt64 a1)] M (k21_21 z22)) (fun y21 => ?_) (fun k21_21 hk21_21 => ?_)
  · show gk_K Z Y 2 (gk_rR M) 21 [(0, .ref a0), (1, .int a1)] [.int y21, .long 0, .long (Int32.toInt64 a1)] M _
    refine gk_iconst hC (v := 1) dX8_trace_21 kc_i_1 (q := 22) rfl ?_
    refine gk_isub hC dX8_trace_22 (q := 23) rfl ?_
    refine gk_i2l hC dX8_trace_23 (q := 24) rfl ?_
    refine gk_callS (As := [.long (Int32.toInt64 a1), .long 0, .long (Int32.toInt64 (y21 - 1))]) (rest := []) hC (fun l => m_X8_isIn l hY (Int32.toInt64 a1) 0 (Int32.toInt64 (y21 - 1)) M) ml_RX8_126 ok_X8_isIn dX8_trace_24 rfl (by decide) (Nat.le_of_ble_eq_true rfl) rfl (q := 27) rfl (fun r23 => ?_)
    show gk_K Z Y 2 (gk_rR M) 27 [(0, .ref a0), (1, .int a1)] [.int r23] M _
    refine gk_jnR (fun k40_24 => ∀ z25 : Int32, gk_K Z Y 2 (gk_rR M) 40 [] [.int z25] M (k40_24 z25)) (fun y24 => ?_) (fun k40_24 hk40_24 => ?_)
    · show gk_K Z Y 2 (gk_rR M) 40 [] [.int y24] M _
      exact gk_iret hC hR dX8_trace_40 rfl
    · refine gk_if_eq hC dX8_trace_27 (tg := 39) rfl (q := 30) rfl ?_ ?_
      · refine gk_iconst hC (v := (-1)) dX8_trace_39 kc_i_m1 (q := 40) rfl ?_
        refine gk_pick [] rfl ?_
        exact hk40_24 (-1)
      · refine gk_aload_n hC 0 dX8_trace_30 rfl (q := 31) rfl ?_
        refine gk_getR hC dX8_trace_31 fl_RX8_97 (by decide) t0 (q := 34) rfl (fun t26 => ?_)
        refine gk_iload_n hC 1 dX8_trace_34 rfl (q := 35) rfl ?_
        refine gk_iald hC dX8_trace_35 t26 (q := 36) rfl (fun x27 => ?_)
        refine gk_goto hC dX8_trace_36 (q := 40) rfl ?_
        refine gk_pick [] rfl ?_
        exact hk40_24 x27
  · refine gk_icmp_ge hC dX8_trace_9 (tg := 19) rfl (q := 12) rfl ?_ ?_
    · refine gk_bipush hC (v := 50) dX8_trace_19 kc_b_50 (q := 21) rfl ?_
      exact hk21_21 50
    · refine gk_aload_n hC 0 dX8_trace_12 rfl (q := 13) rfl ?_
      refine gk_getI hC dX8_trace_13 fl_RX8_286 t0 (q := 16) rfl ?_
      refine gk_goto hC dX8_trace_16 (q := 21) rfl ?_
      exact hk21_21 (M.1 a0 36)
def lp_X8_sheet_78 (LN : Nat → Nat) (RF : Nat → Nat → Nat) (v0 : Nat) (v1 : Int32) (k104 : gk_M → Option (Int32 × gk_M)) : Nat → (Int32 × gk_M) → Option (Int32 × gk_M)
  | 0, _ => none
  | n + 1, x =>
    if ((40 * v1) + 40) ≤ x.1 then
      k104 x.2
    else
    gk_ast LN x.2 (RF v0 39) x.1 0 fun M2 =>
    lp_X8_sheet_78 LN RF v0 v1 k104 n ((x.1 + 1), M2)
def f_X8_sheet (LN : Nat → Nat) (RF : Nat → Nat → Nat) (a0 : Nat) (a1 : Int32) (a2 : Int32) (a3 : Int32) (M : gk_M) : Option (Int32 × gk_M) :=
  (f_X8_isIn LN RF (Int32.toInt64 a1) 0 3 M).bind fun r21 =>
  gk_jn (fun y22 : Unit =>
    (f_X8_refused LN RF a0 1 M).bind fun r24 =>
    some (r24.1, r24.2)) fun k42_22 =>
  if r21 = 0 then
    k42_22 ()
  else
  (f_X8_isIn LN RF (Int32.toInt64 a2) (-1) 2 M).bind fun r25 =>
  if r25 = 0 then
    k42_22 ()
  else
  gk_jn (fun y26 : Unit =>
    gk_ast LN M (RF a0 37) a1 (a2 + 1) fun M29 =>
    gk_jn (fun y31 : Int32 =>
      gk_ast LN M29 (RF a0 38) a1 y31 fun M33 =>
      gk_jn (fun y34 : gk_M =>
        (f_X8_done LN RF a0 1 y34).bind fun r36 =>
        some (r36.1, r36.2)) fun k104_34 =>
      lp_X8_sheet_78 LN RF a0 a1 k104_34 gk_fuel ((40 * a1), M33)) fun k71_31 =>
    if 0 ≤ a2 then
      k71_31 a3
    else
    k71_31 0) fun k48_26 =>
  if a2 < 0 then
    k48_26 ()
  else
  (f_X8_isIn LN RF (Int32.toInt64 a3) 0 40 M).bind fun r38 =>
  if r38 = 0 then
    k42_22 ()
  else
  k48_26 ()
set_option maxHeartbeats 4000000 in
set_option maxRecDepth 100000 in
theorem lk_X8_sheet_78 {Z : gk_Z} {Y : gk_Y} (hY : gk_WF Y) (hC : gk_C Z Y cX8_sheet 5 RX8 1) (hR : gk_R Z Y (some .int)) (v0 : Nat) (v1 : Int32) (tv0 : gk_T Y 18 v0) (k104 : gk_M → Option (Int32 × gk_M)) (hk104 : ∀ z37 : gk_M, gk_K Z Y 5 gk_rI 104 [(0, .ref v0)] [] z37 (k104 z37)) : ∀ (n : Nat) (x : Int32 × gk_M), gk_K Z Y 5 gk_rI 78 [(0, .ref v0), (1, .int v1), (4, .int x.1)] [] x.2 (lp_X8_sheet_78 (gk_ln Y) (gk_rf Y) v0 v1 k104 n x) := by
  intro n
  induction n with
  | zero => intro x; exact gk_none
  | succ n ih =>
    intro x
    rw [lp_X8_sheet_78]
    refine gk_iload hC 2 dX8_sheet_78 rfl (q := 80) rfl ?_
    refine gk_bipush hC (v := 40) dX8_sheet_80 kc_b_40 (q := 82) rfl ?_
    refine gk_iload_n hC 1 dX8_sheet_82 rfl (q := 83) rfl ?_
    refine gk_imul hC dX8_sheet_83 (q := 84) rfl ?_
    refine gk_bipush hC (v := 40) dX8_sheet_84 kc_b_40 (q := 86) rfl ?_
    refine gk_iadd hC dX8_sheet_86 (q := 87) rfl ?_
    refine gk_icmp_ge hC dX8_sheet_87 (tg := 104) rfl (q := 90) rfl ?_ ?_
    · refine gk_pick [0] rfl ?_
      exact hk104 x.2
    · refine gk_aload_n hC 0 dX8_sheet_90 rfl (q := 91) rfl ?_
      refine gk_getR hC dX8_sheet_91 fl_RX8_106 (by decide) tv0 (q := 94) rfl (fun t1 => ?_)
      refine gk_iload hC 2 dX8_sheet_94 rfl (q := 96) rfl ?_
      refine gk_iconst hC (v := 0) dX8_sheet_96 kc_i_0 (q := 97) rfl ?_
      refine gk_iast hC dX8_sheet_97 t1 (q := 98) rfl (fun M2 => ?_)
      refine gk_iinc hC (v := 1) 2 (lv' := [(0, .ref v0), (1, .int v1), (4, .int (x.1 + 1))]) [1, 2, 0] dX8_sheet_98 rfl kc_i_1 (by decide) rfl (q := 101) rfl ?_
      refine gk_goto hC dX8_sheet_101 (q := 78) rfl ?_
      exact ih ((x.1 + 1), M2)
set_option maxHeartbeats 4000000 in
set_option maxRecDepth 100000 in
theorem m_X8_sheet (l : Launch) {Y : gk_Y} (hY : gk_WF Y) (a0 : Nat) (a1 : Int32) (a2 : Int32) (a3 : Int32) (M : gk_M) (t0 : gk_T Y 18 a0) : gk_MF l Y yX8_sheet cX8_sheet 5 (some .int) 1 [.ref a0, .int a1, .int a2, .int a3] M gk_rI (f_X8_sheet (gk_ln Y) (gk_rf Y) a0 a1 a2 a3 M) := by
  refine gk_met hY (plainFor_of_name (by decide)) (Nat.le_of_ble_eq_true rfl) fun Z hC hR => ?_
  show gk_K Z Y 5 gk_rI 0 [(0, .ref a0), (1, .int a1), (2, .int a2), (3, .int a3)] [] M _
  unfold f_X8_sheet
  refine gk_iload_n hC 1 dX8_sheet_0 rfl (q := 1) rfl ?_
  refine gk_i2l hC dX8_sheet_1 (q := 2) rfl ?_
  refine gk_lconst hC (v := 0) dX8_sheet_2 kc_l_0 (q := 3) rfl ?_
  refine gk_ldc2 hC (v := 3) cl_RX8_272 dX8_sheet_3 (q := 6) rfl ?_
  refine gk_callS (As := [.long (Int32.toInt64 a1), .long 0, .long 3]) (rest := []) hC (fun l => m_X8_isIn l hY (Int32.toInt64 a1) 0 3 M) ml_RX8_126 ok_X8_isIn dX8_sheet_6 rfl (by decide) (Nat.le_of_ble_eq_true rfl) rfl (q := 9) rfl (fun r21 => ?_)
  show gk_K Z Y 5 gk_rI 9 [(0, .ref a0), (1, .int a1), (2, .int a2), (3, .int a3)] [.int r21] M _
  refine gk_jnR (fun k42_22 => ∀ z23 : Unit, gk_K Z Y 5 gk_rI 42 [(0, .ref a0)] [] M (k42_22 z23)) (fun y22 => ?_) (fun k42_22 hk42_22 => ?_)
  · show gk_K Z Y 5 gk_rI 42 [(0, .ref a0)] [] M _
    refine gk_aload_n hC 0 dX8_sheet_42 rfl (q := 43) rfl ?_
    refine gk_iconst hC (v := 1) dX8_sheet_43 kc_i_1 (q := 44) rfl ?_
    refine gk_callV (As := [.int 1]) (rest := []) hC (fun l => m_X8_refused l hY a0 1 M t0) ml_RX8_113 ok_X8_refused dX8_sheet_44 t0 ⟨by decide, rfl⟩ rfl (by decide) (Nat.le_of_ble_eq_true rfl) rfl (q := 47) rfl (fun r24 => ?_)
    show gk_K Z Y 5 gk_rI 47 [(0, .ref a0)] [.int r24.1] r24.2 _
    exact gk_iret hC hR dX8_sheet_47 rfl
  · refine gk_if_eq hC dX8_sheet_9 (tg := 42) rfl (q := 12) rfl ?_ ?_
    · refine gk_pick [0] rfl ?_
      exact hk42_22 ()
    · refine gk_iload_n hC 2 dX8_sheet_12 rfl (q := 13) rfl ?_
      refine gk_i2l hC dX8_sheet_13 (q := 14) rfl ?_
      refine gk_ldc2 hC (v := (-1)) cl_RX8_318 dX8_sheet_14 (q := 17) rfl ?_
      refine gk_ldc2 hC (v := 2) cl_RX8_267 dX8_sheet_17 (q := 20) rfl ?_
      refine gk_callS (As := [.long (Int32.toInt64 a2), .long (-1), .long 2]) (rest := []) hC (fun l => m_X8_isIn l hY (Int32.toInt64 a2) (-1) 2 M) ml_RX8_126 ok_X8_isIn dX8_sheet_20 rfl (by decide) (Nat.le_of_ble_eq_true rfl) rfl (q := 23) rfl (fun r25 => ?_)
      show gk_K Z Y 5 gk_rI 23 [(0, .ref a0), (1, .int a1), (2, .int a2), (3, .int a3)] [.int r25] M _
      refine gk_if_eq hC dX8_sheet_23 (tg := 42) rfl (q := 26) rfl ?_ ?_
      · refine gk_pick [0] rfl ?_
        exact hk42_22 ()
      · refine gk_iload_n hC 2 dX8_sheet_26 rfl (q := 27) rfl ?_
        refine gk_jnR (fun k48_26 => ∀ z27 : Unit, gk_K Z Y 5 gk_rI 48 [(0, .ref a0), (1, .int a1), (2, .int a2), (3, .int a3)] [] M (k48_26 z27)) (fun y26 => ?_) (fun k48_26 hk48_26 => ?_)
        · show gk_K Z Y 5 gk_rI 48 [(0, .ref a0), (1, .int a1), (2, .int a2), (3, .int a3)] [] M _
          refine gk_aload_n hC 0 dX8_sheet_48 rfl (q := 49) rfl ?_
          refine gk_getR hC dX8_sheet_49 fl_RX8_100 (by decide) t0 (q := 52) rfl (fun t28 => ?_)
          refine gk_iload_n hC 1 dX8_sheet_52 rfl (q := 53) rfl ?_
          refine gk_iload_n hC 2 dX8_sheet_53 rfl (q := 54) rfl ?_
          refine gk_iconst hC (v := 1) dX8_sheet_54 kc_i_1 (q := 55) rfl ?_
          refine gk_iadd hC dX8_sheet_55 (q := 56) rfl ?_
          refine gk_iast hC dX8_sheet_56 t28 (q := 57) rfl (fun M29 => ?_)
          refine gk_aload_n hC 0 dX8_sheet_57 rfl (q := 58) rfl ?_
          refine gk_getR hC dX8_sheet_58 fl_RX8_103 (by decide) t0 (q := 61) rfl (fun t30 => ?_)
          refine gk_iload_n hC 1 dX8_sheet_61 rfl (q := 62) rfl ?_
          refine gk_iload_n hC 2 dX8_sheet_62 rfl (q := 63) rfl ?_
          refine gk_jnR (fun k71_31 => ∀ z32 : Int32, gk_K Z Y 5 gk_rI 71 [(0, .ref a0), (1, .int a1)] [.int z32, .int a1, .ref ((gk_rf Y) a0 38)] M29 (k71_31 z32)) (fun y31 => ?_) (fun k71_31 hk71_31 => ?_)
          · show gk_K Z Y 5 gk_rI 71 [(0, .ref a0), (1, .int a1)] [.int y31, .int a1, .ref ((gk_rf Y) a0 38)] M29 _
            refine gk_iast hC dX8_sheet_71 t30 (q := 72) rfl (fun M33 => ?_)
            refine gk_bipush hC (v := 40) dX8_sheet_72 kc_b_40 (q := 74) rfl ?_
            refine gk_iload_n hC 1 dX8_sheet_74 rfl (q := 75) rfl ?_
            refine gk_imul hC dX8_sheet_75 (q := 76) rfl ?_
            refine gk_istore hC (lv' := [(0, .ref a0), (1, .int a1), (4, .int (40 * a1))]) [1, 2, 0] dX8_sheet_76 (by decide) rfl (q := 78) rfl ?_
            refine gk_jnR (fun k104_34 => ∀ z35 : gk_M, gk_K Z Y 5 gk_rI 104 [(0, .ref a0)] [] z35 (k104_34 z35)) (fun y34 => ?_) (fun k104_34 hk104_34 => ?_)
            · show gk_K Z Y 5 gk_rI 104 [(0, .ref a0)] [] y34 _
              refine gk_aload_n hC 0 dX8_sheet_104 rfl (q := 105) rfl ?_
              refine gk_iconst hC (v := 1) dX8_sheet_105 kc_i_1 (q := 106) rfl ?_
              refine gk_callV (As := [.int 1]) (rest := []) hC (fun l => m_X8_done l hY a0 1 y34 t0) ml_RX8_117 ok_X8_done dX8_sheet_106 t0 ⟨by decide, rfl⟩ rfl (by decide) (Nat.le_of_ble_eq_true rfl) rfl (q := 109) rfl (fun r36 => ?_)
              show gk_K Z Y 5 gk_rI 109 [(0, .ref a0)] [.int r36.1] r36.2 _
              exact gk_iret hC hR dX8_sheet_109 rfl
            · exact lk_X8_sheet_78 hY hC hR a0 a1 t0 k104_34 hk104_34 gk_fuel ((40 * a1), M33)
          · refine gk_if_ge hC dX8_sheet_63 (tg := 70) rfl (q := 66) rfl ?_ ?_
            · refine gk_iload_n hC 3 dX8_sheet_70 rfl (q := 71) rfl ?_
              refine gk_pick [0, 1] rfl ?_
              exact hk71_31 a3
            · refine gk_iconst hC (v := 0) dX8_sheet_66 kc_i_0 (q := 67) rfl ?_
              refine gk_goto hC dX8_sheet_67 (q := 71) rfl ?_
              refine gk_pick [0, 1] rfl ?_
              exact hk71_31 0
        · refine gk_if_lt hC dX8_sheet_27 (tg := 48) rfl (q := 30) rfl ?_ ?_
          · exact hk48_26 ()
          · refine gk_iload_n hC 3 dX8_sheet_30 rfl (q := 31) rfl ?_
            refine gk_i2l hC dX8_sheet_31 (q := 32) rfl ?_
            refine gk_lconst hC (v := 0) dX8_sheet_32 kc_l_0 (q := 33) rfl ?_
            refine gk_ldc2 hC (v := 40) cl_RX8_320 dX8_sheet_33 (q := 36) rfl ?_
            refine gk_callS (As := [.long (Int32.toInt64 a3), .long 0, .long 40]) (rest := []) hC (fun l => m_X8_isIn l hY (Int32.toInt64 a3) 0 40 M) ml_RX8_126 ok_X8_isIn dX8_sheet_36 rfl (by decide) (Nat.le_of_ble_eq_true rfl) rfl (q := 39) rfl (fun r38 => ?_)
            show gk_K Z Y 5 gk_rI 39 [(0, .ref a0), (1, .int a1), (2, .int a2), (3, .int a3)] [.int r38] M _
            refine gk_if_ne hC dX8_sheet_39 (tg := 48) rfl (q := 42) rfl ?_ ?_
            · refine gk_pick [0] rfl ?_
              exact hk42_22 ()
            · exact hk48_26 ()
def f_X8_byteOf (LN : Nat → Nat) (RF : Nat → Nat → Nat) (a0 : Int32) (M : gk_M) : Option (Int32) :=
  gk_jn (fun y21 : Int32 =>
    some y21) fun k21_21 =>
  if (a0 &&& 255) ≤ 127 then
    k21_21 (a0 &&& 255)
  else
  k21_21 ((a0 &&& 255) - 256)
set_option maxHeartbeats 4000000 in
set_option maxRecDepth 100000 in
theorem m_X8_byteOf (l : Launch) {Y : gk_Y} (hY : gk_WF Y) (a0 : Int32) (M : gk_M)  : gk_MF l Y yX8_byteOf cX8_byteOf 2 (some .int) 0 [.int a0] M (gk_rR M) (f_X8_byteOf (gk_ln Y) (gk_rf Y) a0 M) := by
  refine gk_met hY (plainFor_of_name (by decide)) (Nat.le_of_ble_eq_true rfl) fun Z hC hR => ?_
  show gk_K Z Y 2 (gk_rR M) 0 [(0, .int a0)] [] M _
  unfold f_X8_byteOf
  refine gk_iload_n hC 0 dX8_byteOf_0 rfl (q := 1) rfl ?_
  refine gk_sipush hC (v := 255) dX8_byteOf_1 kc_s_255 (q := 4) rfl ?_
  refine gk_iand hC dX8_byteOf_4 (q := 5) rfl ?_
  refine gk_istore_n hC (lv' := [(1, .int (a0 &&& 255))]) [0] dX8_byteOf_5 (by decide) rfl (q := 6) rfl ?_
  refine gk_iload_n hC 0 dX8_byteOf_6 rfl (q := 7) rfl ?_
  refine gk_bipush hC (v := 127) dX8_byteOf_7 kc_b_127 (q := 9) rfl ?_
  refine gk_jnR (fun k21_21 => ∀ z22 : Int32, gk_K Z Y 2 (gk_rR M) 21 [] [.int z22] M (k21_21 z22)) (fun y21 => ?_) (fun k21_21 hk21_21 => ?_)
  · show gk_K Z Y 2 (gk_rR M) 21 [] [.int y21] M _
    exact gk_iret hC hR dX8_byteOf_21 rfl
  · refine gk_icmp_le hC dX8_byteOf_9 (tg := 20) rfl (q := 12) rfl ?_ ?_
    · refine gk_iload_n hC 0 dX8_byteOf_20 rfl (q := 21) rfl ?_
      refine gk_pick [] rfl ?_
      exact hk21_21 (a0 &&& 255)
    · refine gk_iload_n hC 0 dX8_byteOf_12 rfl (q := 13) rfl ?_
      refine gk_sipush hC (v := 256) dX8_byteOf_13 kc_s_256 (q := 16) rfl ?_
      refine gk_isub hC dX8_byteOf_16 (q := 17) rfl ?_
      refine gk_goto hC dX8_byteOf_17 (q := 21) rfl ?_
      refine gk_pick [] rfl ?_
      exact hk21_21 ((a0 &&& 255) - 256)
def f_X8_cell (LN : Nat → Nat) (RF : Nat → Nat → Nat) (a0 : Nat) (a1 : Int32) (a2 : Int32) (a3 : Int32) (M : gk_M) : Option (Int32 × gk_M) :=
  (f_X8_isIn LN RF (Int32.toInt64 a1) 0 3 M).bind fun r21 =>
  gk_jn (fun y22 : Unit =>
    (f_X8_refused LN RF a0 1 M).bind fun r24 =>
    some (r24.1, r24.2)) fun k26_22 =>
  if r21 = 0 then
    k26_22 ()
  else
  (f_X8_isIn LN RF (Int32.toInt64 a3) (-1000) 1000 M).bind fun r25 =>
  if r25 = 0 then
    k26_22 ()
  else
  gk_ald LN M (RF a0 37) a1 fun x27 =>
  if x27 = 0 then
    (f_X8_refused LN RF a0 10 M).bind fun r28 =>
    some (r28.1, r28.2)
  else
  gk_ald LN M (RF a0 38) a1 fun x30 =>
  (f_X8_isIn LN RF (Int32.toInt64 a2) 0 (Int32.toInt64 (x30 - 1)) M).bind fun r31 =>
  if r31 = 0 then
    (f_X8_refused LN RF a0 12 M).bind fun r32 =>
    some (r32.1, r32.2)
  else
  gk_ald LN M (RF a0 37) a1 fun x35 =>
  gk_jn (fun y36 : Int32 =>
    gk_ast LN M (RF a0 39) ((40 * a1) + a2) y36 fun M38 =>
    (f_X8_done LN RF a0 1 M38).bind fun r39 =>
    some (r39.1, r39.2)) fun k101_36 =>
  if x35 = 1 then
    (f_X8_byteOf LN RF a3 M).bind fun r40 =>
    k101_36 r40
  else
  k101_36 a3
set_option maxHeartbeats 4000000 in
set_option maxRecDepth 100000 in
theorem m_X8_cell (l : Launch) {Y : gk_Y} (hY : gk_WF Y) (a0 : Nat) (a1 : Int32) (a2 : Int32) (a3 : Int32) (M : gk_M) (t0 : gk_T Y 18 a0) : gk_MF l Y yX8_cell cX8_cell 4 (some .int) 1 [.ref a0, .int a1, .int a2, .int a3] M gk_rI (f_X8_cell (gk_ln Y) (gk_rf Y) a0 a1 a2 a3 M) := by
  refine gk_met hY (plainFor_of_name (by decide)) (Nat.le_of_ble_eq_true rfl) fun Z hC hR => ?_
  show gk_K Z Y 4 gk_rI 0 [(0, .ref a0), (1, .int a1), (2, .int a2), (3, .int a3)] [] M _
  unfold f_X8_cell
  refine gk_iload_n hC 1 dX8_cell_0 rfl (q := 1) rfl ?_
  refine gk_i2l hC dX8_cell_1 (q := 2) rfl ?_
  refine gk_lconst hC (v := 0) dX8_cell_2 kc_l_0 (q := 3) rfl ?_
  refine gk_ldc2 hC (v := 3) cl_RX8_272 dX8_cell_3 (q := 6) rfl ?_
  refine gk_callS (As := [.long (Int32.toInt64 a1), .long 0, .long 3]) (rest := []) hC (fun l => m_X8_isIn l hY (Int32.toInt64 a1) 0 3 M) ml_RX8_126 ok_X8_isIn dX8_cell_6 rfl (by decide) (Nat.le_of_ble_eq_true rfl) rfl (q := 9) rfl (fun r21 => ?_)
  show gk_K Z Y 4 gk_rI 9 [(0, .ref a0), (1, .int a1), (2, .int a2), (3, .int a3)] [.int r21] M _
  refine gk_jnR (fun k26_22 => ∀ z23 : Unit, gk_K Z Y 4 gk_rI 26 [(0, .ref a0)] [] M (k26_22 z23)) (fun y22 => ?_) (fun k26_22 hk26_22 => ?_)
  · show gk_K Z Y 4 gk_rI 26 [(0, .ref a0)] [] M _
    refine gk_aload_n hC 0 dX8_cell_26 rfl (q := 27) rfl ?_
    refine gk_iconst hC (v := 1) dX8_cell_27 kc_i_1 (q := 28) rfl ?_
    refine gk_callV (As := [.int 1]) (rest := []) hC (fun l => m_X8_refused l hY a0 1 M t0) ml_RX8_113 ok_X8_refused dX8_cell_28 t0 ⟨by decide, rfl⟩ rfl (by decide) (Nat.le_of_ble_eq_true rfl) rfl (q := 31) rfl (fun r24 => ?_)
    show gk_K Z Y 4 gk_rI 31 [(0, .ref a0)] [.int r24.1] r24.2 _
    exact gk_iret hC hR dX8_cell_31 rfl
  · refine gk_if_eq hC dX8_cell_9 (tg := 26) rfl (q := 12) rfl ?_ ?_
    · refine gk_pick [0] rfl ?_
      exact hk26_22 ()
    · refine gk_iload_n hC 3 dX8_cell_12 rfl (q := 13) rfl ?_
      refine gk_i2l hC dX8_cell_13 (q := 14) rfl ?_
      refine gk_ldc2 hC (v := (-1000)) cl_RX8_322 dX8_cell_14 (q := 17) rfl ?_
      refine gk_ldc2 hC (v := 1000) cl_RX8_324 dX8_cell_17 (q := 20) rfl ?_
      refine gk_callS (As := [.long (Int32.toInt64 a3), .long (-1000), .long 1000]) (rest := []) hC (fun l => m_X8_isIn l hY (Int32.toInt64 a3) (-1000) 1000 M) ml_RX8_126 ok_X8_isIn dX8_cell_20 rfl (by decide) (Nat.le_of_ble_eq_true rfl) rfl (q := 23) rfl (fun r25 => ?_)
      show gk_K Z Y 4 gk_rI 23 [(0, .ref a0), (1, .int a1), (2, .int a2), (3, .int a3)] [.int r25] M _
      refine gk_if_ne hC dX8_cell_23 (tg := 32) rfl (q := 26) rfl ?_ ?_
      · refine gk_pick [0] rfl ?_
        exact hk26_22 ()
      · refine gk_aload_n hC 0 dX8_cell_32 rfl (q := 33) rfl ?_
        refine gk_getR hC dX8_cell_33 fl_RX8_100 (by decide) t0 (q := 36) rfl (fun t26 => ?_)
        refine gk_iload_n hC 1 dX8_cell_36 rfl (q := 37) rfl ?_
        refine gk_iald hC dX8_cell_37 t26 (q := 38) rfl (fun x27 => ?_)
        refine gk_if_ne hC dX8_cell_38 (tg := 48) rfl (q := 41) rfl ?_ ?_
        · refine gk_aload_n hC 0 dX8_cell_41 rfl (q := 42) rfl ?_
          refine gk_bipush hC (v := 10) dX8_cell_42 kc_b_10 (q := 44) rfl ?_
          refine gk_callV (As := [.int 10]) (rest := []) hC (fun l => m_X8_refused l hY a0 10 M t0) ml_RX8_113 ok_X8_refused dX8_cell_44 t0 ⟨by decide, rfl⟩ rfl (by decide) (Nat.le_of_ble_eq_true rfl) rfl (q := 47) rfl (fun r28 => ?_)
          show gk_K Z Y 4 gk_rI 47 [(0, .ref a0), (1, .int a1), (2, .int a2), (3, .int a3)] [.int r28.1] r28.2 _
          exact gk_iret hC hR dX8_cell_47 rfl
        · refine gk_iload_n hC 2 dX8_cell_48 rfl (q := 49) rfl ?_
          refine gk_i2l hC dX8_cell_49 (q := 50) rfl ?_
          refine gk_lconst hC (v := 0) dX8_cell_50 kc_l_0 (q := 51) rfl ?_
          refine gk_aload_n hC 0 dX8_cell_51 rfl (q := 52) rfl ?_
          refine gk_getR hC dX8_cell_52 fl_RX8_103 (by decide) t0 (q := 55) rfl (fun t29 => ?_)
          refine gk_iload_n hC 1 dX8_cell_55 rfl (q := 56) rfl ?_
          refine gk_iald hC dX8_cell_56 t29 (q := 57) rfl (fun x30 => ?_)
          refine gk_iconst hC (v := 1) dX8_cell_57 kc_i_1 (q := 58) rfl ?_
          refine gk_isub hC dX8_cell_58 (q := 59) rfl ?_
          refine gk_i2l hC dX8_cell_59 (q := 60) rfl ?_
          refine gk_callS (As := [.long (Int32.toInt64 a2), .long 0, .long (Int32.toInt64 (x30 - 1))]) (rest := []) hC (fun l => m_X8_isIn l hY (Int32.toInt64 a2) 0 (Int32.toInt64 (x30 - 1)) M) ml_RX8_126 ok_X8_isIn dX8_cell_60 rfl (by decide) (Nat.le_of_ble_eq_true rfl) rfl (q := 63) rfl (fun r31 => ?_)
          show gk_K Z Y 4 gk_rI 63 [(0, .ref a0), (1, .int a1), (2, .int a2), (3, .int a3)] [.int r31] M _
          refine gk_if_ne hC dX8_cell_63 (tg := 73) rfl (q := 66) rfl ?_ ?_
          · refine gk_aload_n hC 0 dX8_cell_66 rfl (q := 67) rfl ?_
            refine gk_bipush hC (v := 12) dX8_cell_67 kc_b_12 (q := 69) rfl ?_
            refine gk_callV (As := [.int 12]) (rest := []) hC (fun l => m_X8_refused l hY a0 12 M t0) ml_RX8_113 ok_X8_refused dX8_cell_69 t0 ⟨by decide, rfl⟩ rfl (by decide) (Nat.le_of_ble_eq_true rfl) rfl (q := 72) rfl (fun r32 => ?_)
            show gk_K Z Y 4 gk_rI 72 [(0, .ref a0), (1, .int a1), (2, .int a2), (3, .int a3)] [.int r32.1] r32.2 _
            exact gk_iret hC hR dX8_cell_72 rfl
          · refine gk_aload_n hC 0 dX8_cell_73 rfl (q := 74) rfl ?_
            refine gk_getR hC dX8_cell_74 fl_RX8_106 (by decide) t0 (q := 77) rfl (fun t33 => ?_)
            refine gk_bipush hC (v := 40) dX8_cell_77 kc_b_40 (q := 79) rfl ?_
            refine gk_iload_n hC 1 dX8_cell_79 rfl (q := 80) rfl ?_
            refine gk_imul hC dX8_cell_80 (q := 81) rfl ?_
            refine gk_iload_n hC 2 dX8_cell_81 rfl (q := 82) rfl ?_
            refine gk_iadd hC dX8_cell_82 (q := 83) rfl ?_
            refine gk_aload_n hC 0 dX8_cell_83 rfl (q := 84) rfl ?_
            refine gk_getR hC dX8_cell_84 fl_RX8_100 (by decide) t0 (q := 87) rfl (fun t34 => ?_)
            refine gk_iload_n hC 1 dX8_cell_87 rfl (q := 88) rfl ?_
            refine gk_iald hC dX8_cell_88 t34 (q := 89) rfl (fun x35 => ?_)
            refine gk_iconst hC (v := 1) dX8_cell_89 kc_i_1 (q := 90) rfl ?_
            refine gk_jnR (fun k101_36 => ∀ z37 : Int32, gk_K Z Y 4 gk_rI 101 [(0, .ref a0)] [.int z37, .int ((40 * a1) + a2), .ref ((gk_rf Y) a0 39)] M (k101_36 z37)) (fun y36 => ?_) (fun k101_36 hk101_36 => ?_)
            · show gk_K Z Y 4 gk_rI 101 [(0, .ref a0)] [.int y36, .int ((40 * a1) + a2), .ref ((gk_rf Y) a0 39)] M _
              refine gk_iast hC dX8_cell_101 t33 (q := 102) rfl (fun M38 => ?_)
              refine gk_aload_n hC 0 dX8_cell_102 rfl (q := 103) rfl ?_
              refine gk_iconst hC (v := 1) dX8_cell_103 kc_i_1 (q := 104) rfl ?_
              refine gk_callV (As := [.int 1]) (rest := []) hC (fun l => m_X8_done l hY a0 1 M38 t0) ml_RX8_117 ok_X8_done dX8_cell_104 t0 ⟨by decide, rfl⟩ rfl (by decide) (Nat.le_of_ble_eq_true rfl) rfl (q := 107) rfl (fun r39 => ?_)
              show gk_K Z Y 4 gk_rI 107 [(0, .ref a0)] [.int r39.1] r39.2 _
              exact gk_iret hC hR dX8_cell_107 rfl
            · refine gk_icmp_ne hC dX8_cell_90 (tg := 100) rfl (q := 93) rfl ?_ ?_
              · refine gk_iload_n hC 3 dX8_cell_93 rfl (q := 94) rfl ?_
                refine gk_callS (As := [.int a3]) (rest := [.int ((40 * a1) + a2), .ref ((gk_rf Y) a0 39)]) hC (fun l => m_X8_byteOf l hY a3 M) ml_RX8_326 ok_X8_byteOf dX8_cell_94 rfl (by decide) (Nat.le_of_ble_eq_true rfl) rfl (q := 97) rfl (fun r40 => ?_)
                show gk_K Z Y 4 gk_rI 97 [(0, .ref a0), (1, .int a1), (2, .int a2), (3, .int a3)] [.int r40, .int ((40 * a1) + a2), .ref ((gk_rf Y) a0 39)] M _
                refine gk_goto hC dX8_cell_97 (q := 101) rfl ?_
                refine gk_pick [0] rfl ?_
                exact hk101_36 r40
              · refine gk_iload_n hC 3 dX8_cell_100 rfl (q := 101) rfl ?_
                refine gk_pick [0] rfl ?_
                exact hk101_36 a3
end
