noncomputable section
def f_X8_isGood (LN : Nat → Nat) (RF : Nat → Nat → Nat) (a0 : Nat) (a1 : Int32) (a2 : Int32) (a3 : Int32) (a4 : Int32) (a5 : Int32) (M : gk_M) : Option (Int32) :=
  (f_X8_isLine LN RF a0 a1 M).bind fun r21 =>
  gk_jn (fun y22 : Unit =>
    some 0) fun k54_22 =>
  if r21 = 0 then
    k54_22 ()
  else
  (f_X8_isIn LN RF (Int32.toInt64 a2) 0 7 M).bind fun r24 =>
  if r24 = 0 then
    k54_22 ()
  else
  (f_X8_isIn LN RF (Int32.toInt64 a3) 0 9 M).bind fun r25 =>
  if r25 = 0 then
    k54_22 ()
  else
  (f_X8_isLine LN RF a0 a4 M).bind fun r26 =>
  if r26 = 0 then
    k54_22 ()
  else
  (f_X8_isIn LN RF (Int32.toInt64 a5) 0 31 M).bind fun r27 =>
  if r27 = 0 then
    k54_22 ()
  else
  gk_jn (fun y28 : Int32 =>
    gk_zz y28 (some y28)) fun k79_28 =>
  gk_jn (fun y30 : Unit =>
    k79_28 1) fun k74_30 =>
  if a2 = 1 then
    gk_jn (fun y32 : Unit =>
      k79_28 0) fun k78_32 =>
    if 11 < a5 then
      k78_32 ()
    else
    if a5 = 2 then
      k78_32 ()
    else
    k74_30 ()
  else
  k74_30 ()
set_option maxHeartbeats 4000000 in
set_option maxRecDepth 100000 in
theorem m_X8_isGood (l : Launch) {Y : gk_Y} (hY : gk_WF Y) (a0 : Nat) (a1 : Int32) (a2 : Int32) (a3 : Int32) (a4 : Int32) (a5 : Int32) (M : gk_M) (t0 : gk_T Y 18 a0) : gk_MF l Y yX8_isGood cX8_isGood 6 (some .boolean) 1 [.ref a0, .int a1, .int a2, .int a3, .int a4, .int a5] M (gk_rR M) (f_X8_isGood (gk_ln Y) (gk_rf Y) a0 a1 a2 a3 a4 a5 M) := by
  refine gk_met hY (plainFor_of_name (by decide)) (Nat.le_of_ble_eq_true rfl) fun Z hC hR => ?_
  show gk_K Z Y 6 (gk_rR M) 0 [(0, .ref a0), (1, .int a1), (2, .int a2), (3, .int a3), (4, .int a4), (5, .int a5)] [] M _
  unfold f_X8_isGood
  refine gk_aload_n hC 0 dX8_isGood_0 rfl (q := 1) rfl ?_
  refine gk_iload_n hC 1 dX8_isGood_1 rfl (q := 2) rfl ?_
  refine gk_callV (As := [.int a1]) (rest := []) hC (fun l => m_X8_isLine l hY a0 a1 M t0) ml_RX8_120 ok_X8_isLine dX8_isGood_2 t0 ⟨by decide, rfl⟩ rfl (by decide) (Nat.le_of_ble_eq_true rfl) rfl (q := 5) rfl (fun r21 => ?_)
  show gk_K Z Y 6 (gk_rR M) 5 [(0, .ref a0), (1, .int a1), (2, .int a2), (3, .int a3), (4, .int a4), (5, .int a5)] [.int r21] M _
  refine gk_jnR (fun k54_22 => ∀ z23 : Unit, gk_K Z Y 6 (gk_rR M) 54 [] [] M (k54_22 z23)) (fun y22 => ?_) (fun k54_22 hk54_22 => ?_)
  · show gk_K Z Y 6 (gk_rR M) 54 [] [] M _
    refine gk_iconst hC (v := 0) dX8_isGood_54 kc_i_0 (q := 55) rfl ?_
    exact gk_zret hC hR dX8_isGood_55 (Or.inl rfl) rfl
  · refine gk_if_eq hC dX8_isGood_5 (tg := 54) rfl (q := 8) rfl ?_ ?_
    · refine gk_pick [] rfl ?_
      exact hk54_22 ()
    · refine gk_iload_n hC 2 dX8_isGood_8 rfl (q := 9) rfl ?_
      refine gk_i2l hC dX8_isGood_9 (q := 10) rfl ?_
      refine gk_lconst hC (v := 0) dX8_isGood_10 kc_l_0 (q := 11) rfl ?_
      refine gk_ldc2 hC (v := 7) cl_RX8_124 dX8_isGood_11 (q := 14) rfl ?_
      refine gk_callS (As := [.long (Int32.toInt64 a2), .long 0, .long 7]) (rest := []) hC (fun l => m_X8_isIn l hY (Int32.toInt64 a2) 0 7 M) ml_RX8_126 ok_X8_isIn dX8_isGood_14 rfl (by decide) (Nat.le_of_ble_eq_true rfl) rfl (q := 17) rfl (fun r24 => ?_)
      show gk_K Z Y 6 (gk_rR M) 17 [(0, .ref a0), (1, .int a1), (2, .int a2), (3, .int a3), (4, .int a4), (5, .int a5)] [.int r24] M _
      refine gk_if_eq hC dX8_isGood_17 (tg := 54) rfl (q := 20) rfl ?_ ?_
      · refine gk_pick [] rfl ?_
        exact hk54_22 ()
      · refine gk_iload_n hC 3 dX8_isGood_20 rfl (q := 21) rfl ?_
        refine gk_i2l hC dX8_isGood_21 (q := 22) rfl ?_
        refine gk_lconst hC (v := 0) dX8_isGood_22 kc_l_0 (q := 23) rfl ?_
        refine gk_ldc2 hC (v := 9) cl_RX8_130 dX8_isGood_23 (q := 26) rfl ?_
        refine gk_callS (As := [.long (Int32.toInt64 a3), .long 0, .long 9]) (rest := []) hC (fun l => m_X8_isIn l hY (Int32.toInt64 a3) 0 9 M) ml_RX8_126 ok_X8_isIn dX8_isGood_26 rfl (by decide) (Nat.le_of_ble_eq_true rfl) rfl (q := 29) rfl (fun r25 => ?_)
        show gk_K Z Y 6 (gk_rR M) 29 [(0, .ref a0), (1, .int a1), (2, .int a2), (3, .int a3), (4, .int a4), (5, .int a5)] [.int r25] M _
        refine gk_if_eq hC dX8_isGood_29 (tg := 54) rfl (q := 32) rfl ?_ ?_
        · refine gk_pick [] rfl ?_
          exact hk54_22 ()
        · refine gk_aload_n hC 0 dX8_isGood_32 rfl (q := 33) rfl ?_
          refine gk_iload hC 4 dX8_isGood_33 rfl (q := 35) rfl ?_
          refine gk_callV (As := [.int a4]) (rest := []) hC (fun l => m_X8_isLine l hY a0 a4 M t0) ml_RX8_120 ok_X8_isLine dX8_isGood_35 t0 ⟨by decide, rfl⟩ rfl (by decide) (Nat.le_of_ble_eq_true rfl) rfl (q := 38) rfl (fun r26 => ?_)
          show gk_K Z Y 6 (gk_rR M) 38 [(0, .ref a0), (1, .int a1), (2, .int a2), (3, .int a3), (4, .int a4), (5, .int a5)] [.int r26] M _
          refine gk_if_eq hC dX8_isGood_38 (tg := 54) rfl (q := 41) rfl ?_ ?_
          · refine gk_pick [] rfl ?_
            exact hk54_22 ()
          · refine gk_iload hC 5 dX8_isGood_41 rfl (q := 43) rfl ?_
            refine gk_i2l hC dX8_isGood_43 (q := 44) rfl ?_
            refine gk_lconst hC (v := 0) dX8_isGood_44 kc_l_0 (q := 45) rfl ?_
            refine gk_ldc2 hC (v := 31) cl_RX8_132 dX8_isGood_45 (q := 48) rfl ?_
            refine gk_callS (As := [.long (Int32.toInt64 a5), .long 0, .long 31]) (rest := []) hC (fun l => m_X8_isIn l hY (Int32.toInt64 a5) 0 31 M) ml_RX8_126 ok_X8_isIn dX8_isGood_48 rfl (by decide) (Nat.le_of_ble_eq_true rfl) rfl (q := 51) rfl (fun r27 => ?_)
            show gk_K Z Y 6 (gk_rR M) 51 [(0, .ref a0), (1, .int a1), (2, .int a2), (3, .int a3), (4, .int a4), (5, .int a5)] [.int r27] M _
            refine gk_if_ne hC dX8_isGood_51 (tg := 56) rfl (q := 54) rfl ?_ ?_
            · refine gk_pick [] rfl ?_
              exact hk54_22 ()
            · refine gk_iload_n hC 2 dX8_isGood_56 rfl (q := 57) rfl ?_
              refine gk_iconst hC (v := 1) dX8_isGood_57 kc_i_1 (q := 58) rfl ?_
              refine gk_jnR (fun k79_28 => ∀ z29 : Int32, gk_K Z Y 6 (gk_rR M) 79 [] [.int z29] M (k79_28 z29)) (fun y28 => ?_) (fun k79_28 hk79_28 => ?_)
              · show gk_K Z Y 6 (gk_rR M) 79 [] [.int y28] M _
                exact gk_zzR (fun hv => gk_zret hC hR dX8_isGood_79 hv rfl)
              · refine gk_jnR (fun k74_30 => ∀ z31 : Unit, gk_K Z Y 6 (gk_rR M) 74 [] [] M (k74_30 z31)) (fun y30 => ?_) (fun k74_30 hk74_30 => ?_)
                · show gk_K Z Y 6 (gk_rR M) 74 [] [] M _
                  refine gk_iconst hC (v := 1) dX8_isGood_74 kc_i_1 (q := 75) rfl ?_
                  refine gk_goto hC dX8_isGood_75 (q := 79) rfl ?_
                  exact hk79_28 1
                · refine gk_icmp_ne hC dX8_isGood_58 (tg := 74) rfl (q := 61) rfl ?_ ?_
                  · refine gk_iload hC 5 dX8_isGood_61 rfl (q := 63) rfl ?_
                    refine gk_bipush hC (v := 11) dX8_isGood_63 kc_b_11 (q := 65) rfl ?_
                    refine gk_jnR (fun k78_32 => ∀ z33 : Unit, gk_K Z Y 6 (gk_rR M) 78 [] [] M (k78_32 z33)) (fun y32 => ?_) (fun k78_32 hk78_32 => ?_)
                    · show gk_K Z Y 6 (gk_rR M) 78 [] [] M _
                      refine gk_iconst hC (v := 0) dX8_isGood_78 kc_i_0 (q := 79) rfl ?_
                      exact hk79_28 0
                    · refine gk_icmp_gt hC dX8_isGood_65 (tg := 78) rfl (q := 68) rfl ?_ ?_
                      · refine gk_pick [] rfl ?_
                        exact hk78_32 ()
                      · refine gk_iload hC 5 dX8_isGood_68 rfl (q := 70) rfl ?_
                        refine gk_iconst hC (v := 2) dX8_isGood_70 kc_i_2 (q := 71) rfl ?_
                        refine gk_icmp_eq hC dX8_isGood_71 (tg := 78) rfl (q := 74) rfl ?_ ?_
                        · refine gk_pick [] rfl ?_
                          exact hk78_32 ()
                        · refine gk_pick [] rfl ?_
                          exact hk74_30 ()
                  · refine gk_pick [] rfl ?_
                    exact hk74_30 ()
def f_X8_adds (LN : Nat → Nat) (RF : Nat → Nat → Nat) (a0 : Nat) (a1 : Int32) (a2 : Int32) (a3 : Int32) (a4 : Int32) (a5 : Int32) (M : gk_M) : Option (Int32 × gk_M) :=
  gk_ald LN M (RF a0 20) 1 fun x22 =>
  gk_ald LN M (RF a0 20) 1 fun x24 =>
  gk_ast LN M (RF a0 20) 1 (x24 + 1) fun M25 =>
  gk_ast LN M25 (RF a0 0) x22 a1 fun M27 =>
  gk_ast LN M27 (RF a0 1) x22 a2 fun M29 =>
  gk_ast LN M29 (RF a0 2) x22 a3 fun M31 =>
  gk_ast LN M31 (RF a0 3) x22 a4 fun M33 =>
  gk_ast LN M33 (RF a0 4) x22 a5 fun M35 =>
  gk_ast LN M35 (RF a0 5) x22 1 fun M37 =>
  (f_X8_done LN RF a0 x22 M37).bind fun r38 =>
  some (r38.1, r38.2)
set_option maxHeartbeats 4000000 in
set_option maxRecDepth 100000 in
theorem m_X8_adds (l : Launch) {Y : gk_Y} (hY : gk_WF Y) (a0 : Nat) (a1 : Int32) (a2 : Int32) (a3 : Int32) (a4 : Int32) (a5 : Int32) (M : gk_M) (t0 : gk_T Y 18 a0) : gk_MF l Y yX8_adds cX8_adds 7 (some .int) 1 [.ref a0, .int a1, .int a2, .int a3, .int a4, .int a5] M gk_rI (f_X8_adds (gk_ln Y) (gk_rf Y) a0 a1 a2 a3 a4 a5 M) := by
  refine gk_met hY (plainFor_of_name (by decide)) (Nat.le_of_ble_eq_true rfl) fun Z hC hR => ?_
  show gk_K Z Y 7 gk_rI 0 [(0, .ref a0), (1, .int a1), (2, .int a2), (3, .int a3), (4, .int a4), (5, .int a5)] [] M _
  unfold f_X8_adds
  refine gk_aload_n hC 0 dX8_adds_0 rfl (q := 1) rfl ?_
  refine gk_getR hC dX8_adds_1 fl_RX8_70 (by decide) t0 (q := 4) rfl (fun t21 => ?_)
  refine gk_iconst hC (v := 1) dX8_adds_4 kc_i_1 (q := 5) rfl ?_
  refine gk_iald hC dX8_adds_5 t21 (q := 6) rfl (fun x22 => ?_)
  refine gk_istore hC (lv' := [(0, .ref a0), (1, .int a1), (2, .int a2), (3, .int a3), (4, .int a4), (5, .int a5), (6, .int x22)]) [1, 2, 3, 4, 5, 6, 0] dX8_adds_6 (by decide) rfl (q := 8) rfl ?_
  refine gk_aload_n hC 0 dX8_adds_8 rfl (q := 9) rfl ?_
  refine gk_getR hC dX8_adds_9 fl_RX8_70 (by decide) t0 (q := 12) rfl (fun t23 => ?_)
  refine gk_iconst hC (v := 1) dX8_adds_12 kc_i_1 (q := 13) rfl ?_
  refine gk_dup2 hC dX8_adds_13 rfl rfl (q := 14) rfl ?_
  refine gk_iald hC dX8_adds_14 t23 (q := 15) rfl (fun x24 => ?_)
  refine gk_iconst hC (v := 1) dX8_adds_15 kc_i_1 (q := 16) rfl ?_
  refine gk_iadd hC dX8_adds_16 (q := 17) rfl ?_
  refine gk_iast hC dX8_adds_17 t23 (q := 18) rfl (fun M25 => ?_)
  refine gk_aload_n hC 0 dX8_adds_18 rfl (q := 19) rfl ?_
  refine gk_getR hC dX8_adds_19 fl_RX8_7 (by decide) t0 (q := 22) rfl (fun t26 => ?_)
  refine gk_iload hC 6 dX8_adds_22 rfl (q := 24) rfl ?_
  refine gk_iload_n hC 1 dX8_adds_24 rfl (q := 25) rfl ?_
  refine gk_iast hC dX8_adds_25 t26 (q := 26) rfl (fun M27 => ?_)
  refine gk_aload_n hC 0 dX8_adds_26 rfl (q := 27) rfl ?_
  refine gk_getR hC dX8_adds_27 fl_RX8_13 (by decide) t0 (q := 30) rfl (fun t28 => ?_)
  refine gk_iload hC 6 dX8_adds_30 rfl (q := 32) rfl ?_
  refine gk_iload_n hC 2 dX8_adds_32 rfl (q := 33) rfl ?_
  refine gk_iast hC dX8_adds_33 t28 (q := 34) rfl (fun M29 => ?_)
  refine gk_aload_n hC 0 dX8_adds_34 rfl (q := 35) rfl ?_
  refine gk_getR hC dX8_adds_35 fl_RX8_16 (by decide) t0 (q := 38) rfl (fun t30 => ?_)
  refine gk_iload hC 6 dX8_adds_38 rfl (q := 40) rfl ?_
  refine gk_iload_n hC 3 dX8_adds_40 rfl (q := 41) rfl ?_
  refine gk_iast hC dX8_adds_41 t30 (q := 42) rfl (fun M31 => ?_)
  refine gk_aload_n hC 0 dX8_adds_42 rfl (q := 43) rfl ?_
  refine gk_getR hC dX8_adds_43 fl_RX8_19 (by decide) t0 (q := 46) rfl (fun t32 => ?_)
  refine gk_iload hC 6 dX8_adds_46 rfl (q := 48) rfl ?_
  refine gk_iload hC 4 dX8_adds_48 rfl (q := 50) rfl ?_
  refine gk_iast hC dX8_adds_50 t32 (q := 51) rfl (fun M33 => ?_)
  refine gk_aload_n hC 0 dX8_adds_51 rfl (q := 52) rfl ?_
  refine gk_getR hC dX8_adds_52 fl_RX8_22 (by decide) t0 (q := 55) rfl (fun t34 => ?_)
  refine gk_iload hC 6 dX8_adds_55 rfl (q := 57) rfl ?_
  refine gk_iload hC 5 dX8_adds_57 rfl (q := 59) rfl ?_
  refine gk_iast hC dX8_adds_59 t34 (q := 60) rfl (fun M35 => ?_)
  refine gk_aload_n hC 0 dX8_adds_60 rfl (q := 61) rfl ?_
  refine gk_getR hC dX8_adds_61 fl_RX8_25 (by decide) t0 (q := 64) rfl (fun t36 => ?_)
  refine gk_iload hC 6 dX8_adds_64 rfl (q := 66) rfl ?_
  refine gk_iconst hC (v := 1) dX8_adds_66 kc_i_1 (q := 67) rfl ?_
  refine gk_iast hC dX8_adds_67 t36 (q := 68) rfl (fun M37 => ?_)
  refine gk_aload_n hC 0 dX8_adds_68 rfl (q := 69) rfl ?_
  refine gk_iload hC 6 dX8_adds_69 rfl (q := 71) rfl ?_
  refine gk_callV (As := [.int x22]) (rest := []) hC (fun l => m_X8_done l hY a0 x22 M37 t0) ml_RX8_117 ok_X8_done dX8_adds_71 t0 ⟨by decide, rfl⟩ rfl (by decide) (Nat.le_of_ble_eq_true rfl) rfl (q := 74) rfl (fun r38 => ?_)
  show gk_K Z Y 7 gk_rI 74 [(0, .ref a0), (1, .int a1), (2, .int a2), (3, .int a3), (4, .int a4), (5, .int a5), (6, .int x22)] [.int r38.1] r38.2 _
  exact gk_iret hC hR dX8_adds_74 rfl
def f_X8_wish (LN : Nat → Nat) (RF : Nat → Nat → Nat) (a0 : Nat) (a1 : Int32) (a2 : Int32) (a3 : Int32) (a4 : Int32) (a5 : Int32) (M : gk_M) : Option (Int32 × gk_M) :=
  (f_X8_isGood LN RF a0 a1 a2 a3 a4 a5 M).bind fun r21 =>
  if r21 = 0 then
    (f_X8_refused LN RF a0 1 M).bind fun r22 =>
    some (r22.1, r22.2)
  else
  gk_ald LN M (RF a0 20) 1 fun x24 =>
  if x24 = 24 then
    (f_X8_refused LN RF a0 2 M).bind fun r25 =>
    some (r25.1, r25.2)
  else
  (f_X8_adds LN RF a0 a1 a2 a3 a4 a5 M).bind fun r26 =>
  some (r26.1, r26.2)
set_option maxHeartbeats 4000000 in
set_option maxRecDepth 100000 in
theorem m_X8_wish (l : Launch) {Y : gk_Y} (hY : gk_WF Y) (a0 : Nat) (a1 : Int32) (a2 : Int32) (a3 : Int32) (a4 : Int32) (a5 : Int32) (M : gk_M) (t0 : gk_T Y 18 a0) : gk_MF l Y yX8_wish cX8_wish 6 (some .int) 2 [.ref a0, .int a1, .int a2, .int a3, .int a4, .int a5] M gk_rI (f_X8_wish (gk_ln Y) (gk_rf Y) a0 a1 a2 a3 a4 a5 M) := by
  refine gk_met hY (plainFor_of_name (by decide)) (Nat.le_of_ble_eq_true rfl) fun Z hC hR => ?_
  show gk_K Z Y 6 gk_rI 0 [(0, .ref a0), (1, .int a1), (2, .int a2), (3, .int a3), (4, .int a4), (5, .int a5)] [] M _
  unfold f_X8_wish
  refine gk_aload_n hC 0 dX8_wish_0 rfl (q := 1) rfl ?_
  refine gk_iload_n hC 1 dX8_wish_1 rfl (q := 2) rfl ?_
  refine gk_iload_n hC 2 dX8_wish_2 rfl (q := 3) rfl ?_
  refine gk_iload_n hC 3 dX8_wish_3 rfl (q := 4) rfl ?_
  refine gk_iload hC 4 dX8_wish_4 rfl (q := 6) rfl ?_
  refine gk_iload hC 5 dX8_wish_6 rfl (q := 8) rfl ?_
  refine gk_callV (As := [.int a1, .int a2, .int a3, .int a4, .int a5]) (rest := []) hC (fun l => m_X8_isGood l hY a0 a1 a2 a3 a4 a5 M t0) ml_RX8_134 ok_X8_isGood dX8_wish_8 t0 ⟨by decide, rfl⟩ rfl (by decide) (Nat.le_of_ble_eq_true rfl) rfl (q := 11) rfl (fun r21 => ?_)
  show gk_K Z Y 6 gk_rI 11 [(0, .ref a0), (1, .int a1), (2, .int a2), (3, .int a3), (4, .int a4), (5, .int a5)] [.int r21] M _
  refine gk_if_ne hC dX8_wish_11 (tg := 20) rfl (q := 14) rfl ?_ ?_
  · refine gk_aload_n hC 0 dX8_wish_14 rfl (q := 15) rfl ?_
    refine gk_iconst hC (v := 1) dX8_wish_15 kc_i_1 (q := 16) rfl ?_
    refine gk_callV (As := [.int 1]) (rest := []) hC (fun l => m_X8_refused l hY a0 1 M t0) ml_RX8_113 ok_X8_refused dX8_wish_16 t0 ⟨by decide, rfl⟩ rfl (by decide) (Nat.le_of_ble_eq_true rfl) rfl (q := 19) rfl (fun r22 => ?_)
    show gk_K Z Y 6 gk_rI 19 [(0, .ref a0), (1, .int a1), (2, .int a2), (3, .int a3), (4, .int a4), (5, .int a5)] [.int r22.1] r22.2 _
    exact gk_iret hC hR dX8_wish_19 rfl
  · refine gk_aload_n hC 0 dX8_wish_20 rfl (q := 21) rfl ?_
    refine gk_getR hC dX8_wish_21 fl_RX8_70 (by decide) t0 (q := 24) rfl (fun t23 => ?_)
    refine gk_iconst hC (v := 1) dX8_wish_24 kc_i_1 (q := 25) rfl ?_
    refine gk_iald hC dX8_wish_25 t23 (q := 26) rfl (fun x24 => ?_)
    refine gk_bipush hC (v := 24) dX8_wish_26 kc_b_24 (q := 28) rfl ?_
    refine gk_icmp_ne hC dX8_wish_28 (tg := 37) rfl (q := 31) rfl ?_ ?_
    · refine gk_aload_n hC 0 dX8_wish_31 rfl (q := 32) rfl ?_
      refine gk_iconst hC (v := 2) dX8_wish_32 kc_i_2 (q := 33) rfl ?_
      refine gk_callV (As := [.int 2]) (rest := []) hC (fun l => m_X8_refused l hY a0 2 M t0) ml_RX8_113 ok_X8_refused dX8_wish_33 t0 ⟨by decide, rfl⟩ rfl (by decide) (Nat.le_of_ble_eq_true rfl) rfl (q := 36) rfl (fun r25 => ?_)
      show gk_K Z Y 6 gk_rI 36 [(0, .ref a0), (1, .int a1), (2, .int a2), (3, .int a3), (4, .int a4), (5, .int a5)] [.int r25.1] r25.2 _
      exact gk_iret hC hR dX8_wish_36 rfl
    · refine gk_aload_n hC 0 dX8_wish_37 rfl (q := 38) rfl ?_
      refine gk_iload_n hC 1 dX8_wish_38 rfl (q := 39) rfl ?_
      refine gk_iload_n hC 2 dX8_wish_39 rfl (q := 40) rfl ?_
      refine gk_iload_n hC 3 dX8_wish_40 rfl (q := 41) rfl ?_
      refine gk_iload hC 4 dX8_wish_41 rfl (q := 43) rfl ?_
      refine gk_iload hC 5 dX8_wish_43 rfl (q := 45) rfl ?_
      refine gk_callV (As := [.int a1, .int a2, .int a3, .int a4, .int a5]) (rest := []) hC (fun l => m_X8_adds l hY a0 a1 a2 a3 a4 a5 M t0) ml_RX8_138 ok_X8_adds dX8_wish_45 t0 ⟨by decide, rfl⟩ rfl (by decide) (Nat.le_of_ble_eq_true rfl) rfl (q := 48) rfl (fun r26 => ?_)
      show gk_K Z Y 6 gk_rI 48 [(0, .ref a0), (1, .int a1), (2, .int a2), (3, .int a3), (4, .int a4), (5, .int a5)] [.int r26.1] r26.2 _
      exact gk_iret hC hR dX8_wish_48 rfl
def f_X8_on (LN : Nat → Nat) (RF : Nat → Nat → Nat) (a0 : Nat) (a1 : Int32) (a2 : Int32) (M : gk_M) : Option (Int32 × gk_M) :=
  (f_X8_isWish LN RF a0 a1 M).bind fun r21 =>
  if r21 = 0 then
    (f_X8_refused LN RF a0 1 M).bind fun r22 =>
    some (r22.1, r22.2)
  else
  gk_ald LN M (RF a0 5) a1 fun x24 =>
  gk_jn (fun y26 : Int32 =>
    gk_ast LN M (RF a0 5) a1 y26 fun M28 =>
    gk_ald LN M28 (RF a0 5) a1 fun x30 =>
    gk_jn (fun y31 : Int32 =>
      (f_X8_done LN RF a0 y31 M28).bind fun r33 =>
      some (r33.1, r33.2)) fun k52_31 =>
    if x24 = x30 then
      k52_31 0
    else
    k52_31 1) fun k35_26 =>
  if a2 = 0 then
    k35_26 0
  else
  k35_26 1
set_option maxHeartbeats 4000000 in
set_option maxRecDepth 100000 in
theorem m_X8_on (l : Launch) {Y : gk_Y} (hY : gk_WF Y) (a0 : Nat) (a1 : Int32) (a2 : Int32) (M : gk_M) (t0 : gk_T Y 18 a0) : gk_MF l Y yX8_on cX8_on 4 (some .int) 1 [.ref a0, .int a1, .int a2] M gk_rI (f_X8_on (gk_ln Y) (gk_rf Y) a0 a1 a2 M) := by
  refine gk_met hY (plainFor_of_name (by decide)) (Nat.le_of_ble_eq_true rfl) fun Z hC hR => ?_
  show gk_K Z Y 4 gk_rI 0 [(0, .ref a0), (1, .int a1), (2, .int a2)] [] M _
  unfold f_X8_on
  refine gk_aload_n hC 0 dX8_on_0 rfl (q := 1) rfl ?_
  refine gk_iload_n hC 1 dX8_on_1 rfl (q := 2) rfl ?_
  refine gk_callV (As := [.int a1]) (rest := []) hC (fun l => m_X8_isWish l hY a0 a1 M t0) ml_RX8_142 ok_X8_isWish dX8_on_2 t0 ⟨by decide, rfl⟩ rfl (by decide) (Nat.le_of_ble_eq_true rfl) rfl (q := 5) rfl (fun r21 => ?_)
  show gk_K Z Y 4 gk_rI 5 [(0, .ref a0), (1, .int a1), (2, .int a2)] [.int r21] M _
  refine gk_if_ne hC dX8_on_5 (tg := 14) rfl (q := 8) rfl ?_ ?_
  · refine gk_aload_n hC 0 dX8_on_8 rfl (q := 9) rfl ?_
    refine gk_iconst hC (v := 1) dX8_on_9 kc_i_1 (q := 10) rfl ?_
    refine gk_callV (As := [.int 1]) (rest := []) hC (fun l => m_X8_refused l hY a0 1 M t0) ml_RX8_113 ok_X8_refused dX8_on_10 t0 ⟨by decide, rfl⟩ rfl (by decide) (Nat.le_of_ble_eq_true rfl) rfl (q := 13) rfl (fun r22 => ?_)
    show gk_K Z Y 4 gk_rI 13 [(0, .ref a0), (1, .int a1), (2, .int a2)] [.int r22.1] r22.2 _
    exact gk_iret hC hR dX8_on_13 rfl
  · refine gk_aload_n hC 0 dX8_on_14 rfl (q := 15) rfl ?_
    refine gk_getR hC dX8_on_15 fl_RX8_25 (by decide) t0 (q := 18) rfl (fun t23 => ?_)
    refine gk_iload_n hC 1 dX8_on_18 rfl (q := 19) rfl ?_
    refine gk_iald hC dX8_on_19 t23 (q := 20) rfl (fun x24 => ?_)
    refine gk_istore_n hC (lv' := [(0, .ref a0), (1, .int a1), (2, .int a2), (3, .int x24)]) [1, 2, 3, 0] dX8_on_20 (by decide) rfl (q := 21) rfl ?_
    refine gk_aload_n hC 0 dX8_on_21 rfl (q := 22) rfl ?_
    refine gk_getR hC dX8_on_22 fl_RX8_25 (by decide) t0 (q := 25) rfl (fun t25 => ?_)
    refine gk_iload_n hC 1 dX8_on_25 rfl (q := 26) rfl ?_
    refine gk_iload_n hC 2 dX8_on_26 rfl (q := 27) rfl ?_
    refine gk_jnR (fun k35_26 => ∀ z27 : Int32, gk_K Z Y 4 gk_rI 35 [(0, .ref a0), (1, .int a1), (3, .int x24)] [.int z27, .int a1, .ref ((gk_rf Y) a0 5)] M (k35_26 z27)) (fun y26 => ?_) (fun k35_26 hk35_26 => ?_)
    · show gk_K Z Y 4 gk_rI 35 [(0, .ref a0), (1, .int a1), (3, .int x24)] [.int y26, .int a1, .ref ((gk_rf Y) a0 5)] M _
      refine gk_iast hC dX8_on_35 t25 (q := 36) rfl (fun M28 => ?_)
      refine gk_aload_n hC 0 dX8_on_36 rfl (q := 37) rfl ?_
      refine gk_iload_n hC 2 dX8_on_37 rfl (q := 38) rfl ?_
      refine gk_aload_n hC 0 dX8_on_38 rfl (q := 39) rfl ?_
      refine gk_getR hC dX8_on_39 fl_RX8_25 (by decide) t0 (q := 42) rfl (fun t29 => ?_)
      refine gk_iload_n hC 1 dX8_on_42 rfl (q := 43) rfl ?_
      refine gk_iald hC dX8_on_43 t29 (q := 44) rfl (fun x30 => ?_)
      refine gk_jnR (fun k52_31 => ∀ z32 : Int32, gk_K Z Y 4 gk_rI 52 [] [.int z32, .ref a0] M28 (k52_31 z32)) (fun y31 => ?_) (fun k52_31 hk52_31 => ?_)
      · show gk_K Z Y 4 gk_rI 52 [] [.int y31, .ref a0] M28 _
        refine gk_callV (As := [.int y31]) (rest := []) hC (fun l => m_X8_done l hY a0 y31 M28 t0) ml_RX8_117 ok_X8_done dX8_on_52 t0 ⟨by decide, rfl⟩ rfl (by decide) (Nat.le_of_ble_eq_true rfl) rfl (q := 55) rfl (fun r33 => ?_)
        show gk_K Z Y 4 gk_rI 55 [] [.int r33.1] r33.2 _
        exact gk_iret hC hR dX8_on_55 rfl
      · refine gk_icmp_ne hC dX8_on_44 (tg := 51) rfl (q := 47) rfl ?_ ?_
        · refine gk_iconst hC (v := 0) dX8_on_47 kc_i_0 (q := 48) rfl ?_
          refine gk_goto hC dX8_on_48 (q := 52) rfl ?_
          refine gk_pick [] rfl ?_
          exact hk52_31 0
        · refine gk_iconst hC (v := 1) dX8_on_51 kc_i_1 (q := 52) rfl ?_
          refine gk_pick [] rfl ?_
          exact hk52_31 1
    · refine gk_if_eq hC dX8_on_27 (tg := 34) rfl (q := 30) rfl ?_ ?_
      · refine gk_iconst hC (v := 0) dX8_on_34 kc_i_0 (q := 35) rfl ?_
        refine gk_pick [0, 1, 3] rfl ?_
        exact hk35_26 0
      · refine gk_iconst hC (v := 1) dX8_on_30 kc_i_1 (q := 31) rfl ?_
        refine gk_goto hC dX8_on_31 (q := 35) rfl ?_
        refine gk_pick [0, 1, 3] rfl ?_
        exact hk35_26 1
def f_X8_rank (LN : Nat → Nat) (RF : Nat → Nat → Nat) (a0 : Nat) (a1 : Int32) (a2 : Int32) (M : gk_M) : Option (Int32 × gk_M) :=
  (f_X8_isWish LN RF a0 a1 M).bind fun r21 =>
  gk_jn (fun y22 : Unit =>
    (f_X8_refused LN RF a0 1 M).bind fun r24 =>
    some (r24.1, r24.2)) fun k20_22 =>
  if r21 = 0 then
    k20_22 ()
  else
  (f_X8_isIn LN RF (Int32.toInt64 a2) 0 9 M).bind fun r25 =>
  if r25 = 0 then
    k20_22 ()
  else
  gk_ald LN M (RF a0 2) a1 fun x27 =>
  gk_ast LN M (RF a0 2) a1 a2 fun M29 =>
  (f_X8_done LN RF a0 x27 M29).bind fun r30 =>
  some (r30.1, r30.2)
set_option maxHeartbeats 4000000 in
set_option maxRecDepth 100000 in
theorem m_X8_rank (l : Launch) {Y : gk_Y} (hY : gk_WF Y) (a0 : Nat) (a1 : Int32) (a2 : Int32) (M : gk_M) (t0 : gk_T Y 18 a0) : gk_MF l Y yX8_rank cX8_rank 4 (some .int) 1 [.ref a0, .int a1, .int a2] M gk_rI (f_X8_rank (gk_ln Y) (gk_rf Y) a0 a1 a2 M) := by
  refine gk_met hY (plainFor_of_name (by decide)) (Nat.le_of_ble_eq_true rfl) fun Z hC hR => ?_
  show gk_K Z Y 4 gk_rI 0 [(0, .ref a0), (1, .int a1), (2, .int a2)] [] M _
  unfold f_X8_rank
  refine gk_aload_n hC 0 dX8_rank_0 rfl (q := 1) rfl ?_
  refine gk_iload_n hC 1 dX8_rank_1 rfl (q := 2) rfl ?_
  refine gk_callV (As := [.int a1]) (rest := []) hC (fun l => m_X8_isWish l hY a0 a1 M t0) ml_RX8_142 ok_X8_isWish dX8_rank_2 t0 ⟨by decide, rfl⟩ rfl (by decide) (Nat.le_of_ble_eq_true rfl) rfl (q := 5) rfl (fun r21 => ?_)
  show gk_K Z Y 4 gk_rI 5 [(0, .ref a0), (1, .int a1), (2, .int a2)] [.int r21] M _
  refine gk_jnR (fun k20_22 => ∀ z23 : Unit, gk_K Z Y 4 gk_rI 20 [(0, .ref a0)] [] M (k20_22 z23)) (fun y22 => ?_) (fun k20_22 hk20_22 => ?_)
  · show gk_K Z Y 4 gk_rI 20 [(0, .ref a0)] [] M _
    refine gk_aload_n hC 0 dX8_rank_20 rfl (q := 21) rfl ?_
    refine gk_iconst hC (v := 1) dX8_rank_21 kc_i_1 (q := 22) rfl ?_
    refine gk_callV (As := [.int 1]) (rest := []) hC (fun l => m_X8_refused l hY a0 1 M t0) ml_RX8_113 ok_X8_refused dX8_rank_22 t0 ⟨by decide, rfl⟩ rfl (by decide) (Nat.le_of_ble_eq_true rfl) rfl (q := 25) rfl (fun r24 => ?_)
    show gk_K Z Y 4 gk_rI 25 [(0, .ref a0)] [.int r24.1] r24.2 _
    exact gk_iret hC hR dX8_rank_25 rfl
  · refine gk_if_eq hC dX8_rank_5 (tg := 20) rfl (q := 8) rfl ?_ ?_
    · refine gk_pick [0] rfl ?_
      exact hk20_22 ()
    · refine gk_iload_n hC 2 dX8_rank_8 rfl (q := 9) rfl ?_
      refine gk_i2l hC dX8_rank_9 (q := 10) rfl ?_
      refine gk_lconst hC (v := 0) dX8_rank_10 kc_l_0 (q := 11) rfl ?_
      refine gk_ldc2 hC (v := 9) cl_RX8_130 dX8_rank_11 (q := 14) rfl ?_
      refine gk_callS (As := [.long (Int32.toInt64 a2), .long 0, .long 9]) (rest := []) hC (fun l => m_X8_isIn l hY (Int32.toInt64 a2) 0 9 M) ml_RX8_126 ok_X8_isIn dX8_rank_14 rfl (by decide) (Nat.le_of_ble_eq_true rfl) rfl (q := 17) rfl (fun r25 => ?_)
      show gk_K Z Y 4 gk_rI 17 [(0, .ref a0), (1, .int a1), (2, .int a2)] [.int r25] M _
      refine gk_if_ne hC dX8_rank_17 (tg := 26) rfl (q := 20) rfl ?_ ?_
      · refine gk_pick [0] rfl ?_
        exact hk20_22 ()
      · refine gk_aload_n hC 0 dX8_rank_26 rfl (q := 27) rfl ?_
        refine gk_getR hC dX8_rank_27 fl_RX8_16 (by decide) t0 (q := 30) rfl (fun t26 => ?_)
        refine gk_iload_n hC 1 dX8_rank_30 rfl (q := 31) rfl ?_
        refine gk_iald hC dX8_rank_31 t26 (q := 32) rfl (fun x27 => ?_)
        refine gk_istore_n hC (lv' := [(0, .ref a0), (1, .int a1), (2, .int a2), (3, .int x27)]) [1, 2, 3, 0] dX8_rank_32 (by decide) rfl (q := 33) rfl ?_
        refine gk_aload_n hC 0 dX8_rank_33 rfl (q := 34) rfl ?_
        refine gk_getR hC dX8_rank_34 fl_RX8_16 (by decide) t0 (q := 37) rfl (fun t28 => ?_)
        refine gk_iload_n hC 1 dX8_rank_37 rfl (q := 38) rfl ?_
        refine gk_iload_n hC 2 dX8_rank_38 rfl (q := 39) rfl ?_
        refine gk_iast hC dX8_rank_39 t28 (q := 40) rfl (fun M29 => ?_)
        refine gk_aload_n hC 0 dX8_rank_40 rfl (q := 41) rfl ?_
        refine gk_iload_n hC 3 dX8_rank_41 rfl (q := 42) rfl ?_
        refine gk_callV (As := [.int x27]) (rest := []) hC (fun l => m_X8_done l hY a0 x27 M29 t0) ml_RX8_117 ok_X8_done dX8_rank_42 t0 ⟨by decide, rfl⟩ rfl (by decide) (Nat.le_of_ble_eq_true rfl) rfl (q := 45) rfl (fun r30 => ?_)
        show gk_K Z Y 4 gk_rI 45 [(0, .ref a0), (1, .int a1), (2, .int a2), (3, .int x27)] [.int r30.1] r30.2 _
        exact gk_iret hC hR dX8_rank_45 rfl
def lp_X8_wishBehind_5 (LN : Nat → Nat) (RF : Nat → Nat → Nat) (v0 : Nat) (v1 : Int32) (v2 : Int32) (M : gk_M) (k123 : Int32 → Option (Int32)) : Nat → (Int32 × Int32) → Option (Int32)
  | 0, _ => none
  | n + 1, x =>
    gk_ald LN M (RF v0 20) 1 fun x2 =>
    if x2 ≤ x.2 then
      k123 x.1
    else
    gk_ald LN M (RF v0 0) x.2 fun x4 =>
    gk_jn (fun y5 : Int32 =>
      lp_X8_wishBehind_5 LN RF v0 v1 v2 M k123 n (y5, (x.2 + 1))) fun k117_5 =>
    if x4 = v1 then
      gk_ald LN M (RF v0 5) x.2 fun x8 =>
      if x8 = 0 then
        k117_5 x.1
      else
      gk_jn (fun y9 : Int32 =>
        if y9 = 0 then
          k117_5 x.1
        else
        gk_jn (fun y11 : Unit =>
          k117_5 x.2) fun k114_11 =>
        if x.1 < 0 then
          k114_11 ()
        else
        gk_ald LN M (RF v0 2) x.2 fun x14 =>
        gk_ald LN M (RF v0 2) x.1 fun x16 =>
        if x16 ≤ x14 then
          k117_5 x.1
        else
        k114_11 ()) fun k87_9 =>
      gk_jn (fun y17 : Unit =>
        k87_9 1) fun k82_17 =>
      if v2 < 0 then
        k82_17 ()
      else
      gk_ald LN M (RF v0 2) x.2 fun x20 =>
      gk_ald LN M (RF v0 2) v2 fun x22 =>
      if x22 < x20 then
        k82_17 ()
      else
      gk_ald LN M (RF v0 2) x.2 fun x24 =>
      gk_ald LN M (RF v0 2) v2 fun x26 =>
      gk_jn (fun y27 : Unit =>
        k87_9 0) fun k86_27 =>
      if x24 = x26 then
        if x.2 ≤ v2 then
          k86_27 ()
        else
        k82_17 ()
      else
      k86_27 ()
    else
    k117_5 x.1
def f_X8_wishBehind (LN : Nat → Nat) (RF : Nat → Nat → Nat) (a0 : Nat) (a1 : Int32) (a2 : Int32) (M : gk_M) : Option (Int32) :=
  gk_jn (fun y21 : Int32 =>
    some y21) fun k123_21 =>
  lp_X8_wishBehind_5 LN RF a0 a1 a2 M k123_21 gk_fuel ((-1), 0)
set_option maxHeartbeats 4000000 in
set_option maxRecDepth 100000 in
theorem lk_X8_wishBehind_5 {Z : gk_Z} {Y : gk_Y} (hY : gk_WF Y) (hC : gk_C Z Y cX8_wishBehind 6 RX8 0) (hR : gk_R Z Y (some .int)) (v0 : Nat) (v1 : Int32) (v2 : Int32) (M : gk_M) (tv0 : gk_T Y 18 v0) (k123 : Int32 → Option (Int32)) (hk123 : ∀ z29 : Int32, gk_K Z Y 6 (gk_rR M) 123 [(3, .int z29)] [] M (k123 z29)) : ∀ (n : Nat) (x : Int32 × Int32), gk_K Z Y 6 (gk_rR M) 5 [(0, .ref v0), (1, .int v1), (2, .int v2), (3, .int x.1), (4, .int x.2)] [] M (lp_X8_wishBehind_5 (gk_ln Y) (gk_rf Y) v0 v1 v2 M k123 n x) := by
  intro n
  induction n with
  | zero => intro x; exact gk_none
  | succ n ih =>
    intro x
    rw [lp_X8_wishBehind_5]
    refine gk_iload hC 4 dX8_wishBehind_5 rfl (q := 7) rfl ?_
    refine gk_aload_n hC 0 dX8_wishBehind_7 rfl (q := 8) rfl ?_
    refine gk_getR hC dX8_wishBehind_8 fl_RX8_70 (by decide) tv0 (q := 11) rfl (fun t1 => ?_)
    refine gk_iconst hC (v := 1) dX8_wishBehind_11 kc_i_1 (q := 12) rfl ?_
    refine gk_iald hC dX8_wishBehind_12 t1 (q := 13) rfl (fun x2 => ?_)
    refine gk_icmp_ge hC dX8_wishBehind_13 (tg := 123) rfl (q := 16) rfl ?_ ?_
    · refine gk_pick [3] rfl ?_
      exact hk123 x.1
    · refine gk_aload_n hC 0 dX8_wishBehind_16 rfl (q := 17) rfl ?_
      refine gk_getR hC dX8_wishBehind_17 fl_RX8_7 (by decide) tv0 (q := 20) rfl (fun t3 => ?_)
      refine gk_iload hC 4 dX8_wishBehind_20 rfl (q := 22) rfl ?_
      refine gk_iald hC dX8_wishBehind_22 t3 (q := 23) rfl (fun x4 => ?_)
      refine gk_iload_n hC 1 dX8_wishBehind_23 rfl (q := 24) rfl ?_
      refine gk_jnR (fun k117_5 => ∀ z6 : Int32, gk_K Z Y 6 (gk_rR M) 117 [(0, .ref v0), (1, .int v1), (2, .int v2), (3, .int z6), (4, .int x.2)] [] M (k117_5 z6)) (fun y5 => ?_) (fun k117_5 hk117_5 => ?_)
      · show gk_K Z Y 6 (gk_rR M) 117 [(0, .ref v0), (1, .int v1), (2, .int v2), (3, .int y5), (4, .int x.2)] [] M _
        refine gk_iinc hC (v := 1) 4 (lv' := [(0, .ref v0), (1, .int v1), (2, .int v2), (3, .int y5), (4, .int (x.2 + 1))]) [1, 2, 3, 4, 0] dX8_wishBehind_117 rfl kc_i_1 (by decide) rfl (q := 120) rfl ?_
        refine gk_goto hC dX8_wishBehind_120 (q := 5) rfl ?_
        exact ih (y5, (x.2 + 1))
      · refine gk_icmp_ne hC dX8_wishBehind_24 (tg := 117) rfl (q := 27) rfl ?_ ?_
        · refine gk_aload_n hC 0 dX8_wishBehind_27 rfl (q := 28) rfl ?_
          refine gk_getR hC dX8_wishBehind_28 fl_RX8_25 (by decide) tv0 (q := 31) rfl (fun t7 => ?_)
          refine gk_iload hC 4 dX8_wishBehind_31 rfl (q := 33) rfl ?_
          refine gk_iald hC dX8_wishBehind_33 t7 (q := 34) rfl (fun x8 => ?_)
          refine gk_if_ne hC dX8_wishBehind_34 (tg := 40) rfl (q := 37) rfl ?_ ?_
          · refine gk_goto hC dX8_wishBehind_37 (q := 117) rfl ?_
            exact hk117_5 x.1
          · refine gk_iload_n hC 2 dX8_wishBehind_40 rfl (q := 41) rfl ?_
            refine gk_jnR (fun k87_9 => ∀ z10 : Int32, gk_K Z Y 6 (gk_rR M) 87 [(0, .ref v0), (1, .int v1), (2, .int v2), (3, .int x.1), (4, .int x.2)] [.int z10] M (k87_9 z10)) (fun y9 => ?_) (fun k87_9 hk87_9 => ?_)
            · show gk_K Z Y 6 (gk_rR M) 87 [(0, .ref v0), (1, .int v1), (2, .int v2), (3, .int x.1), (4, .int x.2)] [.int y9] M _
              refine gk_istore hC (lv' := [(0, .ref v0), (1, .int v1), (2, .int v2), (3, .int x.1), (4, .int x.2), (5, .int y9)]) [1, 2, 3, 4, 5, 0] dX8_wishBehind_87 (by decide) rfl (q := 89) rfl ?_
              refine gk_iload hC 5 dX8_wishBehind_89 rfl (q := 91) rfl ?_
              refine gk_if_eq hC dX8_wishBehind_91 (tg := 117) rfl (q := 94) rfl ?_ ?_
              · refine gk_pick [0, 1, 2, 3, 4] rfl ?_
                exact hk117_5 x.1
              · refine gk_iload_n hC 3 dX8_wishBehind_94 rfl (q := 95) rfl ?_
                refine gk_jnR (fun k114_11 => ∀ z12 : Unit, gk_K Z Y 6 (gk_rR M) 114 [(0, .ref v0), (1, .int v1), (2, .int v2), (4, .int x.2)] [] M (k114_11 z12)) (fun y11 => ?_) (fun k114_11 hk114_11 => ?_)
                · show gk_K Z Y 6 (gk_rR M) 114 [(0, .ref v0), (1, .int v1), (2, .int v2), (4, .int x.2)] [] M _
                  refine gk_iload hC 3 dX8_wishBehind_114 rfl (q := 116) rfl ?_
                  refine gk_istore_n hC (lv' := [(0, .ref v0), (1, .int v1), (2, .int v2), (3, .int x.2), (4, .int x.2)]) [1, 2, 3, 0, 4] dX8_wishBehind_116 (by decide) rfl (q := 117) rfl ?_
                  exact hk117_5 x.2
                · refine gk_if_lt hC dX8_wishBehind_95 (tg := 114) rfl (q := 98) rfl ?_ ?_
                  · refine gk_pick [0, 1, 2, 4] rfl ?_
                    exact hk114_11 ()
                  · refine gk_aload_n hC 0 dX8_wishBehind_98 rfl (q := 99) rfl ?_
                    refine gk_getR hC dX8_wishBehind_99 fl_RX8_16 (by decide) tv0 (q := 102) rfl (fun t13 => ?_)
                    refine gk_iload hC 4 dX8_wishBehind_102 rfl (q := 104) rfl ?_
                    refine gk_iald hC dX8_wishBehind_104 t13 (q := 105) rfl (fun x14 => ?_)
                    refine gk_aload_n hC 0 dX8_wishBehind_105 rfl (q := 106) rfl ?_
                    refine gk_getR hC dX8_wishBehind_106 fl_RX8_16 (by decide) tv0 (q := 109) rfl (fun t15 => ?_)
                    refine gk_iload_n hC 3 dX8_wishBehind_109 rfl (q := 110) rfl ?_
                    refine gk_iald hC dX8_wishBehind_110 t15 (q := 111) rfl (fun x16 => ?_)
                    refine gk_icmp_ge hC dX8_wishBehind_111 (tg := 117) rfl (q := 114) rfl ?_ ?_
                    · refine gk_pick [0, 1, 2, 3, 4] rfl ?_
                      exact hk117_5 x.1
                    · refine gk_pick [0, 1, 2, 4] rfl ?_
                      exact hk114_11 ()
            · refine gk_jnR (fun k82_17 => ∀ z18 : Unit, gk_K Z Y 6 (gk_rR M) 82 [(0, .ref v0), (1, .int v1), (2, .int v2), (3, .int x.1), (4, .int x.2)] [] M (k82_17 z18)) (fun y17 => ?_) (fun k82_17 hk82_17 => ?_)
              · show gk_K Z Y 6 (gk_rR M) 82 [(0, .ref v0), (1, .int v1), (2, .int v2), (3, .int x.1), (4, .int x.2)] [] M _
                refine gk_iconst hC (v := 1) dX8_wishBehind_82 kc_i_1 (q := 83) rfl ?_
                refine gk_goto hC dX8_wishBehind_83 (q := 87) rfl ?_
                exact hk87_9 1
              · refine gk_if_lt hC dX8_wishBehind_41 (tg := 82) rfl (q := 44) rfl ?_ ?_
                · exact hk82_17 ()
                · refine gk_aload_n hC 0 dX8_wishBehind_44 rfl (q := 45) rfl ?_
                  refine gk_getR hC dX8_wishBehind_45 fl_RX8_16 (by decide) tv0 (q := 48) rfl (fun t19 => ?_)
                  refine gk_iload hC 4 dX8_wishBehind_48 rfl (q := 50) rfl ?_
                  refine gk_iald hC dX8_wishBehind_50 t19 (q := 51) rfl (fun x20 => ?_)
                  refine gk_aload_n hC 0 dX8_wishBehind_51 rfl (q := 52) rfl ?_
                  refine gk_getR hC dX8_wishBehind_52 fl_RX8_16 (by decide) tv0 (q := 55) rfl (fun t21 => ?_)
                  refine gk_iload_n hC 2 dX8_wishBehind_55 rfl (q := 56) rfl ?_
                  refine gk_iald hC dX8_wishBehind_56 t21 (q := 57) rfl (fun x22 => ?_)
                  refine gk_icmp_gt hC dX8_wishBehind_57 (tg := 82) rfl (q := 60) rfl ?_ ?_
                  · exact hk82_17 ()
                  · refine gk_aload_n hC 0 dX8_wishBehind_60 rfl (q := 61) rfl ?_
                    refine gk_getR hC dX8_wishBehind_61 fl_RX8_16 (by decide) tv0 (q := 64) rfl (fun t23 => ?_)
                    refine gk_iload hC 4 dX8_wishBehind_64 rfl (q := 66) rfl ?_
                    refine gk_iald hC dX8_wishBehind_66 t23 (q := 67) rfl (fun x24 => ?_)
                    refine gk_aload_n hC 0 dX8_wishBehind_67 rfl (q := 68) rfl ?_
                    refine gk_getR hC dX8_wishBehind_68 fl_RX8_16 (by decide) tv0 (q := 71) rfl (fun t25 => ?_)
                    refine gk_iload_n hC 2 dX8_wishBehind_71 rfl (q := 72) rfl ?_
                    refine gk_iald hC dX8_wishBehind_72 t25 (q := 73) rfl (fun x26 => ?_)
                    refine gk_jnR (fun k86_27 => ∀ z28 : Unit, gk_K Z Y 6 (gk_rR M) 86 [(0, .ref v0), (1, .int v1), (2, .int v2), (3, .int x.1), (4, .int x.2)] [] M (k86_27 z28)) (fun y27 => ?_) (fun k86_27 hk86_27 => ?_)
                    · show gk_K Z Y 6 (gk_rR M) 86 [(0, .ref v0), (1, .int v1), (2, .int v2), (3, .int x.1), (4, .int x.2)] [] M _
                      refine gk_iconst hC (v := 0) dX8_wishBehind_86 kc_i_0 (q := 87) rfl ?_
                      exact hk87_9 0
                    · refine gk_icmp_ne hC dX8_wishBehind_73 (tg := 86) rfl (q := 76) rfl ?_ ?_
                      · refine gk_iload hC 4 dX8_wishBehind_76 rfl (q := 78) rfl ?_
                        refine gk_iload_n hC 2 dX8_wishBehind_78 rfl (q := 79) rfl ?_
                        refine gk_icmp_le hC dX8_wishBehind_79 (tg := 86) rfl (q := 82) rfl ?_ ?_
                        · exact hk86_27 ()
                        · exact hk82_17 ()
                      · exact hk86_27 ()
        · exact hk117_5 x.1
set_option maxHeartbeats 4000000 in
set_option maxRecDepth 100000 in
theorem m_X8_wishBehind (l : Launch) {Y : gk_Y} (hY : gk_WF Y) (a0 : Nat) (a1 : Int32) (a2 : Int32) (M : gk_M) (t0 : gk_T Y 18 a0) : gk_MF l Y yX8_wishBehind cX8_wishBehind 6 (some .int) 0 [.ref a0, .int a1, .int a2] M (gk_rR M) (f_X8_wishBehind (gk_ln Y) (gk_rf Y) a0 a1 a2 M) := by
  refine gk_met hY (plainFor_of_name (by decide)) (Nat.le_of_ble_eq_true rfl) fun Z hC hR => ?_
  show gk_K Z Y 6 (gk_rR M) 0 [(0, .ref a0), (1, .int a1), (2, .int a2)] [] M _
  unfold f_X8_wishBehind
  refine gk_iconst hC (v := (-1)) dX8_wishBehind_0 kc_i_m1 (q := 1) rfl ?_
  refine gk_istore_n hC (lv' := [(0, .ref a0), (1, .int a1), (2, .int a2), (3, .int (-1))]) [1, 2, 3, 0] dX8_wishBehind_1 (by decide) rfl (q := 2) rfl ?_
  refine gk_iconst hC (v := 0) dX8_wishBehind_2 kc_i_0 (q := 3) rfl ?_
  refine gk_istore hC (lv' := [(0, .ref a0), (1, .int a1), (2, .int a2), (3, .int (-1)), (4, .int 0)]) [1, 2, 3, 4, 0] dX8_wishBehind_3 (by decide) rfl (q := 5) rfl ?_
  refine gk_jnR (fun k123_21 => ∀ z22 : Int32, gk_K Z Y 6 (gk_rR M) 123 [(3, .int z22)] [] M (k123_21 z22)) (fun y21 => ?_) (fun k123_21 hk123_21 => ?_)
  · show gk_K Z Y 6 (gk_rR M) 123 [(3, .int y21)] [] M _
    refine gk_iload_n hC 0 dX8_wishBehind_123 rfl (q := 124) rfl ?_
    exact gk_iret hC hR dX8_wishBehind_124 rfl
  · exact lk_X8_wishBehind_5 hY hC hR a0 a1 a2 M t0 k123_21 hk123_21 gk_fuel ((-1), 0)
def lp_X8_has_5 (LN : Nat → Nat) (RF : Nat → Nat → Nat) (v0 : Nat) (v1 : Int32) (v2 : Int32) (M : gk_M) (k65 : Int32 → Option (Int32)) : Nat → (Int32 × Int32) → Option (Int32)
  | 0, _ => none
  | n + 1, x =>
    gk_ald LN M (RF v0 20) 1 fun x2 =>
    if x2 ≤ x.2 then
      k65 x.1
    else
    gk_jn (fun y3 : Int32 =>
      lp_X8_has_5 LN RF v0 v1 v2 M k65 n (y3, (x.2 + 1))) fun k58_3 =>
    gk_jn (fun y5 : Unit =>
      k58_3 1) fun k53_5 =>
    if x.1 = 0 then
      gk_ald LN M (RF v0 0) x.2 fun x8 =>
      gk_jn (fun y9 : Unit =>
        k58_3 0) fun k57_9 =>
      if x8 = v1 then
        gk_ald LN M (RF v0 1) x.2 fun x12 =>
        if x12 = v2 then
          gk_ald LN M (RF v0 5) x.2 fun x14 =>
          if x14 = 1 then
            k53_5 ()
          else
          k57_9 ()
        else
        k57_9 ()
      else
      k57_9 ()
    else
    k53_5 ()
def f_X8_has (LN : Nat → Nat) (RF : Nat → Nat → Nat) (a0 : Nat) (a1 : Int32) (a2 : Int32) (M : gk_M) : Option (Int32) :=
  gk_jn (fun y21 : Int32 =>
    gk_zz y21 (some y21)) fun k65_21 =>
  lp_X8_has_5 LN RF a0 a1 a2 M k65_21 gk_fuel (0, 0)
set_option maxHeartbeats 4000000 in
set_option maxRecDepth 100000 in
theorem lk_X8_has_5 {Z : gk_Z} {Y : gk_Y} (hY : gk_WF Y) (hC : gk_C Z Y cX8_has 5 RX8 0) (hR : gk_R Z Y (some .boolean)) (v0 : Nat) (v1 : Int32) (v2 : Int32) (M : gk_M) (tv0 : gk_T Y 18 v0) (k65 : Int32 → Option (Int32)) (hk65 : ∀ z23 : Int32, gk_K Z Y 5 (gk_rR M) 65 [(3, .int z23)] [] M (k65 z23)) : ∀ (n : Nat) (x : Int32 × Int32), gk_K Z Y 5 (gk_rR M) 5 [(0, .ref v0), (1, .int v1), (2, .int v2), (3, .int x.1), (4, .int x.2)] [] M (lp_X8_has_5 (gk_ln Y) (gk_rf Y) v0 v1 v2 M k65 n x) := by
  intro n
  induction n with
  | zero => intro x; exact gk_none
  | succ n ih =>
    intro x
    rw [lp_X8_has_5]
    refine gk_iload hC 4 dX8_has_5 rfl (q := 7) rfl ?_
    refine gk_aload_n hC 0 dX8_has_7 rfl (q := 8) rfl ?_
    refine gk_getR hC dX8_has_8 fl_RX8_70 (by decide) tv0 (q := 11) rfl (fun t1 => ?_)
    refine gk_iconst hC (v := 1) dX8_has_11 kc_i_1 (q := 12) rfl ?_
    refine gk_iald hC dX8_has_12 t1 (q := 13) rfl (fun x2 => ?_)
    refine gk_icmp_ge hC dX8_has_13 (tg := 65) rfl (q := 16) rfl ?_ ?_
    · refine gk_pick [3] rfl ?_
      exact hk65 x.1
    · refine gk_iload_n hC 3 dX8_has_16 rfl (q := 17) rfl ?_
      refine gk_jnR (fun k58_3 => ∀ z4 : Int32, gk_K Z Y 5 (gk_rR M) 58 [(0, .ref v0), (1, .int v1), (2, .int v2), (4, .int x.2)] [.int z4] M (k58_3 z4)) (fun y3 => ?_) (fun k58_3 hk58_3 => ?_)
      · show gk_K Z Y 5 (gk_rR M) 58 [(0, .ref v0), (1, .int v1), (2, .int v2), (4, .int x.2)] [.int y3] M _
        refine gk_istore_n hC (lv' := [(0, .ref v0), (1, .int v1), (2, .int v2), (3, .int y3), (4, .int x.2)]) [1, 2, 3, 0, 4] dX8_has_58 (by decide) rfl (q := 59) rfl ?_
        refine gk_iinc hC (v := 1) 4 (lv' := [(0, .ref v0), (1, .int v1), (2, .int v2), (3, .int y3), (4, .int (x.2 + 1))]) [1, 2, 3, 4, 0] dX8_has_59 rfl kc_i_1 (by decide) rfl (q := 62) rfl ?_
        refine gk_goto hC dX8_has_62 (q := 5) rfl ?_
        exact ih (y3, (x.2 + 1))
      · refine gk_jnR (fun k53_5 => ∀ z6 : Unit, gk_K Z Y 5 (gk_rR M) 53 [(0, .ref v0), (1, .int v1), (2, .int v2), (4, .int x.2)] [] M (k53_5 z6)) (fun y5 => ?_) (fun k53_5 hk53_5 => ?_)
        · show gk_K Z Y 5 (gk_rR M) 53 [(0, .ref v0), (1, .int v1), (2, .int v2), (4, .int x.2)] [] M _
          refine gk_iconst hC (v := 1) dX8_has_53 kc_i_1 (q := 54) rfl ?_
          refine gk_goto hC dX8_has_54 (q := 58) rfl ?_
          exact hk58_3 1
        · refine gk_if_ne hC dX8_has_17 (tg := 53) rfl (q := 20) rfl ?_ ?_
          · refine gk_aload_n hC 0 dX8_has_20 rfl (q := 21) rfl ?_
            refine gk_getR hC dX8_has_21 fl_RX8_7 (by decide) tv0 (q := 24) rfl (fun t7 => ?_)
            refine gk_iload hC 4 dX8_has_24 rfl (q := 26) rfl ?_
            refine gk_iald hC dX8_has_26 t7 (q := 27) rfl (fun x8 => ?_)
            refine gk_iload_n hC 1 dX8_has_27 rfl (q := 28) rfl ?_
            refine gk_jnR (fun k57_9 => ∀ z10 : Unit, gk_K Z Y 5 (gk_rR M) 57 [(0, .ref v0), (1, .int v1), (2, .int v2), (4, .int x.2)] [] M (k57_9 z10)) (fun y9 => ?_) (fun k57_9 hk57_9 => ?_)
            · show gk_K Z Y 5 (gk_rR M) 57 [(0, .ref v0), (1, .int v1), (2, .int v2), (4, .int x.2)] [] M _
              refine gk_iconst hC (v := 0) dX8_has_57 kc_i_0 (q := 58) rfl ?_
              exact hk58_3 0
            · refine gk_icmp_ne hC dX8_has_28 (tg := 57) rfl (q := 31) rfl ?_ ?_
              · refine gk_aload_n hC 0 dX8_has_31 rfl (q := 32) rfl ?_
                refine gk_getR hC dX8_has_32 fl_RX8_13 (by decide) tv0 (q := 35) rfl (fun t11 => ?_)
                refine gk_iload hC 4 dX8_has_35 rfl (q := 37) rfl ?_
                refine gk_iald hC dX8_has_37 t11 (q := 38) rfl (fun x12 => ?_)
                refine gk_iload_n hC 2 dX8_has_38 rfl (q := 39) rfl ?_
                refine gk_icmp_ne hC dX8_has_39 (tg := 57) rfl (q := 42) rfl ?_ ?_
                · refine gk_aload_n hC 0 dX8_has_42 rfl (q := 43) rfl ?_
                  refine gk_getR hC dX8_has_43 fl_RX8_25 (by decide) tv0 (q := 46) rfl (fun t13 => ?_)
                  refine gk_iload hC 4 dX8_has_46 rfl (q := 48) rfl ?_
                  refine gk_iald hC dX8_has_48 t13 (q := 49) rfl (fun x14 => ?_)
                  refine gk_iconst hC (v := 1) dX8_has_49 kc_i_1 (q := 50) rfl ?_
                  refine gk_icmp_ne hC dX8_has_50 (tg := 57) rfl (q := 53) rfl ?_ ?_
                  · refine gk_pick [0, 1, 2, 4] rfl ?_
                    exact hk53_5 ()
                  · refine gk_pick [0, 1, 2, 4] rfl ?_
                    exact hk57_9 ()
                · refine gk_pick [0, 1, 2, 4] rfl ?_
                  exact hk57_9 ()
              · refine gk_pick [0, 1, 2, 4] rfl ?_
                exact hk57_9 ()
          · refine gk_pick [0, 1, 2, 4] rfl ?_
            exact hk53_5 ()
set_option maxHeartbeats 4000000 in
set_option maxRecDepth 100000 in
theorem m_X8_has (l : Launch) {Y : gk_Y} (hY : gk_WF Y) (a0 : Nat) (a1 : Int32) (a2 : Int32) (M : gk_M) (t0 : gk_T Y 18 a0) : gk_MF l Y yX8_has cX8_has 5 (some .boolean) 0 [.ref a0, .int a1, .int a2] M (gk_rR M) (f_X8_has (gk_ln Y) (gk_rf Y) a0 a1 a2 M) := by
  refine gk_met hY (plainFor_of_name (by decide)) (Nat.le_of_ble_eq_true rfl) fun Z hC hR => ?_
  show gk_K Z Y 5 (gk_rR M) 0 [(0, .ref a0), (1, .int a1), (2, .int a2)] [] M _
  unfold f_X8_has
  refine gk_iconst hC (v := 0) dX8_has_0 kc_i_0 (q := 1) rfl ?_
  refine gk_istore_n hC (lv' := [(0, .ref a0), (1, .int a1), (2, .int a2), (3, .int 0)]) [1, 2, 3, 0] dX8_has_1 (by decide) rfl (q := 2) rfl ?_
  refine gk_iconst hC (v := 0) dX8_has_2 kc_i_0 (q := 3) rfl ?_
  refine gk_istore hC (lv' := [(0, .ref a0), (1, .int a1), (2, .int a2), (3, .int 0), (4, .int 0)]) [1, 2, 3, 4, 0] dX8_has_3 (by decide) rfl (q := 5) rfl ?_
  refine gk_jnR (fun k65_21 => ∀ z22 : Int32, gk_K Z Y 5 (gk_rR M) 65 [(3, .int z22)] [] M (k65_21 z22)) (fun y21 => ?_) (fun k65_21 hk65_21 => ?_)
  · show gk_K Z Y 5 (gk_rR M) 65 [(3, .int y21)] [] M _
    refine gk_iload_n hC 0 dX8_has_65 rfl (q := 66) rfl ?_
    exact gk_zzR (fun hv => gk_zret hC hR dX8_has_66 hv rfl)
  · exact lk_X8_has_5 hY hC hR a0 a1 a2 M t0 k65_21 hk65_21 gk_fuel (0, 0)
def lp_X8_callOf_2 (LN : Nat → Nat) (RF : Nat → Nat → Nat) (v0 : Nat) (v1 : Int32) (M : gk_M) (k69 : Int32 → Option (Int32)) (k77 : Unit → Option (Int32)) : Nat → Int32 → Option (Int32)
  | 0, _ => none
  | n + 1, x =>
    gk_ald LN M (RF v0 20) 2 fun x2 =>
    if x2 ≤ x then
      k77 ()
    else
    gk_ald LN M (RF v0 7) x fun x4 =>
    gk_jn (fun y5 : Unit =>
      lp_X8_callOf_2 LN RF v0 v1 M k69 k77 n (x + 1)) fun k71_5 =>
    if x4 = 3 then
      k71_5 ()
    else
    gk_ald LN M (RF v0 6) x fun x8 =>
    if x8 = v1 then
      k69 x
    else
    gk_ald LN M (RF v0 12) x fun x10 =>
    if ((x10 >>> (v1 &&& 31)) &&& 1) = 1 then
      k69 x
    else
    gk_ald LN M (RF v0 7) x fun x12 =>
    if x12 = 1 then
      gk_ald LN M (RF v0 13) x fun x14 =>
      if x14 = v1 then
        k69 x
      else
      k71_5 ()
    else
    k71_5 ()
def f_X8_callOf (LN : Nat → Nat) (RF : Nat → Nat → Nat) (a0 : Nat) (a1 : Int32) (M : gk_M) : Option (Int32) :=
  gk_jn (fun y21 : Unit =>
    some (-1)) fun k77_21 =>
  gk_jn (fun y23 : Int32 =>
    some y23) fun k69_23 =>
  lp_X8_callOf_2 LN RF a0 a1 M k69_23 k77_21 gk_fuel 0
set_option maxHeartbeats 4000000 in
set_option maxRecDepth 100000 in
theorem lk_X8_callOf_2 {Z : gk_Z} {Y : gk_Y} (hY : gk_WF Y) (hC : gk_C Z Y cX8_callOf 3 RX8 0) (hR : gk_R Z Y (some .int)) (v0 : Nat) (v1 : Int32) (M : gk_M) (tv0 : gk_T Y 18 v0) (k69 : Int32 → Option (Int32)) (k77 : Unit → Option (Int32)) (hk69 : ∀ z25 : Int32, gk_K Z Y 3 (gk_rR M) 69 [(2, .int z25)] [] M (k69 z25)) (hk77 : ∀ z26 : Unit, gk_K Z Y 3 (gk_rR M) 77 [] [] M (k77 z26)) : ∀ (n : Nat) (x : Int32), gk_K Z Y 3 (gk_rR M) 2 [(0, .ref v0), (1, .int v1), (2, .int x)] [] M (lp_X8_callOf_2 (gk_ln Y) (gk_rf Y) v0 v1 M k69 k77 n x) := by
  intro n
  induction n with
  | zero => intro x; exact gk_none
  | succ n ih =>
    intro x
    rw [lp_X8_callOf_2]
    refine gk_iload_n hC 2 dX8_callOf_2 rfl (q := 3) rfl ?_
    refine gk_aload_n hC 0 dX8_callOf_3 rfl (q := 4) rfl ?_
    refine gk_getR hC dX8_callOf_4 fl_RX8_70 (by decide) tv0 (q := 7) rfl (fun t1 => ?_)
    refine gk_iconst hC (v := 2) dX8_callOf_7 kc_i_2 (q := 8) rfl ?_
    refine gk_iald hC dX8_callOf_8 t1 (q := 9) rfl (fun x2 => ?_)
    refine gk_icmp_ge hC dX8_callOf_9 (tg := 77) rfl (q := 12) rfl ?_ ?_
    · refine gk_pick [] rfl ?_
      exact hk77 ()
    · refine gk_aload_n hC 0 dX8_callOf_12 rfl (q := 13) rfl ?_
      refine gk_getR hC dX8_callOf_13 fl_RX8_31 (by decide) tv0 (q := 16) rfl (fun t3 => ?_)
      refine gk_iload_n hC 2 dX8_callOf_16 rfl (q := 17) rfl ?_
      refine gk_iald hC dX8_callOf_17 t3 (q := 18) rfl (fun x4 => ?_)
      refine gk_iconst hC (v := 3) dX8_callOf_18 kc_i_3 (q := 19) rfl ?_
      refine gk_jnR (fun k71_5 => ∀ z6 : Unit, gk_K Z Y 3 (gk_rR M) 71 [(0, .ref v0), (1, .int v1), (2, .int x)] [] M (k71_5 z6)) (fun y5 => ?_) (fun k71_5 hk71_5 => ?_)
      · show gk_K Z Y 3 (gk_rR M) 71 [(0, .ref v0), (1, .int v1), (2, .int x)] [] M _
        refine gk_iinc hC (v := 1) 2 (lv' := [(0, .ref v0), (1, .int v1), (2, .int (x + 1))]) [1, 2, 0] dX8_callOf_71 rfl kc_i_1 (by decide) rfl (q := 74) rfl ?_
        refine gk_goto hC dX8_callOf_74 (q := 2) rfl ?_
        exact ih (x + 1)
      · refine gk_icmp_ne hC dX8_callOf_19 (tg := 25) rfl (q := 22) rfl ?_ ?_
        · refine gk_goto hC dX8_callOf_22 (q := 71) rfl ?_
          exact hk71_5 ()
        · refine gk_aload_n hC 0 dX8_callOf_25 rfl (q := 26) rfl ?_
          refine gk_getR hC dX8_callOf_26 fl_RX8_28 (by decide) tv0 (q := 29) rfl (fun t7 => ?_)
          refine gk_iload_n hC 2 dX8_callOf_29 rfl (q := 30) rfl ?_
          refine gk_iald hC dX8_callOf_30 t7 (q := 31) rfl (fun x8 => ?_)
          refine gk_iload_n hC 1 dX8_callOf_31 rfl (q := 32) rfl ?_
          refine gk_icmp_eq hC dX8_callOf_32 (tg := 69) rfl (q := 35) rfl ?_ ?_
          · refine gk_pick [2] rfl ?_
            exact hk69 x
          · refine gk_aload_n hC 0 dX8_callOf_35 rfl (q := 36) rfl ?_
            refine gk_getR hC dX8_callOf_36 fl_RX8_46 (by decide) tv0 (q := 39) rfl (fun t9 => ?_)
            refine gk_iload_n hC 2 dX8_callOf_39 rfl (q := 40) rfl ?_
            refine gk_iald hC dX8_callOf_40 t9 (q := 41) rfl (fun x10 => ?_)
            refine gk_iload_n hC 1 dX8_callOf_41 rfl (q := 42) rfl ?_
            refine gk_ishr hC dX8_callOf_42 (q := 43) rfl ?_
            refine gk_iconst hC (v := 1) dX8_callOf_43 kc_i_1 (q := 44) rfl ?_
            refine gk_iand hC dX8_callOf_44 (q := 45) rfl ?_
            refine gk_iconst hC (v := 1) dX8_callOf_45 kc_i_1 (q := 46) rfl ?_
            refine gk_icmp_eq hC dX8_callOf_46 (tg := 69) rfl (q := 49) rfl ?_ ?_
            · refine gk_pick [2] rfl ?_
              exact hk69 x
            · refine gk_aload_n hC 0 dX8_callOf_49 rfl (q := 50) rfl ?_
              refine gk_getR hC dX8_callOf_50 fl_RX8_31 (by decide) tv0 (q := 53) rfl (fun t11 => ?_)
              refine gk_iload_n hC 2 dX8_callOf_53 rfl (q := 54) rfl ?_
              refine gk_iald hC dX8_callOf_54 t11 (q := 55) rfl (fun x12 => ?_)
              refine gk_iconst hC (v := 1) dX8_callOf_55 kc_i_1 (q := 56) rfl ?_
              refine gk_icmp_ne hC dX8_callOf_56 (tg := 71) rfl (q := 59) rfl ?_ ?_
              · refine gk_aload_n hC 0 dX8_callOf_59 rfl (q := 60) rfl ?_
                refine gk_getR hC dX8_callOf_60 fl_RX8_49 (by decide) tv0 (q := 63) rfl (fun t13 => ?_)
                refine gk_iload_n hC 2 dX8_callOf_63 rfl (q := 64) rfl ?_
                refine gk_iald hC dX8_callOf_64 t13 (q := 65) rfl (fun x14 => ?_)
                refine gk_iload_n hC 1 dX8_callOf_65 rfl (q := 66) rfl ?_
                refine gk_icmp_ne hC dX8_callOf_66 (tg := 71) rfl (q := 69) rfl ?_ ?_
                · refine gk_pick [2] rfl ?_
                  exact hk69 x
                · exact hk71_5 ()
              · exact hk71_5 ()
set_option maxHeartbeats 4000000 in
set_option maxRecDepth 100000 in
theorem m_X8_callOf (l : Launch) {Y : gk_Y} (hY : gk_WF Y) (a0 : Nat) (a1 : Int32) (M : gk_M) (t0 : gk_T Y 18 a0) : gk_MF l Y yX8_callOf cX8_callOf 3 (some .int) 0 [.ref a0, .int a1] M (gk_rR M) (f_X8_callOf (gk_ln Y) (gk_rf Y) a0 a1 M) := by
  refine gk_met hY (plainFor_of_name (by decide)) (Nat.le_of_ble_eq_true rfl) fun Z hC hR => ?_
  show gk_K Z Y 3 (gk_rR M) 0 [(0, .ref a0), (1, .int a1)] [] M _
  unfold f_X8_callOf
  refine gk_iconst hC (v := 0) dX8_callOf_0 kc_i_0 (q := 1) rfl ?_
  refine gk_istore_n hC (lv' := [(0, .ref a0), (1, .int a1), (2, .int 0)]) [1, 2, 0] dX8_callOf_1 (by decide) rfl (q := 2) rfl ?_
  refine gk_jnR (fun k77_21 => ∀ z22 : Unit, gk_K Z Y 3 (gk_rR M) 77 [] [] M (k77_21 z22)) (fun y21 => ?_) (fun k77_21 hk77_21 => ?_)
  · show gk_K Z Y 3 (gk_rR M) 77 [] [] M _
    refine gk_iconst hC (v := (-1)) dX8_callOf_77 kc_i_m1 (q := 78) rfl ?_
    exact gk_iret hC hR dX8_callOf_78 rfl
  · refine gk_jnR (fun k69_23 => ∀ z24 : Int32, gk_K Z Y 3 (gk_rR M) 69 [(2, .int z24)] [] M (k69_23 z24)) (fun y23 => ?_) (fun k69_23 hk69_23 => ?_)
    · show gk_K Z Y 3 (gk_rR M) 69 [(2, .int y23)] [] M _
      refine gk_iload_n hC 0 dX8_callOf_69 rfl (q := 70) rfl ?_
      exact gk_iret hC hR dX8_callOf_70 rfl
    · exact lk_X8_callOf_2 hY hC hR a0 a1 M t0 k69_23 k77_21 hk69_23 hk77_21 gk_fuel 0
def f_X8_isFree (LN : Nat → Nat) (RF : Nat → Nat → Nat) (a0 : Nat) (a1 : Int32) (M : gk_M) : Option (Int32) :=
  (f_X8_callOf LN RF a0 a1 M).bind fun r21 =>
  gk_jn (fun y22 : Int32 =>
    gk_zz y22 (some y22)) fun k13_22 =>
  if 0 ≤ r21 then
    k13_22 0
  else
  k13_22 1
set_option maxHeartbeats 4000000 in
set_option maxRecDepth 100000 in
theorem m_X8_isFree (l : Launch) {Y : gk_Y} (hY : gk_WF Y) (a0 : Nat) (a1 : Int32) (M : gk_M) (t0 : gk_T Y 18 a0) : gk_MF l Y yX8_isFree cX8_isFree 2 (some .boolean) 1 [.ref a0, .int a1] M (gk_rR M) (f_X8_isFree (gk_ln Y) (gk_rf Y) a0 a1 M) := by
  refine gk_met hY (plainFor_of_name (by decide)) (Nat.le_of_ble_eq_true rfl) fun Z hC hR => ?_
  show gk_K Z Y 2 (gk_rR M) 0 [(0, .ref a0), (1, .int a1)] [] M _
  unfold f_X8_isFree
  refine gk_aload_n hC 0 dX8_isFree_0 rfl (q := 1) rfl ?_
  refine gk_iload_n hC 1 dX8_isFree_1 rfl (q := 2) rfl ?_
  refine gk_callV (As := [.int a1]) (rest := []) hC (fun l => m_X8_callOf l hY a0 a1 M t0) ml_RX8_145 ok_X8_callOf dX8_isFree_2 t0 ⟨by decide, rfl⟩ rfl (by decide) (Nat.le_of_ble_eq_true rfl) rfl (q := 5) rfl (fun r21 => ?_)
  show gk_K Z Y 2 (gk_rR M) 5 [(0, .ref a0), (1, .int a1)] [.int r21] M _
  refine gk_jnR (fun k13_22 => ∀ z23 : Int32, gk_K Z Y 2 (gk_rR M) 13 [] [.int z23] M (k13_22 z23)) (fun y22 => ?_) (fun k13_22 hk13_22 => ?_)
  · show gk_K Z Y 2 (gk_rR M) 13 [] [.int y22] M _
    exact gk_zzR (fun hv => gk_zret hC hR dX8_isFree_13 hv rfl)
  · refine gk_if_ge hC dX8_isFree_5 (tg := 12) rfl (q := 8) rfl ?_ ?_
    · refine gk_iconst hC (v := 0) dX8_isFree_12 kc_i_0 (q := 13) rfl ?_
      refine gk_pick [] rfl ?_
      exact hk13_22 0
    · refine gk_iconst hC (v := 1) dX8_isFree_8 kc_i_1 (q := 9) rfl ?_
      refine gk_goto hC dX8_isFree_9 (q := 13) rfl ?_
      refine gk_pick [] rfl ?_
      exact hk13_22 1
def lp_X8_knockAt_4 (LN : Nat → Nat) (RF : Nat → Nat → Nat) (v0 : Nat) (v1 : Int32) (M : gk_M) (k46 : Int32 → Option (Int32)) : Nat → (Int32 × Int32) → Option (Int32)
  | 0, _ => none
  | n + 1, x =>
    gk_ald LN M (RF v0 20) 2 fun x2 =>
    if x2 ≤ x.2 then
      k46 x.1
    else
    gk_ald LN M (RF v0 7) x.2 fun x4 =>
    gk_jn (fun y5 : Int32 =>
      lp_X8_knockAt_4 LN RF v0 v1 M k46 n (y5, (x.2 + 1))) fun k39_5 =>
    gk_jn (fun y7 : Unit =>
      k39_5 x.1) fun k38_7 =>
    if x4 = 2 then
      gk_ald LN M (RF v0 13) x.2 fun x10 =>
      if x10 = v1 then
        k39_5 x.2
      else
      k38_7 ()
    else
    k38_7 ()
def f_X8_knockAt (LN : Nat → Nat) (RF : Nat → Nat → Nat) (a0 : Nat) (a1 : Int32) (M : gk_M) : Option (Int32) :=
  gk_jn (fun y21 : Int32 =>
    some y21) fun k46_21 =>
  lp_X8_knockAt_4 LN RF a0 a1 M k46_21 gk_fuel ((-1), 0)
set_option maxHeartbeats 4000000 in
set_option maxRecDepth 100000 in
theorem lk_X8_knockAt_4 {Z : gk_Z} {Y : gk_Y} (hY : gk_WF Y) (hC : gk_C Z Y cX8_knockAt 4 RX8 0) (hR : gk_R Z Y (some .int)) (v0 : Nat) (v1 : Int32) (M : gk_M) (tv0 : gk_T Y 18 v0) (k46 : Int32 → Option (Int32)) (hk46 : ∀ z23 : Int32, gk_K Z Y 4 (gk_rR M) 46 [(2, .int z23)] [] M (k46 z23)) : ∀ (n : Nat) (x : Int32 × Int32), gk_K Z Y 4 (gk_rR M) 4 [(0, .ref v0), (1, .int v1), (2, .int x.1), (3, .int x.2)] [] M (lp_X8_knockAt_4 (gk_ln Y) (gk_rf Y) v0 v1 M k46 n x) := by
  intro n
  induction n with
  | zero => intro x; exact gk_none
  | succ n ih =>
    intro x
    rw [lp_X8_knockAt_4]
    refine gk_iload_n hC 3 dX8_knockAt_4 rfl (q := 5) rfl ?_
    refine gk_aload_n hC 0 dX8_knockAt_5 rfl (q := 6) rfl ?_
    refine gk_getR hC dX8_knockAt_6 fl_RX8_70 (by decide) tv0 (q := 9) rfl (fun t1 => ?_)
    refine gk_iconst hC (v := 2) dX8_knockAt_9 kc_i_2 (q := 10) rfl ?_
    refine gk_iald hC dX8_knockAt_10 t1 (q := 11) rfl (fun x2 => ?_)
    refine gk_icmp_ge hC dX8_knockAt_11 (tg := 46) rfl (q := 14) rfl ?_ ?_
    · refine gk_pick [2] rfl ?_
      exact hk46 x.1
    · refine gk_aload_n hC 0 dX8_knockAt_14 rfl (q := 15) rfl ?_
      refine gk_getR hC dX8_knockAt_15 fl_RX8_31 (by decide) tv0 (q := 18) rfl (fun t3 => ?_)
      refine gk_iload_n hC 3 dX8_knockAt_18 rfl (q := 19) rfl ?_
      refine gk_iald hC dX8_knockAt_19 t3 (q := 20) rfl (fun x4 => ?_)
      refine gk_iconst hC (v := 2) dX8_knockAt_20 kc_i_2 (q := 21) rfl ?_
      refine gk_jnR (fun k39_5 => ∀ z6 : Int32, gk_K Z Y 4 (gk_rR M) 39 [(0, .ref v0), (1, .int v1), (3, .int x.2)] [.int z6] M (k39_5 z6)) (fun y5 => ?_) (fun k39_5 hk39_5 => ?_)
      · show gk_K Z Y 4 (gk_rR M) 39 [(0, .ref v0), (1, .int v1), (3, .int x.2)] [.int y5] M _
        refine gk_istore_n hC (lv' := [(0, .ref v0), (1, .int v1), (2, .int y5), (3, .int x.2)]) [1, 2, 0, 3] dX8_knockAt_39 (by decide) rfl (q := 40) rfl ?_
        refine gk_iinc hC (v := 1) 3 (lv' := [(0, .ref v0), (1, .int v1), (2, .int y5), (3, .int (x.2 + 1))]) [1, 2, 3, 0] dX8_knockAt_40 rfl kc_i_1 (by decide) rfl (q := 43) rfl ?_
        refine gk_goto hC dX8_knockAt_43 (q := 4) rfl ?_
        exact ih (y5, (x.2 + 1))
      · refine gk_jnR (fun k38_7 => ∀ z8 : Unit, gk_K Z Y 4 (gk_rR M) 38 [(0, .ref v0), (1, .int v1), (2, .int x.1), (3, .int x.2)] [] M (k38_7 z8)) (fun y7 => ?_) (fun k38_7 hk38_7 => ?_)
        · show gk_K Z Y 4 (gk_rR M) 38 [(0, .ref v0), (1, .int v1), (2, .int x.1), (3, .int x.2)] [] M _
          refine gk_iload_n hC 2 dX8_knockAt_38 rfl (q := 39) rfl ?_
          refine gk_pick [0, 1, 3] rfl ?_
          exact hk39_5 x.1
        · refine gk_icmp_ne hC dX8_knockAt_21 (tg := 38) rfl (q := 24) rfl ?_ ?_
          · refine gk_aload_n hC 0 dX8_knockAt_24 rfl (q := 25) rfl ?_
            refine gk_getR hC dX8_knockAt_25 fl_RX8_49 (by decide) tv0 (q := 28) rfl (fun t9 => ?_)
            refine gk_iload_n hC 3 dX8_knockAt_28 rfl (q := 29) rfl ?_
            refine gk_iald hC dX8_knockAt_29 t9 (q := 30) rfl (fun x10 => ?_)
            refine gk_iload_n hC 1 dX8_knockAt_30 rfl (q := 31) rfl ?_
            refine gk_icmp_ne hC dX8_knockAt_31 (tg := 38) rfl (q := 34) rfl ?_ ?_
            · refine gk_iload_n hC 3 dX8_knockAt_34 rfl (q := 35) rfl ?_
              refine gk_goto hC dX8_knockAt_35 (q := 39) rfl ?_
              refine gk_pick [0, 1, 3] rfl ?_
              exact hk39_5 x.2
            · exact hk38_7 ()
          · exact hk38_7 ()
set_option maxHeartbeats 4000000 in
set_option maxRecDepth 100000 in
theorem m_X8_knockAt (l : Launch) {Y : gk_Y} (hY : gk_WF Y) (a0 : Nat) (a1 : Int32) (M : gk_M) (t0 : gk_T Y 18 a0) : gk_MF l Y yX8_knockAt cX8_knockAt 4 (some .int) 0 [.ref a0, .int a1] M (gk_rR M) (f_X8_knockAt (gk_ln Y) (gk_rf Y) a0 a1 M) := by
  refine gk_met hY (plainFor_of_name (by decide)) (Nat.le_of_ble_eq_true rfl) fun Z hC hR => ?_
  show gk_K Z Y 4 (gk_rR M) 0 [(0, .ref a0), (1, .int a1)] [] M _
  unfold f_X8_knockAt
  refine gk_iconst hC (v := (-1)) dX8_knockAt_0 kc_i_m1 (q := 1) rfl ?_
  refine gk_istore_n hC (lv' := [(0, .ref a0), (1, .int a1), (2, .int (-1))]) [1, 2, 0] dX8_knockAt_1 (by decide) rfl (q := 2) rfl ?_
  refine gk_iconst hC (v := 0) dX8_knockAt_2 kc_i_0 (q := 3) rfl ?_
  refine gk_istore_n hC (lv' := [(0, .ref a0), (1, .int a1), (2, .int (-1)), (3, .int 0)]) [1, 2, 3, 0] dX8_knockAt_3 (by decide) rfl (q := 4) rfl ?_
  refine gk_jnR (fun k46_21 => ∀ z22 : Int32, gk_K Z Y 4 (gk_rR M) 46 [(2, .int z22)] [] M (k46_21 z22)) (fun y21 => ?_) (fun k46_21 hk46_21 => ?_)
  · show gk_K Z Y 4 (gk_rR M) 46 [(2, .int y21)] [] M _
    refine gk_iload_n hC 0 dX8_knockAt_46 rfl (q := 47) rfl ?_
    exact gk_iret hC hR dX8_knockAt_47 rfl
  · exact lk_X8_knockAt_4 hY hC hR a0 a1 M t0 k46_21 hk46_21 gk_fuel ((-1), 0)
def f_X8_ends (LN : Nat → Nat) (RF : Nat → Nat → Nat) (a0 : Nat) (a1 : Int32) (a2 : Int32) (M : gk_M) : Option (gk_M) :=
  gk_ast LN M (RF a0 7) a1 3 fun M22 =>
  gk_ast LN M22 (RF a0 8) a1 a2 fun M24 =>
  gk_ast LN M24 (RF a0 12) a1 0 fun M26 =>
  gk_ast LN M26 (RF a0 13) a1 (-1) fun M28 =>
  some M28
set_option maxHeartbeats 4000000 in
set_option maxRecDepth 100000 in
theorem m_X8_ends (l : Launch) {Y : gk_Y} (hY : gk_WF Y) (a0 : Nat) (a1 : Int32) (a2 : Int32) (M : gk_M) (t0 : gk_T Y 18 a0) : gk_MF l Y yX8_ends cX8_ends 3 none 0 [.ref a0, .int a1, .int a2] M gk_rV (f_X8_ends (gk_ln Y) (gk_rf Y) a0 a1 a2 M) := by
  refine gk_met hY (plainFor_of_name (by decide)) (Nat.le_of_ble_eq_true rfl) fun Z hC hR => ?_
  show gk_K Z Y 3 gk_rV 0 [(0, .ref a0), (1, .int a1), (2, .int a2)] [] M _
  unfold f_X8_ends
  refine gk_aload_n hC 0 dX8_ends_0 rfl (q := 1) rfl ?_
  refine gk_getR hC dX8_ends_1 fl_RX8_31 (by decide) t0 (q := 4) rfl (fun t21 => ?_)
  refine gk_iload_n hC 1 dX8_ends_4 rfl (q := 5) rfl ?_
  refine gk_iconst hC (v := 3) dX8_ends_5 kc_i_3 (q := 6) rfl ?_
  refine gk_iast hC dX8_ends_6 t21 (q := 7) rfl (fun M22 => ?_)
  refine gk_aload_n hC 0 dX8_ends_7 rfl (q := 8) rfl ?_
  refine gk_getR hC dX8_ends_8 fl_RX8_34 (by decide) t0 (q := 11) rfl (fun t23 => ?_)
  refine gk_iload_n hC 1 dX8_ends_11 rfl (q := 12) rfl ?_
  refine gk_iload_n hC 2 dX8_ends_12 rfl (q := 13) rfl ?_
  refine gk_iast hC dX8_ends_13 t23 (q := 14) rfl (fun M24 => ?_)
  refine gk_aload_n hC 0 dX8_ends_14 rfl (q := 15) rfl ?_
  refine gk_getR hC dX8_ends_15 fl_RX8_46 (by decide) t0 (q := 18) rfl (fun t25 => ?_)
  refine gk_iload_n hC 1 dX8_ends_18 rfl (q := 19) rfl ?_
  refine gk_iconst hC (v := 0) dX8_ends_19 kc_i_0 (q := 20) rfl ?_
  refine gk_iast hC dX8_ends_20 t25 (q := 21) rfl (fun M26 => ?_)
  refine gk_aload_n hC 0 dX8_ends_21 rfl (q := 22) rfl ?_
  refine gk_getR hC dX8_ends_22 fl_RX8_49 (by decide) t0 (q := 25) rfl (fun t27 => ?_)
  refine gk_iload_n hC 1 dX8_ends_25 rfl (q := 26) rfl ?_
  refine gk_iconst hC (v := (-1)) dX8_ends_26 kc_i_m1 (q := 27) rfl ?_
  refine gk_iast hC dX8_ends_27 t27 (q := 28) rfl (fun M28 => ?_)
  exact gk_vret hC hR dX8_ends_28 rfl
def f_X8_rings (LN : Nat → Nat) (RF : Nat → Nat → Nat) (a0 : Nat) (a1 : Int32) (a2 : Int32) (M : gk_M) : Option (gk_M) :=
  gk_ast LN M (RF a0 7) a1 0 fun M22 =>
  gk_ast LN M22 (RF a0 12) a1 a2 fun M24 =>
  gk_ast LN M24 (RF a0 13) a1 (-1) fun M26 =>
  gk_ast LN M26 (RF a0 14) a1 0 fun M28 =>
  some M28
set_option maxHeartbeats 4000000 in
set_option maxRecDepth 100000 in
theorem m_X8_rings (l : Launch) {Y : gk_Y} (hY : gk_WF Y) (a0 : Nat) (a1 : Int32) (a2 : Int32) (M : gk_M) (t0 : gk_T Y 18 a0) : gk_MF l Y yX8_rings cX8_rings 3 none 0 [.ref a0, .int a1, .int a2] M gk_rV (f_X8_rings (gk_ln Y) (gk_rf Y) a0 a1 a2 M) := by
  refine gk_met hY (plainFor_of_name (by decide)) (Nat.le_of_ble_eq_true rfl) fun Z hC hR => ?_
  show gk_K Z Y 3 gk_rV 0 [(0, .ref a0), (1, .int a1), (2, .int a2)] [] M _
  unfold f_X8_rings
  refine gk_aload_n hC 0 dX8_rings_0 rfl (q := 1) rfl ?_
  refine gk_getR hC dX8_rings_1 fl_RX8_31 (by decide) t0 (q := 4) rfl (fun t21 => ?_)
  refine gk_iload_n hC 1 dX8_rings_4 rfl (q := 5) rfl ?_
  refine gk_iconst hC (v := 0) dX8_rings_5 kc_i_0 (q := 6) rfl ?_
  refine gk_iast hC dX8_rings_6 t21 (q := 7) rfl (fun M22 => ?_)
  refine gk_aload_n hC 0 dX8_rings_7 rfl (q := 8) rfl ?_
  refine gk_getR hC dX8_rings_8 fl_RX8_46 (by decide) t0 (q := 11) rfl (fun t23 => ?_)
  refine gk_iload_n hC 1 dX8_rings_11 rfl (q := 12) rfl ?_
  refine gk_iload_n hC 2 dX8_rings_12 rfl (q := 13) rfl ?_
  refine gk_iast hC dX8_rings_13 t23 (q := 14) rfl (fun M24 => ?_)
  refine gk_aload_n hC 0 dX8_rings_14 rfl (q := 15) rfl ?_
  refine gk_getR hC dX8_rings_15 fl_RX8_49 (by decide) t0 (q := 18) rfl (fun t25 => ?_)
  refine gk_iload_n hC 1 dX8_rings_18 rfl (q := 19) rfl ?_
  refine gk_iconst hC (v := (-1)) dX8_rings_19 kc_i_m1 (q := 20) rfl ?_
  refine gk_iast hC dX8_rings_20 t25 (q := 21) rfl (fun M26 => ?_)
  refine gk_aload_n hC 0 dX8_rings_21 rfl (q := 22) rfl ?_
  refine gk_getR hC dX8_rings_22 fl_RX8_52 (by decide) t0 (q := 25) rfl (fun t27 => ?_)
  refine gk_iload_n hC 1 dX8_rings_25 rfl (q := 26) rfl ?_
  refine gk_iconst hC (v := 0) dX8_rings_26 kc_i_0 (q := 27) rfl ?_
  refine gk_iast hC dX8_rings_27 t27 (q := 28) rfl (fun M28 => ?_)
  exact gk_vret hC hR dX8_rings_28 rfl
def f_X8_notes (LN : Nat → Nat) (RF : Nat → Nat → Nat) (a0 : Nat) (a1 : Int32) (a2 : Int32) (M : gk_M) : Option (gk_M) :=
  gk_ald LN M (RF a0 15) a1 fun x22 =>
  gk_jn (fun y23 : gk_M =>
    gk_ald LN y23 (RF a0 15) a1 fun x26 =>
    gk_ast LN y23 (RF a0 15) a1 (x26 + 1) fun M27 =>
    some M27) fun k28_23 =>
  if 10 ≤ x22 then
    k28_23 M
  else
  gk_ald LN M (RF a0 15) a1 fun x30 =>
  gk_ast LN M (RF a0 16) ((10 * a1) + x30) a2 fun M31 =>
  k28_23 M31
set_option maxHeartbeats 4000000 in
set_option maxRecDepth 100000 in
theorem m_X8_notes (l : Launch) {Y : gk_Y} (hY : gk_WF Y) (a0 : Nat) (a1 : Int32) (a2 : Int32) (M : gk_M) (t0 : gk_T Y 18 a0) : gk_MF l Y yX8_notes cX8_notes 3 none 0 [.ref a0, .int a1, .int a2] M gk_rV (f_X8_notes (gk_ln Y) (gk_rf Y) a0 a1 a2 M) := by
  refine gk_met hY (plainFor_of_name (by decide)) (Nat.le_of_ble_eq_true rfl) fun Z hC hR => ?_
  show gk_K Z Y 3 gk_rV 0 [(0, .ref a0), (1, .int a1), (2, .int a2)] [] M _
  unfold f_X8_notes
  refine gk_aload_n hC 0 dX8_notes_0 rfl (q := 1) rfl ?_
  refine gk_getR hC dX8_notes_1 fl_RX8_55 (by decide) t0 (q := 4) rfl (fun t21 => ?_)
  refine gk_iload_n hC 1 dX8_notes_4 rfl (q := 5) rfl ?_
  refine gk_iald hC dX8_notes_5 t21 (q := 6) rfl (fun x22 => ?_)
  refine gk_bipush hC (v := 10) dX8_notes_6 kc_b_10 (q := 8) rfl ?_
  refine gk_jnR (fun k28_23 => ∀ z24 : gk_M, gk_K Z Y 3 gk_rV 28 [(0, .ref a0), (1, .int a1)] [] z24 (k28_23 z24)) (fun y23 => ?_) (fun k28_23 hk28_23 => ?_)
  · show gk_K Z Y 3 gk_rV 28 [(0, .ref a0), (1, .int a1)] [] y23 _
    refine gk_aload_n hC 0 dX8_notes_28 rfl (q := 29) rfl ?_
    refine gk_getR hC dX8_notes_29 fl_RX8_55 (by decide) t0 (q := 32) rfl (fun t25 => ?_)
    refine gk_iload_n hC 1 dX8_notes_32 rfl (q := 33) rfl ?_
    refine gk_dup2 hC dX8_notes_33 rfl rfl (q := 34) rfl ?_
    refine gk_iald hC dX8_notes_34 t25 (q := 35) rfl (fun x26 => ?_)
    refine gk_iconst hC (v := 1) dX8_notes_35 kc_i_1 (q := 36) rfl ?_
    refine gk_iadd hC dX8_notes_36 (q := 37) rfl ?_
    refine gk_iast hC dX8_notes_37 t25 (q := 38) rfl (fun M27 => ?_)
    exact gk_vret hC hR dX8_notes_38 rfl
  · refine gk_icmp_ge hC dX8_notes_8 (tg := 28) rfl (q := 11) rfl ?_ ?_
    · refine gk_pick [0, 1] rfl ?_
      exact hk28_23 M
    · refine gk_aload_n hC 0 dX8_notes_11 rfl (q := 12) rfl ?_
      refine gk_getR hC dX8_notes_12 fl_RX8_58 (by decide) t0 (q := 15) rfl (fun t28 => ?_)
      refine gk_bipush hC (v := 10) dX8_notes_15 kc_b_10 (q := 17) rfl ?_
      refine gk_iload_n hC 1 dX8_notes_17 rfl (q := 18) rfl ?_
      refine gk_imul hC dX8_notes_18 (q := 19) rfl ?_
      refine gk_aload_n hC 0 dX8_notes_19 rfl (q := 20) rfl ?_
      refine gk_getR hC dX8_notes_20 fl_RX8_55 (by decide) t0 (q := 23) rfl (fun t29 => ?_)
      refine gk_iload_n hC 1 dX8_notes_23 rfl (q := 24) rfl ?_
      refine gk_iald hC dX8_notes_24 t29 (q := 25) rfl (fun x30 => ?_)
      refine gk_iadd hC dX8_notes_25 (q := 26) rfl ?_
      refine gk_iload_n hC 2 dX8_notes_26 rfl (q := 27) rfl ?_
      refine gk_iast hC dX8_notes_27 t28 (q := 28) rfl (fun M31 => ?_)
      refine gk_pick [0, 1] rfl ?_
      exact hk28_23 M31
def lp_X8_isInRow_5 (LN : Nat → Nat) (RF : Nat → Nat → Nat) (v0 : Nat) (v1 : Int32) (v2 : Int32) (M : gk_M) (k48 : Int32 → Option (Int32)) : Nat → (Int32 × Int32) → Option (Int32)
  | 0, _ => none
  | n + 1, x =>
    gk_ald LN M (RF v0 9) v1 fun x2 =>
    if x2 ≤ x.2 then
      k48 x.1
    else
    gk_jn (fun y3 : Int32 =>
      lp_X8_isInRow_5 LN RF v0 v1 v2 M k48 n (y3, (x.2 + 1))) fun k41_3 =>
    gk_jn (fun y5 : Unit =>
      k41_3 1) fun k36_5 =>
    if x.1 = 0 then
      gk_ald LN M (RF v0 10) ((9 * v1) + x.2) fun x8 =>
      if x8 = v2 then
        k36_5 ()
      else
      k41_3 0
    else
    k36_5 ()
def f_X8_isInRow (LN : Nat → Nat) (RF : Nat → Nat → Nat) (a0 : Nat) (a1 : Int32) (a2 : Int32) (M : gk_M) : Option (Int32) :=
  gk_jn (fun y21 : Int32 =>
    gk_zz y21 (some y21)) fun k48_21 =>
  lp_X8_isInRow_5 LN RF a0 a1 a2 M k48_21 gk_fuel (0, 0)
set_option maxHeartbeats 4000000 in
set_option maxRecDepth 100000 in
theorem lk_X8_isInRow_5 {Z : gk_Z} {Y : gk_Y} (hY : gk_WF Y) (hC : gk_C Z Y cX8_isInRow 5 RX8 0) (hR : gk_R Z Y (some .boolean)) (v0 : Nat) (v1 : Int32) (v2 : Int32) (M : gk_M) (tv0 : gk_T Y 18 v0) (k48 : Int32 → Option (Int32)) (hk48 : ∀ z23 : Int32, gk_K Z Y 5 (gk_rR M) 48 [(3, .int z23)] [] M (k48 z23)) : ∀ (n : Nat) (x : Int32 × Int32), gk_K Z Y 5 (gk_rR M) 5 [(0, .ref v0), (1, .int v1), (2, .int v2), (3, .int x.1), (4, .int x.2)] [] M (lp_X8_isInRow_5 (gk_ln Y) (gk_rf Y) v0 v1 v2 M k48 n x) := by
  intro n
  induction n with
  | zero => intro x; exact gk_none
  | succ n ih =>
    intro x
    rw [lp_X8_isInRow_5]
    refine gk_iload hC 4 dX8_isInRow_5 rfl (q := 7) rfl ?_
    refine gk_aload_n hC 0 dX8_isInRow_7 rfl (q := 8) rfl ?_
    refine gk_getR hC dX8_isInRow_8 fl_RX8_37 (by decide) tv0 (q := 11) rfl (fun t1 => ?_)
    refine gk_iload_n hC 1 dX8_isInRow_11 rfl (q := 12) rfl ?_
    refine gk_iald hC dX8_isInRow_12 t1 (q := 13) rfl (fun x2 => ?_)
    refine gk_icmp_ge hC dX8_isInRow_13 (tg := 48) rfl (q := 16) rfl ?_ ?_
    · refine gk_pick [3] rfl ?_
      exact hk48 x.1
    · refine gk_iload_n hC 3 dX8_isInRow_16 rfl (q := 17) rfl ?_
      refine gk_jnR (fun k41_3 => ∀ z4 : Int32, gk_K Z Y 5 (gk_rR M) 41 [(0, .ref v0), (1, .int v1), (2, .int v2), (4, .int x.2)] [.int z4] M (k41_3 z4)) (fun y3 => ?_) (fun k41_3 hk41_3 => ?_)
      · show gk_K Z Y 5 (gk_rR M) 41 [(0, .ref v0), (1, .int v1), (2, .int v2), (4, .int x.2)] [.int y3] M _
        refine gk_istore_n hC (lv' := [(0, .ref v0), (1, .int v1), (2, .int v2), (3, .int y3), (4, .int x.2)]) [1, 2, 3, 0, 4] dX8_isInRow_41 (by decide) rfl (q := 42) rfl ?_
        refine gk_iinc hC (v := 1) 4 (lv' := [(0, .ref v0), (1, .int v1), (2, .int v2), (3, .int y3), (4, .int (x.2 + 1))]) [1, 2, 3, 4, 0] dX8_isInRow_42 rfl kc_i_1 (by decide) rfl (q := 45) rfl ?_
        refine gk_goto hC dX8_isInRow_45 (q := 5) rfl ?_
        exact ih (y3, (x.2 + 1))
      · refine gk_jnR (fun k36_5 => ∀ z6 : Unit, gk_K Z Y 5 (gk_rR M) 36 [(0, .ref v0), (1, .int v1), (2, .int v2), (4, .int x.2)] [] M (k36_5 z6)) (fun y5 => ?_) (fun k36_5 hk36_5 => ?_)
        · show gk_K Z Y 5 (gk_rR M) 36 [(0, .ref v0), (1, .int v1), (2, .int v2), (4, .int x.2)] [] M _
          refine gk_iconst hC (v := 1) dX8_isInRow_36 kc_i_1 (q := 37) rfl ?_
          refine gk_goto hC dX8_isInRow_37 (q := 41) rfl ?_
          exact hk41_3 1
        · refine gk_if_ne hC dX8_isInRow_17 (tg := 36) rfl (q := 20) rfl ?_ ?_
          · refine gk_aload_n hC 0 dX8_isInRow_20 rfl (q := 21) rfl ?_
            refine gk_getR hC dX8_isInRow_21 fl_RX8_40 (by decide) tv0 (q := 24) rfl (fun t7 => ?_)
            refine gk_bipush hC (v := 9) dX8_isInRow_24 kc_b_9 (q := 26) rfl ?_
            refine gk_iload_n hC 1 dX8_isInRow_26 rfl (q := 27) rfl ?_
            refine gk_imul hC dX8_isInRow_27 (q := 28) rfl ?_
            refine gk_iload hC 4 dX8_isInRow_28 rfl (q := 30) rfl ?_
            refine gk_iadd hC dX8_isInRow_30 (q := 31) rfl ?_
            refine gk_iald hC dX8_isInRow_31 t7 (q := 32) rfl (fun x8 => ?_)
            refine gk_iload_n hC 2 dX8_isInRow_32 rfl (q := 33) rfl ?_
            refine gk_icmp_ne hC dX8_isInRow_33 (tg := 40) rfl (q := 36) rfl ?_ ?_
            · refine gk_pick [0, 1, 2, 4] rfl ?_
              exact hk36_5 ()
            · refine gk_iconst hC (v := 0) dX8_isInRow_40 kc_i_0 (q := 41) rfl ?_
              refine gk_pick [0, 1, 2, 4] rfl ?_
              exact hk41_3 0
          · refine gk_pick [0, 1, 2, 4] rfl ?_
            exact hk36_5 ()
set_option maxHeartbeats 4000000 in
set_option maxRecDepth 100000 in
theorem m_X8_isInRow (l : Launch) {Y : gk_Y} (hY : gk_WF Y) (a0 : Nat) (a1 : Int32) (a2 : Int32) (M : gk_M) (t0 : gk_T Y 18 a0) : gk_MF l Y yX8_isInRow cX8_isInRow 5 (some .boolean) 0 [.ref a0, .int a1, .int a2] M (gk_rR M) (f_X8_isInRow (gk_ln Y) (gk_rf Y) a0 a1 a2 M) := by
  refine gk_met hY (plainFor_of_name (by decide)) (Nat.le_of_ble_eq_true rfl) fun Z hC hR => ?_
  show gk_K Z Y 5 (gk_rR M) 0 [(0, .ref a0), (1, .int a1), (2, .int a2)] [] M _
  unfold f_X8_isInRow
  refine gk_iconst hC (v := 0) dX8_isInRow_0 kc_i_0 (q := 1) rfl ?_
  refine gk_istore_n hC (lv' := [(0, .ref a0), (1, .int a1), (2, .int a2), (3, .int 0)]) [1, 2, 3, 0] dX8_isInRow_1 (by decide) rfl (q := 2) rfl ?_
  refine gk_iconst hC (v := 0) dX8_isInRow_2 kc_i_0 (q := 3) rfl ?_
  refine gk_istore hC (lv' := [(0, .ref a0), (1, .int a1), (2, .int a2), (3, .int 0), (4, .int 0)]) [1, 2, 3, 4, 0] dX8_isInRow_3 (by decide) rfl (q := 5) rfl ?_
  refine gk_jnR (fun k48_21 => ∀ z22 : Int32, gk_K Z Y 5 (gk_rR M) 48 [(3, .int z22)] [] M (k48_21 z22)) (fun y21 => ?_) (fun k48_21 hk48_21 => ?_)
  · show gk_K Z Y 5 (gk_rR M) 48 [(3, .int y21)] [] M _
    refine gk_iload_n hC 0 dX8_isInRow_48 rfl (q := 49) rfl ?_
    exact gk_zzR (fun hv => gk_zret hC hR dX8_isInRow_49 hv rfl)
  · exact lk_X8_isInRow_5 hY hC hR a0 a1 a2 M t0 k48_21 hk48_21 gk_fuel (0, 0)
def f_X8_isHour (LN : Nat → Nat) (RF : Nat → Nat → Nat) (a0 : Nat) (a1 : Int32) (M : gk_M) : Option (Int32) :=
  gk_ald LN M (RF a0 20) 3 fun x22 =>
  gk_jn (fun y23 : Int32 =>
    gk_jn (fun y25 : Int32 =>
      gk_zz y25 (some y25)) fun k32_25 =>
    if ((a1 >>> (y23 &&& 31)) &&& 1) = 1 then
      k32_25 1
    else
    k32_25 0) fun k20_23 =>
  if 12 ≤ (x22 - x22 / 24 * 24) then
    k20_23 1
  else
  k20_23 0
set_option maxHeartbeats 4000000 in
set_option maxRecDepth 100000 in
theorem m_X8_isHour (l : Launch) {Y : gk_Y} (hY : gk_WF Y) (a0 : Nat) (a1 : Int32) (M : gk_M) (t0 : gk_T Y 18 a0) : gk_MF l Y yX8_isHour cX8_isHour 2 (some .boolean) 0 [.ref a0, .int a1] M (gk_rR M) (f_X8_isHour (gk_ln Y) (gk_rf Y) a0 a1 M) := by
  refine gk_met hY (plainFor_of_name (by decide)) (Nat.le_of_ble_eq_true rfl) fun Z hC hR => ?_
  show gk_K Z Y 2 (gk_rR M) 0 [(0, .ref a0), (1, .int a1)] [] M _
  unfold f_X8_isHour
  refine gk_iload_n hC 1 dX8_isHour_0 rfl (q := 1) rfl ?_
  refine gk_aload_n hC 0 dX8_isHour_1 rfl (q := 2) rfl ?_
  refine gk_getR hC dX8_isHour_2 fl_RX8_70 (by decide) t0 (q := 5) rfl (fun t21 => ?_)
  refine gk_iconst hC (v := 3) dX8_isHour_5 kc_i_3 (q := 6) rfl ?_
  refine gk_iald hC dX8_isHour_6 t21 (q := 7) rfl (fun x22 => ?_)
  refine gk_bipush hC (v := 24) dX8_isHour_7 kc_b_24 (q := 9) rfl ?_
  refine gk_irem hC dX8_isHour_9 (by decide) (q := 10) rfl ?_
  refine gk_bipush hC (v := 12) dX8_isHour_10 kc_b_12 (q := 12) rfl ?_
  refine gk_jnR (fun k20_23 => ∀ z24 : Int32, gk_K Z Y 2 (gk_rR M) 20 [] [.int z24, .int a1] M (k20_23 z24)) (fun y23 => ?_) (fun k20_23 hk20_23 => ?_)
  · show gk_K Z Y 2 (gk_rR M) 20 [] [.int y23, .int a1] M _
    refine gk_ishr hC dX8_isHour_20 (q := 21) rfl ?_
    refine gk_iconst hC (v := 1) dX8_isHour_21 kc_i_1 (q := 22) rfl ?_
    refine gk_iand hC dX8_isHour_22 (q := 23) rfl ?_
    refine gk_iconst hC (v := 1) dX8_isHour_23 kc_i_1 (q := 24) rfl ?_
    refine gk_jnR (fun k32_25 => ∀ z26 : Int32, gk_K Z Y 2 (gk_rR M) 32 [] [.int z26] M (k32_25 z26)) (fun y25 => ?_) (fun k32_25 hk32_25 => ?_)
    · show gk_K Z Y 2 (gk_rR M) 32 [] [.int y25] M _
      exact gk_zzR (fun hv => gk_zret hC hR dX8_isHour_32 hv rfl)
    · refine gk_icmp_ne hC dX8_isHour_24 (tg := 31) rfl (q := 27) rfl ?_ ?_
      · refine gk_iconst hC (v := 1) dX8_isHour_27 kc_i_1 (q := 28) rfl ?_
        refine gk_goto hC dX8_isHour_28 (q := 32) rfl ?_
        exact hk32_25 1
      · refine gk_iconst hC (v := 0) dX8_isHour_31 kc_i_0 (q := 32) rfl ?_
        exact hk32_25 0
  · refine gk_icmp_ge hC dX8_isHour_12 (tg := 19) rfl (q := 15) rfl ?_ ?_
    · refine gk_iconst hC (v := 1) dX8_isHour_19 kc_i_1 (q := 20) rfl ?_
      refine gk_pick [] rfl ?_
      exact hk20_23 1
    · refine gk_iconst hC (v := 0) dX8_isHour_15 kc_i_0 (q := 16) rfl ?_
      refine gk_goto hC dX8_isHour_16 (q := 20) rfl ?_
      refine gk_pick [] rfl ?_
      exact hk20_23 0
end
