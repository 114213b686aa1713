noncomputable section
def f_X8_down (LN : Nat → Nat) (RF : Nat → Nat → Nat) (a0 : Nat) (a1 : Int32) (M : gk_M) : Option (Int32 × gk_M) :=
  (f_X8_isLine LN RF a0 a1 M).bind fun r21 =>
  if r21 = 0 then
    (f_X8_refused LN RF a0 1 M).bind fun r22 =>
    some (r22.1, r22.2)
  else
  (f_X8_callOf LN RF a0 a1 M).bind fun r23 =>
  gk_jn (fun y24 : Unit =>
    (f_X8_refused LN RF a0 3 M).bind fun r26 =>
    some (r26.1, r26.2)) fun k38_24 =>
  if r23 < 0 then
    k38_24 ()
  else
  gk_ald LN M (RF a0 12) r23 fun x28 =>
  if ((x28 >>> (a1 &&& 31)) &&& 1) = 1 then
    k38_24 ()
  else
  (f_X8_ends LN RF a0 r23 4 M).bind fun r29 =>
  (f_X8_settles LN RF a0 r29).bind fun r30 =>
  (f_X8_done LN RF a0 r23 r30).bind fun r31 =>
  some (r31.1, r31.2)
set_option maxHeartbeats 4000000 in
set_option maxRecDepth 100000 in
theorem m_X8_down (l : Launch) {Y : gk_Y} (hY : gk_WF Y) (a0 : Nat) (a1 : Int32) (M : gk_M) (t0 : gk_T Y 18 a0) : gk_MF l Y yX8_down cX8_down 3 (some .int) 3 [.ref a0, .int a1] M gk_rI (f_X8_down (gk_ln Y) (gk_rf Y) a0 a1 M) := by
  refine gk_met hY (plainFor_of_name (by decide)) (Nat.le_of_ble_eq_true rfl) fun Z hC hR => ?_
  show gk_K Z Y 3 gk_rI 0 [(0, .ref a0), (1, .int a1)] [] M _
  unfold f_X8_down
  refine gk_aload_n hC 0 dX8_down_0 rfl (q := 1) rfl ?_
  refine gk_iload_n hC 1 dX8_down_1 rfl (q := 2) rfl ?_
  refine gk_callV (As := [.int a1]) (rest := []) hC (fun l => m_X8_isLine l hY a0 a1 M t0) ml_RX8_120 ok_X8_isLine dX8_down_2 t0 ⟨by decide, rfl⟩ rfl (by decide) (Nat.le_of_ble_eq_true rfl) rfl (q := 5) rfl (fun r21 => ?_)
  show gk_K Z Y 3 gk_rI 5 [(0, .ref a0), (1, .int a1)] [.int r21] M _
  refine gk_if_ne hC dX8_down_5 (tg := 14) rfl (q := 8) rfl ?_ ?_
  · refine gk_aload_n hC 0 dX8_down_8 rfl (q := 9) rfl ?_
    refine gk_iconst hC (v := 1) dX8_down_9 kc_i_1 (q := 10) rfl ?_
    refine gk_callV (As := [.int 1]) (rest := []) hC (fun l => m_X8_refused l hY a0 1 M t0) ml_RX8_113 ok_X8_refused dX8_down_10 t0 ⟨by decide, rfl⟩ rfl (by decide) (Nat.le_of_ble_eq_true rfl) rfl (q := 13) rfl (fun r22 => ?_)
    show gk_K Z Y 3 gk_rI 13 [(0, .ref a0), (1, .int a1)] [.int r22.1] r22.2 _
    exact gk_iret hC hR dX8_down_13 rfl
  · refine gk_aload_n hC 0 dX8_down_14 rfl (q := 15) rfl ?_
    refine gk_iload_n hC 1 dX8_down_15 rfl (q := 16) rfl ?_
    refine gk_callV (As := [.int a1]) (rest := []) hC (fun l => m_X8_callOf l hY a0 a1 M t0) ml_RX8_145 ok_X8_callOf dX8_down_16 t0 ⟨by decide, rfl⟩ rfl (by decide) (Nat.le_of_ble_eq_true rfl) rfl (q := 19) rfl (fun r23 => ?_)
    show gk_K Z Y 3 gk_rI 19 [(0, .ref a0), (1, .int a1)] [.int r23] M _
    refine gk_istore_n hC (lv' := [(0, .ref a0), (1, .int a1), (2, .int r23)]) [1, 2, 0] dX8_down_19 (by decide) rfl (q := 20) rfl ?_
    refine gk_iload_n hC 2 dX8_down_20 rfl (q := 21) rfl ?_
    refine gk_jnR (fun k38_24 => ∀ z25 : Unit, gk_K Z Y 3 gk_rI 38 [(0, .ref a0)] [] M (k38_24 z25)) (fun y24 => ?_) (fun k38_24 hk38_24 => ?_)
    · show gk_K Z Y 3 gk_rI 38 [(0, .ref a0)] [] M _
      refine gk_aload_n hC 0 dX8_down_38 rfl (q := 39) rfl ?_
      refine gk_iconst hC (v := 3) dX8_down_39 kc_i_3 (q := 40) rfl ?_
      refine gk_callV (As := [.int 3]) (rest := []) hC (fun l => m_X8_refused l hY a0 3 M t0) ml_RX8_113 ok_X8_refused dX8_down_40 t0 ⟨by decide, rfl⟩ rfl (by decide) (Nat.le_of_ble_eq_true rfl) rfl (q := 43) rfl (fun r26 => ?_)
      show gk_K Z Y 3 gk_rI 43 [(0, .ref a0)] [.int r26.1] r26.2 _
      exact gk_iret hC hR dX8_down_43 rfl
    · refine gk_if_lt hC dX8_down_21 (tg := 38) rfl (q := 24) rfl ?_ ?_
      · refine gk_pick [0] rfl ?_
        exact hk38_24 ()
      · refine gk_aload_n hC 0 dX8_down_24 rfl (q := 25) rfl ?_
        refine gk_getR hC dX8_down_25 fl_RX8_46 (by decide) t0 (q := 28) rfl (fun t27 => ?_)
        refine gk_iload_n hC 2 dX8_down_28 rfl (q := 29) rfl ?_
        refine gk_iald hC dX8_down_29 t27 (q := 30) rfl (fun x28 => ?_)
        refine gk_iload_n hC 1 dX8_down_30 rfl (q := 31) rfl ?_
        refine gk_ishr hC dX8_down_31 (q := 32) rfl ?_
        refine gk_iconst hC (v := 1) dX8_down_32 kc_i_1 (q := 33) rfl ?_
        refine gk_iand hC dX8_down_33 (q := 34) rfl ?_
        refine gk_iconst hC (v := 1) dX8_down_34 kc_i_1 (q := 35) rfl ?_
        refine gk_icmp_ne hC dX8_down_35 (tg := 44) rfl (q := 38) rfl ?_ ?_
        · refine gk_pick [0] rfl ?_
          exact hk38_24 ()
        · refine gk_aload_n hC 0 dX8_down_44 rfl (q := 45) rfl ?_
          refine gk_iload_n hC 2 dX8_down_45 rfl (q := 46) rfl ?_
          refine gk_iconst hC (v := 4) dX8_down_46 kc_i_4 (q := 47) rfl ?_
          refine gk_callV (As := [.int r23, .int 4]) (rest := []) hC (fun l => m_X8_ends l hY a0 r23 4 M t0) ml_RX8_172 ok_X8_ends dX8_down_47 t0 ⟨by decide, rfl⟩ rfl (by decide) (Nat.le_of_ble_eq_true rfl) rfl (q := 50) rfl (fun r29 => ?_)
          show gk_K Z Y 3 gk_rI 50 [(0, .ref a0), (1, .int a1), (2, .int r23)] [] r29 _
          refine gk_aload_n hC 0 dX8_down_50 rfl (q := 51) rfl ?_
          refine gk_callV (As := []) (rest := []) hC (fun l => m_X8_settles l hY a0 r29 t0) ml_RX8_199 ok_X8_settles dX8_down_51 t0 ⟨by decide, rfl⟩ rfl (by decide) (Nat.le_of_ble_eq_true rfl) rfl (q := 54) rfl (fun r30 => ?_)
          show gk_K Z Y 3 gk_rI 54 [(0, .ref a0), (1, .int a1), (2, .int r23)] [] r30 _
          refine gk_aload_n hC 0 dX8_down_54 rfl (q := 55) rfl ?_
          refine gk_iload_n hC 2 dX8_down_55 rfl (q := 56) rfl ?_
          refine gk_callV (As := [.int r23]) (rest := []) hC (fun l => m_X8_done l hY a0 r23 r30 t0) ml_RX8_117 ok_X8_done dX8_down_56 t0 ⟨by decide, rfl⟩ rfl (by decide) (Nat.le_of_ble_eq_true rfl) rfl (q := 59) rfl (fun r31 => ?_)
          show gk_K Z Y 3 gk_rI 59 [(0, .ref a0), (1, .int a1), (2, .int r23)] [.int r31.1] r31.2 _
          exact gk_iret hC hR dX8_down_59 rfl
def lp_X8_rangOn_36 (LN : Nat → Nat) (RF : Nat → Nat → Nat) (v0 : Nat) (v1 : Int32) (v2 : Int32) (M : gk_M) (k87 : Int32 → Option (gk_M)) : Nat → Int32 → Option (gk_M)
  | 0, _ => none
  | n + 1, x =>
    if x < 0 then
      k87 x
    else
    gk_ald LN M (RF v0 1) x fun x2 =>
    gk_jn (fun y3 : Unit =>
      (f_X8_wishBehind LN RF v0 v2 x M).bind fun r5 =>
      lp_X8_rangOn_36 LN RF v0 v1 v2 M k87 n r5) fun k77_3 =>
    if x2 = 1 then
      gk_ald LN M (RF v0 4) x fun x7 =>
      if x7 ≤ 2 then
        k77_3 ()
      else
      gk_ald LN M (RF v0 4) x fun x9 =>
      gk_ald LN M (RF v0 14) v1 fun x11 =>
      if (x9 - 2) = x11 then
        k87 x
      else
      k77_3 ()
    else
    k77_3 ()
def f_X8_rangOn (LN : Nat → Nat) (RF : Nat → Nat → Nat) (a0 : Nat) (a1 : Int32) (M : gk_M) : Option (gk_M) :=
  gk_ald LN M (RF a0 14) a1 fun x22 =>
  gk_ast LN M (RF a0 14) a1 (x22 + 1) fun M23 =>
  gk_ald LN M23 (RF a0 9) a1 fun x26 =>
  gk_ald LN M23 (RF a0 10) (((9 * a1) + x26) - 1) fun x27 =>
  (f_X8_wishBehind LN RF a0 x27 (-1) M23).bind fun r28 =>
  gk_jn (fun y29 : Int32 =>
    if 0 ≤ y29 then
      (f_X8_notes LN RF a0 a1 y29 M23).bind fun r31 =>
      gk_ast LN r31 (RF a0 12) a1 0 fun M33 =>
      gk_ald LN M33 (RF a0 3) y29 fun x35 =>
      (f_X8_goes LN RF a0 a1 x35 x27 M33).bind fun r36 =>
      some r36
    else
    some M23) fun k87_29 =>
  lp_X8_rangOn_36 LN RF a0 a1 x27 M23 k87_29 gk_fuel r28
set_option maxHeartbeats 4000000 in
set_option maxRecDepth 100000 in
theorem lk_X8_rangOn_36 {Z : gk_Z} {Y : gk_Y} (hY : gk_WF Y) (hC : gk_C Z Y cX8_rangOn 4 RX8 5) (hR : gk_R Z Y none) (v0 : Nat) (v1 : Int32) (v2 : Int32) (M : gk_M) (tv0 : gk_T Y 18 v0) (k87 : Int32 → Option (gk_M)) (hk87 : ∀ z37 : Int32, gk_K Z Y 4 gk_rV 87 [(0, .ref v0), (1, .int v1), (2, .int v2), (3, .int z37)] [] M (k87 z37)) : ∀ (n : Nat) (x : Int32), gk_K Z Y 4 gk_rV 36 [(0, .ref v0), (1, .int v1), (2, .int v2), (3, .int x)] [] M (lp_X8_rangOn_36 (gk_ln Y) (gk_rf Y) v0 v1 v2 M k87 n x) := by
  intro n
  induction n with
  | zero => intro x; exact gk_none
  | succ n ih =>
    intro x
    rw [lp_X8_rangOn_36]
    refine gk_iload_n hC 3 dX8_rangOn_36 rfl (q := 37) rfl ?_
    refine gk_if_lt hC dX8_rangOn_37 (tg := 87) rfl (q := 40) rfl ?_ ?_
    · exact hk87 x
    · refine gk_aload_n hC 0 dX8_rangOn_40 rfl (q := 41) rfl ?_
      refine gk_getR hC dX8_rangOn_41 fl_RX8_13 (by decide) tv0 (q := 44) rfl (fun t1 => ?_)
      refine gk_iload_n hC 3 dX8_rangOn_44 rfl (q := 45) rfl ?_
      refine gk_iald hC dX8_rangOn_45 t1 (q := 46) rfl (fun x2 => ?_)
      refine gk_iconst hC (v := 1) dX8_rangOn_46 kc_i_1 (q := 47) rfl ?_
      refine gk_jnR (fun k77_3 => ∀ z4 : Unit, gk_K Z Y 4 gk_rV 77 [(0, .ref v0), (1, .int v1), (2, .int v2), (3, .int x)] [] M (k77_3 z4)) (fun y3 => ?_) (fun k77_3 hk77_3 => ?_)
      · show gk_K Z Y 4 gk_rV 77 [(0, .ref v0), (1, .int v1), (2, .int v2), (3, .int x)] [] M _
        refine gk_aload_n hC 0 dX8_rangOn_77 rfl (q := 78) rfl ?_
        refine gk_iload_n hC 2 dX8_rangOn_78 rfl (q := 79) rfl ?_
        refine gk_iload_n hC 3 dX8_rangOn_79 rfl (q := 80) rfl ?_
        refine gk_callV (As := [.int v2, .int x]) (rest := []) hC (fun l => m_X8_wishBehind l hY v0 v2 x M tv0) ml_RX8_157 ok_X8_wishBehind dX8_rangOn_80 tv0 ⟨by decide, rfl⟩ rfl (by decide) (Nat.le_of_ble_eq_true rfl) rfl (q := 83) rfl (fun r5 => ?_)
        show gk_K Z Y 4 gk_rV 83 [(0, .ref v0), (1, .int v1), (2, .int v2), (3, .int x)] [.int r5] M _
        refine gk_istore_n hC (lv' := [(0, .ref v0), (1, .int v1), (2, .int v2), (3, .int r5)]) [1, 2, 3, 0] dX8_rangOn_83 (by decide) rfl (q := 84) rfl ?_
        refine gk_goto hC dX8_rangOn_84 (q := 36) rfl ?_
        exact ih r5
      · refine gk_icmp_ne hC dX8_rangOn_47 (tg := 77) rfl (q := 50) rfl ?_ ?_
        · refine gk_aload_n hC 0 dX8_rangOn_50 rfl (q := 51) rfl ?_
          refine gk_getR hC dX8_rangOn_51 fl_RX8_22 (by decide) tv0 (q := 54) rfl (fun t6 => ?_)
          refine gk_iload_n hC 3 dX8_rangOn_54 rfl (q := 55) rfl ?_
          refine gk_iald hC dX8_rangOn_55 t6 (q := 56) rfl (fun x7 => ?_)
          refine gk_iconst hC (v := 2) dX8_rangOn_56 kc_i_2 (q := 57) rfl ?_
          refine gk_icmp_le hC dX8_rangOn_57 (tg := 77) rfl (q := 60) rfl ?_ ?_
          · exact hk77_3 ()
          · refine gk_aload_n hC 0 dX8_rangOn_60 rfl (q := 61) rfl ?_
            refine gk_getR hC dX8_rangOn_61 fl_RX8_22 (by decide) tv0 (q := 64) rfl (fun t8 => ?_)
            refine gk_iload_n hC 3 dX8_rangOn_64 rfl (q := 65) rfl ?_
            refine gk_iald hC dX8_rangOn_65 t8 (q := 66) rfl (fun x9 => ?_)
            refine gk_iconst hC (v := 2) dX8_rangOn_66 kc_i_2 (q := 67) rfl ?_
            refine gk_isub hC dX8_rangOn_67 (q := 68) rfl ?_
            refine gk_aload_n hC 0 dX8_rangOn_68 rfl (q := 69) rfl ?_
            refine gk_getR hC dX8_rangOn_69 fl_RX8_52 (by decide) tv0 (q := 72) rfl (fun t10 => ?_)
            refine gk_iload_n hC 1 dX8_rangOn_72 rfl (q := 73) rfl ?_
            refine gk_iald hC dX8_rangOn_73 t10 (q := 74) rfl (fun x11 => ?_)
            refine gk_icmp_eq hC dX8_rangOn_74 (tg := 87) rfl (q := 77) rfl ?_ ?_
            · exact hk87 x
            · exact hk77_3 ()
        · exact hk77_3 ()
set_option maxHeartbeats 4000000 in
set_option maxRecDepth 100000 in
theorem m_X8_rangOn (l : Launch) {Y : gk_Y} (hY : gk_WF Y) (a0 : Nat) (a1 : Int32) (M : gk_M) (t0 : gk_T Y 18 a0) : gk_MF l Y yX8_rangOn cX8_rangOn 4 none 5 [.ref a0, .int a1] M gk_rV (f_X8_rangOn (gk_ln Y) (gk_rf Y) a0 a1 M) := by
  refine gk_met hY (plainFor_of_name (by decide)) (Nat.le_of_ble_eq_true rfl) fun Z hC hR => ?_
  show gk_K Z Y 4 gk_rV 0 [(0, .ref a0), (1, .int a1)] [] M _
  unfold f_X8_rangOn
  refine gk_aload_n hC 0 dX8_rangOn_0 rfl (q := 1) rfl ?_
  refine gk_getR hC dX8_rangOn_1 fl_RX8_52 (by decide) t0 (q := 4) rfl (fun t21 => ?_)
  refine gk_iload_n hC 1 dX8_rangOn_4 rfl (q := 5) rfl ?_
  refine gk_dup2 hC dX8_rangOn_5 rfl rfl (q := 6) rfl ?_
  refine gk_iald hC dX8_rangOn_6 t21 (q := 7) rfl (fun x22 => ?_)
  refine gk_iconst hC (v := 1) dX8_rangOn_7 kc_i_1 (q := 8) rfl ?_
  refine gk_iadd hC dX8_rangOn_8 (q := 9) rfl ?_
  refine gk_iast hC dX8_rangOn_9 t21 (q := 10) rfl (fun M23 => ?_)
  refine gk_aload_n hC 0 dX8_rangOn_10 rfl (q := 11) rfl ?_
  refine gk_getR hC dX8_rangOn_11 fl_RX8_40 (by decide) t0 (q := 14) rfl (fun t24 => ?_)
  refine gk_bipush hC (v := 9) dX8_rangOn_14 kc_b_9 (q := 16) rfl ?_
  refine gk_iload_n hC 1 dX8_rangOn_16 rfl (q := 17) rfl ?_
  refine gk_imul hC dX8_rangOn_17 (q := 18) rfl ?_
  refine gk_aload_n hC 0 dX8_rangOn_18 rfl (q := 19) rfl ?_
  refine gk_getR hC dX8_rangOn_19 fl_RX8_37 (by decide) t0 (q := 22) rfl (fun t25 => ?_)
  refine gk_iload_n hC 1 dX8_rangOn_22 rfl (q := 23) rfl ?_
  refine gk_iald hC dX8_rangOn_23 t25 (q := 24) rfl (fun x26 => ?_)
  refine gk_iadd hC dX8_rangOn_24 (q := 25) rfl ?_
  refine gk_iconst hC (v := 1) dX8_rangOn_25 kc_i_1 (q := 26) rfl ?_
  refine gk_isub hC dX8_rangOn_26 (q := 27) rfl ?_
  refine gk_iald hC dX8_rangOn_27 t24 (q := 28) rfl (fun x27 => ?_)
  refine gk_istore_n hC (lv' := [(0, .ref a0), (1, .int a1), (2, .int x27)]) [1, 2, 0] dX8_rangOn_28 (by decide) rfl (q := 29) rfl ?_
  refine gk_aload_n hC 0 dX8_rangOn_29 rfl (q := 30) rfl ?_
  refine gk_iload_n hC 2 dX8_rangOn_30 rfl (q := 31) rfl ?_
  refine gk_iconst hC (v := (-1)) dX8_rangOn_31 kc_i_m1 (q := 32) rfl ?_
  refine gk_callV (As := [.int x27, .int (-1)]) (rest := []) hC (fun l => m_X8_wishBehind l hY a0 x27 (-1) M23 t0) ml_RX8_157 ok_X8_wishBehind dX8_rangOn_32 t0 ⟨by decide, rfl⟩ rfl (by decide) (Nat.le_of_ble_eq_true rfl) rfl (q := 35) rfl (fun r28 => ?_)
  show gk_K Z Y 4 gk_rV 35 [(0, .ref a0), (1, .int a1), (2, .int x27)] [.int r28] M23 _
  refine gk_istore_n hC (lv' := [(0, .ref a0), (1, .int a1), (2, .int x27), (3, .int r28)]) [1, 2, 3, 0] dX8_rangOn_35 (by decide) rfl (q := 36) rfl ?_
  refine gk_jnR (fun k87_29 => ∀ z30 : Int32, gk_K Z Y 4 gk_rV 87 [(0, .ref a0), (1, .int a1), (2, .int x27), (3, .int z30)] [] M23 (k87_29 z30)) (fun y29 => ?_) (fun k87_29 hk87_29 => ?_)
  · show gk_K Z Y 4 gk_rV 87 [(0, .ref a0), (1, .int a1), (2, .int x27), (3, .int y29)] [] M23 _
    refine gk_iload_n hC 3 dX8_rangOn_87 rfl (q := 88) rfl ?_
    refine gk_if_ge hC dX8_rangOn_88 (tg := 92) rfl (q := 91) rfl ?_ ?_
    · refine gk_aload_n hC 0 dX8_rangOn_92 rfl (q := 93) rfl ?_
      refine gk_iload_n hC 1 dX8_rangOn_93 rfl (q := 94) rfl ?_
      refine gk_iload_n hC 3 dX8_rangOn_94 rfl (q := 95) rfl ?_
      refine gk_callV (As := [.int a1, .int y29]) (rest := []) hC (fun l => m_X8_notes l hY a0 a1 y29 M23 t0) ml_RX8_187 ok_X8_notes dX8_rangOn_95 t0 ⟨by decide, rfl⟩ rfl (by decide) (Nat.le_of_ble_eq_true rfl) rfl (q := 98) rfl (fun r31 => ?_)
      show gk_K Z Y 4 gk_rV 98 [(0, .ref a0), (1, .int a1), (2, .int x27), (3, .int y29)] [] r31 _
      refine gk_aload_n hC 0 dX8_rangOn_98 rfl (q := 99) rfl ?_
      refine gk_getR hC dX8_rangOn_99 fl_RX8_46 (by decide) t0 (q := 102) rfl (fun t32 => ?_)
      refine gk_iload_n hC 1 dX8_rangOn_102 rfl (q := 103) rfl ?_
      refine gk_iconst hC (v := 0) dX8_rangOn_103 kc_i_0 (q := 104) rfl ?_
      refine gk_iast hC dX8_rangOn_104 t32 (q := 105) rfl (fun M33 => ?_)
      refine gk_aload_n hC 0 dX8_rangOn_105 rfl (q := 106) rfl ?_
      refine gk_iload_n hC 1 dX8_rangOn_106 rfl (q := 107) rfl ?_
      refine gk_aload_n hC 0 dX8_rangOn_107 rfl (q := 108) rfl ?_
      refine gk_getR hC dX8_rangOn_108 fl_RX8_19 (by decide) t0 (q := 111) rfl (fun t34 => ?_)
      refine gk_iload_n hC 3 dX8_rangOn_111 rfl (q := 112) rfl ?_
      refine gk_iald hC dX8_rangOn_112 t34 (q := 113) rfl (fun x35 => ?_)
      refine gk_iload_n hC 2 dX8_rangOn_113 rfl (q := 114) rfl ?_
      refine gk_callV (As := [.int a1, .int x35, .int x27]) (rest := []) hC (fun l => m_X8_goes l hY a0 a1 x35 x27 M33 t0) ml_RX8_196 ok_X8_goes dX8_rangOn_114 t0 ⟨by decide, rfl⟩ rfl (by decide) (Nat.le_of_ble_eq_true rfl) rfl (q := 117) rfl (fun r36 => ?_)
      show gk_K Z Y 4 gk_rV 117 [(0, .ref a0), (1, .int a1), (2, .int x27), (3, .int y29)] [] r36 _
      exact gk_vret hC hR dX8_rangOn_117 rfl
    · exact gk_vret hC hR dX8_rangOn_91 rfl
  · exact lk_X8_rangOn_36 hY hC hR a0 a1 x27 M23 t0 k87_29 hk87_29 gk_fuel r28
def lp_X8_callsBack_142 (LN : Nat → Nat) (RF : Nat → Nat → Nat) (v0 : Nat) (v1 : Int32) (v2 : Int32) (k191 : gk_M → Option (gk_M)) : Nat → (Int32 × gk_M) → Option (gk_M)
  | 0, _ => none
  | n + 1, x =>
    gk_ald LN x.2 (RF v0 20) 4 fun x2 =>
    if x2 ≤ x.1 then
      k191 x.2
    else
    gk_ald LN x.2 (RF v0 17) (x.1 + 1) fun x5 =>
    gk_ast LN x.2 (RF v0 17) x.1 x5 fun M6 =>
    gk_ald LN M6 (RF v0 18) (x.1 + 1) fun x9 =>
    gk_ast LN M6 (RF v0 18) x.1 x9 fun M10 =>
    lp_X8_callsBack_142 LN RF v0 v1 v2 k191 n ((x.1 + 1), M10)
def lp_X8_callsBack_93 (LN : Nat → Nat) (RF : Nat → Nat → Nat) (v0 : Nat) (v1 : Int32) (v2 : Int32) (M : gk_M) (k129 : Int32 → Option (gk_M)) : Nat → Int32 → Option (gk_M)
  | 0, _ => none
  | n + 1, x =>
    gk_ald LN M (RF v0 17) x fun x2 =>
    gk_ald LN M (RF v0 26) v2 fun x4 =>
    gk_jn (fun y5 : Unit =>
      lp_X8_callsBack_93 LN RF v0 v1 v2 M k129 n (x + 1)) fun k123_5 =>
    if x2 = x4 then
      gk_ald LN M (RF v0 18) x fun x8 =>
      gk_ald LN M (RF v0 27) v2 fun x10 =>
      if x8 = x10 then
        k129 x
      else
      k123_5 ()
    else
    k123_5 ()
def lp_X8_callsBack_46 (LN : Nat → Nat) (RF : Nat → Nat → Nat) (v0 : Nat) (v1 : Int32) (k215 : gk_M → Option (gk_M)) : Nat → (Int32 × gk_M) → Option (gk_M)
  | 0, _ => none
  | n + 1, x =>
    if v1 ≤ x.1 then
      k215 x.2
    else
    gk_ald LN x.2 (RF v0 26) x.1 fun x2 =>
    (f_X8_isFree LN RF v0 x2 x.2).bind fun r3 =>
    gk_jn (fun y4 : gk_M =>
      lp_X8_callsBack_46 LN RF v0 v1 k215 n ((x.1 + 1), y4)) fun k209_4 =>
    if r3 = 0 then
      k209_4 x.2
    else
    gk_ald LN x.2 (RF v0 27) x.1 fun x7 =>
    (f_X8_isFree LN RF v0 x7 x.2).bind fun r8 =>
    if r8 = 0 then
      k209_4 x.2
    else
    gk_ald LN x.2 (RF v0 20) 2 fun x10 =>
    if x10 = 60 then
      k209_4 x.2
    else
    gk_jn (fun y11 : Int32 =>
      gk_ald LN x.2 (RF v0 20) 4 fun x14 =>
      gk_ast LN x.2 (RF v0 20) 4 (x14 - 1) fun M15 =>
      gk_jn (fun y16 : gk_M =>
        gk_ald LN y16 (RF v0 26) x.1 fun x19 =>
        gk_ald LN y16 (RF v0 27) x.1 fun x21 =>
        (f_X8_dials LN RF v0 x19 x21 y16).bind fun r22 =>
        k209_4 r22.2) fun k191_16 =>
      lp_X8_callsBack_142 LN RF v0 v1 x.1 k191_16 gk_fuel (y11, M15)) fun k129_11 =>
    lp_X8_callsBack_93 LN RF v0 v1 x.1 x.2 k129_11 gk_fuel 0
def lp_X8_callsBack_9 (LN : Nat → Nat) (RF : Nat → Nat → Nat) (v0 : Nat) (v1 : Int32) (k44 : gk_M → Option (gk_M)) : Nat → (Int32 × gk_M) → Option (gk_M)
  | 0, _ => none
  | n + 1, x =>
    if v1 ≤ x.1 then
      k44 x.2
    else
    gk_ald LN x.2 (RF v0 17) x.1 fun x3 =>
    gk_ast LN x.2 (RF v0 26) x.1 x3 fun M4 =>
    gk_ald LN M4 (RF v0 18) x.1 fun x7 =>
    gk_ast LN M4 (RF v0 27) x.1 x7 fun M8 =>
    lp_X8_callsBack_9 LN RF v0 v1 k44 n ((x.1 + 1), M8)
def f_X8_callsBack (LN : Nat → Nat) (RF : Nat → Nat → Nat) (a0 : Nat) (M : gk_M) : Option (gk_M) :=
  gk_ald LN M (RF a0 20) 4 fun x22 =>
  gk_jn (fun y23 : gk_M =>
    gk_jn (fun y25 : gk_M =>
      (f_X8_settles LN RF a0 y25).bind fun r27 =>
      some r27) fun k215_25 =>
    lp_X8_callsBack_46 LN RF a0 x22 k215_25 gk_fuel (0, y23)) fun k44_23 =>
  lp_X8_callsBack_9 LN RF a0 x22 k44_23 gk_fuel (0, M)
set_option maxHeartbeats 4000000 in
set_option maxRecDepth 100000 in
theorem lk_X8_callsBack_142 {Z : gk_Z} {Y : gk_Y} (hY : gk_WF Y) (hC : gk_C Z Y cX8_callsBack 5 RX8 6) (hR : gk_R Z Y none) (v0 : Nat) (v1 : Int32) (v2 : Int32) (tv0 : gk_T Y 18 v0) (k191 : gk_M → Option (gk_M)) (hk191 : ∀ z23 : gk_M, gk_K Z Y 5 gk_rV 191 [(0, .ref v0), (1, .int v1), (2, .int v2)] [] z23 (k191 z23)) : ∀ (n : Nat) (x : Int32 × gk_M), gk_K Z Y 5 gk_rV 142 [(0, .ref v0), (1, .int v1), (2, .int v2), (4, .int x.1)] [] x.2 (lp_X8_callsBack_142 (gk_ln Y) (gk_rf Y) v0 v1 v2 k191 n x) := by
  intro n
  induction n with
  | zero => intro x; exact gk_none
  | succ n ih =>
    intro x
    rw [lp_X8_callsBack_142]
    refine gk_iload hC 3 dX8_callsBack_142 rfl (q := 144) rfl ?_
    refine gk_aload_n hC 0 dX8_callsBack_144 rfl (q := 145) rfl ?_
    refine gk_getR hC dX8_callsBack_145 fl_RX8_70 (by decide) tv0 (q := 148) rfl (fun t1 => ?_)
    refine gk_iconst hC (v := 4) dX8_callsBack_148 kc_i_4 (q := 149) rfl ?_
    refine gk_iald hC dX8_callsBack_149 t1 (q := 150) rfl (fun x2 => ?_)
    refine gk_icmp_ge hC dX8_callsBack_150 (tg := 191) rfl (q := 153) rfl ?_ ?_
    · refine gk_pick [0, 1, 2] rfl ?_
      exact hk191 x.2
    · refine gk_aload_n hC 0 dX8_callsBack_153 rfl (q := 154) rfl ?_
      refine gk_getR hC dX8_callsBack_154 fl_RX8_61 (by decide) tv0 (q := 157) rfl (fun t3 => ?_)
      refine gk_iload hC 3 dX8_callsBack_157 rfl (q := 159) rfl ?_
      refine gk_aload_n hC 0 dX8_callsBack_159 rfl (q := 160) rfl ?_
      refine gk_getR hC dX8_callsBack_160 fl_RX8_61 (by decide) tv0 (q := 163) rfl (fun t4 => ?_)
      refine gk_iload hC 3 dX8_callsBack_163 rfl (q := 165) rfl ?_
      refine gk_iconst hC (v := 1) dX8_callsBack_165 kc_i_1 (q := 166) rfl ?_
      refine gk_iadd hC dX8_callsBack_166 (q := 167) rfl ?_
      refine gk_iald hC dX8_callsBack_167 t4 (q := 168) rfl (fun x5 => ?_)
      refine gk_iast hC dX8_callsBack_168 t3 (q := 169) rfl (fun M6 => ?_)
      refine gk_aload_n hC 0 dX8_callsBack_169 rfl (q := 170) rfl ?_
      refine gk_getR hC dX8_callsBack_170 fl_RX8_64 (by decide) tv0 (q := 173) rfl (fun t7 => ?_)
      refine gk_iload hC 3 dX8_callsBack_173 rfl (q := 175) rfl ?_
      refine gk_aload_n hC 0 dX8_callsBack_175 rfl (q := 176) rfl ?_
      refine gk_getR hC dX8_callsBack_176 fl_RX8_64 (by decide) tv0 (q := 179) rfl (fun t8 => ?_)
      refine gk_iload hC 3 dX8_callsBack_179 rfl (q := 181) rfl ?_
      refine gk_iconst hC (v := 1) dX8_callsBack_181 kc_i_1 (q := 182) rfl ?_
      refine gk_iadd hC dX8_callsBack_182 (q := 183) rfl ?_
      refine gk_iald hC dX8_callsBack_183 t8 (q := 184) rfl (fun x9 => ?_)
      refine gk_iast hC dX8_callsBack_184 t7 (q := 185) rfl (fun M10 => ?_)
      refine gk_iinc hC (v := 1) 3 (lv' := [(0, .ref v0), (1, .int v1), (2, .int v2), (4, .int (x.1 + 1))]) [1, 2, 3, 0] dX8_callsBack_185 rfl kc_i_1 (by decide) rfl (q := 188) rfl ?_
      refine gk_goto hC dX8_callsBack_188 (q := 142) rfl ?_
      exact ih ((x.1 + 1), M10)
set_option maxHeartbeats 4000000 in
set_option maxRecDepth 100000 in
theorem lk_X8_callsBack_93 {Z : gk_Z} {Y : gk_Y} (hY : gk_WF Y) (hC : gk_C Z Y cX8_callsBack 5 RX8 6) (hR : gk_R Z Y none) (v0 : Nat) (v1 : Int32) (v2 : Int32) (M : gk_M) (tv0 : gk_T Y 18 v0) (k129 : Int32 → Option (gk_M)) (hk129 : ∀ z24 : Int32, gk_K Z Y 5 gk_rV 129 [(0, .ref v0), (1, .int v1), (2, .int v2), (3, .int z24)] [] M (k129 z24)) : ∀ (n : Nat) (x : Int32), gk_K Z Y 5 gk_rV 93 [(0, .ref v0), (1, .int v1), (2, .int v2), (3, .int x)] [] M (lp_X8_callsBack_93 (gk_ln Y) (gk_rf Y) v0 v1 v2 M k129 n x) := by
  intro n
  induction n with
  | zero => intro x; exact gk_none
  | succ n ih =>
    intro x
    rw [lp_X8_callsBack_93]
    refine gk_aload_n hC 0 dX8_callsBack_93 rfl (q := 94) rfl ?_
    refine gk_getR hC dX8_callsBack_94 fl_RX8_61 (by decide) tv0 (q := 97) rfl (fun t1 => ?_)
    refine gk_iload_n hC 3 dX8_callsBack_97 rfl (q := 98) rfl ?_
    refine gk_iald hC dX8_callsBack_98 t1 (q := 99) rfl (fun x2 => ?_)
    refine gk_aload_n hC 0 dX8_callsBack_99 rfl (q := 100) rfl ?_
    refine gk_getR hC dX8_callsBack_100 fl_RX8_79 (by decide) tv0 (q := 103) rfl (fun t3 => ?_)
    refine gk_iload_n hC 2 dX8_callsBack_103 rfl (q := 104) rfl ?_
    refine gk_iald hC dX8_callsBack_104 t3 (q := 105) rfl (fun x4 => ?_)
    refine gk_jnR (fun k123_5 => ∀ z6 : Unit, gk_K Z Y 5 gk_rV 123 [(0, .ref v0), (1, .int v1), (2, .int v2), (3, .int x)] [] M (k123_5 z6)) (fun y5 => ?_) (fun k123_5 hk123_5 => ?_)
    · show gk_K Z Y 5 gk_rV 123 [(0, .ref v0), (1, .int v1), (2, .int v2), (3, .int x)] [] M _
      refine gk_iinc hC (v := 1) 3 (lv' := [(0, .ref v0), (1, .int v1), (2, .int v2), (3, .int (x + 1))]) [1, 2, 3, 0] dX8_callsBack_123 rfl kc_i_1 (by decide) rfl (q := 126) rfl ?_
      refine gk_goto hC dX8_callsBack_126 (q := 93) rfl ?_
      exact ih (x + 1)
    · refine gk_icmp_ne hC dX8_callsBack_105 (tg := 123) rfl (q := 108) rfl ?_ ?_
      · refine gk_aload_n hC 0 dX8_callsBack_108 rfl (q := 109) rfl ?_
        refine gk_getR hC dX8_callsBack_109 fl_RX8_64 (by decide) tv0 (q := 112) rfl (fun t7 => ?_)
        refine gk_iload_n hC 3 dX8_callsBack_112 rfl (q := 113) rfl ?_
        refine gk_iald hC dX8_callsBack_113 t7 (q := 114) rfl (fun x8 => ?_)
        refine gk_aload_n hC 0 dX8_callsBack_114 rfl (q := 115) rfl ?_
        refine gk_getR hC dX8_callsBack_115 fl_RX8_82 (by decide) tv0 (q := 118) rfl (fun t9 => ?_)
        refine gk_iload_n hC 2 dX8_callsBack_118 rfl (q := 119) rfl ?_
        refine gk_iald hC dX8_callsBack_119 t9 (q := 120) rfl (fun x10 => ?_)
        refine gk_icmp_eq hC dX8_callsBack_120 (tg := 129) rfl (q := 123) rfl ?_ ?_
        · exact hk129 x
        · exact hk123_5 ()
      · exact hk123_5 ()
set_option maxHeartbeats 4000000 in
set_option maxRecDepth 100000 in
theorem lk_X8_callsBack_46 {Z : gk_Z} {Y : gk_Y} (hY : gk_WF Y) (hC : gk_C Z Y cX8_callsBack 5 RX8 6) (hR : gk_R Z Y none) (v0 : Nat) (v1 : Int32) (tv0 : gk_T Y 18 v0) (k215 : gk_M → Option (gk_M)) (hk215 : ∀ z28 : gk_M, gk_K Z Y 5 gk_rV 215 [(0, .ref v0)] [] z28 (k215 z28)) : ∀ (n : Nat) (x : Int32 × gk_M), gk_K Z Y 5 gk_rV 46 [(0, .ref v0), (1, .int v1), (2, .int x.1)] [] x.2 (lp_X8_callsBack_46 (gk_ln Y) (gk_rf Y) v0 v1 k215 n x) := by
  intro n
  induction n with
  | zero => intro x; exact gk_none
  | succ n ih =>
    intro x
    rw [lp_X8_callsBack_46]
    refine gk_iload_n hC 2 dX8_callsBack_46 rfl (q := 47) rfl ?_
    refine gk_iload_n hC 1 dX8_callsBack_47 rfl (q := 48) rfl ?_
    refine gk_icmp_ge hC dX8_callsBack_48 (tg := 215) rfl (q := 51) rfl ?_ ?_
    · refine gk_pick [0] rfl ?_
      exact hk215 x.2
    · refine gk_aload_n hC 0 dX8_callsBack_51 rfl (q := 52) rfl ?_
      refine gk_aload_n hC 0 dX8_callsBack_52 rfl (q := 53) rfl ?_
      refine gk_getR hC dX8_callsBack_53 fl_RX8_79 (by decide) tv0 (q := 56) rfl (fun t1 => ?_)
      refine gk_iload_n hC 2 dX8_callsBack_56 rfl (q := 57) rfl ?_
      refine gk_iald hC dX8_callsBack_57 t1 (q := 58) rfl (fun x2 => ?_)
      refine gk_callV (As := [.int x2]) (rest := []) hC (fun l => m_X8_isFree l hY v0 x2 x.2 tv0) ml_RX8_148 ok_X8_isFree dX8_callsBack_58 tv0 ⟨by decide, rfl⟩ rfl (by decide) (Nat.le_of_ble_eq_true rfl) rfl (q := 61) rfl (fun r3 => ?_)
      show gk_K Z Y 5 gk_rV 61 [(0, .ref v0), (1, .int v1), (2, .int x.1)] [.int r3] x.2 _
      refine gk_jnR (fun k209_4 => ∀ z5 : gk_M, gk_K Z Y 5 gk_rV 209 [(0, .ref v0), (1, .int v1), (2, .int x.1)] [] z5 (k209_4 z5)) (fun y4 => ?_) (fun k209_4 hk209_4 => ?_)
      · show gk_K Z Y 5 gk_rV 209 [(0, .ref v0), (1, .int v1), (2, .int x.1)] [] y4 _
        refine gk_iinc hC (v := 1) 2 (lv' := [(0, .ref v0), (1, .int v1), (2, .int (x.1 + 1))]) [1, 2, 0] dX8_callsBack_209 rfl kc_i_1 (by decide) rfl (q := 212) rfl ?_
        refine gk_goto hC dX8_callsBack_212 (q := 46) rfl ?_
        exact ih ((x.1 + 1), y4)
      · refine gk_if_eq hC dX8_callsBack_61 (tg := 209) rfl (q := 64) rfl ?_ ?_
        · exact hk209_4 x.2
        · refine gk_aload_n hC 0 dX8_callsBack_64 rfl (q := 65) rfl ?_
          refine gk_aload_n hC 0 dX8_callsBack_65 rfl (q := 66) rfl ?_
          refine gk_getR hC dX8_callsBack_66 fl_RX8_82 (by decide) tv0 (q := 69) rfl (fun t6 => ?_)
          refine gk_iload_n hC 2 dX8_callsBack_69 rfl (q := 70) rfl ?_
          refine gk_iald hC dX8_callsBack_70 t6 (q := 71) rfl (fun x7 => ?_)
          refine gk_callV (As := [.int x7]) (rest := []) hC (fun l => m_X8_isFree l hY v0 x7 x.2 tv0) ml_RX8_148 ok_X8_isFree dX8_callsBack_71 tv0 ⟨by decide, rfl⟩ rfl (by decide) (Nat.le_of_ble_eq_true rfl) rfl (q := 74) rfl (fun r8 => ?_)
          show gk_K Z Y 5 gk_rV 74 [(0, .ref v0), (1, .int v1), (2, .int x.1)] [.int r8] x.2 _
          refine gk_if_eq hC dX8_callsBack_74 (tg := 209) rfl (q := 77) rfl ?_ ?_
          · exact hk209_4 x.2
          · refine gk_aload_n hC 0 dX8_callsBack_77 rfl (q := 78) rfl ?_
            refine gk_getR hC dX8_callsBack_78 fl_RX8_70 (by decide) tv0 (q := 81) rfl (fun t9 => ?_)
            refine gk_iconst hC (v := 2) dX8_callsBack_81 kc_i_2 (q := 82) rfl ?_
            refine gk_iald hC dX8_callsBack_82 t9 (q := 83) rfl (fun x10 => ?_)
            refine gk_bipush hC (v := 60) dX8_callsBack_83 kc_b_60 (q := 85) rfl ?_
            refine gk_icmp_ne hC dX8_callsBack_85 (tg := 91) rfl (q := 88) rfl ?_ ?_
            · refine gk_goto hC dX8_callsBack_88 (q := 209) rfl ?_
              exact hk209_4 x.2
            · refine gk_iconst hC (v := 0) dX8_callsBack_91 kc_i_0 (q := 92) rfl ?_
              refine gk_istore_n hC (lv' := [(0, .ref v0), (1, .int v1), (2, .int x.1), (3, .int 0)]) [1, 2, 3, 0] dX8_callsBack_92 (by decide) rfl (q := 93) rfl ?_
              refine gk_jnR (fun k129_11 => ∀ z12 : Int32, gk_K Z Y 5 gk_rV 129 [(0, .ref v0), (1, .int v1), (2, .int x.1), (3, .int z12)] [] x.2 (k129_11 z12)) (fun y11 => ?_) (fun k129_11 hk129_11 => ?_)
              · show gk_K Z Y 5 gk_rV 129 [(0, .ref v0), (1, .int v1), (2, .int x.1), (3, .int y11)] [] x.2 _
                refine gk_aload_n hC 0 dX8_callsBack_129 rfl (q := 130) rfl ?_
                refine gk_getR hC dX8_callsBack_130 fl_RX8_70 (by decide) tv0 (q := 133) rfl (fun t13 => ?_)
                refine gk_iconst hC (v := 4) dX8_callsBack_133 kc_i_4 (q := 134) rfl ?_
                refine gk_dup2 hC dX8_callsBack_134 rfl rfl (q := 135) rfl ?_
                refine gk_iald hC dX8_callsBack_135 t13 (q := 136) rfl (fun x14 => ?_)
                refine gk_iconst hC (v := 1) dX8_callsBack_136 kc_i_1 (q := 137) rfl ?_
                refine gk_isub hC dX8_callsBack_137 (q := 138) rfl ?_
                refine gk_iast hC dX8_callsBack_138 t13 (q := 139) rfl (fun M15 => ?_)
                refine gk_iload_n hC 3 dX8_callsBack_139 rfl (q := 140) rfl ?_
                refine gk_istore hC (lv' := [(0, .ref v0), (1, .int v1), (2, .int x.1), (4, .int y11)]) [1, 2, 3, 0] dX8_callsBack_140 (by decide) rfl (q := 142) rfl ?_
                refine gk_jnR (fun k191_16 => ∀ z17 : gk_M, gk_K Z Y 5 gk_rV 191 [(0, .ref v0), (1, .int v1), (2, .int x.1)] [] z17 (k191_16 z17)) (fun y16 => ?_) (fun k191_16 hk191_16 => ?_)
                · show gk_K Z Y 5 gk_rV 191 [(0, .ref v0), (1, .int v1), (2, .int x.1)] [] y16 _
                  refine gk_aload_n hC 0 dX8_callsBack_191 rfl (q := 192) rfl ?_
                  refine gk_aload_n hC 0 dX8_callsBack_192 rfl (q := 193) rfl ?_
                  refine gk_getR hC dX8_callsBack_193 fl_RX8_79 (by decide) tv0 (q := 196) rfl (fun t18 => ?_)
                  refine gk_iload_n hC 2 dX8_callsBack_196 rfl (q := 197) rfl ?_
                  refine gk_iald hC dX8_callsBack_197 t18 (q := 198) rfl (fun x19 => ?_)
                  refine gk_aload_n hC 0 dX8_callsBack_198 rfl (q := 199) rfl ?_
                  refine gk_getR hC dX8_callsBack_199 fl_RX8_82 (by decide) tv0 (q := 202) rfl (fun t20 => ?_)
                  refine gk_iload_n hC 2 dX8_callsBack_202 rfl (q := 203) rfl ?_
                  refine gk_iald hC dX8_callsBack_203 t20 (q := 204) rfl (fun x21 => ?_)
                  refine gk_callV (As := [.int x19, .int x21]) (rest := []) hC (fun l => m_X8_dials l hY v0 x19 x21 y16 tv0) ml_RX8_202 ok_X8_dials dX8_callsBack_204 tv0 ⟨by decide, rfl⟩ rfl (by decide) (Nat.le_of_ble_eq_true rfl) rfl (q := 207) rfl (fun r22 => ?_)
                  show gk_K Z Y 5 gk_rV 207 [(0, .ref v0), (1, .int v1), (2, .int x.1)] [.int r22.1] r22.2 _
                  refine gk_istore hC (lv' := [(0, .ref v0), (1, .int v1), (2, .int x.1)]) [1, 2, 3] dX8_callsBack_207 (by decide) rfl (q := 209) rfl ?_
                  exact hk209_4 r22.2
                · exact lk_X8_callsBack_142 hY hC hR v0 v1 x.1 tv0 k191_16 hk191_16 gk_fuel (y11, M15)
              · exact lk_X8_callsBack_93 hY hC hR v0 v1 x.1 x.2 tv0 k129_11 hk129_11 gk_fuel 0
set_option maxHeartbeats 4000000 in
set_option maxRecDepth 100000 in
theorem lk_X8_callsBack_9 {Z : gk_Z} {Y : gk_Y} (hY : gk_WF Y) (hC : gk_C Z Y cX8_callsBack 5 RX8 6) (hR : gk_R Z Y none) (v0 : Nat) (v1 : Int32) (tv0 : gk_T Y 18 v0) (k44 : gk_M → Option (gk_M)) (hk44 : ∀ z29 : gk_M, gk_K Z Y 5 gk_rV 44 [(0, .ref v0), (1, .int v1)] [] z29 (k44 z29)) : ∀ (n : Nat) (x : Int32 × gk_M), gk_K Z Y 5 gk_rV 9 [(0, .ref v0), (1, .int v1), (2, .int x.1)] [] x.2 (lp_X8_callsBack_9 (gk_ln Y) (gk_rf Y) v0 v1 k44 n x) := by
  intro n
  induction n with
  | zero => intro x; exact gk_none
  | succ n ih =>
    intro x
    rw [lp_X8_callsBack_9]
    refine gk_iload_n hC 2 dX8_callsBack_9 rfl (q := 10) rfl ?_
    refine gk_iload_n hC 1 dX8_callsBack_10 rfl (q := 11) rfl ?_
    refine gk_icmp_ge hC dX8_callsBack_11 (tg := 44) rfl (q := 14) rfl ?_ ?_
    · refine gk_pick [0, 1] rfl ?_
      exact hk44 x.2
    · refine gk_aload_n hC 0 dX8_callsBack_14 rfl (q := 15) rfl ?_
      refine gk_getR hC dX8_callsBack_15 fl_RX8_79 (by decide) tv0 (q := 18) rfl (fun t1 => ?_)
      refine gk_iload_n hC 2 dX8_callsBack_18 rfl (q := 19) rfl ?_
      refine gk_aload_n hC 0 dX8_callsBack_19 rfl (q := 20) rfl ?_
      refine gk_getR hC dX8_callsBack_20 fl_RX8_61 (by decide) tv0 (q := 23) rfl (fun t2 => ?_)
      refine gk_iload_n hC 2 dX8_callsBack_23 rfl (q := 24) rfl ?_
      refine gk_iald hC dX8_callsBack_24 t2 (q := 25) rfl (fun x3 => ?_)
      refine gk_iast hC dX8_callsBack_25 t1 (q := 26) rfl (fun M4 => ?_)
      refine gk_aload_n hC 0 dX8_callsBack_26 rfl (q := 27) rfl ?_
      refine gk_getR hC dX8_callsBack_27 fl_RX8_82 (by decide) tv0 (q := 30) rfl (fun t5 => ?_)
      refine gk_iload_n hC 2 dX8_callsBack_30 rfl (q := 31) rfl ?_
      refine gk_aload_n hC 0 dX8_callsBack_31 rfl (q := 32) rfl ?_
      refine gk_getR hC dX8_callsBack_32 fl_RX8_64 (by decide) tv0 (q := 35) rfl (fun t6 => ?_)
      refine gk_iload_n hC 2 dX8_callsBack_35 rfl (q := 36) rfl ?_
      refine gk_iald hC dX8_callsBack_36 t6 (q := 37) rfl (fun x7 => ?_)
      refine gk_iast hC dX8_callsBack_37 t5 (q := 38) rfl (fun M8 => ?_)
      refine gk_iinc hC (v := 1) 2 (lv' := [(0, .ref v0), (1, .int v1), (2, .int (x.1 + 1))]) [1, 2, 0] dX8_callsBack_38 rfl kc_i_1 (by decide) rfl (q := 41) rfl ?_
      refine gk_goto hC dX8_callsBack_41 (q := 9) rfl ?_
      exact ih ((x.1 + 1), M8)
set_option maxHeartbeats 4000000 in
set_option maxRecDepth 100000 in
theorem m_X8_callsBack (l : Launch) {Y : gk_Y} (hY : gk_WF Y) (a0 : Nat) (M : gk_M) (t0 : gk_T Y 18 a0) : gk_MF l Y yX8_callsBack cX8_callsBack 5 none 6 [.ref a0] M gk_rV (f_X8_callsBack (gk_ln Y) (gk_rf Y) a0 M) := by
  refine gk_met hY (plainFor_of_name (by decide)) (Nat.le_of_ble_eq_true rfl) fun Z hC hR => ?_
  show gk_K Z Y 5 gk_rV 0 [(0, .ref a0)] [] M _
  unfold f_X8_callsBack
  refine gk_aload_n hC 0 dX8_callsBack_0 rfl (q := 1) rfl ?_
  refine gk_getR hC dX8_callsBack_1 fl_RX8_70 (by decide) t0 (q := 4) rfl (fun t21 => ?_)
  refine gk_iconst hC (v := 4) dX8_callsBack_4 kc_i_4 (q := 5) rfl ?_
  refine gk_iald hC dX8_callsBack_5 t21 (q := 6) rfl (fun x22 => ?_)
  refine gk_istore_n hC (lv' := [(0, .ref a0), (1, .int x22)]) [1, 0] dX8_callsBack_6 (by decide) rfl (q := 7) rfl ?_
  refine gk_iconst hC (v := 0) dX8_callsBack_7 kc_i_0 (q := 8) rfl ?_
  refine gk_istore_n hC (lv' := [(0, .ref a0), (1, .int x22), (2, .int 0)]) [1, 2, 0] dX8_callsBack_8 (by decide) rfl (q := 9) rfl ?_
  refine gk_jnR (fun k44_23 => ∀ z24 : gk_M, gk_K Z Y 5 gk_rV 44 [(0, .ref a0), (1, .int x22)] [] z24 (k44_23 z24)) (fun y23 => ?_) (fun k44_23 hk44_23 => ?_)
  · show gk_K Z Y 5 gk_rV 44 [(0, .ref a0), (1, .int x22)] [] y23 _
    refine gk_iconst hC (v := 0) dX8_callsBack_44 kc_i_0 (q := 45) rfl ?_
    refine gk_istore_n hC (lv' := [(0, .ref a0), (1, .int x22), (2, .int 0)]) [1, 2, 0] dX8_callsBack_45 (by decide) rfl (q := 46) rfl ?_
    refine gk_jnR (fun k215_25 => ∀ z26 : gk_M, gk_K Z Y 5 gk_rV 215 [(0, .ref a0)] [] z26 (k215_25 z26)) (fun y25 => ?_) (fun k215_25 hk215_25 => ?_)
    · show gk_K Z Y 5 gk_rV 215 [(0, .ref a0)] [] y25 _
      refine gk_aload_n hC 0 dX8_callsBack_215 rfl (q := 216) rfl ?_
      refine gk_callV (As := []) (rest := []) hC (fun l => m_X8_settles l hY a0 y25 t0) ml_RX8_199 ok_X8_settles dX8_callsBack_216 t0 ⟨by decide, rfl⟩ rfl (by decide) (Nat.le_of_ble_eq_true rfl) rfl (q := 219) rfl (fun r27 => ?_)
      show gk_K Z Y 5 gk_rV 219 [(0, .ref a0)] [] r27 _
      exact gk_vret hC hR dX8_callsBack_219 rfl
    · exact lk_X8_callsBack_46 hY hC hR a0 x22 t0 k215_25 hk215_25 gk_fuel (0, y23)
  · exact lk_X8_callsBack_9 hY hC hR a0 x22 t0 k44_23 hk44_23 gk_fuel (0, M)
def lp_X8_tick_96 (LN : Nat → Nat) (RF : Nat → Nat → Nat) (v0 : Nat) (k133 : gk_M → Option (Int32 × gk_M)) : Nat → (Int32 × gk_M) → Option (Int32 × gk_M)
  | 0, _ => none
  | n + 1, x =>
    gk_ald LN x.2 (RF v0 20) 2 fun x2 =>
    if x2 ≤ x.1 then
      k133 x.2
    else
    gk_ald LN x.2 (RF v0 7) x.1 fun x4 =>
    gk_jn (fun y5 : gk_M =>
      lp_X8_tick_96 LN RF v0 k133 n ((x.1 + 1), y5)) fun k127_5 =>
    if x4 = 0 then
      (f_X8_rangOn LN RF v0 x.1 x.2).bind fun r7 =>
      (f_X8_settles LN RF v0 r7).bind fun r8 =>
      k127_5 r8
    else
    k127_5 x.2
def lp_X8_tick_42 (LN : Nat → Nat) (RF : Nat → Nat → Nat) (v0 : Nat) (v1 : Int32) (k88 : gk_M → Option (Int32 × gk_M)) : Nat → (Int32 × gk_M) → Option (Int32 × gk_M)
  | 0, _ => none
  | n + 1, x =>
    gk_ald LN x.2 (RF v0 9) v1 fun x2 =>
    if x2 ≤ x.1 then
      k88 x.2
    else
    gk_ald LN x.2 (RF v0 7) v1 fun x4 =>
    if x4 = 1 then
      gk_ald LN x.2 (RF v0 11) ((9 * v1) + x.1) fun x7 =>
      gk_ald LN x.2 (RF v0 19) x7 fun x8 =>
      gk_ast LN x.2 (RF v0 19) x7 (x8 + 1) fun M9 =>
      lp_X8_tick_42 LN RF v0 v1 k88 n ((x.1 + 1), M9)
    else
    k88 x.2
def lp_X8_tick_30 (LN : Nat → Nat) (RF : Nat → Nat → Nat) (v0 : Nat) (k94 : gk_M → Option (Int32 × gk_M)) : Nat → (Int32 × gk_M) → Option (Int32 × gk_M)
  | 0, _ => none
  | n + 1, x =>
    gk_ald LN x.2 (RF v0 20) 2 fun x2 =>
    if x2 ≤ x.1 then
      k94 x.2
    else
    gk_jn (fun y3 : gk_M =>
      lp_X8_tick_30 LN RF v0 k94 n ((x.1 + 1), y3)) fun k88_3 =>
    lp_X8_tick_42 LN RF v0 x.1 k88_3 gk_fuel (0, x.2)
def f_X8_tick (LN : Nat → Nat) (RF : Nat → Nat → Nat) (a0 : Nat) (M : gk_M) : Option (Int32 × gk_M) :=
  gk_ald LN M (RF a0 20) 3 fun x22 =>
  if x22 = 1000 then
    (f_X8_refused LN RF a0 2 M).bind fun r23 =>
    some (r23.1, r23.2)
  else
  gk_ald LN M (RF a0 20) 3 fun x25 =>
  gk_ast LN M (RF a0 20) 3 (x25 + 1) fun M26 =>
  gk_jn (fun y27 : gk_M =>
    gk_jn (fun y29 : gk_M =>
      (f_X8_callsBack LN RF a0 y29).bind fun r31 =>
      gk_ald LN r31 (RF a0 20) 3 fun x33 =>
      (f_X8_done LN RF a0 x33 r31).bind fun r34 =>
      some (r34.1, r34.2)) fun k133_29 =>
    lp_X8_tick_96 LN RF a0 k133_29 gk_fuel (0, y27)) fun k94_27 =>
  lp_X8_tick_30 LN RF a0 k94_27 gk_fuel (0, M26)
set_option maxHeartbeats 4000000 in
set_option maxRecDepth 100000 in
theorem lk_X8_tick_96 {Z : gk_Z} {Y : gk_Y} (hY : gk_WF Y) (hC : gk_C Z Y cX8_tick 3 RX8 7) (hR : gk_R Z Y (some .int)) (v0 : Nat) (tv0 : gk_T Y 18 v0) (k133 : gk_M → Option (Int32 × gk_M)) (hk133 : ∀ z35 : gk_M, gk_K Z Y 3 gk_rI 133 [(0, .ref v0)] [] z35 (k133 z35)) : ∀ (n : Nat) (x : Int32 × gk_M), gk_K Z Y 3 gk_rI 96 [(0, .ref v0), (1, .int x.1)] [] x.2 (lp_X8_tick_96 (gk_ln Y) (gk_rf Y) v0 k133 n x) := by
  intro n
  induction n with
  | zero => intro x; exact gk_none
  | succ n ih =>
    intro x
    rw [lp_X8_tick_96]
    refine gk_iload_n hC 1 dX8_tick_96 rfl (q := 97) rfl ?_
    refine gk_aload_n hC 0 dX8_tick_97 rfl (q := 98) rfl ?_
    refine gk_getR hC dX8_tick_98 fl_RX8_70 (by decide) tv0 (q := 101) rfl (fun t1 => ?_)
    refine gk_iconst hC (v := 2) dX8_tick_101 kc_i_2 (q := 102) rfl ?_
    refine gk_iald hC dX8_tick_102 t1 (q := 103) rfl (fun x2 => ?_)
    refine gk_icmp_ge hC dX8_tick_103 (tg := 133) rfl (q := 106) rfl ?_ ?_
    · refine gk_pick [0] rfl ?_
      exact hk133 x.2
    · refine gk_aload_n hC 0 dX8_tick_106 rfl (q := 107) rfl ?_
      refine gk_getR hC dX8_tick_107 fl_RX8_31 (by decide) tv0 (q := 110) rfl (fun t3 => ?_)
      refine gk_iload_n hC 1 dX8_tick_110 rfl (q := 111) rfl ?_
      refine gk_iald hC dX8_tick_111 t3 (q := 112) rfl (fun x4 => ?_)
      refine gk_jnR (fun k127_5 => ∀ z6 : gk_M, gk_K Z Y 3 gk_rI 127 [(0, .ref v0), (1, .int x.1)] [] z6 (k127_5 z6)) (fun y5 => ?_) (fun k127_5 hk127_5 => ?_)
      · show gk_K Z Y 3 gk_rI 127 [(0, .ref v0), (1, .int x.1)] [] y5 _
        refine gk_iinc hC (v := 1) 1 (lv' := [(0, .ref v0), (1, .int (x.1 + 1))]) [1, 0] dX8_tick_127 rfl kc_i_1 (by decide) rfl (q := 130) rfl ?_
        refine gk_goto hC dX8_tick_130 (q := 96) rfl ?_
        exact ih ((x.1 + 1), y5)
      · refine gk_if_eq hC dX8_tick_112 (tg := 118) rfl (q := 115) rfl ?_ ?_
        · refine gk_aload_n hC 0 dX8_tick_118 rfl (q := 119) rfl ?_
          refine gk_iload_n hC 1 dX8_tick_119 rfl (q := 120) rfl ?_
          refine gk_callV (As := [.int x.1]) (rest := []) hC (fun l => m_X8_rangOn l hY v0 x.1 x.2 tv0) ml_RX8_205 ok_X8_rangOn dX8_tick_120 tv0 ⟨by decide, rfl⟩ rfl (by decide) (Nat.le_of_ble_eq_true rfl) rfl (q := 123) rfl (fun r7 => ?_)
          show gk_K Z Y 3 gk_rI 123 [(0, .ref v0), (1, .int x.1)] [] r7 _
          refine gk_aload_n hC 0 dX8_tick_123 rfl (q := 124) rfl ?_
          refine gk_callV (As := []) (rest := []) hC (fun l => m_X8_settles l hY v0 r7 tv0) ml_RX8_199 ok_X8_settles dX8_tick_124 tv0 ⟨by decide, rfl⟩ rfl (by decide) (Nat.le_of_ble_eq_true rfl) rfl (q := 127) rfl (fun r8 => ?_)
          show gk_K Z Y 3 gk_rI 127 [(0, .ref v0), (1, .int x.1)] [] r8 _
          exact hk127_5 r8
        · refine gk_goto hC dX8_tick_115 (q := 127) rfl ?_
          exact hk127_5 x.2
set_option maxHeartbeats 4000000 in
set_option maxRecDepth 100000 in
theorem lk_X8_tick_42 {Z : gk_Z} {Y : gk_Y} (hY : gk_WF Y) (hC : gk_C Z Y cX8_tick 3 RX8 7) (hR : gk_R Z Y (some .int)) (v0 : Nat) (v1 : Int32) (tv0 : gk_T Y 18 v0) (k88 : gk_M → Option (Int32 × gk_M)) (hk88 : ∀ z10 : gk_M, gk_K Z Y 3 gk_rI 88 [(0, .ref v0), (1, .int v1)] [] z10 (k88 z10)) : ∀ (n : Nat) (x : Int32 × gk_M), gk_K Z Y 3 gk_rI 42 [(0, .ref v0), (1, .int v1), (2, .int x.1)] [] x.2 (lp_X8_tick_42 (gk_ln Y) (gk_rf Y) v0 v1 k88 n x) := by
  intro n
  induction n with
  | zero => intro x; exact gk_none
  | succ n ih =>
    intro x
    rw [lp_X8_tick_42]
    refine gk_iload_n hC 2 dX8_tick_42 rfl (q := 43) rfl ?_
    refine gk_aload_n hC 0 dX8_tick_43 rfl (q := 44) rfl ?_
    refine gk_getR hC dX8_tick_44 fl_RX8_37 (by decide) tv0 (q := 47) rfl (fun t1 => ?_)
    refine gk_iload_n hC 1 dX8_tick_47 rfl (q := 48) rfl ?_
    refine gk_iald hC dX8_tick_48 t1 (q := 49) rfl (fun x2 => ?_)
    refine gk_icmp_ge hC dX8_tick_49 (tg := 88) rfl (q := 52) rfl ?_ ?_
    · refine gk_pick [0, 1] rfl ?_
      exact hk88 x.2
    · refine gk_aload_n hC 0 dX8_tick_52 rfl (q := 53) rfl ?_
      refine gk_getR hC dX8_tick_53 fl_RX8_31 (by decide) tv0 (q := 56) rfl (fun t3 => ?_)
      refine gk_iload_n hC 1 dX8_tick_56 rfl (q := 57) rfl ?_
      refine gk_iald hC dX8_tick_57 t3 (q := 58) rfl (fun x4 => ?_)
      refine gk_iconst hC (v := 1) dX8_tick_58 kc_i_1 (q := 59) rfl ?_
      refine gk_icmp_ne hC dX8_tick_59 (tg := 88) rfl (q := 62) rfl ?_ ?_
      · refine gk_aload_n hC 0 dX8_tick_62 rfl (q := 63) rfl ?_
        refine gk_getR hC dX8_tick_63 fl_RX8_67 (by decide) tv0 (q := 66) rfl (fun t5 => ?_)
        refine gk_aload_n hC 0 dX8_tick_66 rfl (q := 67) rfl ?_
        refine gk_getR hC dX8_tick_67 fl_RX8_43 (by decide) tv0 (q := 70) rfl (fun t6 => ?_)
        refine gk_bipush hC (v := 9) dX8_tick_70 kc_b_9 (q := 72) rfl ?_
        refine gk_iload_n hC 1 dX8_tick_72 rfl (q := 73) rfl ?_
        refine gk_imul hC dX8_tick_73 (q := 74) rfl ?_
        refine gk_iload_n hC 2 dX8_tick_74 rfl (q := 75) rfl ?_
        refine gk_iadd hC dX8_tick_75 (q := 76) rfl ?_
        refine gk_iald hC dX8_tick_76 t6 (q := 77) rfl (fun x7 => ?_)
        refine gk_dup2 hC dX8_tick_77 rfl rfl (q := 78) rfl ?_
        refine gk_iald hC dX8_tick_78 t5 (q := 79) rfl (fun x8 => ?_)
        refine gk_iconst hC (v := 1) dX8_tick_79 kc_i_1 (q := 80) rfl ?_
        refine gk_iadd hC dX8_tick_80 (q := 81) rfl ?_
        refine gk_iast hC dX8_tick_81 t5 (q := 82) rfl (fun M9 => ?_)
        refine gk_iinc hC (v := 1) 2 (lv' := [(0, .ref v0), (1, .int v1), (2, .int (x.1 + 1))]) [1, 2, 0] dX8_tick_82 rfl kc_i_1 (by decide) rfl (q := 85) rfl ?_
        refine gk_goto hC dX8_tick_85 (q := 42) rfl ?_
        exact ih ((x.1 + 1), M9)
      · refine gk_pick [0, 1] rfl ?_
        exact hk88 x.2
set_option maxHeartbeats 4000000 in
set_option maxRecDepth 100000 in
theorem lk_X8_tick_30 {Z : gk_Z} {Y : gk_Y} (hY : gk_WF Y) (hC : gk_C Z Y cX8_tick 3 RX8 7) (hR : gk_R Z Y (some .int)) (v0 : Nat) (tv0 : gk_T Y 18 v0) (k94 : gk_M → Option (Int32 × gk_M)) (hk94 : ∀ z36 : gk_M, gk_K Z Y 3 gk_rI 94 [(0, .ref v0)] [] z36 (k94 z36)) : ∀ (n : Nat) (x : Int32 × gk_M), gk_K Z Y 3 gk_rI 30 [(0, .ref v0), (1, .int x.1)] [] x.2 (lp_X8_tick_30 (gk_ln Y) (gk_rf Y) v0 k94 n x) := by
  intro n
  induction n with
  | zero => intro x; exact gk_none
  | succ n ih =>
    intro x
    rw [lp_X8_tick_30]
    refine gk_iload_n hC 1 dX8_tick_30 rfl (q := 31) rfl ?_
    refine gk_aload_n hC 0 dX8_tick_31 rfl (q := 32) rfl ?_
    refine gk_getR hC dX8_tick_32 fl_RX8_70 (by decide) tv0 (q := 35) rfl (fun t1 => ?_)
    refine gk_iconst hC (v := 2) dX8_tick_35 kc_i_2 (q := 36) rfl ?_
    refine gk_iald hC dX8_tick_36 t1 (q := 37) rfl (fun x2 => ?_)
    refine gk_icmp_ge hC dX8_tick_37 (tg := 94) rfl (q := 40) rfl ?_ ?_
    · refine gk_pick [0] rfl ?_
      exact hk94 x.2
    · refine gk_iconst hC (v := 0) dX8_tick_40 kc_i_0 (q := 41) rfl ?_
      refine gk_istore_n hC (lv' := [(0, .ref v0), (1, .int x.1), (2, .int 0)]) [1, 2, 0] dX8_tick_41 (by decide) rfl (q := 42) rfl ?_
      refine gk_jnR (fun k88_3 => ∀ z4 : gk_M, gk_K Z Y 3 gk_rI 88 [(0, .ref v0), (1, .int x.1)] [] z4 (k88_3 z4)) (fun y3 => ?_) (fun k88_3 hk88_3 => ?_)
      · show gk_K Z Y 3 gk_rI 88 [(0, .ref v0), (1, .int x.1)] [] y3 _
        refine gk_iinc hC (v := 1) 1 (lv' := [(0, .ref v0), (1, .int (x.1 + 1))]) [1, 0] dX8_tick_88 rfl kc_i_1 (by decide) rfl (q := 91) rfl ?_
        refine gk_goto hC dX8_tick_91 (q := 30) rfl ?_
        exact ih ((x.1 + 1), y3)
      · exact lk_X8_tick_42 hY hC hR v0 x.1 tv0 k88_3 hk88_3 gk_fuel (0, x.2)
set_option maxHeartbeats 4000000 in
set_option maxRecDepth 100000 in
theorem m_X8_tick (l : Launch) {Y : gk_Y} (hY : gk_WF Y) (a0 : Nat) (M : gk_M) (t0 : gk_T Y 18 a0) : gk_MF l Y yX8_tick cX8_tick 3 (some .int) 7 [.ref a0] M gk_rI (f_X8_tick (gk_ln Y) (gk_rf Y) a0 M) := by
  refine gk_met hY (plainFor_of_name (by decide)) (Nat.le_of_ble_eq_true rfl) fun Z hC hR => ?_
  show gk_K Z Y 3 gk_rI 0 [(0, .ref a0)] [] M _
  unfold f_X8_tick
  refine gk_aload_n hC 0 dX8_tick_0 rfl (q := 1) rfl ?_
  refine gk_getR hC dX8_tick_1 fl_RX8_70 (by decide) t0 (q := 4) rfl (fun t21 => ?_)
  refine gk_iconst hC (v := 3) dX8_tick_4 kc_i_3 (q := 5) rfl ?_
  refine gk_iald hC dX8_tick_5 t21 (q := 6) rfl (fun x22 => ?_)
  refine gk_sipush hC (v := 1000) dX8_tick_6 kc_s_1000 (q := 9) rfl ?_
  refine gk_icmp_ne hC dX8_tick_9 (tg := 18) rfl (q := 12) rfl ?_ ?_
  · refine gk_aload_n hC 0 dX8_tick_12 rfl (q := 13) rfl ?_
    refine gk_iconst hC (v := 2) dX8_tick_13 kc_i_2 (q := 14) rfl ?_
    refine gk_callV (As := [.int 2]) (rest := []) hC (fun l => m_X8_refused l hY a0 2 M t0) ml_RX8_113 ok_X8_refused dX8_tick_14 t0 ⟨by decide, rfl⟩ rfl (by decide) (Nat.le_of_ble_eq_true rfl) rfl (q := 17) rfl (fun r23 => ?_)
    show gk_K Z Y 3 gk_rI 17 [(0, .ref a0)] [.int r23.1] r23.2 _
    exact gk_iret hC hR dX8_tick_17 rfl
  · refine gk_aload_n hC 0 dX8_tick_18 rfl (q := 19) rfl ?_
    refine gk_getR hC dX8_tick_19 fl_RX8_70 (by decide) t0 (q := 22) rfl (fun t24 => ?_)
    refine gk_iconst hC (v := 3) dX8_tick_22 kc_i_3 (q := 23) rfl ?_
    refine gk_dup2 hC dX8_tick_23 rfl rfl (q := 24) rfl ?_
    refine gk_iald hC dX8_tick_24 t24 (q := 25) rfl (fun x25 => ?_)
    refine gk_iconst hC (v := 1) dX8_tick_25 kc_i_1 (q := 26) rfl ?_
    refine gk_iadd hC dX8_tick_26 (q := 27) rfl ?_
    refine gk_iast hC dX8_tick_27 t24 (q := 28) rfl (fun M26 => ?_)
    refine gk_iconst hC (v := 0) dX8_tick_28 kc_i_0 (q := 29) rfl ?_
    refine gk_istore_n hC (lv' := [(0, .ref a0), (1, .int 0)]) [1, 0] dX8_tick_29 (by decide) rfl (q := 30) rfl ?_
    refine gk_jnR (fun k94_27 => ∀ z28 : gk_M, gk_K Z Y 3 gk_rI 94 [(0, .ref a0)] [] z28 (k94_27 z28)) (fun y27 => ?_) (fun k94_27 hk94_27 => ?_)
    · show gk_K Z Y 3 gk_rI 94 [(0, .ref a0)] [] y27 _
      refine gk_iconst hC (v := 0) dX8_tick_94 kc_i_0 (q := 95) rfl ?_
      refine gk_istore_n hC (lv' := [(0, .ref a0), (1, .int 0)]) [1, 0] dX8_tick_95 (by decide) rfl (q := 96) rfl ?_
      refine gk_jnR (fun k133_29 => ∀ z30 : gk_M, gk_K Z Y 3 gk_rI 133 [(0, .ref a0)] [] z30 (k133_29 z30)) (fun y29 => ?_) (fun k133_29 hk133_29 => ?_)
      · show gk_K Z Y 3 gk_rI 133 [(0, .ref a0)] [] y29 _
        refine gk_aload_n hC 0 dX8_tick_133 rfl (q := 134) rfl ?_
        refine gk_callV (As := []) (rest := []) hC (fun l => m_X8_callsBack l hY a0 y29 t0) ml_RX8_209 ok_X8_callsBack dX8_tick_134 t0 ⟨by decide, rfl⟩ rfl (by decide) (Nat.le_of_ble_eq_true rfl) rfl (q := 137) rfl (fun r31 => ?_)
        show gk_K Z Y 3 gk_rI 137 [(0, .ref a0)] [] r31 _
        refine gk_aload_n hC 0 dX8_tick_137 rfl (q := 138) rfl ?_
        refine gk_aload_n hC 0 dX8_tick_138 rfl (q := 139) rfl ?_
        refine gk_getR hC dX8_tick_139 fl_RX8_70 (by decide) t0 (q := 142) rfl (fun t32 => ?_)
        refine gk_iconst hC (v := 3) dX8_tick_142 kc_i_3 (q := 143) rfl ?_
        refine gk_iald hC dX8_tick_143 t32 (q := 144) rfl (fun x33 => ?_)
        refine gk_callV (As := [.int x33]) (rest := []) hC (fun l => m_X8_done l hY a0 x33 r31 t0) ml_RX8_117 ok_X8_done dX8_tick_144 t0 ⟨by decide, rfl⟩ rfl (by decide) (Nat.le_of_ble_eq_true rfl) rfl (q := 147) rfl (fun r34 => ?_)
        show gk_K Z Y 3 gk_rI 147 [(0, .ref a0)] [.int r34.1] r34.2 _
        exact gk_iret hC hR dX8_tick_147 rfl
      · exact lk_X8_tick_96 hY hC hR a0 t0 k133_29 hk133_29 gk_fuel (0, y27)
    · exact lk_X8_tick_30 hY hC hR a0 t0 k94_27 hk94_27 gk_fuel (0, M26)
def lp_X8_keeps_3 (LN : Nat → Nat) (RF : Nat → Nat → Nat) (v0 : Nat) (v1 : Nat) (v2 : Nat) (v3 : Int32) (k53 : gk_M → Option (gk_M)) : Nat → (Int32 × gk_M) → Option (gk_M)
  | 0, _ => none
  | n + 1, x =>
    if (nI (LN v2)) ≤ x.1 then
      k53 x.2
    else
    gk_jn (fun y1 : gk_M =>
      gk_put y1 v0 28 ((y1.1 v0 28) + 1) fun M3 =>
      lp_X8_keeps_3 LN RF v0 v1 v2 v3 k53 n ((x.1 + 1), M3)) fun k37_1 =>
    if v3 = 0 then
      gk_ald LN x.2 v1 (x.2.1 v0 28) fun x4 =>
      gk_ast LN x.2 v2 x.1 x4 fun M5 =>
      k37_1 M5
    else
    gk_ald LN x.2 v2 x.1 fun x6 =>
    gk_ast LN x.2 v1 (x.2.1 v0 28) x6 fun M7 =>
    k37_1 M7
def f_X8_keeps (LN : Nat → Nat) (RF : Nat → Nat → Nat) (a0 : Nat) (a1 : Nat) (a2 : Nat) (a3 : Int32) (M : gk_M) : Option (gk_M) :=
  gk_jn (fun y21 : gk_M =>
    some y21) fun k53_21 =>
  lp_X8_keeps_3 LN RF a0 a1 a2 a3 k53_21 gk_fuel (0, M)
set_option maxHeartbeats 4000000 in
set_option maxRecDepth 100000 in
theorem lk_X8_keeps_3 {Z : gk_Z} {Y : gk_Y} (hY : gk_WF Y) (hC : gk_C Z Y cX8_keeps 5 RX8 0) (hR : gk_R Z Y none) (v0 : Nat) (v1 : Nat) (v2 : Nat) (v3 : Int32) (tv0 : gk_T Y 18 v0) (tv1 : gk_T Y 100 v1) (tv2 : gk_T Y 100 v2) (k53 : gk_M → Option (gk_M)) (hk53 : ∀ z23 : gk_M, gk_K Z Y 5 gk_rV 53 [] [] z23 (k53 z23)) : ∀ (n : Nat) (x : Int32 × gk_M), gk_K Z Y 5 gk_rV 3 [(0, .ref v0), (1, .ref v1), (2, .ref v2), (3, .int v3), (4, .int x.1)] [] x.2 (lp_X8_keeps_3 (gk_ln Y) (gk_rf Y) v0 v1 v2 v3 k53 n x) := by
  intro n
  induction n with
  | zero => intro x; exact gk_none
  | succ n ih =>
    intro x
    rw [lp_X8_keeps_3]
    refine gk_iload hC 4 dX8_keeps_3 rfl (q := 5) rfl ?_
    refine gk_aload_n hC 2 dX8_keeps_5 rfl (q := 6) rfl ?_
    refine gk_alen hC dX8_keeps_6 tv2 (q := 7) rfl ?_
    refine gk_icmp_ge hC dX8_keeps_7 (tg := 53) rfl (q := 10) rfl ?_ ?_
    · refine gk_pick [] rfl ?_
      exact hk53 x.2
    · refine gk_iload_n hC 3 dX8_keeps_10 rfl (q := 11) rfl ?_
      refine gk_jnR (fun k37_1 => ∀ z2 : gk_M, gk_K Z Y 5 gk_rV 37 [(0, .ref v0), (1, .ref v1), (2, .ref v2), (3, .int v3), (4, .int x.1)] [] z2 (k37_1 z2)) (fun y1 => ?_) (fun k37_1 hk37_1 => ?_)
      · show gk_K Z Y 5 gk_rV 37 [(0, .ref v0), (1, .ref v1), (2, .ref v2), (3, .int v3), (4, .int x.1)] [] y1 _
        refine gk_aload_n hC 0 dX8_keeps_37 rfl (q := 38) rfl ?_
        refine gk_dup hC dX8_keeps_38 rfl (q := 39) rfl ?_
        refine gk_getI hC dX8_keeps_39 fl_RX8_212 tv0 (q := 42) rfl ?_
        refine gk_iconst hC (v := 1) dX8_keeps_42 kc_i_1 (q := 43) rfl ?_
        refine gk_iadd hC dX8_keeps_43 (q := 44) rfl ?_
        refine gk_putI hC dX8_keeps_44 fp_RX8_212 tv0 (q := 47) rfl (fun M3 => ?_)
        refine gk_iinc hC (v := 1) 4 (lv' := [(0, .ref v0), (1, .ref v1), (2, .ref v2), (3, .int v3), (4, .int (x.1 + 1))]) [1, 2, 3, 4, 0] dX8_keeps_47 rfl kc_i_1 (by decide) rfl (q := 50) rfl ?_
        refine gk_goto hC dX8_keeps_50 (q := 3) rfl ?_
        exact ih ((x.1 + 1), M3)
      · refine gk_if_eq hC dX8_keeps_11 (tg := 27) rfl (q := 14) rfl ?_ ?_
        · refine gk_aload_n hC 2 dX8_keeps_27 rfl (q := 28) rfl ?_
          refine gk_iload hC 4 dX8_keeps_28 rfl (q := 30) rfl ?_
          refine gk_aload_n hC 1 dX8_keeps_30 rfl (q := 31) rfl ?_
          refine gk_aload_n hC 0 dX8_keeps_31 rfl (q := 32) rfl ?_
          refine gk_getI hC dX8_keeps_32 fl_RX8_212 tv0 (q := 35) rfl ?_
          refine gk_iald hC dX8_keeps_35 tv1 (q := 36) rfl (fun x4 => ?_)
          refine gk_iast hC dX8_keeps_36 tv2 (q := 37) rfl (fun M5 => ?_)
          exact hk37_1 M5
        · refine gk_aload_n hC 1 dX8_keeps_14 rfl (q := 15) rfl ?_
          refine gk_aload_n hC 0 dX8_keeps_15 rfl (q := 16) rfl ?_
          refine gk_getI hC dX8_keeps_16 fl_RX8_212 tv0 (q := 19) rfl ?_
          refine gk_aload_n hC 2 dX8_keeps_19 rfl (q := 20) rfl ?_
          refine gk_iload hC 4 dX8_keeps_20 rfl (q := 22) rfl ?_
          refine gk_iald hC dX8_keeps_22 tv2 (q := 23) rfl (fun x6 => ?_)
          refine gk_iast hC dX8_keeps_23 tv1 (q := 24) rfl (fun M7 => ?_)
          refine gk_goto hC dX8_keeps_24 (q := 37) rfl ?_
          exact hk37_1 M7
set_option maxHeartbeats 4000000 in
set_option maxRecDepth 100000 in
theorem m_X8_keeps (l : Launch) {Y : gk_Y} (hY : gk_WF Y) (a0 : Nat) (a1 : Nat) (a2 : Nat) (a3 : Int32) (M : gk_M) (t0 : gk_T Y 18 a0) (ta1 : gk_T Y 100 a1) (ta2 : gk_T Y 100 a2) : gk_MF l Y yX8_keeps cX8_keeps 5 none 0 [.ref a0, .ref a1, .ref a2, .int a3] M gk_rV (f_X8_keeps (gk_ln Y) (gk_rf Y) a0 a1 a2 a3 M) := by
  refine gk_met hY (plainFor_of_name (by decide)) (Nat.le_of_ble_eq_true rfl) fun Z hC hR => ?_
  show gk_K Z Y 5 gk_rV 0 [(0, .ref a0), (1, .ref a1), (2, .ref a2), (3, .int a3)] [] M _
  unfold f_X8_keeps
  refine gk_iconst hC (v := 0) dX8_keeps_0 kc_i_0 (q := 1) rfl ?_
  refine gk_istore hC (lv' := [(0, .ref a0), (1, .ref a1), (2, .ref a2), (3, .int a3), (4, .int 0)]) [1, 2, 3, 4, 0] dX8_keeps_1 (by decide) rfl (q := 3) rfl ?_
  refine gk_jnR (fun k53_21 => ∀ z22 : gk_M, gk_K Z Y 5 gk_rV 53 [] [] z22 (k53_21 z22)) (fun y21 => ?_) (fun k53_21 hk53_21 => ?_)
  · show gk_K Z Y 5 gk_rV 53 [] [] y21 _
    exact gk_vret hC hR dX8_keeps_53 rfl
  · exact lk_X8_keeps_3 hY hC hR a0 a1 a2 a3 t0 ta1 ta2 k53_21 hk53_21 gk_fuel (0, M)
def f_X8_keepsAll (LN : Nat → Nat) (RF : Nat → Nat → Nat) (a0 : Nat) (a1 : Nat) (a2 : Int32) (M : gk_M) : Option (gk_M) :=
  gk_put M a0 28 0 fun M21 =>
  (f_X8_keeps LN RF a0 a1 (RF a0 0) a2 M21).bind fun r23 =>
  (f_X8_keeps LN RF a0 a1 (RF a0 1) a2 r23).bind fun r25 =>
  (f_X8_keeps LN RF a0 a1 (RF a0 2) a2 r25).bind fun r27 =>
  (f_X8_keeps LN RF a0 a1 (RF a0 3) a2 r27).bind fun r29 =>
  (f_X8_keeps LN RF a0 a1 (RF a0 4) a2 r29).bind fun r31 =>
  (f_X8_keeps LN RF a0 a1 (RF a0 5) a2 r31).bind fun r33 =>
  (f_X8_keeps LN RF a0 a1 (RF a0 6) a2 r33).bind fun r35 =>
  (f_X8_keeps LN RF a0 a1 (RF a0 7) a2 r35).bind fun r37 =>
  (f_X8_keeps LN RF a0 a1 (RF a0 8) a2 r37).bind fun r39 =>
  (f_X8_keeps LN RF a0 a1 (RF a0 9) a2 r39).bind fun r41 =>
  (f_X8_keeps LN RF a0 a1 (RF a0 10) a2 r41).bind fun r43 =>
  (f_X8_keeps LN RF a0 a1 (RF a0 11) a2 r43).bind fun r45 =>
  (f_X8_keeps LN RF a0 a1 (RF a0 12) a2 r45).bind fun r47 =>
  (f_X8_keeps LN RF a0 a1 (RF a0 13) a2 r47).bind fun r49 =>
  (f_X8_keeps LN RF a0 a1 (RF a0 14) a2 r49).bind fun r51 =>
  (f_X8_keeps LN RF a0 a1 (RF a0 15) a2 r51).bind fun r53 =>
  (f_X8_keeps LN RF a0 a1 (RF a0 16) a2 r53).bind fun r55 =>
  (f_X8_keeps LN RF a0 a1 (RF a0 17) a2 r55).bind fun r57 =>
  (f_X8_keeps LN RF a0 a1 (RF a0 18) a2 r57).bind fun r59 =>
  (f_X8_keeps LN RF a0 a1 (RF a0 19) a2 r59).bind fun r61 =>
  (f_X8_keeps LN RF a0 a1 (RF a0 20) a2 r61).bind fun r63 =>
  some r63
set_option maxHeartbeats 4000000 in
set_option maxRecDepth 100000 in
theorem m_X8_keepsAll (l : Launch) {Y : gk_Y} (hY : gk_WF Y) (a0 : Nat) (a1 : Nat) (a2 : Int32) (M : gk_M) (t0 : gk_T Y 18 a0) (ta1 : gk_T Y 100 a1) : gk_MF l Y yX8_keepsAll cX8_keepsAll 3 none 1 [.ref a0, .ref a1, .int a2] M gk_rV (f_X8_keepsAll (gk_ln Y) (gk_rf Y) a0 a1 a2 M) := by
  refine gk_met hY (plainFor_of_name (by decide)) (Nat.le_of_ble_eq_true rfl) fun Z hC hR => ?_
  show gk_K Z Y 3 gk_rV 0 [(0, .ref a0), (1, .ref a1), (2, .int a2)] [] M _
  unfold f_X8_keepsAll
  refine gk_aload_n hC 0 dX8_keepsAll_0 rfl (q := 1) rfl ?_
  refine gk_iconst hC (v := 0) dX8_keepsAll_1 kc_i_0 (q := 2) rfl ?_
  refine gk_putI hC dX8_keepsAll_2 fp_RX8_212 t0 (q := 5) rfl (fun M21 => ?_)
  refine gk_aload_n hC 0 dX8_keepsAll_5 rfl (q := 6) rfl ?_
  refine gk_aload_n hC 1 dX8_keepsAll_6 rfl (q := 7) rfl ?_
  refine gk_aload_n hC 0 dX8_keepsAll_7 rfl (q := 8) rfl ?_
  refine gk_getR hC dX8_keepsAll_8 fl_RX8_7 (by decide) t0 (q := 11) rfl (fun t22 => ?_)
  refine gk_iload_n hC 2 dX8_keepsAll_11 rfl (q := 12) rfl ?_
  refine gk_callV (As := [.ref a1, .ref ((gk_rf Y) a0 0), .int a2]) (rest := []) hC (fun l => m_X8_keeps l hY a0 a1 ((gk_rf Y) a0 0) a2 M21 t0 ta1 t22) ml_RX8_215 ok_X8_keeps dX8_keepsAll_12 t0 ⟨by decide, rfl⟩ rfl (by decide) (Nat.le_of_ble_eq_true rfl) rfl (q := 15) rfl (fun r23 => ?_)
  show gk_K Z Y 3 gk_rV 15 [(0, .ref a0), (1, .ref a1), (2, .int a2)] [] r23 _
  refine gk_aload_n hC 0 dX8_keepsAll_15 rfl (q := 16) rfl ?_
  refine gk_aload_n hC 1 dX8_keepsAll_16 rfl (q := 17) rfl ?_
  refine gk_aload_n hC 0 dX8_keepsAll_17 rfl (q := 18) rfl ?_
  refine gk_getR hC dX8_keepsAll_18 fl_RX8_13 (by decide) t0 (q := 21) rfl (fun t24 => ?_)
  refine gk_iload_n hC 2 dX8_keepsAll_21 rfl (q := 22) rfl ?_
  refine gk_callV (As := [.ref a1, .ref ((gk_rf Y) a0 1), .int a2]) (rest := []) hC (fun l => m_X8_keeps l hY a0 a1 ((gk_rf Y) a0 1) a2 r23 t0 ta1 t24) ml_RX8_215 ok_X8_keeps dX8_keepsAll_22 t0 ⟨by decide, rfl⟩ rfl (by decide) (Nat.le_of_ble_eq_true rfl) rfl (q := 25) rfl (fun r25 => ?_)
  show gk_K Z Y 3 gk_rV 25 [(0, .ref a0), (1, .ref a1), (2, .int a2)] [] r25 _
  refine gk_aload_n hC 0 dX8_keepsAll_25 rfl (q := 26) rfl ?_
  refine gk_aload_n hC 1 dX8_keepsAll_26 rfl (q := 27) rfl ?_
  refine gk_aload_n hC 0 dX8_keepsAll_27 rfl (q := 28) rfl ?_
  refine gk_getR hC dX8_keepsAll_28 fl_RX8_16 (by decide) t0 (q := 31) rfl (fun t26 => ?_)
  refine gk_iload_n hC 2 dX8_keepsAll_31 rfl (q := 32) rfl ?_
  refine gk_callV (As := [.ref a1, .ref ((gk_rf Y) a0 2), .int a2]) (rest := []) hC (fun l => m_X8_keeps l hY a0 a1 ((gk_rf Y) a0 2) a2 r25 t0 ta1 t26) ml_RX8_215 ok_X8_keeps dX8_keepsAll_32 t0 ⟨by decide, rfl⟩ rfl (by decide) (Nat.le_of_ble_eq_true rfl) rfl (q := 35) rfl (fun r27 => ?_)
  show gk_K Z Y 3 gk_rV 35 [(0, .ref a0), (1, .ref a1), (2, .int a2)] [] r27 _
  refine gk_aload_n hC 0 dX8_keepsAll_35 rfl (q := 36) rfl ?_
  refine gk_aload_n hC 1 dX8_keepsAll_36 rfl (q := 37) rfl ?_
  refine gk_aload_n hC 0 dX8_keepsAll_37 rfl (q := 38) rfl ?_
  refine gk_getR hC dX8_keepsAll_38 fl_RX8_19 (by decide) t0 (q := 41) rfl (fun t28 => ?_)
  refine gk_iload_n hC 2 dX8_keepsAll_41 rfl (q := 42) rfl ?_
  refine gk_callV (As := [.ref a1, .ref ((gk_rf Y) a0 3), .int a2]) (rest := []) hC (fun l => m_X8_keeps l hY a0 a1 ((gk_rf Y) a0 3) a2 r27 t0 ta1 t28) ml_RX8_215 ok_X8_keeps dX8_keepsAll_42 t0 ⟨by decide, rfl⟩ rfl (by decide) (Nat.le_of_ble_eq_true rfl) rfl (q := 45) rfl (fun r29 => ?_)
  show gk_K Z Y 3 gk_rV 45 [(0, .ref a0), (1, .ref a1), (2, .int a2)] [] r29 _
  refine gk_aload_n hC 0 dX8_keepsAll_45 rfl (q := 46) rfl ?_
  refine gk_aload_n hC 1 dX8_keepsAll_46 rfl (q := 47) rfl ?_
  refine gk_aload_n hC 0 dX8_keepsAll_47 rfl (q := 48) rfl ?_
  refine gk_getR hC dX8_keepsAll_48 fl_RX8_22 (by decide) t0 (q := 51) rfl (fun t30 => ?_)
  refine gk_iload_n hC 2 dX8_keepsAll_51 rfl (q := 52) rfl ?_
  refine gk_callV (As := [.ref a1, .ref ((gk_rf Y) a0 4), .int a2]) (rest := []) hC (fun l => m_X8_keeps l hY a0 a1 ((gk_rf Y) a0 4) a2 r29 t0 ta1 t30) ml_RX8_215 ok_X8_keeps dX8_keepsAll_52 t0 ⟨by decide, rfl⟩ rfl (by decide) (Nat.le_of_ble_eq_true rfl) rfl (q := 55) rfl (fun r31 => ?_)
  show gk_K Z Y 3 gk_rV 55 [(0, .ref a0), (1, .ref a1), (2, .int a2)] [] r31 _
  refine gk_aload_n hC 0 dX8_keepsAll_55 rfl (q := 56) rfl ?_
  refine gk_aload_n hC 1 dX8_keepsAll_56 rfl (q := 57) rfl ?_
  refine gk_aload_n hC 0 dX8_keepsAll_57 rfl (q := 58) rfl ?_
  refine gk_getR hC dX8_keepsAll_58 fl_RX8_25 (by decide) t0 (q := 61) rfl (fun t32 => ?_)
  refine gk_iload_n hC 2 dX8_keepsAll_61 rfl (q := 62) rfl ?_
  refine gk_callV (As := [.ref a1, .ref ((gk_rf Y) a0 5), .int a2]) (rest := []) hC (fun l => m_X8_keeps l hY a0 a1 ((gk_rf Y) a0 5) a2 r31 t0 ta1 t32) ml_RX8_215 ok_X8_keeps dX8_keepsAll_62 t0 ⟨by decide, rfl⟩ rfl (by decide) (Nat.le_of_ble_eq_true rfl) rfl (q := 65) rfl (fun r33 => ?_)
  show gk_K Z Y 3 gk_rV 65 [(0, .ref a0), (1, .ref a1), (2, .int a2)] [] r33 _
  refine gk_aload_n hC 0 dX8_keepsAll_65 rfl (q := 66) rfl ?_
  refine gk_aload_n hC 1 dX8_keepsAll_66 rfl (q := 67) rfl ?_
  refine gk_aload_n hC 0 dX8_keepsAll_67 rfl (q := 68) rfl ?_
  refine gk_getR hC dX8_keepsAll_68 fl_RX8_28 (by decide) t0 (q := 71) rfl (fun t34 => ?_)
  refine gk_iload_n hC 2 dX8_keepsAll_71 rfl (q := 72) rfl ?_
  refine gk_callV (As := [.ref a1, .ref ((gk_rf Y) a0 6), .int a2]) (rest := []) hC (fun l => m_X8_keeps l hY a0 a1 ((gk_rf Y) a0 6) a2 r33 t0 ta1 t34) ml_RX8_215 ok_X8_keeps dX8_keepsAll_72 t0 ⟨by decide, rfl⟩ rfl (by decide) (Nat.le_of_ble_eq_true rfl) rfl (q := 75) rfl (fun r35 => ?_)
  show gk_K Z Y 3 gk_rV 75 [(0, .ref a0), (1, .ref a1), (2, .int a2)] [] r35 _
  refine gk_aload_n hC 0 dX8_keepsAll_75 rfl (q := 76) rfl ?_
  refine gk_aload_n hC 1 dX8_keepsAll_76 rfl (q := 77) rfl ?_
  refine gk_aload_n hC 0 dX8_keepsAll_77 rfl (q := 78) rfl ?_
  refine gk_getR hC dX8_keepsAll_78 fl_RX8_31 (by decide) t0 (q := 81) rfl (fun t36 => ?_)
  refine gk_iload_n hC 2 dX8_keepsAll_81 rfl (q := 82) rfl ?_
  refine gk_callV (As := [.ref a1, .ref ((gk_rf Y) a0 7), .int a2]) (rest := []) hC (fun l => m_X8_keeps l hY a0 a1 ((gk_rf Y) a0 7) a2 r35 t0 ta1 t36) ml_RX8_215 ok_X8_keeps dX8_keepsAll_82 t0 ⟨by decide, rfl⟩ rfl (by decide) (Nat.le_of_ble_eq_true rfl) rfl (q := 85) rfl (fun r37 => ?_)
  show gk_K Z Y 3 gk_rV 85 [(0, .ref a0), (1, .ref a1), (2, .int a2)] [] r37 _
  refine gk_aload_n hC 0 dX8_keepsAll_85 rfl (q := 86) rfl ?_
  refine gk_aload_n hC 1 dX8_keepsAll_86 rfl (q := 87) rfl ?_
  refine gk_aload_n hC 0 dX8_keepsAll_87 rfl (q := 88) rfl ?_
  refine gk_getR hC dX8_keepsAll_88 fl_RX8_34 (by decide) t0 (q := 91) rfl (fun t38 => ?_)
  refine gk_iload_n hC 2 dX8_keepsAll_91 rfl (q := 92) rfl ?_
  refine gk_callV (As := [.ref a1, .ref ((gk_rf Y) a0 8), .int a2]) (rest := []) hC (fun l => m_X8_keeps l hY a0 a1 ((gk_rf Y) a0 8) a2 r37 t0 ta1 t38) ml_RX8_215 ok_X8_keeps dX8_keepsAll_92 t0 ⟨by decide, rfl⟩ rfl (by decide) (Nat.le_of_ble_eq_true rfl) rfl (q := 95) rfl (fun r39 => ?_)
  show gk_K Z Y 3 gk_rV 95 [(0, .ref a0), (1, .ref a1), (2, .int a2)] [] r39 _
  refine gk_aload_n hC 0 dX8_keepsAll_95 rfl (q := 96) rfl ?_
  refine gk_aload_n hC 1 dX8_keepsAll_96 rfl (q := 97) rfl ?_
  refine gk_aload_n hC 0 dX8_keepsAll_97 rfl (q := 98) rfl ?_
  refine gk_getR hC dX8_keepsAll_98 fl_RX8_37 (by decide) t0 (q := 101) rfl (fun t40 => ?_)
  refine gk_iload_n hC 2 dX8_keepsAll_101 rfl (q := 102) rfl ?_
  refine gk_callV (As := [.ref a1, .ref ((gk_rf Y) a0 9), .int a2]) (rest := []) hC (fun l => m_X8_keeps l hY a0 a1 ((gk_rf Y) a0 9) a2 r39 t0 ta1 t40) ml_RX8_215 ok_X8_keeps dX8_keepsAll_102 t0 ⟨by decide, rfl⟩ rfl (by decide) (Nat.le_of_ble_eq_true rfl) rfl (q := 105) rfl (fun r41 => ?_)
  show gk_K Z Y 3 gk_rV 105 [(0, .ref a0), (1, .ref a1), (2, .int a2)] [] r41 _
  refine gk_aload_n hC 0 dX8_keepsAll_105 rfl (q := 106) rfl ?_
  refine gk_aload_n hC 1 dX8_keepsAll_106 rfl (q := 107) rfl ?_
  refine gk_aload_n hC 0 dX8_keepsAll_107 rfl (q := 108) rfl ?_
  refine gk_getR hC dX8_keepsAll_108 fl_RX8_40 (by decide) t0 (q := 111) rfl (fun t42 => ?_)
  refine gk_iload_n hC 2 dX8_keepsAll_111 rfl (q := 112) rfl ?_
  refine gk_callV (As := [.ref a1, .ref ((gk_rf Y) a0 10), .int a2]) (rest := []) hC (fun l => m_X8_keeps l hY a0 a1 ((gk_rf Y) a0 10) a2 r41 t0 ta1 t42) ml_RX8_215 ok_X8_keeps dX8_keepsAll_112 t0 ⟨by decide, rfl⟩ rfl (by decide) (Nat.le_of_ble_eq_true rfl) rfl (q := 115) rfl (fun r43 => ?_)
  show gk_K Z Y 3 gk_rV 115 [(0, .ref a0), (1, .ref a1), (2, .int a2)] [] r43 _
  refine gk_aload_n hC 0 dX8_keepsAll_115 rfl (q := 116) rfl ?_
  refine gk_aload_n hC 1 dX8_keepsAll_116 rfl (q := 117) rfl ?_
  refine gk_aload_n hC 0 dX8_keepsAll_117 rfl (q := 118) rfl ?_
  refine gk_getR hC dX8_keepsAll_118 fl_RX8_43 (by decide) t0 (q := 121) rfl (fun t44 => ?_)
  refine gk_iload_n hC 2 dX8_keepsAll_121 rfl (q := 122) rfl ?_
  refine gk_callV (As := [.ref a1, .ref ((gk_rf Y) a0 11), .int a2]) (rest := []) hC (fun l => m_X8_keeps l hY a0 a1 ((gk_rf Y) a0 11) a2 r43 t0 ta1 t44) ml_RX8_215 ok_X8_keeps dX8_keepsAll_122 t0 ⟨by decide, rfl⟩ rfl (by decide) (Nat.le_of_ble_eq_true rfl) rfl (q := 125) rfl (fun r45 => ?_)
  show gk_K Z Y 3 gk_rV 125 [(0, .ref a0), (1, .ref a1), (2, .int a2)] [] r45 _
  refine gk_aload_n hC 0 dX8_keepsAll_125 rfl (q := 126) rfl ?_
  refine gk_aload_n hC 1 dX8_keepsAll_126 rfl (q := 127) rfl ?_
  refine gk_aload_n hC 0 dX8_keepsAll_127 rfl (q := 128) rfl ?_
  refine gk_getR hC dX8_keepsAll_128 fl_RX8_46 (by decide) t0 (q := 131) rfl (fun t46 => ?_)
  refine gk_iload_n hC 2 dX8_keepsAll_131 rfl (q := 132) rfl ?_
  refine gk_callV (As := [.ref a1, .ref ((gk_rf Y) a0 12), .int a2]) (rest := []) hC (fun l => m_X8_keeps l hY a0 a1 ((gk_rf Y) a0 12) a2 r45 t0 ta1 t46) ml_RX8_215 ok_X8_keeps dX8_keepsAll_132 t0 ⟨by decide, rfl⟩ rfl (by decide) (Nat.le_of_ble_eq_true rfl) rfl (q := 135) rfl (fun r47 => ?_)
  show gk_K Z Y 3 gk_rV 135 [(0, .ref a0), (1, .ref a1), (2, .int a2)] [] r47 _
  refine gk_aload_n hC 0 dX8_keepsAll_135 rfl (q := 136) rfl ?_
  refine gk_aload_n hC 1 dX8_keepsAll_136 rfl (q := 137) rfl ?_
  refine gk_aload_n hC 0 dX8_keepsAll_137 rfl (q := 138) rfl ?_
  refine gk_getR hC dX8_keepsAll_138 fl_RX8_49 (by decide) t0 (q := 141) rfl (fun t48 => ?_)
  refine gk_iload_n hC 2 dX8_keepsAll_141 rfl (q := 142) rfl ?_
  refine gk_callV (As := [.ref a1, .ref ((gk_rf Y) a0 13), .int a2]) (rest := []) hC (fun l => m_X8_keeps l hY a0 a1 ((gk_rf Y) a0 13) a2 r47 t0 ta1 t48) ml_RX8_215 ok_X8_keeps dX8_keepsAll_142 t0 ⟨by decide, rfl⟩ rfl (by decide) (Nat.le_of_ble_eq_true rfl) rfl (q := 145) rfl (fun r49 => ?_)
  show gk_K Z Y 3 gk_rV 145 [(0, .ref a0), (1, .ref a1), (2, .int a2)] [] r49 _
  refine gk_aload_n hC 0 dX8_keepsAll_145 rfl (q := 146) rfl ?_
  refine gk_aload_n hC 1 dX8_keepsAll_146 rfl (q := 147) rfl ?_
  refine gk_aload_n hC 0 dX8_keepsAll_147 rfl (q := 148) rfl ?_
  refine gk_getR hC dX8_keepsAll_148 fl_RX8_52 (by decide) t0 (q := 151) rfl (fun t50 => ?_)
  refine gk_iload_n hC 2 dX8_keepsAll_151 rfl (q := 152) rfl ?_
  refine gk_callV (As := [.ref a1, .ref ((gk_rf Y) a0 14), .int a2]) (rest := []) hC (fun l => m_X8_keeps l hY a0 a1 ((gk_rf Y) a0 14) a2 r49 t0 ta1 t50) ml_RX8_215 ok_X8_keeps dX8_keepsAll_152 t0 ⟨by decide, rfl⟩ rfl (by decide) (Nat.le_of_ble_eq_true rfl) rfl (q := 155) rfl (fun r51 => ?_)
  show gk_K Z Y 3 gk_rV 155 [(0, .ref a0), (1, .ref a1), (2, .int a2)] [] r51 _
  refine gk_aload_n hC 0 dX8_keepsAll_155 rfl (q := 156) rfl ?_
  refine gk_aload_n hC 1 dX8_keepsAll_156 rfl (q := 157) rfl ?_
  refine gk_aload_n hC 0 dX8_keepsAll_157 rfl (q := 158) rfl ?_
  refine gk_getR hC dX8_keepsAll_158 fl_RX8_55 (by decide) t0 (q := 161) rfl (fun t52 => ?_)
  refine gk_iload_n hC 2 dX8_keepsAll_161 rfl (q := 162) rfl ?_
  refine gk_callV (As := [.ref a1, .ref ((gk_rf Y) a0 15), .int a2]) (rest := []) hC (fun l => m_X8_keeps l hY a0 a1 ((gk_rf Y) a0 15) a2 r51 t0 ta1 t52) ml_RX8_215 ok_X8_keeps dX8_keepsAll_162 t0 ⟨by decide, rfl⟩ rfl (by decide) (Nat.le_of_ble_eq_true rfl) rfl (q := 165) rfl (fun r53 => ?_)
  show gk_K Z Y 3 gk_rV 165 [(0, .ref a0), (1, .ref a1), (2, .int a2)] [] r53 _
  refine gk_aload_n hC 0 dX8_keepsAll_165 rfl (q := 166) rfl ?_
  refine gk_aload_n hC 1 dX8_keepsAll_166 rfl (q := 167) rfl ?_
  refine gk_aload_n hC 0 dX8_keepsAll_167 rfl (q := 168) rfl ?_
  refine gk_getR hC dX8_keepsAll_168 fl_RX8_58 (by decide) t0 (q := 171) rfl (fun t54 => ?_)
  refine gk_iload_n hC 2 dX8_keepsAll_171 rfl (q := 172) rfl ?_
  refine gk_callV (As := [.ref a1, .ref ((gk_rf Y) a0 16), .int a2]) (rest := []) hC (fun l => m_X8_keeps l hY a0 a1 ((gk_rf Y) a0 16) a2 r53 t0 ta1 t54) ml_RX8_215 ok_X8_keeps dX8_keepsAll_172 t0 ⟨by decide, rfl⟩ rfl (by decide) (Nat.le_of_ble_eq_true rfl) rfl (q := 175) rfl (fun r55 => ?_)
  show gk_K Z Y 3 gk_rV 175 [(0, .ref a0), (1, .ref a1), (2, .int a2)] [] r55 _
  refine gk_aload_n hC 0 dX8_keepsAll_175 rfl (q := 176) rfl ?_
  refine gk_aload_n hC 1 dX8_keepsAll_176 rfl (q := 177) rfl ?_
  refine gk_aload_n hC 0 dX8_keepsAll_177 rfl (q := 178) rfl ?_
  refine gk_getR hC dX8_keepsAll_178 fl_RX8_61 (by decide) t0 (q := 181) rfl (fun t56 => ?_)
  refine gk_iload_n hC 2 dX8_keepsAll_181 rfl (q := 182) rfl ?_
  refine gk_callV (As := [.ref a1, .ref ((gk_rf Y) a0 17), .int a2]) (rest := []) hC (fun l => m_X8_keeps l hY a0 a1 ((gk_rf Y) a0 17) a2 r55 t0 ta1 t56) ml_RX8_215 ok_X8_keeps dX8_keepsAll_182 t0 ⟨by decide, rfl⟩ rfl (by decide) (Nat.le_of_ble_eq_true rfl) rfl (q := 185) rfl (fun r57 => ?_)
  show gk_K Z Y 3 gk_rV 185 [(0, .ref a0), (1, .ref a1), (2, .int a2)] [] r57 _
  refine gk_aload_n hC 0 dX8_keepsAll_185 rfl (q := 186) rfl ?_
  refine gk_aload_n hC 1 dX8_keepsAll_186 rfl (q := 187) rfl ?_
  refine gk_aload_n hC 0 dX8_keepsAll_187 rfl (q := 188) rfl ?_
  refine gk_getR hC dX8_keepsAll_188 fl_RX8_64 (by decide) t0 (q := 191) rfl (fun t58 => ?_)
  refine gk_iload_n hC 2 dX8_keepsAll_191 rfl (q := 192) rfl ?_
  refine gk_callV (As := [.ref a1, .ref ((gk_rf Y) a0 18), .int a2]) (rest := []) hC (fun l => m_X8_keeps l hY a0 a1 ((gk_rf Y) a0 18) a2 r57 t0 ta1 t58) ml_RX8_215 ok_X8_keeps dX8_keepsAll_192 t0 ⟨by decide, rfl⟩ rfl (by decide) (Nat.le_of_ble_eq_true rfl) rfl (q := 195) rfl (fun r59 => ?_)
  show gk_K Z Y 3 gk_rV 195 [(0, .ref a0), (1, .ref a1), (2, .int a2)] [] r59 _
  refine gk_aload_n hC 0 dX8_keepsAll_195 rfl (q := 196) rfl ?_
  refine gk_aload_n hC 1 dX8_keepsAll_196 rfl (q := 197) rfl ?_
  refine gk_aload_n hC 0 dX8_keepsAll_197 rfl (q := 198) rfl ?_
  refine gk_getR hC dX8_keepsAll_198 fl_RX8_67 (by decide) t0 (q := 201) rfl (fun t60 => ?_)
  refine gk_iload_n hC 2 dX8_keepsAll_201 rfl (q := 202) rfl ?_
  refine gk_callV (As := [.ref a1, .ref ((gk_rf Y) a0 19), .int a2]) (rest := []) hC (fun l => m_X8_keeps l hY a0 a1 ((gk_rf Y) a0 19) a2 r59 t0 ta1 t60) ml_RX8_215 ok_X8_keeps dX8_keepsAll_202 t0 ⟨by decide, rfl⟩ rfl (by decide) (Nat.le_of_ble_eq_true rfl) rfl (q := 205) rfl (fun r61 => ?_)
  show gk_K Z Y 3 gk_rV 205 [(0, .ref a0), (1, .ref a1), (2, .int a2)] [] r61 _
  refine gk_aload_n hC 0 dX8_keepsAll_205 rfl (q := 206) rfl ?_
  refine gk_aload_n hC 1 dX8_keepsAll_206 rfl (q := 207) rfl ?_
  refine gk_aload_n hC 0 dX8_keepsAll_207 rfl (q := 208) rfl ?_
  refine gk_getR hC dX8_keepsAll_208 fl_RX8_70 (by decide) t0 (q := 211) rfl (fun t62 => ?_)
  refine gk_iload_n hC 2 dX8_keepsAll_211 rfl (q := 212) rfl ?_
  refine gk_callV (As := [.ref a1, .ref ((gk_rf Y) a0 20), .int a2]) (rest := []) hC (fun l => m_X8_keeps l hY a0 a1 ((gk_rf Y) a0 20) a2 r61 t0 ta1 t62) ml_RX8_215 ok_X8_keeps dX8_keepsAll_212 t0 ⟨by decide, rfl⟩ rfl (by decide) (Nat.le_of_ble_eq_true rfl) rfl (q := 215) rfl (fun r63 => ?_)
  show gk_K Z Y 3 gk_rV 215 [(0, .ref a0), (1, .ref a1), (2, .int a2)] [] r63 _
  exact gk_vret hC hR dX8_keepsAll_215 rfl
def f_X8_image (LN : Nat → Nat) (RF : Nat → Nat → Nat) (a0 : Nat) (M : gk_M) : Option (Int32 × gk_M) :=
  (f_X8_keepsAll LN RF a0 (RF a0 21) 1 M).bind fun r22 =>
  gk_putz r22 a0 23 1 fun M23 =>
  (f_X8_done LN RF a0 1 M23).bind fun r24 =>
  some (r24.1, r24.2)
set_option maxHeartbeats 4000000 in
set_option maxRecDepth 100000 in
theorem m_X8_image (l : Launch) {Y : gk_Y} (hY : gk_WF Y) (a0 : Nat) (M : gk_M) (t0 : gk_T Y 18 a0) : gk_MF l Y yX8_image cX8_image 1 (some .int) 2 [.ref a0] M gk_rI (f_X8_image (gk_ln Y) (gk_rf Y) a0 M) := by
  refine gk_met hY (plainFor_of_name (by decide)) (Nat.le_of_ble_eq_true rfl) fun Z hC hR => ?_
  show gk_K Z Y 1 gk_rI 0 [(0, .ref a0)] [] M _
  unfold f_X8_image
  refine gk_aload_n hC 0 dX8_image_0 rfl (q := 1) rfl ?_
  refine gk_aload_n hC 0 dX8_image_1 rfl (q := 2) rfl ?_
  refine gk_getR hC dX8_image_2 fl_RX8_73 (by decide) t0 (q := 5) rfl (fun t21 => ?_)
  refine gk_iconst hC (v := 1) dX8_image_5 kc_i_1 (q := 6) rfl ?_
  refine gk_callV (As := [.ref ((gk_rf Y) a0 21), .int 1]) (rest := []) hC (fun l => m_X8_keepsAll l hY a0 ((gk_rf Y) a0 21) 1 M t0 t21) ml_RX8_219 ok_X8_keepsAll dX8_image_6 t0 ⟨by decide, rfl⟩ rfl (by decide) (Nat.le_of_ble_eq_true rfl) rfl (q := 9) rfl (fun r22 => ?_)
  show gk_K Z Y 1 gk_rI 9 [(0, .ref a0)] [] r22 _
  refine gk_aload_n hC 0 dX8_image_9 rfl (q := 10) rfl ?_
  refine gk_iconst hC (v := 1) dX8_image_10 kc_i_1 (q := 11) rfl ?_
  refine gk_putZ hC dX8_image_11 fp_RX8_223 t0 (q := 14) rfl (fun M23 => ?_)
  refine gk_aload_n hC 0 dX8_image_14 rfl (q := 15) rfl ?_
  refine gk_iconst hC (v := 1) dX8_image_15 kc_i_1 (q := 16) rfl ?_
  refine gk_callV (As := [.int 1]) (rest := []) hC (fun l => m_X8_done l hY a0 1 M23 t0) ml_RX8_117 ok_X8_done dX8_image_16 t0 ⟨by decide, rfl⟩ rfl (by decide) (Nat.le_of_ble_eq_true rfl) rfl (q := 19) rfl (fun r24 => ?_)
  show gk_K Z Y 1 gk_rI 19 [(0, .ref a0)] [.int r24.1] r24.2 _
  exact gk_iret hC hR dX8_image_19 rfl
def f_X8_restore (LN : Nat → Nat) (RF : Nat → Nat → Nat) (a0 : Nat) (M : gk_M) : Option (Int32 × gk_M) :=
  if (M.1 a0 24) = 10 then
    (f_X8_refused LN RF a0 2 M).bind fun r21 =>
    some (r21.1, r21.2)
  else
  if (M.1 a0 23) = 0 then
    (f_X8_refused LN RF a0 3 M).bind fun r22 =>
    some (r22.1, r22.2)
  else
  gk_put M a0 24 ((M.1 a0 24) + 1) fun M23 =>
  (f_X8_keepsAll LN RF a0 (RF a0 21) 0 M23).bind fun r25 =>
  gk_ald LN r25 (RF a0 20) 3 fun x27 =>
  (f_X8_done LN RF a0 x27 r25).bind fun r28 =>
  some (r28.1, r28.2)
set_option maxHeartbeats 4000000 in
set_option maxRecDepth 100000 in
theorem m_X8_restore (l : Launch) {Y : gk_Y} (hY : gk_WF Y) (a0 : Nat) (M : gk_M) (t0 : gk_T Y 18 a0) : gk_MF l Y yX8_restore cX8_restore 1 (some .int) 2 [.ref a0] M gk_rI (f_X8_restore (gk_ln Y) (gk_rf Y) a0 M) := by
  refine gk_met hY (plainFor_of_name (by decide)) (Nat.le_of_ble_eq_true rfl) fun Z hC hR => ?_
  show gk_K Z Y 1 gk_rI 0 [(0, .ref a0)] [] M _
  unfold f_X8_restore
  refine gk_aload_n hC 0 dX8_restore_0 rfl (q := 1) rfl ?_
  refine gk_getI hC dX8_restore_1 fl_RX8_227 t0 (q := 4) rfl ?_
  refine gk_bipush hC (v := 10) dX8_restore_4 kc_b_10 (q := 6) rfl ?_
  refine gk_icmp_ne hC dX8_restore_6 (tg := 15) rfl (q := 9) rfl ?_ ?_
  · refine gk_aload_n hC 0 dX8_restore_9 rfl (q := 10) rfl ?_
    refine gk_iconst hC (v := 2) dX8_restore_10 kc_i_2 (q := 11) rfl ?_
    refine gk_callV (As := [.int 2]) (rest := []) hC (fun l => m_X8_refused l hY a0 2 M t0) ml_RX8_113 ok_X8_refused dX8_restore_11 t0 ⟨by decide, rfl⟩ rfl (by decide) (Nat.le_of_ble_eq_true rfl) rfl (q := 14) rfl (fun r21 => ?_)
    show gk_K Z Y 1 gk_rI 14 [(0, .ref a0)] [.int r21.1] r21.2 _
    exact gk_iret hC hR dX8_restore_14 rfl
  · refine gk_aload_n hC 0 dX8_restore_15 rfl (q := 16) rfl ?_
    refine gk_getZ hC dX8_restore_16 fl_RX8_223 t0 (q := 19) rfl ?_
    refine gk_if_ne hC dX8_restore_19 (tg := 28) rfl (q := 22) rfl ?_ ?_
    · refine gk_aload_n hC 0 dX8_restore_22 rfl (q := 23) rfl ?_
      refine gk_iconst hC (v := 3) dX8_restore_23 kc_i_3 (q := 24) rfl ?_
      refine gk_callV (As := [.int 3]) (rest := []) hC (fun l => m_X8_refused l hY a0 3 M t0) ml_RX8_113 ok_X8_refused dX8_restore_24 t0 ⟨by decide, rfl⟩ rfl (by decide) (Nat.le_of_ble_eq_true rfl) rfl (q := 27) rfl (fun r22 => ?_)
      show gk_K Z Y 1 gk_rI 27 [(0, .ref a0)] [.int r22.1] r22.2 _
      exact gk_iret hC hR dX8_restore_27 rfl
    · refine gk_aload_n hC 0 dX8_restore_28 rfl (q := 29) rfl ?_
      refine gk_dup hC dX8_restore_29 rfl (q := 30) rfl ?_
      refine gk_getI hC dX8_restore_30 fl_RX8_227 t0 (q := 33) rfl ?_
      refine gk_iconst hC (v := 1) dX8_restore_33 kc_i_1 (q := 34) rfl ?_
      refine gk_iadd hC dX8_restore_34 (q := 35) rfl ?_
      refine gk_putI hC dX8_restore_35 fp_RX8_227 t0 (q := 38) rfl (fun M23 => ?_)
      refine gk_aload_n hC 0 dX8_restore_38 rfl (q := 39) rfl ?_
      refine gk_aload_n hC 0 dX8_restore_39 rfl (q := 40) rfl ?_
      refine gk_getR hC dX8_restore_40 fl_RX8_73 (by decide) t0 (q := 43) rfl (fun t24 => ?_)
      refine gk_iconst hC (v := 0) dX8_restore_43 kc_i_0 (q := 44) rfl ?_
      refine gk_callV (As := [.ref ((gk_rf Y) a0 21), .int 0]) (rest := []) hC (fun l => m_X8_keepsAll l hY a0 ((gk_rf Y) a0 21) 0 M23 t0 t24) ml_RX8_219 ok_X8_keepsAll dX8_restore_44 t0 ⟨by decide, rfl⟩ rfl (by decide) (Nat.le_of_ble_eq_true rfl) rfl (q := 47) rfl (fun r25 => ?_)
      show gk_K Z Y 1 gk_rI 47 [(0, .ref a0)] [] r25 _
      refine gk_aload_n hC 0 dX8_restore_47 rfl (q := 48) rfl ?_
      refine gk_aload_n hC 0 dX8_restore_48 rfl (q := 49) rfl ?_
      refine gk_getR hC dX8_restore_49 fl_RX8_70 (by decide) t0 (q := 52) rfl (fun t26 => ?_)
      refine gk_iconst hC (v := 3) dX8_restore_52 kc_i_3 (q := 53) rfl ?_
      refine gk_iald hC dX8_restore_53 t26 (q := 54) rfl (fun x27 => ?_)
      refine gk_callV (As := [.int x27]) (rest := []) hC (fun l => m_X8_done l hY a0 x27 r25 t0) ml_RX8_117 ok_X8_done dX8_restore_54 t0 ⟨by decide, rfl⟩ rfl (by decide) (Nat.le_of_ble_eq_true rfl) rfl (q := 57) rfl (fun r28 => ?_)
      show gk_K Z Y 1 gk_rI 57 [(0, .ref a0)] [.int r28.1] r28.2 _
      exact gk_iret hC hR dX8_restore_57 rfl
def f_X8_wishTold (LN : Nat → Nat) (RF : Nat → Nat → Nat) (a0 : Nat) (a1 : Int32) (a2 : Int32) (M : gk_M) : Option (Int32) :=
  (f_X8_isWish LN RF a0 a1 M).bind fun r21 =>
  if r21 = 0 then
    some (-1)
  else
  gk_sw a2 0 [gk_ald LN M (RF a0 0) a1 fun x23 =>
    some x23,
    gk_ald LN M (RF a0 1) a1 fun x25 =>
    some x25,
    gk_ald LN M (RF a0 2) a1 fun x27 =>
    some x27,
    gk_ald LN M (RF a0 3) a1 fun x29 =>
    some x29,
    gk_ald LN M (RF a0 4) a1 fun x31 =>
    some x31,
    gk_ald LN M (RF a0 5) a1 fun x33 =>
    some x33]
  (some (-1))
set_option maxHeartbeats 4000000 in
set_option maxRecDepth 100000 in
theorem m_X8_wishTold (l : Launch) {Y : gk_Y} (hY : gk_WF Y) (a0 : Nat) (a1 : Int32) (a2 : Int32) (M : gk_M) (t0 : gk_T Y 18 a0) : gk_MF l Y yX8_wishTold cX8_wishTold 3 (some .int) 1 [.ref a0, .int a1, .int a2] M (gk_rR M) (f_X8_wishTold (gk_ln Y) (gk_rf Y) a0 a1 a2 M) := by
  refine gk_met hY (plainFor_of_name (by decide)) (Nat.le_of_ble_eq_true rfl) fun Z hC hR => ?_
  show gk_K Z Y 3 (gk_rR M) 0 [(0, .ref a0), (1, .int a1), (2, .int a2)] [] M _
  unfold f_X8_wishTold
  refine gk_aload_n hC 0 dX8_wishTold_0 rfl (q := 1) rfl ?_
  refine gk_iload_n hC 1 dX8_wishTold_1 rfl (q := 2) rfl ?_
  refine gk_callV (As := [.int a1]) (rest := []) hC (fun l => m_X8_isWish l hY a0 a1 M t0) ml_RX8_142 ok_X8_isWish dX8_wishTold_2 t0 ⟨by decide, rfl⟩ rfl (by decide) (Nat.le_of_ble_eq_true rfl) rfl (q := 5) rfl (fun r21 => ?_)
  show gk_K Z Y 3 (gk_rR M) 5 [(0, .ref a0), (1, .int a1), (2, .int a2)] [.int r21] M _
  refine gk_if_ne hC dX8_wishTold_5 (tg := 10) rfl (q := 8) rfl ?_ ?_
  · refine gk_iconst hC (v := (-1)) dX8_wishTold_8 kc_i_m1 (q := 9) rfl ?_
    exact gk_iret hC hR dX8_wishTold_9 rfl
  · refine gk_iload_n hC 2 dX8_wishTold_10 rfl (q := 11) rfl ?_
    refine gk_table hC (ts := [48, 55, 62, 69, 76, 83]) (tg := 90) dX8_wishTold_11 (by decide) (by decide) rfl ⟨?_, ?_, ?_, ?_, ?_, ?_, trivial⟩ ?_
    · refine gk_aload_n hC 0 dX8_wishTold_48 rfl (q := 49) rfl ?_
      refine gk_getR hC dX8_wishTold_49 fl_RX8_7 (by decide) t0 (q := 52) rfl (fun t22 => ?_)
      refine gk_iload_n hC 1 dX8_wishTold_52 rfl (q := 53) rfl ?_
      refine gk_iald hC dX8_wishTold_53 t22 (q := 54) rfl (fun x23 => ?_)
      exact gk_iret hC hR dX8_wishTold_54 rfl
    · refine gk_aload_n hC 0 dX8_wishTold_55 rfl (q := 56) rfl ?_
      refine gk_getR hC dX8_wishTold_56 fl_RX8_13 (by decide) t0 (q := 59) rfl (fun t24 => ?_)
      refine gk_iload_n hC 1 dX8_wishTold_59 rfl (q := 60) rfl ?_
      refine gk_iald hC dX8_wishTold_60 t24 (q := 61) rfl (fun x25 => ?_)
      exact gk_iret hC hR dX8_wishTold_61 rfl
    · refine gk_aload_n hC 0 dX8_wishTold_62 rfl (q := 63) rfl ?_
      refine gk_getR hC dX8_wishTold_63 fl_RX8_16 (by decide) t0 (q := 66) rfl (fun t26 => ?_)
      refine gk_iload_n hC 1 dX8_wishTold_66 rfl (q := 67) rfl ?_
      refine gk_iald hC dX8_wishTold_67 t26 (q := 68) rfl (fun x27 => ?_)
      exact gk_iret hC hR dX8_wishTold_68 rfl
    · refine gk_aload_n hC 0 dX8_wishTold_69 rfl (q := 70) rfl ?_
      refine gk_getR hC dX8_wishTold_70 fl_RX8_19 (by decide) t0 (q := 73) rfl (fun t28 => ?_)
      refine gk_iload_n hC 1 dX8_wishTold_73 rfl (q := 74) rfl ?_
      refine gk_iald hC dX8_wishTold_74 t28 (q := 75) rfl (fun x29 => ?_)
      exact gk_iret hC hR dX8_wishTold_75 rfl
    · refine gk_aload_n hC 0 dX8_wishTold_76 rfl (q := 77) rfl ?_
      refine gk_getR hC dX8_wishTold_77 fl_RX8_22 (by decide) t0 (q := 80) rfl (fun t30 => ?_)
      refine gk_iload_n hC 1 dX8_wishTold_80 rfl (q := 81) rfl ?_
      refine gk_iald hC dX8_wishTold_81 t30 (q := 82) rfl (fun x31 => ?_)
      exact gk_iret hC hR dX8_wishTold_82 rfl
    · refine gk_aload_n hC 0 dX8_wishTold_83 rfl (q := 84) rfl ?_
      refine gk_getR hC dX8_wishTold_84 fl_RX8_25 (by decide) t0 (q := 87) rfl (fun t32 => ?_)
      refine gk_iload_n hC 1 dX8_wishTold_87 rfl (q := 88) rfl ?_
      refine gk_iald hC dX8_wishTold_88 t32 (q := 89) rfl (fun x33 => ?_)
      exact gk_iret hC hR dX8_wishTold_89 rfl
    · refine gk_iconst hC (v := (-1)) dX8_wishTold_90 kc_i_m1 (q := 91) rfl ?_
      exact gk_iret hC hR dX8_wishTold_91 rfl
end
