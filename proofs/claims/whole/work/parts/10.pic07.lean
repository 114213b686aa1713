noncomputable section
def f_X7_cell (LN : Nat → Nat) (RF : Nat → Nat → Nat) (a0 : Nat) (a1 : Int32) (a2 : Int32) (a3 : Int32) (M : gk_M) : Option (Int32 × gk_M) :=
  (f_X4_isSheet LN RF a1 M).bind fun r21 =>
  gk_jn (fun y22 : Unit =>
    (f_X7_refused LN RF a0 1 M).bind fun r24 =>
    some (r24.1, r24.2)) fun k21_22 =>
  if r21 = 0 then
    k21_22 ()
  else
  if a3 < (-1000) then
    k21_22 ()
  else
  if a3 ≤ 1000 then
    (f_X4_isMissing LN RF (RF a0 4) a1 M).bind fun r26 =>
    if r26 = 0 then
      (f_X4_hasPlaces LN RF (RF a0 4) a1 a2 1 M).bind fun r28 =>
      if r28 = 0 then
        (f_X7_refused LN RF a0 12 M).bind fun r29 =>
        some (r29.1, r29.2)
      else
      (f_X4_write LN RF (RF a0 4) a1 a2 a3 M).bind fun r31 =>
      (f_X7_done LN RF a0 1 r31).bind fun r32 =>
      some (r32.1, r32.2)
    else
    (f_X7_refused LN RF a0 10 M).bind fun r33 =>
    some (r33.1, r33.2)
  else
  k21_22 ()
set_option maxHeartbeats 4000000 in
set_option maxRecDepth 100000 in
theorem m_X7_cell (l : Launch) {Y : gk_Y} (hY : gk_WF Y) (a0 : Nat) (a1 : Int32) (a2 : Int32) (a3 : Int32) (M : gk_M) (t0 : gk_T Y 17 a0) : gk_MF l Y yX7_cell cX7_cell 4 (some .int) 1 [.ref a0, .int a1, .int a2, .int a3] M gk_rI (f_X7_cell (gk_ln Y) (gk_rf Y) a0 a1 a2 a3 M) := by
  refine gk_met hY (plainFor_of_name (by decide)) (Nat.le_of_ble_eq_true rfl) fun Z hC hR => ?_
  show gk_K Z Y 4 gk_rI 0 [(0, .ref a0), (1, .int a1), (2, .int a2), (3, .int a3)] [] M _
  unfold f_X7_cell
  refine gk_iload_n hC 1 dX7_cell_0 rfl (q := 1) rfl ?_
  refine gk_callS (As := [.int a1]) (rest := []) hC (fun l => m_X4_isSheet l hY a1 M) ml_RX7_278 ok_X4_isSheet dX7_cell_1 rfl (by decide) (Nat.le_of_ble_eq_true rfl) rfl (q := 4) rfl (fun r21 => ?_)
  show gk_K Z Y 4 gk_rI 4 [(0, .ref a0), (1, .int a1), (2, .int a2), (3, .int a3)] [.int r21] M _
  refine gk_jnR (fun k21_22 => ∀ z23 : Unit, gk_K Z Y 4 gk_rI 21 [(0, .ref a0)] [] M (k21_22 z23)) (fun y22 => ?_) (fun k21_22 hk21_22 => ?_)
  · show gk_K Z Y 4 gk_rI 21 [(0, .ref a0)] [] M _
    refine gk_aload_n hC 0 dX7_cell_21 rfl (q := 22) rfl ?_
    refine gk_iconst hC (v := 1) dX7_cell_22 kc_i_1 (q := 23) rfl ?_
    refine gk_callV (As := [.int 1]) (rest := []) hC (fun l => m_X7_refused l hY a0 1 M t0) ml_RX7_53 ok_X7_refused dX7_cell_23 t0 ⟨by decide, rfl⟩ rfl (by decide) (Nat.le_of_ble_eq_true rfl) rfl (q := 26) rfl (fun r24 => ?_)
    show gk_K Z Y 4 gk_rI 26 [(0, .ref a0)] [.int r24.1] r24.2 _
    exact gk_iret hC hR dX7_cell_26 rfl
  · refine gk_if_eq hC dX7_cell_4 (tg := 21) rfl (q := 7) rfl ?_ ?_
    · refine gk_pick [0] rfl ?_
      exact hk21_22 ()
    · refine gk_iload_n hC 3 dX7_cell_7 rfl (q := 8) rfl ?_
      refine gk_sipush hC (v := (-1000)) dX7_cell_8 kc_s_m1000 (q := 11) rfl ?_
      refine gk_icmp_lt hC dX7_cell_11 (tg := 21) rfl (q := 14) rfl ?_ ?_
      · refine gk_pick [0] rfl ?_
        exact hk21_22 ()
      · refine gk_iload_n hC 3 dX7_cell_14 rfl (q := 15) rfl ?_
        refine gk_sipush hC (v := 1000) dX7_cell_15 kc_s_1000 (q := 18) rfl ?_
        refine gk_icmp_le hC dX7_cell_18 (tg := 27) rfl (q := 21) rfl ?_ ?_
        · refine gk_aload_n hC 0 dX7_cell_27 rfl (q := 28) rfl ?_
          refine gk_getR hC dX7_cell_28 fl_RX7_41 (by decide) t0 (q := 31) rfl (fun t25 => ?_)
          refine gk_iload_n hC 1 dX7_cell_31 rfl (q := 32) rfl ?_
          refine gk_callV (As := [.int a1]) (rest := []) hC (fun l => m_X4_isMissing l hY ((gk_rf Y) a0 4) a1 M t25) ml_RX7_285 ok_X4_isMissing dX7_cell_32 t25 ⟨by decide, rfl⟩ rfl (by decide) (Nat.le_of_ble_eq_true rfl) rfl (q := 35) rfl (fun r26 => ?_)
          show gk_K Z Y 4 gk_rI 35 [(0, .ref a0), (1, .int a1), (2, .int a2), (3, .int a3)] [.int r26] M _
          refine gk_if_eq hC dX7_cell_35 (tg := 45) rfl (q := 38) rfl ?_ ?_
          · refine gk_aload_n hC 0 dX7_cell_45 rfl (q := 46) rfl ?_
            refine gk_getR hC dX7_cell_46 fl_RX7_41 (by decide) t0 (q := 49) rfl (fun t27 => ?_)
            refine gk_iload_n hC 1 dX7_cell_49 rfl (q := 50) rfl ?_
            refine gk_iload_n hC 2 dX7_cell_50 rfl (q := 51) rfl ?_
            refine gk_iconst hC (v := 1) dX7_cell_51 kc_i_1 (q := 52) rfl ?_
            refine gk_callV (As := [.int a1, .int a2, .int 1]) (rest := []) hC (fun l => m_X4_hasPlaces l hY ((gk_rf Y) a0 4) a1 a2 1 M t27) ml_RX7_288 ok_X4_hasPlaces dX7_cell_52 t27 ⟨by decide, rfl⟩ rfl (by decide) (Nat.le_of_ble_eq_true rfl) rfl (q := 55) rfl (fun r28 => ?_)
            show gk_K Z Y 4 gk_rI 55 [(0, .ref a0), (1, .int a1), (2, .int a2), (3, .int a3)] [.int r28] M _
            refine gk_if_ne hC dX7_cell_55 (tg := 65) rfl (q := 58) rfl ?_ ?_
            · refine gk_aload_n hC 0 dX7_cell_58 rfl (q := 59) rfl ?_
              refine gk_bipush hC (v := 12) dX7_cell_59 kc_b_12 (q := 61) rfl ?_
              refine gk_callV (As := [.int 12]) (rest := []) hC (fun l => m_X7_refused l hY a0 12 M t0) ml_RX7_53 ok_X7_refused dX7_cell_61 t0 ⟨by decide, rfl⟩ rfl (by decide) (Nat.le_of_ble_eq_true rfl) rfl (q := 64) rfl (fun r29 => ?_)
              show gk_K Z Y 4 gk_rI 64 [(0, .ref a0), (1, .int a1), (2, .int a2), (3, .int a3)] [.int r29.1] r29.2 _
              exact gk_iret hC hR dX7_cell_64 rfl
            · refine gk_aload_n hC 0 dX7_cell_65 rfl (q := 66) rfl ?_
              refine gk_getR hC dX7_cell_66 fl_RX7_41 (by decide) t0 (q := 69) rfl (fun t30 => ?_)
              refine gk_iload_n hC 1 dX7_cell_69 rfl (q := 70) rfl ?_
              refine gk_iload_n hC 2 dX7_cell_70 rfl (q := 71) rfl ?_
              refine gk_iload_n hC 3 dX7_cell_71 rfl (q := 72) rfl ?_
              refine gk_callV (As := [.int a1, .int a2, .int a3]) (rest := []) hC (fun l => m_X4_write l hY ((gk_rf Y) a0 4) a1 a2 a3 M t30) ml_RX7_292 ok_X4_write dX7_cell_72 t30 ⟨by decide, rfl⟩ rfl (by decide) (Nat.le_of_ble_eq_true rfl) rfl (q := 75) rfl (fun r31 => ?_)
              show gk_K Z Y 4 gk_rI 75 [(0, .ref a0), (1, .int a1), (2, .int a2), (3, .int a3)] [] r31 _
              refine gk_aload_n hC 0 dX7_cell_75 rfl (q := 76) rfl ?_
              refine gk_iconst hC (v := 1) dX7_cell_76 kc_i_1 (q := 77) rfl ?_
              refine gk_callV (As := [.int 1]) (rest := []) hC (fun l => m_X7_done l hY a0 1 r31 t0) ml_RX7_57 ok_X7_done dX7_cell_77 t0 ⟨by decide, rfl⟩ rfl (by decide) (Nat.le_of_ble_eq_true rfl) rfl (q := 80) rfl (fun r32 => ?_)
              show gk_K Z Y 4 gk_rI 80 [(0, .ref a0), (1, .int a1), (2, .int a2), (3, .int a3)] [.int r32.1] r32.2 _
              exact gk_iret hC hR dX7_cell_80 rfl
          · refine gk_aload_n hC 0 dX7_cell_38 rfl (q := 39) rfl ?_
            refine gk_bipush hC (v := 10) dX7_cell_39 kc_b_10 (q := 41) rfl ?_
            refine gk_callV (As := [.int 10]) (rest := []) hC (fun l => m_X7_refused l hY a0 10 M t0) ml_RX7_53 ok_X7_refused dX7_cell_41 t0 ⟨by decide, rfl⟩ rfl (by decide) (Nat.le_of_ble_eq_true rfl) rfl (q := 44) rfl (fun r33 => ?_)
            show gk_K Z Y 4 gk_rI 44 [(0, .ref a0), (1, .int a1), (2, .int a2), (3, .int a3)] [.int r33.1] r33.2 _
            exact gk_iret hC hR dX7_cell_44 rfl
        · refine gk_pick [0] rfl ?_
          exact hk21_22 ()
def f_X7_orderedFrom (LN : Nat → Nat) (RF : Nat → Nat → Nat) (a0 : Nat) (a1 : Int32) (a2 : Int32) (M : gk_M) : Option (Int32 × gk_M) :=
  (f_X4_read LN RF (RF a0 4) a1 a2 M).bind fun r22 =>
  (f_X4_read LN RF (RF a0 4) a1 (a2 + 1) M).bind fun r24 =>
  (f_X4_read LN RF (RF a0 4) a1 (a2 + 2) M).bind fun r26 =>
  (f_X4_read LN RF (RF a0 4) a1 (a2 + 3) M).bind fun r28 =>
  (f_X4_read LN RF (RF a0 4) a1 (a2 + 4) M).bind fun r30 =>
  (f_X7_isWish LN RF a0 r22 r24 r26 r28 r30 M).bind fun r31 =>
  if r31 = 0 then
    (f_X7_refused LN RF a0 3 M).bind fun r32 =>
    some (r32.1, r32.2)
  else
  (f_X6_added LN RF (RF (RF a0 0) 0) r22 r24 r26 r28 r30 M).bind fun r35 =>
  (f_X7_done LN RF a0 r35.1 r35.2).bind fun r36 =>
  some (r36.1, r36.2)
set_option maxHeartbeats 4000000 in
set_option maxRecDepth 100000 in
theorem m_X7_orderedFrom (l : Launch) {Y : gk_Y} (hY : gk_WF Y) (a0 : Nat) (a1 : Int32) (a2 : Int32) (M : gk_M) (t0 : gk_T Y 17 a0) : gk_MF l Y yX7_orderedFrom cX7_orderedFrom 8 (some .int) 2 [.ref a0, .int a1, .int a2] M gk_rI (f_X7_orderedFrom (gk_ln Y) (gk_rf Y) a0 a1 a2 M) := by
  refine gk_met hY (plainFor_of_name (by decide)) (Nat.le_of_ble_eq_true rfl) fun Z hC hR => ?_
  show gk_K Z Y 8 gk_rI 0 [(0, .ref a0), (1, .int a1), (2, .int a2)] [] M _
  unfold f_X7_orderedFrom
  refine gk_aload_n hC 0 dX7_orderedFrom_0 rfl (q := 1) rfl ?_
  refine gk_getR hC dX7_orderedFrom_1 fl_RX7_41 (by decide) t0 (q := 4) rfl (fun t21 => ?_)
  refine gk_iload_n hC 1 dX7_orderedFrom_4 rfl (q := 5) rfl ?_
  refine gk_iload_n hC 2 dX7_orderedFrom_5 rfl (q := 6) rfl ?_
  refine gk_callV (As := [.int a1, .int a2]) (rest := []) hC (fun l => m_X4_read l hY ((gk_rf Y) a0 4) a1 a2 M t21) ml_RX7_326 ok_X4_read dX7_orderedFrom_6 t21 ⟨by decide, rfl⟩ rfl (by decide) (Nat.le_of_ble_eq_true rfl) rfl (q := 9) rfl (fun r22 => ?_)
  show gk_K Z Y 8 gk_rI 9 [(0, .ref a0), (1, .int a1), (2, .int a2)] [.int r22] M _
  refine gk_istore_n hC (lv' := [(0, .ref a0), (1, .int a1), (2, .int a2), (3, .int r22)]) [1, 2, 3, 0] dX7_orderedFrom_9 (by decide) rfl (q := 10) rfl ?_
  refine gk_aload_n hC 0 dX7_orderedFrom_10 rfl (q := 11) rfl ?_
  refine gk_getR hC dX7_orderedFrom_11 fl_RX7_41 (by decide) t0 (q := 14) rfl (fun t23 => ?_)
  refine gk_iload_n hC 1 dX7_orderedFrom_14 rfl (q := 15) rfl ?_
  refine gk_iload_n hC 2 dX7_orderedFrom_15 rfl (q := 16) rfl ?_
  refine gk_iconst hC (v := 1) dX7_orderedFrom_16 kc_i_1 (q := 17) rfl ?_
  refine gk_iadd hC dX7_orderedFrom_17 (q := 18) rfl ?_
  refine gk_callV (As := [.int a1, .int (a2 + 1)]) (rest := []) hC (fun l => m_X4_read l hY ((gk_rf Y) a0 4) a1 (a2 + 1) M t23) ml_RX7_326 ok_X4_read dX7_orderedFrom_18 t23 ⟨by decide, rfl⟩ rfl (by decide) (Nat.le_of_ble_eq_true rfl) rfl (q := 21) rfl (fun r24 => ?_)
  show gk_K Z Y 8 gk_rI 21 [(0, .ref a0), (1, .int a1), (2, .int a2), (3, .int r22)] [.int r24] M _
  refine gk_istore hC (lv' := [(0, .ref a0), (1, .int a1), (2, .int a2), (3, .int r22), (4, .int r24)]) [1, 2, 3, 4, 0] dX7_orderedFrom_21 (by decide) rfl (q := 23) rfl ?_
  refine gk_aload_n hC 0 dX7_orderedFrom_23 rfl (q := 24) rfl ?_
  refine gk_getR hC dX7_orderedFrom_24 fl_RX7_41 (by decide) t0 (q := 27) rfl (fun t25 => ?_)
  refine gk_iload_n hC 1 dX7_orderedFrom_27 rfl (q := 28) rfl ?_
  refine gk_iload_n hC 2 dX7_orderedFrom_28 rfl (q := 29) rfl ?_
  refine gk_iconst hC (v := 2) dX7_orderedFrom_29 kc_i_2 (q := 30) rfl ?_
  refine gk_iadd hC dX7_orderedFrom_30 (q := 31) rfl ?_
  refine gk_callV (As := [.int a1, .int (a2 + 2)]) (rest := []) hC (fun l => m_X4_read l hY ((gk_rf Y) a0 4) a1 (a2 + 2) M t25) ml_RX7_326 ok_X4_read dX7_orderedFrom_31 t25 ⟨by decide, rfl⟩ rfl (by decide) (Nat.le_of_ble_eq_true rfl) rfl (q := 34) rfl (fun r26 => ?_)
  show gk_K Z Y 8 gk_rI 34 [(0, .ref a0), (1, .int a1), (2, .int a2), (3, .int r22), (4, .int r24)] [.int r26] M _
  refine gk_istore hC (lv' := [(0, .ref a0), (1, .int a1), (2, .int a2), (3, .int r22), (4, .int r24), (5, .int r26)]) [1, 2, 3, 4, 5, 0] dX7_orderedFrom_34 (by decide) rfl (q := 36) rfl ?_
  refine gk_aload_n hC 0 dX7_orderedFrom_36 rfl (q := 37) rfl ?_
  refine gk_getR hC dX7_orderedFrom_37 fl_RX7_41 (by decide) t0 (q := 40) rfl (fun t27 => ?_)
  refine gk_iload_n hC 1 dX7_orderedFrom_40 rfl (q := 41) rfl ?_
  refine gk_iload_n hC 2 dX7_orderedFrom_41 rfl (q := 42) rfl ?_
  refine gk_iconst hC (v := 3) dX7_orderedFrom_42 kc_i_3 (q := 43) rfl ?_
  refine gk_iadd hC dX7_orderedFrom_43 (q := 44) rfl ?_
  refine gk_callV (As := [.int a1, .int (a2 + 3)]) (rest := []) hC (fun l => m_X4_read l hY ((gk_rf Y) a0 4) a1 (a2 + 3) M t27) ml_RX7_326 ok_X4_read dX7_orderedFrom_44 t27 ⟨by decide, rfl⟩ rfl (by decide) (Nat.le_of_ble_eq_true rfl) rfl (q := 47) rfl (fun r28 => ?_)
  show gk_K Z Y 8 gk_rI 47 [(0, .ref a0), (1, .int a1), (2, .int a2), (3, .int r22), (4, .int r24), (5, .int r26)] [.int r28] M _
  refine gk_istore hC (lv' := [(0, .ref a0), (1, .int a1), (2, .int a2), (3, .int r22), (4, .int r24), (5, .int r26), (6, .int r28)]) [1, 2, 3, 4, 5, 6, 0] dX7_orderedFrom_47 (by decide) rfl (q := 49) rfl ?_
  refine gk_aload_n hC 0 dX7_orderedFrom_49 rfl (q := 50) rfl ?_
  refine gk_getR hC dX7_orderedFrom_50 fl_RX7_41 (by decide) t0 (q := 53) rfl (fun t29 => ?_)
  refine gk_iload_n hC 1 dX7_orderedFrom_53 rfl (q := 54) rfl ?_
  refine gk_iload_n hC 2 dX7_orderedFrom_54 rfl (q := 55) rfl ?_
  refine gk_iconst hC (v := 4) dX7_orderedFrom_55 kc_i_4 (q := 56) rfl ?_
  refine gk_iadd hC dX7_orderedFrom_56 (q := 57) rfl ?_
  refine gk_callV (As := [.int a1, .int (a2 + 4)]) (rest := []) hC (fun l => m_X4_read l hY ((gk_rf Y) a0 4) a1 (a2 + 4) M t29) ml_RX7_326 ok_X4_read dX7_orderedFrom_57 t29 ⟨by decide, rfl⟩ rfl (by decide) (Nat.le_of_ble_eq_true rfl) rfl (q := 60) rfl (fun r30 => ?_)
  show gk_K Z Y 8 gk_rI 60 [(0, .ref a0), (1, .int a1), (2, .int a2), (3, .int r22), (4, .int r24), (5, .int r26), (6, .int r28)] [.int r30] M _
  refine gk_istore hC (lv' := [(0, .ref a0), (3, .int r22), (4, .int r24), (5, .int r26), (6, .int r28), (7, .int r30)]) [1, 4, 5, 6, 7, 0] dX7_orderedFrom_60 (by decide) rfl (q := 62) rfl ?_
  refine gk_aload_n hC 0 dX7_orderedFrom_62 rfl (q := 63) rfl ?_
  refine gk_iload_n hC 1 dX7_orderedFrom_63 rfl (q := 64) rfl ?_
  refine gk_iload hC 2 dX7_orderedFrom_64 rfl (q := 66) rfl ?_
  refine gk_iload hC 3 dX7_orderedFrom_66 rfl (q := 68) rfl ?_
  refine gk_iload hC 4 dX7_orderedFrom_68 rfl (q := 70) rfl ?_
  refine gk_iload hC 5 dX7_orderedFrom_70 rfl (q := 72) rfl ?_
  refine gk_callV (As := [.int r22, .int r24, .int r26, .int r28, .int r30]) (rest := []) hC (fun l => m_X7_isWish l hY a0 r22 r24 r26 r28 r30 M t0) ml_RX7_60 ok_X7_isWish dX7_orderedFrom_72 t0 ⟨by decide, rfl⟩ rfl (by decide) (Nat.le_of_ble_eq_true rfl) rfl (q := 75) rfl (fun r31 => ?_)
  show gk_K Z Y 8 gk_rI 75 [(0, .ref a0), (3, .int r22), (4, .int r24), (5, .int r26), (6, .int r28), (7, .int r30)] [.int r31] M _
  refine gk_if_ne hC dX7_orderedFrom_75 (tg := 84) rfl (q := 78) rfl ?_ ?_
  · refine gk_aload_n hC 0 dX7_orderedFrom_78 rfl (q := 79) rfl ?_
    refine gk_iconst hC (v := 3) dX7_orderedFrom_79 kc_i_3 (q := 80) rfl ?_
    refine gk_callV (As := [.int 3]) (rest := []) hC (fun l => m_X7_refused l hY a0 3 M t0) ml_RX7_53 ok_X7_refused dX7_orderedFrom_80 t0 ⟨by decide, rfl⟩ rfl (by decide) (Nat.le_of_ble_eq_true rfl) rfl (q := 83) rfl (fun r32 => ?_)
    show gk_K Z Y 8 gk_rI 83 [(0, .ref a0), (3, .int r22), (4, .int r24), (5, .int r26), (6, .int r28), (7, .int r30)] [.int r32.1] r32.2 _
    exact gk_iret hC hR dX7_orderedFrom_83 rfl
  · refine gk_aload_n hC 0 dX7_orderedFrom_84 rfl (q := 85) rfl ?_
    refine gk_aload_n hC 0 dX7_orderedFrom_85 rfl (q := 86) rfl ?_
    refine gk_getR hC dX7_orderedFrom_86 fl_RX7_17 (by decide) t0 (q := 89) rfl (fun t33 => ?_)
    refine gk_getR hC dX7_orderedFrom_89 fl_RX7_64 (by decide) t33 (q := 92) rfl (fun t34 => ?_)
    refine gk_iload_n hC 1 dX7_orderedFrom_92 rfl (q := 93) rfl ?_
    refine gk_iload hC 2 dX7_orderedFrom_93 rfl (q := 95) rfl ?_
    refine gk_iload hC 3 dX7_orderedFrom_95 rfl (q := 97) rfl ?_
    refine gk_iload hC 4 dX7_orderedFrom_97 rfl (q := 99) rfl ?_
    refine gk_iload hC 5 dX7_orderedFrom_99 rfl (q := 101) rfl ?_
    refine gk_callV (As := [.int r22, .int r24, .int r26, .int r28, .int r30]) (rest := [.ref a0]) hC (fun l => m_X6_added l hY ((gk_rf Y) ((gk_rf Y) a0 0) 0) r22 r24 r26 r28 r30 M t34) ml_RX7_72 ok_X6_added dX7_orderedFrom_101 t34 ⟨by decide, rfl⟩ rfl (by decide) (Nat.le_of_ble_eq_true rfl) rfl (q := 104) rfl (fun r35 => ?_)
    show gk_K Z Y 8 gk_rI 104 [(0, .ref a0), (3, .int r22), (4, .int r24), (5, .int r26), (6, .int r28), (7, .int r30)] [.int r35.1, .ref a0] r35.2 _
    refine gk_callV (As := [.int r35.1]) (rest := []) hC (fun l => m_X7_done l hY a0 r35.1 r35.2 t0) ml_RX7_57 ok_X7_done dX7_orderedFrom_104 t0 ⟨by decide, rfl⟩ rfl (by decide) (Nat.le_of_ble_eq_true rfl) rfl (q := 107) rfl (fun r36 => ?_)
    show gk_K Z Y 8 gk_rI 107 [(0, .ref a0), (3, .int r22), (4, .int r24), (5, .int r26), (6, .int r28), (7, .int r30)] [.int r36.1] r36.2 _
    exact gk_iret hC hR dX7_orderedFrom_107 rfl
def f_X7_order (LN : Nat → Nat) (RF : Nat → Nat → Nat) (a0 : Nat) (a1 : Int32) (a2 : Int32) (a3 : Int32) (M : gk_M) : Option (Int32 × gk_M) :=
  (f_X4_isSheet LN RF a1 M).bind fun r21 =>
  gk_jn (fun y22 : Unit =>
    (f_X7_refused LN RF a0 1 M).bind fun r24 =>
    some (r24.1, r24.2)) fun k14_22 =>
  if r21 = 0 then
    k14_22 ()
  else
  (f_X4_isSort LN RF a2 M).bind fun r25 =>
  if r25 = 0 then
    k14_22 ()
  else
  (f_X6_isFull LN RF (RF (RF a0 0) 0) M).bind fun r28 =>
  if r28 = 0 then
    (f_X4_isMissing LN RF (RF a0 4) a1 M).bind fun r30 =>
    if r30 = 0 then
      gk_ald LN M (RF (RF a0 4) 0) a1 fun x33 =>
      if x33 = a2 then
        (f_X4_hasPlaces LN RF (RF a0 4) a1 a3 5 M).bind fun r35 =>
        if r35 = 0 then
          (f_X7_refused LN RF a0 12 M).bind fun r36 =>
          some (r36.1, r36.2)
        else
        (f_X7_orderedFrom LN RF a0 a1 a3 M).bind fun r37 =>
        some (r37.1, r37.2)
      else
      (f_X7_refused LN RF a0 11 M).bind fun r38 =>
      some (r38.1, r38.2)
    else
    (f_X7_refused LN RF a0 10 M).bind fun r39 =>
    some (r39.1, r39.2)
  else
  (f_X7_refused LN RF a0 2 M).bind fun r40 =>
  some (r40.1, r40.2)
set_option maxHeartbeats 4000000 in
set_option maxRecDepth 100000 in
theorem m_X7_order (l : Launch) {Y : gk_Y} (hY : gk_WF Y) (a0 : Nat) (a1 : Int32) (a2 : Int32) (a3 : Int32) (M : gk_M) (t0 : gk_T Y 17 a0) : gk_MF l Y yX7_order cX7_order 4 (some .int) 3 [.ref a0, .int a1, .int a2, .int a3] M gk_rI (f_X7_order (gk_ln Y) (gk_rf Y) a0 a1 a2 a3 M) := by
  refine gk_met hY (plainFor_of_name (by decide)) (Nat.le_of_ble_eq_true rfl) fun Z hC hR => ?_
  show gk_K Z Y 4 gk_rI 0 [(0, .ref a0), (1, .int a1), (2, .int a2), (3, .int a3)] [] M _
  unfold f_X7_order
  refine gk_iload_n hC 1 dX7_order_0 rfl (q := 1) rfl ?_
  refine gk_callS (As := [.int a1]) (rest := []) hC (fun l => m_X4_isSheet l hY a1 M) ml_RX7_278 ok_X4_isSheet dX7_order_1 rfl (by decide) (Nat.le_of_ble_eq_true rfl) rfl (q := 4) rfl (fun r21 => ?_)
  show gk_K Z Y 4 gk_rI 4 [(0, .ref a0), (1, .int a1), (2, .int a2), (3, .int a3)] [.int r21] M _
  refine gk_jnR (fun k14_22 => ∀ z23 : Unit, gk_K Z Y 4 gk_rI 14 [(0, .ref a0)] [] M (k14_22 z23)) (fun y22 => ?_) (fun k14_22 hk14_22 => ?_)
  · show gk_K Z Y 4 gk_rI 14 [(0, .ref a0)] [] M _
    refine gk_aload_n hC 0 dX7_order_14 rfl (q := 15) rfl ?_
    refine gk_iconst hC (v := 1) dX7_order_15 kc_i_1 (q := 16) rfl ?_
    refine gk_callV (As := [.int 1]) (rest := []) hC (fun l => m_X7_refused l hY a0 1 M t0) ml_RX7_53 ok_X7_refused dX7_order_16 t0 ⟨by decide, rfl⟩ rfl (by decide) (Nat.le_of_ble_eq_true rfl) rfl (q := 19) rfl (fun r24 => ?_)
    show gk_K Z Y 4 gk_rI 19 [(0, .ref a0)] [.int r24.1] r24.2 _
    exact gk_iret hC hR dX7_order_19 rfl
  · refine gk_if_eq hC dX7_order_4 (tg := 14) rfl (q := 7) rfl ?_ ?_
    · refine gk_pick [0] rfl ?_
      exact hk14_22 ()
    · refine gk_iload_n hC 2 dX7_order_7 rfl (q := 8) rfl ?_
      refine gk_callS (As := [.int a2]) (rest := []) hC (fun l => m_X4_isSort l hY a2 M) ml_RX7_275 ok_X4_isSort dX7_order_8 rfl (by decide) (Nat.le_of_ble_eq_true rfl) rfl (q := 11) rfl (fun r25 => ?_)
      show gk_K Z Y 4 gk_rI 11 [(0, .ref a0), (1, .int a1), (2, .int a2), (3, .int a3)] [.int r25] M _
      refine gk_if_ne hC dX7_order_11 (tg := 20) rfl (q := 14) rfl ?_ ?_
      · refine gk_pick [0] rfl ?_
        exact hk14_22 ()
      · refine gk_aload_n hC 0 dX7_order_20 rfl (q := 21) rfl ?_
        refine gk_getR hC dX7_order_21 fl_RX7_17 (by decide) t0 (q := 24) rfl (fun t26 => ?_)
        refine gk_getR hC dX7_order_24 fl_RX7_64 (by decide) t26 (q := 27) rfl (fun t27 => ?_)
        refine gk_callV (As := []) (rest := []) hC (fun l => m_X6_isFull l hY ((gk_rf Y) ((gk_rf Y) a0 0) 0) M t27) ml_RX7_68 ok_X6_isFull dX7_order_27 t27 ⟨by decide, rfl⟩ rfl (by decide) (Nat.le_of_ble_eq_true rfl) rfl (q := 30) rfl (fun r28 => ?_)
        show gk_K Z Y 4 gk_rI 30 [(0, .ref a0), (1, .int a1), (2, .int a2), (3, .int a3)] [.int r28] M _
        refine gk_if_eq hC dX7_order_30 (tg := 39) rfl (q := 33) rfl ?_ ?_
        · refine gk_aload_n hC 0 dX7_order_39 rfl (q := 40) rfl ?_
          refine gk_getR hC dX7_order_40 fl_RX7_41 (by decide) t0 (q := 43) rfl (fun t29 => ?_)
          refine gk_iload_n hC 1 dX7_order_43 rfl (q := 44) rfl ?_
          refine gk_callV (As := [.int a1]) (rest := []) hC (fun l => m_X4_isMissing l hY ((gk_rf Y) a0 4) a1 M t29) ml_RX7_285 ok_X4_isMissing dX7_order_44 t29 ⟨by decide, rfl⟩ rfl (by decide) (Nat.le_of_ble_eq_true rfl) rfl (q := 47) rfl (fun r30 => ?_)
          show gk_K Z Y 4 gk_rI 47 [(0, .ref a0), (1, .int a1), (2, .int a2), (3, .int a3)] [.int r30] M _
          refine gk_if_eq hC dX7_order_47 (tg := 57) rfl (q := 50) rfl ?_ ?_
          · refine gk_aload_n hC 0 dX7_order_57 rfl (q := 58) rfl ?_
            refine gk_getR hC dX7_order_58 fl_RX7_41 (by decide) t0 (q := 61) rfl (fun t31 => ?_)
            refine gk_getR hC dX7_order_61 fl_RX7_295 (by decide) t31 (q := 64) rfl (fun t32 => ?_)
            refine gk_iload_n hC 1 dX7_order_64 rfl (q := 65) rfl ?_
            refine gk_iald hC dX7_order_65 t32 (q := 66) rfl (fun x33 => ?_)
            refine gk_iload_n hC 2 dX7_order_66 rfl (q := 67) rfl ?_
            refine gk_icmp_eq hC dX7_order_67 (tg := 77) rfl (q := 70) rfl ?_ ?_
            · refine gk_aload_n hC 0 dX7_order_77 rfl (q := 78) rfl ?_
              refine gk_getR hC dX7_order_78 fl_RX7_41 (by decide) t0 (q := 81) rfl (fun t34 => ?_)
              refine gk_iload_n hC 1 dX7_order_81 rfl (q := 82) rfl ?_
              refine gk_iload_n hC 3 dX7_order_82 rfl (q := 83) rfl ?_
              refine gk_iconst hC (v := 5) dX7_order_83 kc_i_5 (q := 84) rfl ?_
              refine gk_callV (As := [.int a1, .int a3, .int 5]) (rest := []) hC (fun l => m_X4_hasPlaces l hY ((gk_rf Y) a0 4) a1 a3 5 M t34) ml_RX7_288 ok_X4_hasPlaces dX7_order_84 t34 ⟨by decide, rfl⟩ rfl (by decide) (Nat.le_of_ble_eq_true rfl) rfl (q := 87) rfl (fun r35 => ?_)
              show gk_K Z Y 4 gk_rI 87 [(0, .ref a0), (1, .int a1), (2, .int a2), (3, .int a3)] [.int r35] M _
              refine gk_if_ne hC dX7_order_87 (tg := 97) rfl (q := 90) rfl ?_ ?_
              · refine gk_aload_n hC 0 dX7_order_90 rfl (q := 91) rfl ?_
                refine gk_bipush hC (v := 12) dX7_order_91 kc_b_12 (q := 93) rfl ?_
                refine gk_callV (As := [.int 12]) (rest := []) hC (fun l => m_X7_refused l hY a0 12 M t0) ml_RX7_53 ok_X7_refused dX7_order_93 t0 ⟨by decide, rfl⟩ rfl (by decide) (Nat.le_of_ble_eq_true rfl) rfl (q := 96) rfl (fun r36 => ?_)
                show gk_K Z Y 4 gk_rI 96 [(0, .ref a0), (1, .int a1), (2, .int a2), (3, .int a3)] [.int r36.1] r36.2 _
                exact gk_iret hC hR dX7_order_96 rfl
              · refine gk_aload_n hC 0 dX7_order_97 rfl (q := 98) rfl ?_
                refine gk_iload_n hC 1 dX7_order_98 rfl (q := 99) rfl ?_
                refine gk_iload_n hC 3 dX7_order_99 rfl (q := 100) rfl ?_
                refine gk_callV (As := [.int a1, .int a3]) (rest := []) hC (fun l => m_X7_orderedFrom l hY a0 a1 a3 M t0) ml_RX7_298 ok_X7_orderedFrom dX7_order_100 t0 ⟨by decide, rfl⟩ rfl (by decide) (Nat.le_of_ble_eq_true rfl) rfl (q := 103) rfl (fun r37 => ?_)
                show gk_K Z Y 4 gk_rI 103 [(0, .ref a0), (1, .int a1), (2, .int a2), (3, .int a3)] [.int r37.1] r37.2 _
                exact gk_iret hC hR dX7_order_103 rfl
            · refine gk_aload_n hC 0 dX7_order_70 rfl (q := 71) rfl ?_
              refine gk_bipush hC (v := 11) dX7_order_71 kc_b_11 (q := 73) rfl ?_
              refine gk_callV (As := [.int 11]) (rest := []) hC (fun l => m_X7_refused l hY a0 11 M t0) ml_RX7_53 ok_X7_refused dX7_order_73 t0 ⟨by decide, rfl⟩ rfl (by decide) (Nat.le_of_ble_eq_true rfl) rfl (q := 76) rfl (fun r38 => ?_)
              show gk_K Z Y 4 gk_rI 76 [(0, .ref a0), (1, .int a1), (2, .int a2), (3, .int a3)] [.int r38.1] r38.2 _
              exact gk_iret hC hR dX7_order_76 rfl
          · refine gk_aload_n hC 0 dX7_order_50 rfl (q := 51) rfl ?_
            refine gk_bipush hC (v := 10) dX7_order_51 kc_b_10 (q := 53) rfl ?_
            refine gk_callV (As := [.int 10]) (rest := []) hC (fun l => m_X7_refused l hY a0 10 M t0) ml_RX7_53 ok_X7_refused dX7_order_53 t0 ⟨by decide, rfl⟩ rfl (by decide) (Nat.le_of_ble_eq_true rfl) rfl (q := 56) rfl (fun r39 => ?_)
            show gk_K Z Y 4 gk_rI 56 [(0, .ref a0), (1, .int a1), (2, .int a2), (3, .int a3)] [.int r39.1] r39.2 _
            exact gk_iret hC hR dX7_order_56 rfl
        · refine gk_aload_n hC 0 dX7_order_33 rfl (q := 34) rfl ?_
          refine gk_iconst hC (v := 2) dX7_order_34 kc_i_2 (q := 35) rfl ?_
          refine gk_callV (As := [.int 2]) (rest := []) hC (fun l => m_X7_refused l hY a0 2 M t0) ml_RX7_53 ok_X7_refused dX7_order_35 t0 ⟨by decide, rfl⟩ rfl (by decide) (Nat.le_of_ble_eq_true rfl) rfl (q := 38) rfl (fun r40 => ?_)
          show gk_K Z Y 4 gk_rI 38 [(0, .ref a0), (1, .int a1), (2, .int a2), (3, .int a3)] [.int r40.1] r40.2 _
          exact gk_iret hC hR dX7_order_38 rfl
def f_J9_floorMod_7cf53 (LN : Nat → Nat) (RF : Nat → Nat → Nat) (a0 : Int32) (a1 : Int32) (M : gk_M) : Option (Int32) :=
  if a1 = 0 then none else
  gk_jn (fun y22 : Unit =>
    some (a0 - a0 / a1 * a1)) fun k18_22 =>
  if 0 ≤ (a0 ^^^ a1) then
    k18_22 ()
  else
  if (a0 - a0 / a1 * a1) = 0 then
    k18_22 ()
  else
  some ((a0 - a0 / a1 * a1) + a1)
set_option maxHeartbeats 4000000 in
set_option maxRecDepth 100000 in
theorem m_J9_floorMod_7cf53 (l : Launch) {Y : gk_Y} (hY : gk_WF Y) (a0 : Int32) (a1 : Int32) (M : gk_M)  : gk_MF l Y yJ9_floorMod_7cf53 cJ9_floorMod_7cf53 3 (some .int) 0 [.int a0, .int a1] M (gk_rR M) (f_J9_floorMod_7cf53 (gk_ln Y) (gk_rf Y) a0 a1 M) := by
  refine gk_met hY (by decide +kernel) (Nat.le_of_ble_eq_true rfl) fun Z hC hR => ?_
  show gk_K Z Y 3 (gk_rR M) 0 [(0, .int a0), (1, .int a1)] [] M _
  unfold f_J9_floorMod_7cf53
  refine gk_iload_n hC 0 dJ9_floorMod_7cf53_0 rfl (q := 1) rfl ?_
  refine gk_iload_n hC 1 dJ9_floorMod_7cf53_1 rfl (q := 2) rfl ?_
  refine gk_nz (fun hz21 => ?_)
  refine gk_irem hC dJ9_floorMod_7cf53_2 hz21 (q := 3) rfl ?_
  refine gk_istore_n hC (lv' := [(0, .int a0), (1, .int a1), (2, .int (a0 - a0 / a1 * a1))]) [1, 2, 0] dJ9_floorMod_7cf53_3 (by decide) rfl (q := 4) rfl ?_
  refine gk_iload_n hC 0 dJ9_floorMod_7cf53_4 rfl (q := 5) rfl ?_
  refine gk_iload_n hC 1 dJ9_floorMod_7cf53_5 rfl (q := 6) rfl ?_
  refine gk_ixor hC dJ9_floorMod_7cf53_6 (q := 7) rfl ?_
  refine gk_jnR (fun k18_22 => ∀ z23 : Unit, gk_K Z Y 3 (gk_rR M) 18 [(2, .int (a0 - a0 / a1 * a1))] [] M (k18_22 z23)) (fun y22 => ?_) (fun k18_22 hk18_22 => ?_)
  · show gk_K Z Y 3 (gk_rR M) 18 [(2, .int (a0 - a0 / a1 * a1))] [] M _
    refine gk_iload_n hC 0 dJ9_floorMod_7cf53_18 rfl (q := 19) rfl ?_
    exact gk_iret hC hR dJ9_floorMod_7cf53_19 rfl
  · refine gk_if_ge hC dJ9_floorMod_7cf53_7 (tg := 18) rfl (q := 10) rfl ?_ ?_
    · refine gk_pick [2] rfl ?_
      exact hk18_22 ()
    · refine gk_iload_n hC 2 dJ9_floorMod_7cf53_10 rfl (q := 11) rfl ?_
      refine gk_if_eq hC dJ9_floorMod_7cf53_11 (tg := 18) rfl (q := 14) rfl ?_ ?_
      · refine gk_pick [2] rfl ?_
        exact hk18_22 ()
      · refine gk_iload_n hC 2 dJ9_floorMod_7cf53_14 rfl (q := 15) rfl ?_
        refine gk_iload_n hC 1 dJ9_floorMod_7cf53_15 rfl (q := 16) rfl ?_
        refine gk_iadd hC dJ9_floorMod_7cf53_16 (q := 17) rfl ?_
        exact gk_iret hC hR dJ9_floorMod_7cf53_17 rfl
def f_X7_takenForKind (LN : Nat → Nat) (RF : Nat → Nat → Nat) (a0 : Nat) (a1 : Int32) (a2 : Int32) (M : gk_M) : Option (Int32 × gk_M) :=
  (f_X6_holds LN RF (RF (RF a0 0) 0) a1 M).bind fun r23 =>
  if r23 = 0 then
    (f_X7_refused LN RF a0 10 M).bind fun r24 =>
    some (r24.1, r24.2)
  else
  gk_aldr LN RF (RF (RF (RF a0 0) 0) 0) a1 fun o28 =>
  gk_jn (fun y30 : Int32 =>
    gk_jn (fun y32 : Int32 × gk_M =>
      some (y32.1, y32.2)) fun k82_32 =>
    gk_jn (fun y34 : Unit =>
      (f_X7_done LN RF a0 (M.1 o28 1) M).bind fun r36 =>
      k82_32 (r36.1, r36.2)) fun k68_34 =>
    if (M.1 o28 1) = a2 then
      k68_34 ()
    else
    if y30 = 0 then
      (f_X7_refused LN RF a0 11 M).bind fun r37 =>
      k82_32 (r37.1, r37.2)
    else
    k68_34 ()) fun k56_30 =>
  gk_jn (fun y38 : Unit =>
    k56_30 1) fun k51_38 =>
  if a2 = 0 then
    k51_38 ()
  else
  gk_jn (fun y40 : Unit =>
    k56_30 0) fun k55_40 =>
  if a2 = 2 then
    if (M.1 o28 1) = 3 then
      k51_38 ()
    else
    k55_40 ()
  else
  k55_40 ()
set_option maxHeartbeats 4000000 in
set_option maxRecDepth 100000 in
theorem m_X7_takenForKind (l : Launch) {Y : gk_Y} (hY : gk_WF Y) (a0 : Nat) (a1 : Int32) (a2 : Int32) (M : gk_M) (t0 : gk_T Y 17 a0) : gk_MF l Y yX7_takenForKind cX7_takenForKind 5 (some .int) 1 [.ref a0, .int a1, .int a2] M gk_rI (f_X7_takenForKind (gk_ln Y) (gk_rf Y) a0 a1 a2 M) := by
  refine gk_met hY (plainFor_of_name (by decide)) (Nat.le_of_ble_eq_true rfl) fun Z hC hR => ?_
  show gk_K Z Y 5 gk_rI 0 [(0, .ref a0), (1, .int a1), (2, .int a2)] [] M _
  unfold f_X7_takenForKind
  refine gk_aload_n hC 0 dX7_takenForKind_0 rfl (q := 1) rfl ?_
  refine gk_getR hC dX7_takenForKind_1 fl_RX7_17 (by decide) t0 (q := 4) rfl (fun t21 => ?_)
  refine gk_getR hC dX7_takenForKind_4 fl_RX7_64 (by decide) t21 (q := 7) rfl (fun t22 => ?_)
  refine gk_iload_n hC 1 dX7_takenForKind_7 rfl (q := 8) rfl ?_
  refine gk_callV (As := [.int a1]) (rest := []) hC (fun l => m_X6_holds l hY ((gk_rf Y) ((gk_rf Y) a0 0) 0) a1 M t22) ml_RX7_76 ok_X6_holds dX7_takenForKind_8 t22 ⟨by decide, rfl⟩ rfl (by decide) (Nat.le_of_ble_eq_true rfl) rfl (q := 11) rfl (fun r23 => ?_)
  show gk_K Z Y 5 gk_rI 11 [(0, .ref a0), (1, .int a1), (2, .int a2)] [.int r23] M _
  refine gk_if_ne hC dX7_takenForKind_11 (tg := 21) rfl (q := 14) rfl ?_ ?_
  · refine gk_aload_n hC 0 dX7_takenForKind_14 rfl (q := 15) rfl ?_
    refine gk_bipush hC (v := 10) dX7_takenForKind_15 kc_b_10 (q := 17) rfl ?_
    refine gk_callV (As := [.int 10]) (rest := []) hC (fun l => m_X7_refused l hY a0 10 M t0) ml_RX7_53 ok_X7_refused dX7_takenForKind_17 t0 ⟨by decide, rfl⟩ rfl (by decide) (Nat.le_of_ble_eq_true rfl) rfl (q := 20) rfl (fun r24 => ?_)
    show gk_K Z Y 5 gk_rI 20 [(0, .ref a0), (1, .int a1), (2, .int a2)] [.int r24.1] r24.2 _
    exact gk_iret hC hR dX7_takenForKind_20 rfl
  · refine gk_aload_n hC 0 dX7_takenForKind_21 rfl (q := 22) rfl ?_
    refine gk_getR hC dX7_takenForKind_22 fl_RX7_17 (by decide) t0 (q := 25) rfl (fun t25 => ?_)
    refine gk_getR hC dX7_takenForKind_25 fl_RX7_64 (by decide) t25 (q := 28) rfl (fun t26 => ?_)
    refine gk_getR hC dX7_takenForKind_28 fl_RX7_80 (by decide) t26 (q := 31) rfl (fun t27 => ?_)
    refine gk_iload_n hC 1 dX7_takenForKind_31 rfl (q := 32) rfl ?_
    refine gk_aald hC dX7_takenForKind_32 (Or.inr (Or.inl rfl)) t27 (q := 33) rfl (fun o28 t29 => ?_)
    refine gk_getI hC dX7_takenForKind_33 fl_RX7_143 t29 (q := 36) rfl ?_
    refine gk_istore_n hC (lv' := [(0, .ref a0), (2, .int a2), (3, .int (M.1 o28 1))]) [1, 3, 0] dX7_takenForKind_36 (by decide) rfl (q := 37) rfl ?_
    refine gk_iload_n hC 1 dX7_takenForKind_37 rfl (q := 38) rfl ?_
    refine gk_jnR (fun k56_30 => ∀ z31 : Int32, gk_K Z Y 5 gk_rI 56 [(0, .ref a0), (2, .int a2), (3, .int (M.1 o28 1))] [.int z31] M (k56_30 z31)) (fun y30 => ?_) (fun k56_30 hk56_30 => ?_)
    · show gk_K Z Y 5 gk_rI 56 [(0, .ref a0), (2, .int a2), (3, .int (M.1 o28 1))] [.int y30] M _
      refine gk_istore hC (lv' := [(0, .ref a0), (2, .int a2), (3, .int (M.1 o28 1)), (4, .int y30)]) [1, 2, 3, 0] dX7_takenForKind_56 (by decide) rfl (q := 58) rfl ?_
      refine gk_iload_n hC 2 dX7_takenForKind_58 rfl (q := 59) rfl ?_
      refine gk_iload_n hC 1 dX7_takenForKind_59 rfl (q := 60) rfl ?_
      refine gk_jnR (fun k82_32 => ∀ z33 : Int32 × gk_M, gk_K Z Y 5 gk_rI 82 [] [.int z33.1] z33.2 (k82_32 z33)) (fun y32 => ?_) (fun k82_32 hk82_32 => ?_)
      · show gk_K Z Y 5 gk_rI 82 [] [.int y32.1] y32.2 _
        exact gk_iret hC hR dX7_takenForKind_82 rfl
      · refine gk_jnR (fun k68_34 => ∀ z35 : Unit, gk_K Z Y 5 gk_rI 68 [(0, .ref a0), (3, .int (M.1 o28 1))] [] M (k68_34 z35)) (fun y34 => ?_) (fun k68_34 hk68_34 => ?_)
        · show gk_K Z Y 5 gk_rI 68 [(0, .ref a0), (3, .int (M.1 o28 1))] [] M _
          refine gk_aload_n hC 0 dX7_takenForKind_68 rfl (q := 69) rfl ?_
          refine gk_iload_n hC 1 dX7_takenForKind_69 rfl (q := 70) rfl ?_
          refine gk_callV (As := [.int (M.1 o28 1)]) (rest := []) hC (fun l => m_X7_done l hY a0 (M.1 o28 1) M t0) ml_RX7_57 ok_X7_done dX7_takenForKind_70 t0 ⟨by decide, rfl⟩ rfl (by decide) (Nat.le_of_ble_eq_true rfl) rfl (q := 73) rfl (fun r36 => ?_)
          show gk_K Z Y 5 gk_rI 73 [(0, .ref a0), (3, .int (M.1 o28 1))] [.int r36.1] r36.2 _
          refine gk_goto hC dX7_takenForKind_73 (q := 82) rfl ?_
          refine gk_pick [] rfl ?_
          exact hk82_32 (r36.1, r36.2)
        · refine gk_icmp_eq hC dX7_takenForKind_60 (tg := 68) rfl (q := 63) rfl ?_ ?_
          · refine gk_pick [0, 2] rfl ?_
            exact hk68_34 ()
          · refine gk_iload hC 3 dX7_takenForKind_63 rfl (q := 65) rfl ?_
            refine gk_if_eq hC dX7_takenForKind_65 (tg := 76) rfl (q := 68) rfl ?_ ?_
            · refine gk_aload_n hC 0 dX7_takenForKind_76 rfl (q := 77) rfl ?_
              refine gk_bipush hC (v := 11) dX7_takenForKind_77 kc_b_11 (q := 79) rfl ?_
              refine gk_callV (As := [.int 11]) (rest := []) hC (fun l => m_X7_refused l hY a0 11 M t0) ml_RX7_53 ok_X7_refused dX7_takenForKind_79 t0 ⟨by decide, rfl⟩ rfl (by decide) (Nat.le_of_ble_eq_true rfl) rfl (q := 82) rfl (fun r37 => ?_)
              show gk_K Z Y 5 gk_rI 82 [(0, .ref a0), (2, .int a2), (3, .int (M.1 o28 1)), (4, .int y30)] [.int r37.1] r37.2 _
              refine gk_pick [] rfl ?_
              exact hk82_32 (r37.1, r37.2)
            · refine gk_pick [0, 2] rfl ?_
              exact hk68_34 ()
    · refine gk_jnR (fun k51_38 => ∀ z39 : Unit, gk_K Z Y 5 gk_rI 51 [(0, .ref a0), (2, .int a2), (3, .int (M.1 o28 1))] [] M (k51_38 z39)) (fun y38 => ?_) (fun k51_38 hk51_38 => ?_)
      · show gk_K Z Y 5 gk_rI 51 [(0, .ref a0), (2, .int a2), (3, .int (M.1 o28 1))] [] M _
        refine gk_iconst hC (v := 1) dX7_takenForKind_51 kc_i_1 (q := 52) rfl ?_
        refine gk_goto hC dX7_takenForKind_52 (q := 56) rfl ?_
        exact hk56_30 1
      · refine gk_if_eq hC dX7_takenForKind_38 (tg := 51) rfl (q := 41) rfl ?_ ?_
        · exact hk51_38 ()
        · refine gk_iload_n hC 1 dX7_takenForKind_41 rfl (q := 42) rfl ?_
          refine gk_iconst hC (v := 2) dX7_takenForKind_42 kc_i_2 (q := 43) rfl ?_
          refine gk_jnR (fun k55_40 => ∀ z41 : Unit, gk_K Z Y 5 gk_rI 55 [(0, .ref a0), (2, .int a2), (3, .int (M.1 o28 1))] [] M (k55_40 z41)) (fun y40 => ?_) (fun k55_40 hk55_40 => ?_)
          · show gk_K Z Y 5 gk_rI 55 [(0, .ref a0), (2, .int a2), (3, .int (M.1 o28 1))] [] M _
            refine gk_iconst hC (v := 0) dX7_takenForKind_55 kc_i_0 (q := 56) rfl ?_
            exact hk56_30 0
          · refine gk_icmp_ne hC dX7_takenForKind_43 (tg := 55) rfl (q := 46) rfl ?_ ?_
            · refine gk_iload_n hC 2 dX7_takenForKind_46 rfl (q := 47) rfl ?_
              refine gk_iconst hC (v := 3) dX7_takenForKind_47 kc_i_3 (q := 48) rfl ?_
              refine gk_icmp_ne hC dX7_takenForKind_48 (tg := 55) rfl (q := 51) rfl ?_ ?_
              · exact hk51_38 ()
              · exact hk55_40 ()
            · exact hk55_40 ()
def f_X7_readAsShort (LN : Nat → Nat) (RF : Nat → Nat → Nat) (a0 : Nat) (a1 : Int32) (a2 : Int32) (M : gk_M) : Option (Int32 × gk_M) :=
  (f_X4_isMissing LN RF (RF a0 4) a1 M).bind fun r22 =>
  if r22 = 0 then
    gk_ald LN M (RF (RF a0 4) 0) a1 fun x25 =>
    if x25 = 1 then
      (f_X4_hasPlaces LN RF (RF a0 4) a1 a2 1 M).bind fun r27 =>
      gk_jn (fun y28 : Int32 × gk_M =>
        some (y28.1, y28.2)) fun k73_28 =>
      if r27 = 0 then
        (f_X7_refused LN RF a0 12 M).bind fun r30 =>
        k73_28 (r30.1, r30.2)
      else
      (f_X4_read LN RF (RF a0 4) a1 a2 M).bind fun r32 =>
      (f_X7_done LN RF a0 r32 M).bind fun r33 =>
      k73_28 (r33.1, r33.2)
    else
    (f_X7_refused LN RF a0 11 M).bind fun r34 =>
    some (r34.1, r34.2)
  else
  (f_X7_refused LN RF a0 10 M).bind fun r35 =>
  some (r35.1, r35.2)
set_option maxHeartbeats 4000000 in
set_option maxRecDepth 100000 in
theorem m_X7_readAsShort (l : Launch) {Y : gk_Y} (hY : gk_WF Y) (a0 : Nat) (a1 : Int32) (a2 : Int32) (M : gk_M) (t0 : gk_T Y 17 a0) : gk_MF l Y yX7_readAsShort cX7_readAsShort 3 (some .int) 1 [.ref a0, .int a1, .int a2] M gk_rI (f_X7_readAsShort (gk_ln Y) (gk_rf Y) a0 a1 a2 M) := by
  refine gk_met hY (plainFor_of_name (by decide)) (Nat.le_of_ble_eq_true rfl) fun Z hC hR => ?_
  show gk_K Z Y 3 gk_rI 0 [(0, .ref a0), (1, .int a1), (2, .int a2)] [] M _
  unfold f_X7_readAsShort
  refine gk_aload_n hC 0 dX7_readAsShort_0 rfl (q := 1) rfl ?_
  refine gk_getR hC dX7_readAsShort_1 fl_RX7_41 (by decide) t0 (q := 4) rfl (fun t21 => ?_)
  refine gk_iload_n hC 1 dX7_readAsShort_4 rfl (q := 5) rfl ?_
  refine gk_callV (As := [.int a1]) (rest := []) hC (fun l => m_X4_isMissing l hY ((gk_rf Y) a0 4) a1 M t21) ml_RX7_285 ok_X4_isMissing dX7_readAsShort_5 t21 ⟨by decide, rfl⟩ rfl (by decide) (Nat.le_of_ble_eq_true rfl) rfl (q := 8) rfl (fun r22 => ?_)
  show gk_K Z Y 3 gk_rI 8 [(0, .ref a0), (1, .int a1), (2, .int a2)] [.int r22] M _
  refine gk_if_eq hC dX7_readAsShort_8 (tg := 18) rfl (q := 11) rfl ?_ ?_
  · refine gk_aload_n hC 0 dX7_readAsShort_18 rfl (q := 19) rfl ?_
    refine gk_getR hC dX7_readAsShort_19 fl_RX7_41 (by decide) t0 (q := 22) rfl (fun t23 => ?_)
    refine gk_getR hC dX7_readAsShort_22 fl_RX7_295 (by decide) t23 (q := 25) rfl (fun t24 => ?_)
    refine gk_iload_n hC 1 dX7_readAsShort_25 rfl (q := 26) rfl ?_
    refine gk_iald hC dX7_readAsShort_26 t24 (q := 27) rfl (fun x25 => ?_)
    refine gk_iconst hC (v := 1) dX7_readAsShort_27 kc_i_1 (q := 28) rfl ?_
    refine gk_icmp_eq hC dX7_readAsShort_28 (tg := 38) rfl (q := 31) rfl ?_ ?_
    · refine gk_aload_n hC 0 dX7_readAsShort_38 rfl (q := 39) rfl ?_
      refine gk_getR hC dX7_readAsShort_39 fl_RX7_41 (by decide) t0 (q := 42) rfl (fun t26 => ?_)
      refine gk_iload_n hC 1 dX7_readAsShort_42 rfl (q := 43) rfl ?_
      refine gk_iload_n hC 2 dX7_readAsShort_43 rfl (q := 44) rfl ?_
      refine gk_iconst hC (v := 1) dX7_readAsShort_44 kc_i_1 (q := 45) rfl ?_
      refine gk_callV (As := [.int a1, .int a2, .int 1]) (rest := []) hC (fun l => m_X4_hasPlaces l hY ((gk_rf Y) a0 4) a1 a2 1 M t26) ml_RX7_288 ok_X4_hasPlaces dX7_readAsShort_45 t26 ⟨by decide, rfl⟩ rfl (by decide) (Nat.le_of_ble_eq_true rfl) rfl (q := 48) rfl (fun r27 => ?_)
      show gk_K Z Y 3 gk_rI 48 [(0, .ref a0), (1, .int a1), (2, .int a2)] [.int r27] M _
      refine gk_jnR (fun k73_28 => ∀ z29 : Int32 × gk_M, gk_K Z Y 3 gk_rI 73 [] [.int z29.1] z29.2 (k73_28 z29)) (fun y28 => ?_) (fun k73_28 hk73_28 => ?_)
      · show gk_K Z Y 3 gk_rI 73 [] [.int y28.1] y28.2 _
        exact gk_iret hC hR dX7_readAsShort_73 rfl
      · refine gk_if_eq hC dX7_readAsShort_48 (tg := 67) rfl (q := 51) rfl ?_ ?_
        · refine gk_aload_n hC 0 dX7_readAsShort_67 rfl (q := 68) rfl ?_
          refine gk_bipush hC (v := 12) dX7_readAsShort_68 kc_b_12 (q := 70) rfl ?_
          refine gk_callV (As := [.int 12]) (rest := []) hC (fun l => m_X7_refused l hY a0 12 M t0) ml_RX7_53 ok_X7_refused dX7_readAsShort_70 t0 ⟨by decide, rfl⟩ rfl (by decide) (Nat.le_of_ble_eq_true rfl) rfl (q := 73) rfl (fun r30 => ?_)
          show gk_K Z Y 3 gk_rI 73 [(0, .ref a0), (1, .int a1), (2, .int a2)] [.int r30.1] r30.2 _
          refine gk_pick [] rfl ?_
          exact hk73_28 (r30.1, r30.2)
        · refine gk_aload_n hC 0 dX7_readAsShort_51 rfl (q := 52) rfl ?_
          refine gk_aload_n hC 0 dX7_readAsShort_52 rfl (q := 53) rfl ?_
          refine gk_getR hC dX7_readAsShort_53 fl_RX7_41 (by decide) t0 (q := 56) rfl (fun t31 => ?_)
          refine gk_iload_n hC 1 dX7_readAsShort_56 rfl (q := 57) rfl ?_
          refine gk_iload_n hC 2 dX7_readAsShort_57 rfl (q := 58) rfl ?_
          refine gk_callV (As := [.int a1, .int a2]) (rest := [.ref a0]) hC (fun l => m_X4_read l hY ((gk_rf Y) a0 4) a1 a2 M t31) ml_RX7_326 ok_X4_read dX7_readAsShort_58 t31 ⟨by decide, rfl⟩ rfl (by decide) (Nat.le_of_ble_eq_true rfl) rfl (q := 61) rfl (fun r32 => ?_)
          show gk_K Z Y 3 gk_rI 61 [(0, .ref a0), (1, .int a1), (2, .int a2)] [.int r32, .ref a0] M _
          refine gk_callV (As := [.int r32]) (rest := []) hC (fun l => m_X7_done l hY a0 r32 M t0) ml_RX7_57 ok_X7_done dX7_readAsShort_61 t0 ⟨by decide, rfl⟩ rfl (by decide) (Nat.le_of_ble_eq_true rfl) rfl (q := 64) rfl (fun r33 => ?_)
          show gk_K Z Y 3 gk_rI 64 [(0, .ref a0), (1, .int a1), (2, .int a2)] [.int r33.1] r33.2 _
          refine gk_goto hC dX7_readAsShort_64 (q := 73) rfl ?_
          refine gk_pick [] rfl ?_
          exact hk73_28 (r33.1, r33.2)
    · refine gk_aload_n hC 0 dX7_readAsShort_31 rfl (q := 32) rfl ?_
      refine gk_bipush hC (v := 11) dX7_readAsShort_32 kc_b_11 (q := 34) rfl ?_
      refine gk_callV (As := [.int 11]) (rest := []) hC (fun l => m_X7_refused l hY a0 11 M t0) ml_RX7_53 ok_X7_refused dX7_readAsShort_34 t0 ⟨by decide, rfl⟩ rfl (by decide) (Nat.le_of_ble_eq_true rfl) rfl (q := 37) rfl (fun r34 => ?_)
      show gk_K Z Y 3 gk_rI 37 [(0, .ref a0), (1, .int a1), (2, .int a2)] [.int r34.1] r34.2 _
      exact gk_iret hC hR dX7_readAsShort_37 rfl
  · refine gk_aload_n hC 0 dX7_readAsShort_11 rfl (q := 12) rfl ?_
    refine gk_bipush hC (v := 10) dX7_readAsShort_12 kc_b_10 (q := 14) rfl ?_
    refine gk_callV (As := [.int 10]) (rest := []) hC (fun l => m_X7_refused l hY a0 10 M t0) ml_RX7_53 ok_X7_refused dX7_readAsShort_14 t0 ⟨by decide, rfl⟩ rfl (by decide) (Nat.le_of_ble_eq_true rfl) rfl (q := 17) rfl (fun r35 => ?_)
    show gk_K Z Y 3 gk_rI 17 [(0, .ref a0), (1, .int a1), (2, .int a2)] [.int r35.1] r35.2 _
    exact gk_iret hC hR dX7_readAsShort_17 rfl
def lp_X7_copiedAsBytes_74 (LN : Nat → Nat) (RF : Nat → Nat → Nat) (v0 : Nat) (v1 : Int32) (v2 : Int32) (M : gk_M) (k99 : Int32 → Option (Int32 × gk_M)) : Nat → (Int32 × Int32) → Option (Int32 × gk_M)
  | 0, _ => none
  | n + 1, x =>
    if v2 < x.2 then
      k99 x.1
    else
    (f_X4_read LN RF (RF v0 4) v1 x.2 M).bind fun r2 =>
    lp_X7_copiedAsBytes_74 LN RF v0 v1 v2 M k99 n ((x.1 + r2), (x.2 + 1))
def f_X7_copiedAsBytes (LN : Nat → Nat) (RF : Nat → Nat → Nat) (a0 : Nat) (a1 : Int32) (a2 : Int32) (M : gk_M) : Option (Int32 × gk_M) :=
  (f_X4_isMissing LN RF (RF a0 4) a1 M).bind fun r22 =>
  if r22 = 0 then
    gk_ald LN M (RF (RF a0 4) 0) a1 fun x25 =>
    if x25 = 0 then
      gk_jn (fun y26 : Unit =>
        (f_X7_refused LN RF a0 12 M).bind fun r28 =>
        some (r28.1, r28.2)) fun k62_26 =>
      if a2 < 0 then
        k62_26 ()
      else
      if 6 < (a2 + a2) then
        k62_26 ()
      else
      (f_X4_hasPlaces LN RF (RF a0 4) a1 1 a2 M).bind fun r30 =>
      if r30 = 0 then
        k62_26 ()
      else
      gk_jn (fun y31 : Int32 =>
        (f_X7_done LN RF a0 y31 M).bind fun r33 =>
        some (r33.1, r33.2)) fun k99_31 =>
      lp_X7_copiedAsBytes_74 LN RF a0 a1 a2 M k99_31 gk_fuel (0, 1)
    else
    (f_X7_refused LN RF a0 11 M).bind fun r35 =>
    some (r35.1, r35.2)
  else
  (f_X7_refused LN RF a0 10 M).bind fun r36 =>
  some (r36.1, r36.2)
set_option maxHeartbeats 4000000 in
set_option maxRecDepth 100000 in
theorem lk_X7_copiedAsBytes_74 {Z : gk_Z} {Y : gk_Y} (hY : gk_WF Y) (hC : gk_C Z Y cX7_copiedAsBytes 5 RX7 1) (hR : gk_R Z Y (some .int)) (v0 : Nat) (v1 : Int32) (v2 : Int32) (M : gk_M) (tv0 : gk_T Y 17 v0) (k99 : Int32 → Option (Int32 × gk_M)) (hk99 : ∀ z34 : Int32, gk_K Z Y 5 gk_rI 99 [(0, .ref v0), (3, .int z34)] [] M (k99 z34)) : ∀ (n : Nat) (x : Int32 × Int32), gk_K Z Y 5 gk_rI 74 [(0, .ref v0), (1, .int v1), (2, .int v2), (3, .int x.1), (4, .int x.2)] [] M (lp_X7_copiedAsBytes_74 (gk_ln Y) (gk_rf Y) v0 v1 v2 M k99 n x) := by
  intro n
  induction n with
  | zero => intro x; exact gk_none
  | succ n ih =>
    intro x
    rw [lp_X7_copiedAsBytes_74]
    refine gk_iload hC 4 dX7_copiedAsBytes_74 rfl (q := 76) rfl ?_
    refine gk_iload_n hC 2 dX7_copiedAsBytes_76 rfl (q := 77) rfl ?_
    refine gk_icmp_gt hC dX7_copiedAsBytes_77 (tg := 99) rfl (q := 80) rfl ?_ ?_
    · refine gk_pick [0, 3] rfl ?_
      exact hk99 x.1
    · refine gk_iload_n hC 3 dX7_copiedAsBytes_80 rfl (q := 81) rfl ?_
      refine gk_aload_n hC 0 dX7_copiedAsBytes_81 rfl (q := 82) rfl ?_
      refine gk_getR hC dX7_copiedAsBytes_82 fl_RX7_41 (by decide) tv0 (q := 85) rfl (fun t1 => ?_)
      refine gk_iload_n hC 1 dX7_copiedAsBytes_85 rfl (q := 86) rfl ?_
      refine gk_iload hC 4 dX7_copiedAsBytes_86 rfl (q := 88) rfl ?_
      refine gk_callV (As := [.int v1, .int x.2]) (rest := [.int x.1]) hC (fun l => m_X4_read l hY ((gk_rf Y) v0 4) v1 x.2 M t1) ml_RX7_326 ok_X4_read dX7_copiedAsBytes_88 t1 ⟨by decide, rfl⟩ rfl (by decide) (Nat.le_of_ble_eq_true rfl) rfl (q := 91) rfl (fun r2 => ?_)
      show gk_K Z Y 5 gk_rI 91 [(0, .ref v0), (1, .int v1), (2, .int v2), (3, .int x.1), (4, .int x.2)] [.int r2, .int x.1] M _
      refine gk_iadd hC dX7_copiedAsBytes_91 (q := 92) rfl ?_
      refine gk_istore_n hC (lv' := [(0, .ref v0), (1, .int v1), (2, .int v2), (3, .int (x.1 + r2)), (4, .int x.2)]) [1, 2, 3, 0, 4] dX7_copiedAsBytes_92 (by decide) rfl (q := 93) rfl ?_
      refine gk_iinc hC (v := 1) 4 (lv' := [(0, .ref v0), (1, .int v1), (2, .int v2), (3, .int (x.1 + r2)), (4, .int (x.2 + 1))]) [1, 2, 3, 4, 0] dX7_copiedAsBytes_93 rfl kc_i_1 (by decide) rfl (q := 96) rfl ?_
      refine gk_goto hC dX7_copiedAsBytes_96 (q := 74) rfl ?_
      exact ih ((x.1 + r2), (x.2 + 1))
set_option maxHeartbeats 4000000 in
set_option maxRecDepth 100000 in
theorem m_X7_copiedAsBytes (l : Launch) {Y : gk_Y} (hY : gk_WF Y) (a0 : Nat) (a1 : Int32) (a2 : Int32) (M : gk_M) (t0 : gk_T Y 17 a0) : gk_MF l Y yX7_copiedAsBytes cX7_copiedAsBytes 5 (some .int) 1 [.ref a0, .int a1, .int a2] M gk_rI (f_X7_copiedAsBytes (gk_ln Y) (gk_rf Y) a0 a1 a2 M) := by
  refine gk_met hY (plainFor_of_name (by decide)) (Nat.le_of_ble_eq_true rfl) fun Z hC hR => ?_
  show gk_K Z Y 5 gk_rI 0 [(0, .ref a0), (1, .int a1), (2, .int a2)] [] M _
  unfold f_X7_copiedAsBytes
  refine gk_aload_n hC 0 dX7_copiedAsBytes_0 rfl (q := 1) rfl ?_
  refine gk_getR hC dX7_copiedAsBytes_1 fl_RX7_41 (by decide) t0 (q := 4) rfl (fun t21 => ?_)
  refine gk_iload_n hC 1 dX7_copiedAsBytes_4 rfl (q := 5) rfl ?_
  refine gk_callV (As := [.int a1]) (rest := []) hC (fun l => m_X4_isMissing l hY ((gk_rf Y) a0 4) a1 M t21) ml_RX7_285 ok_X4_isMissing dX7_copiedAsBytes_5 t21 ⟨by decide, rfl⟩ rfl (by decide) (Nat.le_of_ble_eq_true rfl) rfl (q := 8) rfl (fun r22 => ?_)
  show gk_K Z Y 5 gk_rI 8 [(0, .ref a0), (1, .int a1), (2, .int a2)] [.int r22] M _
  refine gk_if_eq hC dX7_copiedAsBytes_8 (tg := 18) rfl (q := 11) rfl ?_ ?_
  · refine gk_aload_n hC 0 dX7_copiedAsBytes_18 rfl (q := 19) rfl ?_
    refine gk_getR hC dX7_copiedAsBytes_19 fl_RX7_41 (by decide) t0 (q := 22) rfl (fun t23 => ?_)
    refine gk_getR hC dX7_copiedAsBytes_22 fl_RX7_295 (by decide) t23 (q := 25) rfl (fun t24 => ?_)
    refine gk_iload_n hC 1 dX7_copiedAsBytes_25 rfl (q := 26) rfl ?_
    refine gk_iald hC dX7_copiedAsBytes_26 t24 (q := 27) rfl (fun x25 => ?_)
    refine gk_if_eq hC dX7_copiedAsBytes_27 (tg := 37) rfl (q := 30) rfl ?_ ?_
    · refine gk_iload_n hC 2 dX7_copiedAsBytes_37 rfl (q := 38) rfl ?_
      refine gk_jnR (fun k62_26 => ∀ z27 : Unit, gk_K Z Y 5 gk_rI 62 [(0, .ref a0)] [] M (k62_26 z27)) (fun y26 => ?_) (fun k62_26 hk62_26 => ?_)
      · show gk_K Z Y 5 gk_rI 62 [(0, .ref a0)] [] M _
        refine gk_aload_n hC 0 dX7_copiedAsBytes_62 rfl (q := 63) rfl ?_
        refine gk_bipush hC (v := 12) dX7_copiedAsBytes_63 kc_b_12 (q := 65) rfl ?_
        refine gk_callV (As := [.int 12]) (rest := []) hC (fun l => m_X7_refused l hY a0 12 M t0) ml_RX7_53 ok_X7_refused dX7_copiedAsBytes_65 t0 ⟨by decide, rfl⟩ rfl (by decide) (Nat.le_of_ble_eq_true rfl) rfl (q := 68) rfl (fun r28 => ?_)
        show gk_K Z Y 5 gk_rI 68 [(0, .ref a0)] [.int r28.1] r28.2 _
        exact gk_iret hC hR dX7_copiedAsBytes_68 rfl
      · refine gk_if_lt hC dX7_copiedAsBytes_38 (tg := 62) rfl (q := 41) rfl ?_ ?_
        · refine gk_pick [0] rfl ?_
          exact hk62_26 ()
        · refine gk_iload_n hC 2 dX7_copiedAsBytes_41 rfl (q := 42) rfl ?_
          refine gk_iload_n hC 2 dX7_copiedAsBytes_42 rfl (q := 43) rfl ?_
          refine gk_iadd hC dX7_copiedAsBytes_43 (q := 44) rfl ?_
          refine gk_bipush hC (v := 6) dX7_copiedAsBytes_44 kc_b_6 (q := 46) rfl ?_
          refine gk_icmp_gt hC dX7_copiedAsBytes_46 (tg := 62) rfl (q := 49) rfl ?_ ?_
          · refine gk_pick [0] rfl ?_
            exact hk62_26 ()
          · refine gk_aload_n hC 0 dX7_copiedAsBytes_49 rfl (q := 50) rfl ?_
            refine gk_getR hC dX7_copiedAsBytes_50 fl_RX7_41 (by decide) t0 (q := 53) rfl (fun t29 => ?_)
            refine gk_iload_n hC 1 dX7_copiedAsBytes_53 rfl (q := 54) rfl ?_
            refine gk_iconst hC (v := 1) dX7_copiedAsBytes_54 kc_i_1 (q := 55) rfl ?_
            refine gk_iload_n hC 2 dX7_copiedAsBytes_55 rfl (q := 56) rfl ?_
            refine gk_callV (As := [.int a1, .int 1, .int a2]) (rest := []) hC (fun l => m_X4_hasPlaces l hY ((gk_rf Y) a0 4) a1 1 a2 M t29) ml_RX7_288 ok_X4_hasPlaces dX7_copiedAsBytes_56 t29 ⟨by decide, rfl⟩ rfl (by decide) (Nat.le_of_ble_eq_true rfl) rfl (q := 59) rfl (fun r30 => ?_)
            show gk_K Z Y 5 gk_rI 59 [(0, .ref a0), (1, .int a1), (2, .int a2)] [.int r30] M _
            refine gk_if_ne hC dX7_copiedAsBytes_59 (tg := 69) rfl (q := 62) rfl ?_ ?_
            · refine gk_pick [0] rfl ?_
              exact hk62_26 ()
            · refine gk_iconst hC (v := 0) dX7_copiedAsBytes_69 kc_i_0 (q := 70) rfl ?_
              refine gk_istore_n hC (lv' := [(0, .ref a0), (1, .int a1), (2, .int a2), (3, .int 0)]) [1, 2, 3, 0] dX7_copiedAsBytes_70 (by decide) rfl (q := 71) rfl ?_
              refine gk_iconst hC (v := 1) dX7_copiedAsBytes_71 kc_i_1 (q := 72) rfl ?_
              refine gk_istore hC (lv' := [(0, .ref a0), (1, .int a1), (2, .int a2), (3, .int 0), (4, .int 1)]) [1, 2, 3, 4, 0] dX7_copiedAsBytes_72 (by decide) rfl (q := 74) rfl ?_
              refine gk_jnR (fun k99_31 => ∀ z32 : Int32, gk_K Z Y 5 gk_rI 99 [(0, .ref a0), (3, .int z32)] [] M (k99_31 z32)) (fun y31 => ?_) (fun k99_31 hk99_31 => ?_)
              · show gk_K Z Y 5 gk_rI 99 [(0, .ref a0), (3, .int y31)] [] M _
                refine gk_aload_n hC 0 dX7_copiedAsBytes_99 rfl (q := 100) rfl ?_
                refine gk_iload_n hC 1 dX7_copiedAsBytes_100 rfl (q := 101) rfl ?_
                refine gk_callV (As := [.int y31]) (rest := []) hC (fun l => m_X7_done l hY a0 y31 M t0) ml_RX7_57 ok_X7_done dX7_copiedAsBytes_101 t0 ⟨by decide, rfl⟩ rfl (by decide) (Nat.le_of_ble_eq_true rfl) rfl (q := 104) rfl (fun r33 => ?_)
                show gk_K Z Y 5 gk_rI 104 [(0, .ref a0), (3, .int y31)] [.int r33.1] r33.2 _
                exact gk_iret hC hR dX7_copiedAsBytes_104 rfl
              · exact lk_X7_copiedAsBytes_74 hY hC hR a0 a1 a2 M t0 k99_31 hk99_31 gk_fuel (0, 1)
    · refine gk_aload_n hC 0 dX7_copiedAsBytes_30 rfl (q := 31) rfl ?_
      refine gk_bipush hC (v := 11) dX7_copiedAsBytes_31 kc_b_11 (q := 33) rfl ?_
      refine gk_callV (As := [.int 11]) (rest := []) hC (fun l => m_X7_refused l hY a0 11 M t0) ml_RX7_53 ok_X7_refused dX7_copiedAsBytes_33 t0 ⟨by decide, rfl⟩ rfl (by decide) (Nat.le_of_ble_eq_true rfl) rfl (q := 36) rfl (fun r35 => ?_)
      show gk_K Z Y 5 gk_rI 36 [(0, .ref a0), (1, .int a1), (2, .int a2)] [.int r35.1] r35.2 _
      exact gk_iret hC hR dX7_copiedAsBytes_36 rfl
  · refine gk_aload_n hC 0 dX7_copiedAsBytes_11 rfl (q := 12) rfl ?_
    refine gk_bipush hC (v := 10) dX7_copiedAsBytes_12 kc_b_10 (q := 14) rfl ?_
    refine gk_callV (As := [.int 10]) (rest := []) hC (fun l => m_X7_refused l hY a0 10 M t0) ml_RX7_53 ok_X7_refused dX7_copiedAsBytes_14 t0 ⟨by decide, rfl⟩ rfl (by decide) (Nat.le_of_ble_eq_true rfl) rfl (q := 17) rfl (fun r36 => ?_)
    show gk_K Z Y 5 gk_rI 17 [(0, .ref a0), (1, .int a1), (2, .int a2)] [.int r36.1] r36.2 _
    exact gk_iret hC hR dX7_copiedAsBytes_17 rfl
def f_X7_putAmongShut (LN : Nat → Nat) (RF : Nat → Nat → Nat) (a0 : Nat) (a1 : Int32) (M : gk_M) : Option (Int32 × gk_M) :=
  (f_X6_holds LN RF (RF (RF a0 0) 0) a1 M).bind fun r23 =>
  if r23 = 0 then
    (f_X7_done LN RF a0 0 M).bind fun r24 =>
    some (r24.1, r24.2)
  else
  gk_aldr LN RF (RF (RF (RF a0 0) 0) 0) a1 fun o28 =>
  gk_jn (fun y30 : Int32 × gk_M =>
    some (y30.1, y30.2)) fun k60_30 =>
  gk_jn (fun y32 : Unit =>
    (f_X7_done LN RF a0 (M.1 o28 1) M).bind fun r34 =>
    k60_30 (r34.1, r34.2)) fun k46_32 =>
  if (M.1 o28 1) = 2 then
    k46_32 ()
  else
  if (M.1 o28 1) = 3 then
    k46_32 ()
  else
  (f_X7_refused LN RF a0 14 M).bind fun r35 =>
  k60_30 (r35.1, r35.2)
set_option maxHeartbeats 4000000 in
set_option maxRecDepth 100000 in
theorem m_X7_putAmongShut (l : Launch) {Y : gk_Y} (hY : gk_WF Y) (a0 : Nat) (a1 : Int32) (M : gk_M) (t0 : gk_T Y 17 a0) : gk_MF l Y yX7_putAmongShut cX7_putAmongShut 3 (some .int) 1 [.ref a0, .int a1] M gk_rI (f_X7_putAmongShut (gk_ln Y) (gk_rf Y) a0 a1 M) := by
  refine gk_met hY (plainFor_of_name (by decide)) (Nat.le_of_ble_eq_true rfl) fun Z hC hR => ?_
  show gk_K Z Y 3 gk_rI 0 [(0, .ref a0), (1, .int a1)] [] M _
  unfold f_X7_putAmongShut
  refine gk_aload_n hC 0 dX7_putAmongShut_0 rfl (q := 1) rfl ?_
  refine gk_getR hC dX7_putAmongShut_1 fl_RX7_17 (by decide) t0 (q := 4) rfl (fun t21 => ?_)
  refine gk_getR hC dX7_putAmongShut_4 fl_RX7_64 (by decide) t21 (q := 7) rfl (fun t22 => ?_)
  refine gk_iload_n hC 1 dX7_putAmongShut_7 rfl (q := 8) rfl ?_
  refine gk_callV (As := [.int a1]) (rest := []) hC (fun l => m_X6_holds l hY ((gk_rf Y) ((gk_rf Y) a0 0) 0) a1 M t22) ml_RX7_76 ok_X6_holds dX7_putAmongShut_8 t22 ⟨by decide, rfl⟩ rfl (by decide) (Nat.le_of_ble_eq_true rfl) rfl (q := 11) rfl (fun r23 => ?_)
  show gk_K Z Y 3 gk_rI 11 [(0, .ref a0), (1, .int a1)] [.int r23] M _
  refine gk_if_ne hC dX7_putAmongShut_11 (tg := 20) rfl (q := 14) rfl ?_ ?_
  · refine gk_aload_n hC 0 dX7_putAmongShut_14 rfl (q := 15) rfl ?_
    refine gk_iconst hC (v := 0) dX7_putAmongShut_15 kc_i_0 (q := 16) rfl ?_
    refine gk_callV (As := [.int 0]) (rest := []) hC (fun l => m_X7_done l hY a0 0 M t0) ml_RX7_57 ok_X7_done dX7_putAmongShut_16 t0 ⟨by decide, rfl⟩ rfl (by decide) (Nat.le_of_ble_eq_true rfl) rfl (q := 19) rfl (fun r24 => ?_)
    show gk_K Z Y 3 gk_rI 19 [(0, .ref a0), (1, .int a1)] [.int r24.1] r24.2 _
    exact gk_iret hC hR dX7_putAmongShut_19 rfl
  · refine gk_aload_n hC 0 dX7_putAmongShut_20 rfl (q := 21) rfl ?_
    refine gk_getR hC dX7_putAmongShut_21 fl_RX7_17 (by decide) t0 (q := 24) rfl (fun t25 => ?_)
    refine gk_getR hC dX7_putAmongShut_24 fl_RX7_64 (by decide) t25 (q := 27) rfl (fun t26 => ?_)
    refine gk_getR hC dX7_putAmongShut_27 fl_RX7_80 (by decide) t26 (q := 30) rfl (fun t27 => ?_)
    refine gk_iload_n hC 1 dX7_putAmongShut_30 rfl (q := 31) rfl ?_
    refine gk_aald hC dX7_putAmongShut_31 (Or.inr (Or.inl rfl)) t27 (q := 32) rfl (fun o28 t29 => ?_)
    refine gk_getI hC dX7_putAmongShut_32 fl_RX7_143 t29 (q := 35) rfl ?_
    refine gk_istore_n hC (lv' := [(0, .ref a0), (2, .int (M.1 o28 1))]) [1, 0] dX7_putAmongShut_35 (by decide) rfl (q := 36) rfl ?_
    refine gk_iload_n hC 1 dX7_putAmongShut_36 rfl (q := 37) rfl ?_
    refine gk_iconst hC (v := 2) dX7_putAmongShut_37 kc_i_2 (q := 38) rfl ?_
    refine gk_jnR (fun k60_30 => ∀ z31 : Int32 × gk_M, gk_K Z Y 3 gk_rI 60 [] [.int z31.1] z31.2 (k60_30 z31)) (fun y30 => ?_) (fun k60_30 hk60_30 => ?_)
    · show gk_K Z Y 3 gk_rI 60 [] [.int y30.1] y30.2 _
      exact gk_iret hC hR dX7_putAmongShut_60 rfl
    · refine gk_jnR (fun k46_32 => ∀ z33 : Unit, gk_K Z Y 3 gk_rI 46 [(0, .ref a0), (2, .int (M.1 o28 1))] [] M (k46_32 z33)) (fun y32 => ?_) (fun k46_32 hk46_32 => ?_)
      · show gk_K Z Y 3 gk_rI 46 [(0, .ref a0), (2, .int (M.1 o28 1))] [] M _
        refine gk_aload_n hC 0 dX7_putAmongShut_46 rfl (q := 47) rfl ?_
        refine gk_iload_n hC 1 dX7_putAmongShut_47 rfl (q := 48) rfl ?_
        refine gk_callV (As := [.int (M.1 o28 1)]) (rest := []) hC (fun l => m_X7_done l hY a0 (M.1 o28 1) M t0) ml_RX7_57 ok_X7_done dX7_putAmongShut_48 t0 ⟨by decide, rfl⟩ rfl (by decide) (Nat.le_of_ble_eq_true rfl) rfl (q := 51) rfl (fun r34 => ?_)
        show gk_K Z Y 3 gk_rI 51 [(0, .ref a0), (2, .int (M.1 o28 1))] [.int r34.1] r34.2 _
        refine gk_goto hC dX7_putAmongShut_51 (q := 60) rfl ?_
        refine gk_pick [] rfl ?_
        exact hk60_30 (r34.1, r34.2)
      · refine gk_icmp_eq hC dX7_putAmongShut_38 (tg := 46) rfl (q := 41) rfl ?_ ?_
        · exact hk46_32 ()
        · refine gk_iload_n hC 1 dX7_putAmongShut_41 rfl (q := 42) rfl ?_
          refine gk_iconst hC (v := 3) dX7_putAmongShut_42 kc_i_3 (q := 43) rfl ?_
          refine gk_icmp_ne hC dX7_putAmongShut_43 (tg := 54) rfl (q := 46) rfl ?_ ?_
          · exact hk46_32 ()
          · refine gk_aload_n hC 0 dX7_putAmongShut_54 rfl (q := 55) rfl ?_
            refine gk_bipush hC (v := 14) dX7_putAmongShut_55 kc_b_14 (q := 57) rfl ?_
            refine gk_callV (As := [.int 14]) (rest := []) hC (fun l => m_X7_refused l hY a0 14 M t0) ml_RX7_53 ok_X7_refused dX7_putAmongShut_57 t0 ⟨by decide, rfl⟩ rfl (by decide) (Nat.le_of_ble_eq_true rfl) rfl (q := 60) rfl (fun r35 => ?_)
            show gk_K Z Y 3 gk_rI 60 [(0, .ref a0), (2, .int (M.1 o28 1))] [.int r35.1] r35.2 _
            refine gk_pick [] rfl ?_
            exact hk60_30 (r35.1, r35.2)
def f_X7_forge (LN : Nat → Nat) (RF : Nat → Nat → Nat) (a0 : Nat) (a1 : Int32) (a2 : Int32) (a3 : Int32) (M : gk_M) : Option (Int32 × gk_M) :=
  gk_jn (fun y21 : Unit =>
    (f_X7_refused LN RF a0 1 M).bind fun r23 =>
    some (r23.1, r23.2)) fun k24_21 =>
  if a2 < (-100) then
    k24_21 ()
  else
  if 100 < a2 then
    k24_21 ()
  else
  if a3 < (-100) then
    k24_21 ()
  else
  if a3 ≤ 100 then
    (f_J9_floorMod_7cf53 LN RF a3 24 M).bind fun r24 =>
    (f_J9_floorMod_7cf53 LN RF a3 4 M).bind fun r25 =>
    gk_sw a1 0 [(f_J9_floorMod_7cf53 LN RF a2 8 M).bind fun r26 =>
      (f_X7_takenForKind LN RF a0 r24 r26 M).bind fun r27 =>
      some (r27.1, r27.2),
      gk_jn (fun y28 : Int32 × gk_M =>
        some (y28.1, y28.2)) fun k119_28 =>
      if 0 ≤ a2 then
        (f_X7_done LN RF a0 a2 M).bind fun r30 =>
        k119_28 (r30.1, r30.2)
      else
      (f_X7_refused LN RF a0 13 M).bind fun r31 =>
      k119_28 (r31.1, r31.2),
      (f_X7_readAsShort LN RF a0 r25 a2 M).bind fun r32 =>
      some (r32.1, r32.2),
      (f_X7_copiedAsBytes LN RF a0 r25 a2 M).bind fun r33 =>
      some (r33.1, r33.2),
      (f_X7_putAmongShut LN RF a0 r24 M).bind fun r34 =>
      some (r34.1, r34.2),
      gk_jn (fun y35 : Int32 × gk_M =>
        some (y35.1, y35.2)) fun k165_35 =>
      if a2 = 0 then
        (f_X7_refused LN RF a0 15 M).bind fun r37 =>
        k165_35 (r37.1, r37.2)
      else
      if a2 = 0 then none else
      (f_X7_done LN RF a0 (1000 / a2) M).bind fun r39 =>
      k165_35 (r39.1, r39.2),
      (f_J9_floorMod_7cf53 LN RF a2 2 M).bind fun r40 =>
      gk_jn (fun y41 : Int32 × gk_M =>
        some (y41.1, y41.2)) fun k188_41 =>
      if r40 = 0 then
        (f_X7_refused LN RF a0 10 M).bind fun r43 =>
        k188_41 (r43.1, r43.2)
      else
      (f_X7_done LN RF a0 1 M).bind fun r44 =>
      k188_41 (r44.1, r44.2)]
    ((f_X7_refused LN RF a0 1 M).bind fun r45 =>
    some (r45.1, r45.2))
  else
  k24_21 ()
set_option maxHeartbeats 4000000 in
set_option maxRecDepth 100000 in
theorem m_X7_forge (l : Launch) {Y : gk_Y} (hY : gk_WF Y) (a0 : Nat) (a1 : Int32) (a2 : Int32) (a3 : Int32) (M : gk_M) (t0 : gk_T Y 17 a0) : gk_MF l Y yX7_forge cX7_forge 6 (some .int) 2 [.ref a0, .int a1, .int a2, .int a3] M gk_rI (f_X7_forge (gk_ln Y) (gk_rf Y) a0 a1 a2 a3 M) := by
  refine gk_met hY (plainFor_of_name (by decide)) (Nat.le_of_ble_eq_true rfl) fun Z hC hR => ?_
  show gk_K Z Y 6 gk_rI 0 [(0, .ref a0), (1, .int a1), (2, .int a2), (3, .int a3)] [] M _
  unfold f_X7_forge
  refine gk_iload_n hC 2 dX7_forge_0 rfl (q := 1) rfl ?_
  refine gk_bipush hC (v := (-100)) dX7_forge_1 kc_b_m100 (q := 3) rfl ?_
  refine gk_jnR (fun k24_21 => ∀ z22 : Unit, gk_K Z Y 6 gk_rI 24 [(0, .ref a0)] [] M (k24_21 z22)) (fun y21 => ?_) (fun k24_21 hk24_21 => ?_)
  · show gk_K Z Y 6 gk_rI 24 [(0, .ref a0)] [] M _
    refine gk_aload_n hC 0 dX7_forge_24 rfl (q := 25) rfl ?_
    refine gk_iconst hC (v := 1) dX7_forge_25 kc_i_1 (q := 26) rfl ?_
    refine gk_callV (As := [.int 1]) (rest := []) hC (fun l => m_X7_refused l hY a0 1 M t0) ml_RX7_53 ok_X7_refused dX7_forge_26 t0 ⟨by decide, rfl⟩ rfl (by decide) (Nat.le_of_ble_eq_true rfl) rfl (q := 29) rfl (fun r23 => ?_)
    show gk_K Z Y 6 gk_rI 29 [(0, .ref a0)] [.int r23.1] r23.2 _
    exact gk_iret hC hR dX7_forge_29 rfl
  · refine gk_icmp_lt hC dX7_forge_3 (tg := 24) rfl (q := 6) rfl ?_ ?_
    · refine gk_pick [0] rfl ?_
      exact hk24_21 ()
    · refine gk_iload_n hC 2 dX7_forge_6 rfl (q := 7) rfl ?_
      refine gk_bipush hC (v := 100) dX7_forge_7 kc_b_100 (q := 9) rfl ?_
      refine gk_icmp_gt hC dX7_forge_9 (tg := 24) rfl (q := 12) rfl ?_ ?_
      · refine gk_pick [0] rfl ?_
        exact hk24_21 ()
      · refine gk_iload_n hC 3 dX7_forge_12 rfl (q := 13) rfl ?_
        refine gk_bipush hC (v := (-100)) dX7_forge_13 kc_b_m100 (q := 15) rfl ?_
        refine gk_icmp_lt hC dX7_forge_15 (tg := 24) rfl (q := 18) rfl ?_ ?_
        · refine gk_pick [0] rfl ?_
          exact hk24_21 ()
        · refine gk_iload_n hC 3 dX7_forge_18 rfl (q := 19) rfl ?_
          refine gk_bipush hC (v := 100) dX7_forge_19 kc_b_100 (q := 21) rfl ?_
          refine gk_icmp_le hC dX7_forge_21 (tg := 30) rfl (q := 24) rfl ?_ ?_
          · refine gk_iload_n hC 3 dX7_forge_30 rfl (q := 31) rfl ?_
            refine gk_bipush hC (v := 24) dX7_forge_31 kc_b_24 (q := 33) rfl ?_
            refine gk_callS (As := [.int a3, .int 24]) (rest := []) hC (fun l => m_J9_floorMod_7cf53 l hY a3 24 M) ml_RX7_301 ok_J9_floorMod_7cf53 dX7_forge_33 rfl (by decide) (Nat.le_of_ble_eq_true rfl) rfl (q := 36) rfl (fun r24 => ?_)
            show gk_K Z Y 6 gk_rI 36 [(0, .ref a0), (1, .int a1), (2, .int a2), (3, .int a3)] [.int r24] M _
            refine gk_istore hC (lv' := [(0, .ref a0), (1, .int a1), (2, .int a2), (3, .int a3), (4, .int r24)]) [1, 2, 3, 4, 0] dX7_forge_36 (by decide) rfl (q := 38) rfl ?_
            refine gk_iload_n hC 3 dX7_forge_38 rfl (q := 39) rfl ?_
            refine gk_iconst hC (v := 4) dX7_forge_39 kc_i_4 (q := 40) rfl ?_
            refine gk_callS (As := [.int a3, .int 4]) (rest := []) hC (fun l => m_J9_floorMod_7cf53 l hY a3 4 M) ml_RX7_301 ok_J9_floorMod_7cf53 dX7_forge_40 rfl (by decide) (Nat.le_of_ble_eq_true rfl) rfl (q := 43) rfl (fun r25 => ?_)
            show gk_K Z Y 6 gk_rI 43 [(0, .ref a0), (1, .int a1), (2, .int a2), (3, .int a3), (4, .int r24)] [.int r25] M _
            refine gk_istore hC (lv' := [(0, .ref a0), (1, .int a1), (2, .int a2), (4, .int r24), (5, .int r25)]) [1, 2, 3, 5, 0] dX7_forge_43 (by decide) rfl (q := 45) rfl ?_
            refine gk_iload_n hC 1 dX7_forge_45 rfl (q := 46) rfl ?_
            refine gk_table hC (ts := [88, 101, 120, 128, 136, 143, 166]) (tg := 189) dX7_forge_46 (by decide) (by decide) rfl ⟨?_, ?_, ?_, ?_, ?_, ?_, ?_, trivial⟩ ?_
            · refine gk_aload_n hC 0 dX7_forge_88 rfl (q := 89) rfl ?_
              refine gk_iload hC 3 dX7_forge_89 rfl (q := 91) rfl ?_
              refine gk_iload_n hC 2 dX7_forge_91 rfl (q := 92) rfl ?_
              refine gk_bipush hC (v := 8) dX7_forge_92 kc_b_8 (q := 94) rfl ?_
              refine gk_callS (As := [.int a2, .int 8]) (rest := [.int r24, .ref a0]) hC (fun l => m_J9_floorMod_7cf53 l hY a2 8 M) ml_RX7_301 ok_J9_floorMod_7cf53 dX7_forge_94 rfl (by decide) (Nat.le_of_ble_eq_true rfl) rfl (q := 97) rfl (fun r26 => ?_)
              show gk_K Z Y 6 gk_rI 97 [(0, .ref a0), (1, .int a1), (2, .int a2), (4, .int r24), (5, .int r25)] [.int r26, .int r24, .ref a0] M _
              refine gk_callV (As := [.int r24, .int r26]) (rest := []) hC (fun l => m_X7_takenForKind l hY a0 r24 r26 M t0) ml_RX7_306 ok_X7_takenForKind dX7_forge_97 t0 ⟨by decide, rfl⟩ rfl (by decide) (Nat.le_of_ble_eq_true rfl) rfl (q := 100) rfl (fun r27 => ?_)
              show gk_K Z Y 6 gk_rI 100 [(0, .ref a0), (1, .int a1), (2, .int a2), (4, .int r24), (5, .int r25)] [.int r27.1] r27.2 _
              exact gk_iret hC hR dX7_forge_100 rfl
            · refine gk_iload_n hC 2 dX7_forge_101 rfl (q := 102) rfl ?_
              refine gk_jnR (fun k119_28 => ∀ z29 : Int32 × gk_M, gk_K Z Y 6 gk_rI 119 [] [.int z29.1] z29.2 (k119_28 z29)) (fun y28 => ?_) (fun k119_28 hk119_28 => ?_)
              · show gk_K Z Y 6 gk_rI 119 [] [.int y28.1] y28.2 _
                exact gk_iret hC hR dX7_forge_119 rfl
              · refine gk_if_ge hC dX7_forge_102 (tg := 114) rfl (q := 105) rfl ?_ ?_
                · refine gk_aload_n hC 0 dX7_forge_114 rfl (q := 115) rfl ?_
                  refine gk_iload_n hC 2 dX7_forge_115 rfl (q := 116) rfl ?_
                  refine gk_callV (As := [.int a2]) (rest := []) hC (fun l => m_X7_done l hY a0 a2 M t0) ml_RX7_57 ok_X7_done dX7_forge_116 t0 ⟨by decide, rfl⟩ rfl (by decide) (Nat.le_of_ble_eq_true rfl) rfl (q := 119) rfl (fun r30 => ?_)
                  show gk_K Z Y 6 gk_rI 119 [(0, .ref a0), (1, .int a1), (2, .int a2), (4, .int r24), (5, .int r25)] [.int r30.1] r30.2 _
                  refine gk_pick [] rfl ?_
                  exact hk119_28 (r30.1, r30.2)
                · refine gk_aload_n hC 0 dX7_forge_105 rfl (q := 106) rfl ?_
                  refine gk_bipush hC (v := 13) dX7_forge_106 kc_b_13 (q := 108) rfl ?_
                  refine gk_callV (As := [.int 13]) (rest := []) hC (fun l => m_X7_refused l hY a0 13 M t0) ml_RX7_53 ok_X7_refused dX7_forge_108 t0 ⟨by decide, rfl⟩ rfl (by decide) (Nat.le_of_ble_eq_true rfl) rfl (q := 111) rfl (fun r31 => ?_)
                  show gk_K Z Y 6 gk_rI 111 [(0, .ref a0), (1, .int a1), (2, .int a2), (4, .int r24), (5, .int r25)] [.int r31.1] r31.2 _
                  refine gk_goto hC dX7_forge_111 (q := 119) rfl ?_
                  refine gk_pick [] rfl ?_
                  exact hk119_28 (r31.1, r31.2)
            · refine gk_aload_n hC 0 dX7_forge_120 rfl (q := 121) rfl ?_
              refine gk_iload hC 4 dX7_forge_121 rfl (q := 123) rfl ?_
              refine gk_iload_n hC 2 dX7_forge_123 rfl (q := 124) rfl ?_
              refine gk_callV (As := [.int r25, .int a2]) (rest := []) hC (fun l => m_X7_readAsShort l hY a0 r25 a2 M t0) ml_RX7_309 ok_X7_readAsShort dX7_forge_124 t0 ⟨by decide, rfl⟩ rfl (by decide) (Nat.le_of_ble_eq_true rfl) rfl (q := 127) rfl (fun r32 => ?_)
              show gk_K Z Y 6 gk_rI 127 [(0, .ref a0), (1, .int a1), (2, .int a2), (4, .int r24), (5, .int r25)] [.int r32.1] r32.2 _
              exact gk_iret hC hR dX7_forge_127 rfl
            · refine gk_aload_n hC 0 dX7_forge_128 rfl (q := 129) rfl ?_
              refine gk_iload hC 4 dX7_forge_129 rfl (q := 131) rfl ?_
              refine gk_iload_n hC 2 dX7_forge_131 rfl (q := 132) rfl ?_
              refine gk_callV (As := [.int r25, .int a2]) (rest := []) hC (fun l => m_X7_copiedAsBytes l hY a0 r25 a2 M t0) ml_RX7_312 ok_X7_copiedAsBytes dX7_forge_132 t0 ⟨by decide, rfl⟩ rfl (by decide) (Nat.le_of_ble_eq_true rfl) rfl (q := 135) rfl (fun r33 => ?_)
              show gk_K Z Y 6 gk_rI 135 [(0, .ref a0), (1, .int a1), (2, .int a2), (4, .int r24), (5, .int r25)] [.int r33.1] r33.2 _
              exact gk_iret hC hR dX7_forge_135 rfl
            · refine gk_aload_n hC 0 dX7_forge_136 rfl (q := 137) rfl ?_
              refine gk_iload hC 3 dX7_forge_137 rfl (q := 139) rfl ?_
              refine gk_callV (As := [.int r24]) (rest := []) hC (fun l => m_X7_putAmongShut l hY a0 r24 M t0) ml_RX7_315 ok_X7_putAmongShut dX7_forge_139 t0 ⟨by decide, rfl⟩ rfl (by decide) (Nat.le_of_ble_eq_true rfl) rfl (q := 142) rfl (fun r34 => ?_)
              show gk_K Z Y 6 gk_rI 142 [(0, .ref a0), (1, .int a1), (2, .int a2), (4, .int r24), (5, .int r25)] [.int r34.1] r34.2 _
              exact gk_iret hC hR dX7_forge_142 rfl
            · refine gk_iload_n hC 2 dX7_forge_143 rfl (q := 144) rfl ?_
              refine gk_jnR (fun k165_35 => ∀ z36 : Int32 × gk_M, gk_K Z Y 6 gk_rI 165 [] [.int z36.1] z36.2 (k165_35 z36)) (fun y35 => ?_) (fun k165_35 hk165_35 => ?_)
              · show gk_K Z Y 6 gk_rI 165 [] [.int y35.1] y35.2 _
                exact gk_iret hC hR dX7_forge_165 rfl
              · refine gk_if_ne hC dX7_forge_144 (tg := 156) rfl (q := 147) rfl ?_ ?_
                · refine gk_aload_n hC 0 dX7_forge_147 rfl (q := 148) rfl ?_
                  refine gk_bipush hC (v := 15) dX7_forge_148 kc_b_15 (q := 150) rfl ?_
                  refine gk_callV (As := [.int 15]) (rest := []) hC (fun l => m_X7_refused l hY a0 15 M t0) ml_RX7_53 ok_X7_refused dX7_forge_150 t0 ⟨by decide, rfl⟩ rfl (by decide) (Nat.le_of_ble_eq_true rfl) rfl (q := 153) rfl (fun r37 => ?_)
                  show gk_K Z Y 6 gk_rI 153 [(0, .ref a0), (1, .int a1), (2, .int a2), (4, .int r24), (5, .int r25)] [.int r37.1] r37.2 _
                  refine gk_goto hC dX7_forge_153 (q := 165) rfl ?_
                  refine gk_pick [] rfl ?_
                  exact hk165_35 (r37.1, r37.2)
                · refine gk_aload_n hC 0 dX7_forge_156 rfl (q := 157) rfl ?_
                  refine gk_sipush hC (v := 1000) dX7_forge_157 kc_s_1000 (q := 160) rfl ?_
                  refine gk_iload_n hC 2 dX7_forge_160 rfl (q := 161) rfl ?_
                  refine gk_nz (fun hz38 => ?_)
                  refine gk_idiv hC dX7_forge_161 hz38 (q := 162) rfl ?_
                  refine gk_callV (As := [.int (1000 / a2)]) (rest := []) hC (fun l => m_X7_done l hY a0 (1000 / a2) M t0) ml_RX7_57 ok_X7_done dX7_forge_162 t0 ⟨by decide, rfl⟩ rfl (by decide) (Nat.le_of_ble_eq_true rfl) rfl (q := 165) rfl (fun r39 => ?_)
                  show gk_K Z Y 6 gk_rI 165 [(0, .ref a0), (1, .int a1), (2, .int a2), (4, .int r24), (5, .int r25)] [.int r39.1] r39.2 _
                  refine gk_pick [] rfl ?_
                  exact hk165_35 (r39.1, r39.2)
            · refine gk_iload_n hC 2 dX7_forge_166 rfl (q := 167) rfl ?_
              refine gk_iconst hC (v := 2) dX7_forge_167 kc_i_2 (q := 168) rfl ?_
              refine gk_callS (As := [.int a2, .int 2]) (rest := []) hC (fun l => m_J9_floorMod_7cf53 l hY a2 2 M) ml_RX7_301 ok_J9_floorMod_7cf53 dX7_forge_168 rfl (by decide) (Nat.le_of_ble_eq_true rfl) rfl (q := 171) rfl (fun r40 => ?_)
              show gk_K Z Y 6 gk_rI 171 [(0, .ref a0), (1, .int a1), (2, .int a2), (4, .int r24), (5, .int r25)] [.int r40] M _
              refine gk_jnR (fun k188_41 => ∀ z42 : Int32 × gk_M, gk_K Z Y 6 gk_rI 188 [] [.int z42.1] z42.2 (k188_41 z42)) (fun y41 => ?_) (fun k188_41 hk188_41 => ?_)
              · show gk_K Z Y 6 gk_rI 188 [] [.int y41.1] y41.2 _
                exact gk_iret hC hR dX7_forge_188 rfl
              · refine gk_if_ne hC dX7_forge_171 (tg := 183) rfl (q := 174) rfl ?_ ?_
                · refine gk_aload_n hC 0 dX7_forge_174 rfl (q := 175) rfl ?_
                  refine gk_bipush hC (v := 10) dX7_forge_175 kc_b_10 (q := 177) rfl ?_
                  refine gk_callV (As := [.int 10]) (rest := []) hC (fun l => m_X7_refused l hY a0 10 M t0) ml_RX7_53 ok_X7_refused dX7_forge_177 t0 ⟨by decide, rfl⟩ rfl (by decide) (Nat.le_of_ble_eq_true rfl) rfl (q := 180) rfl (fun r43 => ?_)
                  show gk_K Z Y 6 gk_rI 180 [(0, .ref a0), (1, .int a1), (2, .int a2), (4, .int r24), (5, .int r25)] [.int r43.1] r43.2 _
                  refine gk_goto hC dX7_forge_180 (q := 188) rfl ?_
                  refine gk_pick [] rfl ?_
                  exact hk188_41 (r43.1, r43.2)
                · refine gk_aload_n hC 0 dX7_forge_183 rfl (q := 184) rfl ?_
                  refine gk_iconst hC (v := 1) dX7_forge_184 kc_i_1 (q := 185) rfl ?_
                  refine gk_callV (As := [.int 1]) (rest := []) hC (fun l => m_X7_done l hY a0 1 M t0) ml_RX7_57 ok_X7_done dX7_forge_185 t0 ⟨by decide, rfl⟩ rfl (by decide) (Nat.le_of_ble_eq_true rfl) rfl (q := 188) rfl (fun r44 => ?_)
                  show gk_K Z Y 6 gk_rI 188 [(0, .ref a0), (1, .int a1), (2, .int a2), (4, .int r24), (5, .int r25)] [.int r44.1] r44.2 _
                  refine gk_pick [] rfl ?_
                  exact hk188_41 (r44.1, r44.2)
            · refine gk_aload_n hC 0 dX7_forge_189 rfl (q := 190) rfl ?_
              refine gk_iconst hC (v := 1) dX7_forge_190 kc_i_1 (q := 191) rfl ?_
              refine gk_callV (As := [.int 1]) (rest := []) hC (fun l => m_X7_refused l hY a0 1 M t0) ml_RX7_53 ok_X7_refused dX7_forge_191 t0 ⟨by decide, rfl⟩ rfl (by decide) (Nat.le_of_ble_eq_true rfl) rfl (q := 194) rfl (fun r45 => ?_)
              show gk_K Z Y 6 gk_rI 194 [(0, .ref a0), (1, .int a1), (2, .int a2), (4, .int r24), (5, .int r25)] [.int r45.1] r45.2 _
              exact gk_iret hC hR dX7_forge_194 rfl
          · refine gk_pick [0] rfl ?_
            exact hk24_21 ()
def f_X7_status (LN : Nat → Nat) (RF : Nat → Nat → Nat) (a0 : Nat) (M : gk_M) : Option (Int32) :=
  some (M.1 a0 9)
set_option maxHeartbeats 4000000 in
set_option maxRecDepth 100000 in
theorem m_X7_status (l : Launch) {Y : gk_Y} (hY : gk_WF Y) (a0 : Nat) (M : gk_M) (t0 : gk_T Y 17 a0) : gk_MF l Y yX7_status cX7_status 1 (some .int) 0 [.ref a0] M (gk_rR M) (f_X7_status (gk_ln Y) (gk_rf Y) a0 M) := by
  refine gk_met hY (plainFor_of_name (by decide)) (Nat.le_of_ble_eq_true rfl) fun Z hC hR => ?_
  show gk_K Z Y 1 (gk_rR M) 0 [(0, .ref a0)] [] M _
  unfold f_X7_status
  refine gk_aload_n hC 0 dX7_status_0 rfl (q := 1) rfl ?_
  refine gk_getI hC dX7_status_1 fl_RX7_318 t0 (q := 4) rfl ?_
  exact gk_iret hC hR dX7_status_4 rfl
def f_X8_isIn (LN : Nat → Nat) (RF : Nat → Nat → Nat) (a0 : Int64) (a1 : Int64) (a2 : Int64) (M : gk_M) : Option (Int32) :=
  gk_jn (fun y21 : Int32 =>
    gk_zz y21 (some y21)) fun k18_21 =>
  gk_jn (fun y23 : Unit =>
    k18_21 0) fun k17_23 =>
  if (lg_cmp a0 a1) < 0 then
    k17_23 ()
  else
  if 0 < (lg_cmp a0 a2) then
    k17_23 ()
  else
  k18_21 1
set_option maxHeartbeats 4000000 in
set_option maxRecDepth 100000 in
theorem m_X8_isIn (l : Launch) {Y : gk_Y} (hY : gk_WF Y) (a0 : Int64) (a1 : Int64) (a2 : Int64) (M : gk_M)  : gk_MF l Y yX8_isIn cX8_isIn 6 (some .boolean) 0 [.long a0, .long a1, .long a2] M (gk_rR M) (f_X8_isIn (gk_ln Y) (gk_rf Y) a0 a1 a2 M) := by
  refine gk_met hY (plainFor_of_name (by decide)) (Nat.le_of_ble_eq_true rfl) fun Z hC hR => ?_
  show gk_K Z Y 6 (gk_rR M) 0 [(0, .long a0), (2, .long a1), (4, .long a2)] [] M _
  unfold f_X8_isIn
  refine gk_lload_n hC 0 dX8_isIn_0 rfl (q := 1) rfl ?_
  refine gk_lload_n hC 1 dX8_isIn_1 rfl (q := 2) rfl ?_
  refine gk_lcmp hC dX8_isIn_2 (q := 3) rfl ?_
  refine gk_jnR (fun k18_21 => ∀ z22 : Int32, gk_K Z Y 6 (gk_rR M) 18 [] [.int z22] M (k18_21 z22)) (fun y21 => ?_) (fun k18_21 hk18_21 => ?_)
  · show gk_K Z Y 6 (gk_rR M) 18 [] [.int y21] M _
    exact gk_zzR (fun hv => gk_zret hC hR dX8_isIn_18 hv rfl)
  · refine gk_jnR (fun k17_23 => ∀ z24 : Unit, gk_K Z Y 6 (gk_rR M) 17 [] [] M (k17_23 z24)) (fun y23 => ?_) (fun k17_23 hk17_23 => ?_)
    · show gk_K Z Y 6 (gk_rR M) 17 [] [] M _
      refine gk_iconst hC (v := 0) dX8_isIn_17 kc_i_0 (q := 18) rfl ?_
      exact hk18_21 0
    · refine gk_if_lt hC dX8_isIn_3 (tg := 17) rfl (q := 6) rfl ?_ ?_
      · refine gk_pick [] rfl ?_
        exact hk17_23 ()
      · refine gk_lload_n hC 0 dX8_isIn_6 rfl (q := 7) rfl ?_
        refine gk_lload hC 2 dX8_isIn_7 rfl (q := 9) rfl ?_
        refine gk_lcmp hC dX8_isIn_9 (q := 10) rfl ?_
        refine gk_if_gt hC dX8_isIn_10 (tg := 17) rfl (q := 13) rfl ?_ ?_
        · refine gk_pick [] rfl ?_
          exact hk17_23 ()
        · refine gk_iconst hC (v := 1) dX8_isIn_13 kc_i_1 (q := 14) rfl ?_
          refine gk_goto hC dX8_isIn_14 (q := 18) rfl ?_
          refine gk_pick [] rfl ?_
          exact hk18_21 1
def f_X8_refused (LN : Nat → Nat) (RF : Nat → Nat → Nat) (a0 : Nat) (a1 : Int32) (M : gk_M) : Option (Int32 × gk_M) :=
  gk_put M a0 25 a1 fun M21 =>
  some ((-1), M21)
set_option maxHeartbeats 4000000 in
set_option maxRecDepth 100000 in
theorem m_X8_refused (l : Launch) {Y : gk_Y} (hY : gk_WF Y) (a0 : Nat) (a1 : Int32) (M : gk_M) (t0 : gk_T Y 18 a0) : gk_MF l Y yX8_refused cX8_refused 2 (some .int) 0 [.ref a0, .int a1] M gk_rI (f_X8_refused (gk_ln Y) (gk_rf Y) a0 a1 M) := by
  refine gk_met hY (plainFor_of_name (by decide)) (Nat.le_of_ble_eq_true rfl) fun Z hC hR => ?_
  show gk_K Z Y 2 gk_rI 0 [(0, .ref a0), (1, .int a1)] [] M _
  unfold f_X8_refused
  refine gk_aload_n hC 0 dX8_refused_0 rfl (q := 1) rfl ?_
  refine gk_iload_n hC 1 dX8_refused_1 rfl (q := 2) rfl ?_
  refine gk_putI hC dX8_refused_2 fp_RX8_109 t0 (q := 5) rfl (fun M21 => ?_)
  refine gk_iconst hC (v := (-1)) dX8_refused_5 kc_i_m1 (q := 6) rfl ?_
  exact gk_iret hC hR dX8_refused_6 rfl
def f_X8_done (LN : Nat → Nat) (RF : Nat → Nat → Nat) (a0 : Nat) (a1 : Int32) (M : gk_M) : Option (Int32 × gk_M) :=
  gk_put M a0 25 0 fun M21 =>
  some (a1, M21)
set_option maxHeartbeats 4000000 in
set_option maxRecDepth 100000 in
theorem m_X8_done (l : Launch) {Y : gk_Y} (hY : gk_WF Y) (a0 : Nat) (a1 : Int32) (M : gk_M) (t0 : gk_T Y 18 a0) : gk_MF l Y yX8_done cX8_done 2 (some .int) 0 [.ref a0, .int a1] M gk_rI (f_X8_done (gk_ln Y) (gk_rf Y) a0 a1 M) := by
  refine gk_met hY (plainFor_of_name (by decide)) (Nat.le_of_ble_eq_true rfl) fun Z hC hR => ?_
  show gk_K Z Y 2 gk_rI 0 [(0, .ref a0), (1, .int a1)] [] M _
  unfold f_X8_done
  refine gk_aload_n hC 0 dX8_done_0 rfl (q := 1) rfl ?_
  refine gk_iconst hC (v := 0) dX8_done_1 kc_i_0 (q := 2) rfl ?_
  refine gk_putI hC dX8_done_2 fp_RX8_109 t0 (q := 5) rfl (fun M21 => ?_)
  refine gk_iload_n hC 1 dX8_done_5 rfl (q := 6) rfl ?_
  exact gk_iret hC hR dX8_done_6 rfl
def f_X8_isLine (LN : Nat → Nat) (RF : Nat → Nat → Nat) (a0 : Nat) (a1 : Int32) (M : gk_M) : Option (Int32) :=
  gk_jn (fun y21 : Int32 =>
    gk_zz y21 (some y21)) fun k19_21 =>
  gk_jn (fun y23 : Unit =>
    k19_21 0) fun k18_23 =>
  if a1 < 0 then
    k18_23 ()
  else
  gk_ald LN M (RF a0 20) 0 fun x26 =>
  if x26 ≤ a1 then
    k18_23 ()
  else
  k19_21 1
set_option maxHeartbeats 4000000 in
set_option maxRecDepth 100000 in
theorem m_X8_isLine (l : Launch) {Y : gk_Y} (hY : gk_WF Y) (a0 : Nat) (a1 : Int32) (M : gk_M) (t0 : gk_T Y 18 a0) : gk_MF l Y yX8_isLine cX8_isLine 2 (some .boolean) 0 [.ref a0, .int a1] M (gk_rR M) (f_X8_isLine (gk_ln Y) (gk_rf Y) a0 a1 M) := by
  refine gk_met hY (plainFor_of_name (by decide)) (Nat.le_of_ble_eq_true rfl) fun Z hC hR => ?_
  show gk_K Z Y 2 (gk_rR M) 0 [(0, .ref a0), (1, .int a1)] [] M _
  unfold f_X8_isLine
  refine gk_iload_n hC 1 dX8_isLine_0 rfl (q := 1) rfl ?_
  refine gk_jnR (fun k19_21 => ∀ z22 : Int32, gk_K Z Y 2 (gk_rR M) 19 [] [.int z22] M (k19_21 z22)) (fun y21 => ?_) (fun k19_21 hk19_21 => ?_)
  · show gk_K Z Y 2 (gk_rR M) 19 [] [.int y21] M _
    exact gk_zzR (fun hv => gk_zret hC hR dX8_isLine_19 hv rfl)
  · refine gk_jnR (fun k18_23 => ∀ z24 : Unit, gk_K Z Y 2 (gk_rR M) 18 [] [] M (k18_23 z24)) (fun y23 => ?_) (fun k18_23 hk18_23 => ?_)
    · show gk_K Z Y 2 (gk_rR M) 18 [] [] M _
      refine gk_iconst hC (v := 0) dX8_isLine_18 kc_i_0 (q := 19) rfl ?_
      exact hk19_21 0
    · refine gk_if_lt hC dX8_isLine_1 (tg := 18) rfl (q := 4) rfl ?_ ?_
      · refine gk_pick [] rfl ?_
        exact hk18_23 ()
      · refine gk_iload_n hC 1 dX8_isLine_4 rfl (q := 5) rfl ?_
        refine gk_aload_n hC 0 dX8_isLine_5 rfl (q := 6) rfl ?_
        refine gk_getR hC dX8_isLine_6 fl_RX8_70 (by decide) t0 (q := 9) rfl (fun t25 => ?_)
        refine gk_iconst hC (v := 0) dX8_isLine_9 kc_i_0 (q := 10) rfl ?_
        refine gk_iald hC dX8_isLine_10 t25 (q := 11) rfl (fun x26 => ?_)
        refine gk_icmp_ge hC dX8_isLine_11 (tg := 18) rfl (q := 14) rfl ?_ ?_
        · refine gk_pick [] rfl ?_
          exact hk18_23 ()
        · refine gk_iconst hC (v := 1) dX8_isLine_14 kc_i_1 (q := 15) rfl ?_
          refine gk_goto hC dX8_isLine_15 (q := 19) rfl ?_
          refine gk_pick [] rfl ?_
          exact hk19_21 1
def f_X8_isWish (LN : Nat → Nat) (RF : Nat → Nat → Nat) (a0 : Nat) (a1 : Int32) (M : gk_M) : Option (Int32) :=
  gk_jn (fun y21 : Int32 =>
    gk_zz y21 (some y21)) fun k19_21 =>
  gk_jn (fun y23 : Unit =>
    k19_21 0) fun k18_23 =>
  if a1 < 0 then
    k18_23 ()
  else
  gk_ald LN M (RF a0 20) 1 fun x26 =>
  if x26 ≤ a1 then
    k18_23 ()
  else
  k19_21 1
set_option maxHeartbeats 4000000 in
set_option maxRecDepth 100000 in
theorem m_X8_isWish (l : Launch) {Y : gk_Y} (hY : gk_WF Y) (a0 : Nat) (a1 : Int32) (M : gk_M) (t0 : gk_T Y 18 a0) : gk_MF l Y yX8_isWish cX8_isWish 2 (some .boolean) 0 [.ref a0, .int a1] M (gk_rR M) (f_X8_isWish (gk_ln Y) (gk_rf Y) a0 a1 M) := by
  refine gk_met hY (plainFor_of_name (by decide)) (Nat.le_of_ble_eq_true rfl) fun Z hC hR => ?_
  show gk_K Z Y 2 (gk_rR M) 0 [(0, .ref a0), (1, .int a1)] [] M _
  unfold f_X8_isWish
  refine gk_iload_n hC 1 dX8_isWish_0 rfl (q := 1) rfl ?_
  refine gk_jnR (fun k19_21 => ∀ z22 : Int32, gk_K Z Y 2 (gk_rR M) 19 [] [.int z22] M (k19_21 z22)) (fun y21 => ?_) (fun k19_21 hk19_21 => ?_)
  · show gk_K Z Y 2 (gk_rR M) 19 [] [.int y21] M _
    exact gk_zzR (fun hv => gk_zret hC hR dX8_isWish_19 hv rfl)
  · refine gk_jnR (fun k18_23 => ∀ z24 : Unit, gk_K Z Y 2 (gk_rR M) 18 [] [] M (k18_23 z24)) (fun y23 => ?_) (fun k18_23 hk18_23 => ?_)
    · show gk_K Z Y 2 (gk_rR M) 18 [] [] M _
      refine gk_iconst hC (v := 0) dX8_isWish_18 kc_i_0 (q := 19) rfl ?_
      exact hk19_21 0
    · refine gk_if_lt hC dX8_isWish_1 (tg := 18) rfl (q := 4) rfl ?_ ?_
      · refine gk_pick [] rfl ?_
        exact hk18_23 ()
      · refine gk_iload_n hC 1 dX8_isWish_4 rfl (q := 5) rfl ?_
        refine gk_aload_n hC 0 dX8_isWish_5 rfl (q := 6) rfl ?_
        refine gk_getR hC dX8_isWish_6 fl_RX8_70 (by decide) t0 (q := 9) rfl (fun t25 => ?_)
        refine gk_iconst hC (v := 1) dX8_isWish_9 kc_i_1 (q := 10) rfl ?_
        refine gk_iald hC dX8_isWish_10 t25 (q := 11) rfl (fun x26 => ?_)
        refine gk_icmp_ge hC dX8_isWish_11 (tg := 18) rfl (q := 14) rfl ?_ ?_
        · refine gk_pick [] rfl ?_
          exact hk18_23 ()
        · refine gk_iconst hC (v := 1) dX8_isWish_14 kc_i_1 (q := 15) rfl ?_
          refine gk_goto hC dX8_isWish_15 (q := 19) rfl ?_
          refine gk_pick [] rfl ?_
          exact hk19_21 1
def f_X8_isCall (LN : Nat → Nat) (RF : Nat → Nat → Nat) (a0 : Nat) (a1 : Int32) (M : gk_M) : Option (Int32) :=
  gk_jn (fun y21 : Int32 =>
    gk_zz y21 (some y21)) fun k19_21 =>
  gk_jn (fun y23 : Unit =>
    k19_21 0) fun k18_23 =>
  if a1 < 0 then
    k18_23 ()
  else
  gk_ald LN M (RF a0 20) 2 fun x26 =>
  if x26 ≤ a1 then
    k18_23 ()
  else
  k19_21 1
set_option maxHeartbeats 4000000 in
set_option maxRecDepth 100000 in
theorem m_X8_isCall (l : Launch) {Y : gk_Y} (hY : gk_WF Y) (a0 : Nat) (a1 : Int32) (M : gk_M) (t0 : gk_T Y 18 a0) : gk_MF l Y yX8_isCall cX8_isCall 2 (some .boolean) 0 [.ref a0, .int a1] M (gk_rR M) (f_X8_isCall (gk_ln Y) (gk_rf Y) a0 a1 M) := by
  refine gk_met hY (plainFor_of_name (by decide)) (Nat.le_of_ble_eq_true rfl) fun Z hC hR => ?_
  show gk_K Z Y 2 (gk_rR M) 0 [(0, .ref a0), (1, .int a1)] [] M _
  unfold f_X8_isCall
  refine gk_iload_n hC 1 dX8_isCall_0 rfl (q := 1) rfl ?_
  refine gk_jnR (fun k19_21 => ∀ z22 : Int32, gk_K Z Y 2 (gk_rR M) 19 [] [.int z22] M (k19_21 z22)) (fun y21 => ?_) (fun k19_21 hk19_21 => ?_)
  · show gk_K Z Y 2 (gk_rR M) 19 [] [.int y21] M _
    exact gk_zzR (fun hv => gk_zret hC hR dX8_isCall_19 hv rfl)
  · refine gk_jnR (fun k18_23 => ∀ z24 : Unit, gk_K Z Y 2 (gk_rR M) 18 [] [] M (k18_23 z24)) (fun y23 => ?_) (fun k18_23 hk18_23 => ?_)
    · show gk_K Z Y 2 (gk_rR M) 18 [] [] M _
      refine gk_iconst hC (v := 0) dX8_isCall_18 kc_i_0 (q := 19) rfl ?_
      exact hk19_21 0
    · refine gk_if_lt hC dX8_isCall_1 (tg := 18) rfl (q := 4) rfl ?_ ?_
      · refine gk_pick [] rfl ?_
        exact hk18_23 ()
      · refine gk_iload_n hC 1 dX8_isCall_4 rfl (q := 5) rfl ?_
        refine gk_aload_n hC 0 dX8_isCall_5 rfl (q := 6) rfl ?_
        refine gk_getR hC dX8_isCall_6 fl_RX8_70 (by decide) t0 (q := 9) rfl (fun t25 => ?_)
        refine gk_iconst hC (v := 2) dX8_isCall_9 kc_i_2 (q := 10) rfl ?_
        refine gk_iald hC dX8_isCall_10 t25 (q := 11) rfl (fun x26 => ?_)
        refine gk_icmp_ge hC dX8_isCall_11 (tg := 18) rfl (q := 14) rfl ?_ ?_
        · refine gk_pick [] rfl ?_
          exact hk18_23 ()
        · refine gk_iconst hC (v := 1) dX8_isCall_14 kc_i_1 (q := 15) rfl ?_
          refine gk_goto hC dX8_isCall_15 (q := 19) rfl ?_
          refine gk_pick [] rfl ?_
          exact hk19_21 1
def f_X8_line (LN : Nat → Nat) (RF : Nat → Nat → Nat) (a0 : Nat) (M : gk_M) : Option (Int32 × gk_M) :=
  gk_ald LN M (RF a0 20) 0 fun x22 =>
  if x22 = 8 then
    (f_X8_refused LN RF a0 2 M).bind fun r23 =>
    some (r23.1, r23.2)
  else
  gk_ald LN M (RF a0 20) 0 fun x25 =>
  gk_ast LN M (RF a0 20) 0 (x25 + 1) fun M26 =>
  gk_ald LN M26 (RF a0 20) 0 fun x28 =>
  (f_X8_done LN RF a0 (x28 - 1) M26).bind fun r29 =>
  some (r29.1, r29.2)
set_option maxHeartbeats 4000000 in
set_option maxRecDepth 100000 in
theorem m_X8_line (l : Launch) {Y : gk_Y} (hY : gk_WF Y) (a0 : Nat) (M : gk_M) (t0 : gk_T Y 18 a0) : gk_MF l Y yX8_line cX8_line 1 (some .int) 1 [.ref a0] M gk_rI (f_X8_line (gk_ln Y) (gk_rf Y) a0 M) := by
  refine gk_met hY (plainFor_of_name (by decide)) (Nat.le_of_ble_eq_true rfl) fun Z hC hR => ?_
  show gk_K Z Y 1 gk_rI 0 [(0, .ref a0)] [] M _
  unfold f_X8_line
  refine gk_aload_n hC 0 dX8_line_0 rfl (q := 1) rfl ?_
  refine gk_getR hC dX8_line_1 fl_RX8_70 (by decide) t0 (q := 4) rfl (fun t21 => ?_)
  refine gk_iconst hC (v := 0) dX8_line_4 kc_i_0 (q := 5) rfl ?_
  refine gk_iald hC dX8_line_5 t21 (q := 6) rfl (fun x22 => ?_)
  refine gk_bipush hC (v := 8) dX8_line_6 kc_b_8 (q := 8) rfl ?_
  refine gk_icmp_ne hC dX8_line_8 (tg := 17) rfl (q := 11) rfl ?_ ?_
  · refine gk_aload_n hC 0 dX8_line_11 rfl (q := 12) rfl ?_
    refine gk_iconst hC (v := 2) dX8_line_12 kc_i_2 (q := 13) rfl ?_
    refine gk_callV (As := [.int 2]) (rest := []) hC (fun l => m_X8_refused l hY a0 2 M t0) ml_RX8_113 ok_X8_refused dX8_line_13 t0 ⟨by decide, rfl⟩ rfl (by decide) (Nat.le_of_ble_eq_true rfl) rfl (q := 16) rfl (fun r23 => ?_)
    show gk_K Z Y 1 gk_rI 16 [(0, .ref a0)] [.int r23.1] r23.2 _
    exact gk_iret hC hR dX8_line_16 rfl
  · refine gk_aload_n hC 0 dX8_line_17 rfl (q := 18) rfl ?_
    refine gk_getR hC dX8_line_18 fl_RX8_70 (by decide) t0 (q := 21) rfl (fun t24 => ?_)
    refine gk_iconst hC (v := 0) dX8_line_21 kc_i_0 (q := 22) rfl ?_
    refine gk_dup2 hC dX8_line_22 rfl rfl (q := 23) rfl ?_
    refine gk_iald hC dX8_line_23 t24 (q := 24) rfl (fun x25 => ?_)
    refine gk_iconst hC (v := 1) dX8_line_24 kc_i_1 (q := 25) rfl ?_
    refine gk_iadd hC dX8_line_25 (q := 26) rfl ?_
    refine gk_iast hC dX8_line_26 t24 (q := 27) rfl (fun M26 => ?_)
    refine gk_aload_n hC 0 dX8_line_27 rfl (q := 28) rfl ?_
    refine gk_aload_n hC 0 dX8_line_28 rfl (q := 29) rfl ?_
    refine gk_getR hC dX8_line_29 fl_RX8_70 (by decide) t0 (q := 32) rfl (fun t27 => ?_)
    refine gk_iconst hC (v := 0) dX8_line_32 kc_i_0 (q := 33) rfl ?_
    refine gk_iald hC dX8_line_33 t27 (q := 34) rfl (fun x28 => ?_)
    refine gk_iconst hC (v := 1) dX8_line_34 kc_i_1 (q := 35) rfl ?_
    refine gk_isub hC dX8_line_35 (q := 36) rfl ?_
    refine gk_callV (As := [.int (x28 - 1)]) (rest := []) hC (fun l => m_X8_done l hY a0 (x28 - 1) M26 t0) ml_RX8_117 ok_X8_done dX8_line_36 t0 ⟨by decide, rfl⟩ rfl (by decide) (Nat.le_of_ble_eq_true rfl) rfl (q := 39) rfl (fun r29 => ?_)
    show gk_K Z Y 1 gk_rI 39 [(0, .ref a0)] [.int r29.1] r29.2 _
    exact gk_iret hC hR dX8_line_39 rfl
end
