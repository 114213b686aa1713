noncomputable section
def f_X0_begin (LN : Nat → Nat) (RF : Nat → Nat → Nat) (a0 : Nat) (a1 : Int32) (M : gk_M) : Option (gk_M) :=
  gk_jn (fun y21 : gk_M =>
    some y21) fun k29_21 =>
  if 50 ≤ (M.1 a0 1) then
    k29_21 M
  else
  gk_ast LN M (RF a0 0) (M.1 a0 1) a1 fun M24 =>
  gk_put M24 a0 1 ((M24.1 a0 1) + 1) fun M25 =>
  k29_21 M25
set_option maxHeartbeats 4000000 in
set_option maxRecDepth 100000 in
theorem m_X0_begin (l : Launch) {Y : gk_Y} (hY : gk_WF Y) (a0 : Nat) (a1 : Int32) (M : gk_M) (t0 : gk_T Y 10 a0) : gk_MF l Y yX0_begin cX0_begin 2 none 0 [.ref a0, .int a1] M gk_rV (f_X0_begin (gk_ln Y) (gk_rf Y) a0 a1 M) := by
  refine gk_met hY (plainFor_of_name (by decide)) (Nat.le_of_ble_eq_true rfl) fun Z hC hR => ?_
  show gk_K Z Y 2 gk_rV 0 [(0, .ref a0), (1, .int a1)] [] M _
  unfold f_X0_begin
  refine gk_aload_n hC 0 dX0_begin_0 rfl (q := 1) rfl ?_
  refine gk_getI hC dX0_begin_1 fl_RX0_15 t0 (q := 4) rfl ?_
  refine gk_bipush hC (v := 50) dX0_begin_4 kc_b_50 (q := 6) rfl ?_
  refine gk_jnR (fun k29_21 => ∀ z22 : gk_M, gk_K Z Y 2 gk_rV 29 [] [] z22 (k29_21 z22)) (fun y21 => ?_) (fun k29_21 hk29_21 => ?_)
  · show gk_K Z Y 2 gk_rV 29 [] [] y21 _
    exact gk_vret hC hR dX0_begin_29 rfl
  · refine gk_icmp_ge hC dX0_begin_6 (tg := 29) rfl (q := 9) rfl ?_ ?_
    · refine gk_pick [] rfl ?_
      exact hk29_21 M
    · refine gk_aload_n hC 0 dX0_begin_9 rfl (q := 10) rfl ?_
      refine gk_getR hC dX0_begin_10 fl_RX0_9 (by decide) t0 (q := 13) rfl (fun t23 => ?_)
      refine gk_aload_n hC 0 dX0_begin_13 rfl (q := 14) rfl ?_
      refine gk_getI hC dX0_begin_14 fl_RX0_15 t0 (q := 17) rfl ?_
      refine gk_iload_n hC 1 dX0_begin_17 rfl (q := 18) rfl ?_
      refine gk_iast hC dX0_begin_18 t23 (q := 19) rfl (fun M24 => ?_)
      refine gk_aload_n hC 0 dX0_begin_19 rfl (q := 20) rfl ?_
      refine gk_dup hC dX0_begin_20 rfl (q := 21) rfl ?_
      refine gk_getI hC dX0_begin_21 fl_RX0_15 t0 (q := 24) rfl ?_
      refine gk_iconst hC (v := 1) dX0_begin_24 kc_i_1 (q := 25) rfl ?_
      refine gk_iadd hC dX0_begin_25 (q := 26) rfl ?_
      refine gk_putI hC dX0_begin_26 fp_RX0_15 t0 (q := 29) rfl (fun M25 => ?_)
      refine gk_pick [] rfl ?_
      exact hk29_21 M25
def f_X0_hear (LN : Nat → Nat) (RF : Nat → Nat → Nat) (rec0 : Nat → Int32 → Int32 → gk_M → Option (Int32 × gk_M)) (rec1 : Nat → Int32 → Int32 → gk_M → Option (Int32 × gk_M)) (rec2 : Nat → Int32 → Int32 → gk_M → Option (Int32 × gk_M)) (rec3 : Nat → Int32 → Int32 → gk_M → Option (Int32 × gk_M)) (a0 : Nat) (a1 : Int32) (a2 : Int32) (M : gk_M) : Option (Int32 × gk_M) :=
  gk_lk a1 [(2, (f_X0_begin LN RF a0 30 M).bind fun r21 =>
    (rec0 a0 0 a2 r21).bind fun r22 =>
    some ((r22.1 * 3), r22.2)),
    (3, (f_X0_begin LN RF a0 40 M).bind fun r23 =>
    (rec0 a0 2 a2 r23).bind fun r24 =>
    (rec2 a0 (r24.2.1 a0 2) a2 r24.2).bind fun r25 =>
    some ((r24.1 - r25.1), r25.2))]
  ((f_X0_begin LN RF a0 10 M).bind fun r26 =>
  some ((a2 + (r26.1 a0 3)), r26))
set_option maxHeartbeats 4000000 in
set_option maxRecDepth 100000 in
theorem m_X0_hear (l : Launch) {Y : gk_Y} {d dn : Nat} (hdn : dn + 1 ≤ d) (hdb : 1 ≤ d) (hY : gk_WF Y) (rec0 : Nat → Int32 → Int32 → gk_M → Option (Int32 × gk_M)) (rec1 : Nat → Int32 → Int32 → gk_M → Option (Int32 × gk_M)) (rec2 : Nat → Int32 → Int32 → gk_M → Option (Int32 × gk_M)) (rec3 : Nat → Int32 → Int32 → gk_M → Option (Int32 × gk_M)) (hrec0 : ∀ (l : Launch) (b0 : Nat) (b1 b2 : Int32) (M : gk_M), gk_T Y 10 b0 → gk_MF l Y yX0_hear cX0_hear 3 (some .int) dn [.ref b0, .int b1, .int b2] M gk_rI (rec0 b0 b1 b2 M)) (hrec1 : ∀ (l : Launch) (b0 : Nat) (b1 b2 : Int32) (M : gk_M), gk_T Y 10 b0 → gk_MF l Y yX0_turn cX0_turn 3 (some .int) dn [.ref b0, .int b1, .int b2] M gk_rI (rec1 b0 b1 b2 M)) (hrec2 : ∀ (l : Launch) (b0 : Nat) (b1 b2 : Int32) (M : gk_M), gk_T Y 10 b0 → gk_MF l Y yX0_pay cX0_pay 3 (some .int) dn [.ref b0, .int b1, .int b2] M gk_rI (rec2 b0 b1 b2 M)) (hrec3 : ∀ (l : Launch) (b0 : Nat) (b1 b2 : Int32) (M : gk_M), gk_T Y 10 b0 → gk_MF l Y yX0_end cX0_end 3 (some .int) dn [.ref b0, .int b1, .int b2] M gk_rI (rec3 b0 b1 b2 M)) (a0 : Nat) (a1 : Int32) (a2 : Int32) (M : gk_M) (t0 : gk_T Y 10 a0) : gk_MF l Y yX0_hear cX0_hear 3 (some .int) d [.ref a0, .int a1, .int a2] M gk_rI (f_X0_hear (gk_ln Y) (gk_rf Y) rec0 rec1 rec2 rec3 a0 a1 a2 M) := by
  refine gk_met hY (plainFor_of_name (by decide)) (Nat.le_of_ble_eq_true rfl) fun Z hC hR => ?_
  show gk_K Z Y 3 gk_rI 0 [(0, .ref a0), (1, .int a1), (2, .int a2)] [] M _
  unfold f_X0_hear
  refine gk_iload_n hC 1 dX0_hear_0 rfl (q := 1) rfl ?_
  refine gk_lookup hC (ts := [28, 43]) (tg := 66) dX0_hear_1 (by decide) (by decide) rfl (by decide) rfl ⟨?_, ?_, trivial⟩ ?_
  · refine gk_aload_n hC 0 dX0_hear_28 rfl (q := 29) rfl ?_
    refine gk_bipush hC (v := 30) dX0_hear_29 kc_b_30 (q := 31) rfl ?_
    refine gk_callV (As := [.int 30]) (rest := []) hC (fun l => m_X0_begin l hY a0 30 M t0) ml_RX0_55 ok_X0_begin dX0_hear_31 t0 ⟨by decide, rfl⟩ rfl (Nat.le_trans (by decide) hdb) (Nat.le_of_ble_eq_true rfl) rfl (q := 34) rfl (fun r21 => ?_)
    show gk_K Z Y 3 gk_rI 34 [(0, .ref a0), (1, .int a1), (2, .int a2)] [] r21 _
    refine gk_aload_n hC 0 dX0_hear_34 rfl (q := 35) rfl ?_
    refine gk_iconst hC (v := 0) dX0_hear_35 kc_i_0 (q := 36) rfl ?_
    refine gk_iload_n hC 2 dX0_hear_36 rfl (q := 37) rfl ?_
    refine gk_callV (As := [.int 0, .int a2]) (rest := []) hC (fun l => hrec0 l a0 0 a2 r21 t0) ml_RX0_42 ok_X0_hear dX0_hear_37 t0 ⟨by decide, rfl⟩ rfl hdn (Nat.le_of_ble_eq_true rfl) rfl (q := 40) rfl (fun r22 => ?_)
    show gk_K Z Y 3 gk_rI 40 [(0, .ref a0), (1, .int a1), (2, .int a2)] [.int r22.1] r22.2 _
    refine gk_iconst hC (v := 3) dX0_hear_40 kc_i_3 (q := 41) rfl ?_
    refine gk_imul hC dX0_hear_41 (q := 42) rfl ?_
    exact gk_iret hC hR dX0_hear_42 rfl
  · refine gk_aload_n hC 0 dX0_hear_43 rfl (q := 44) rfl ?_
    refine gk_bipush hC (v := 40) dX0_hear_44 kc_b_40 (q := 46) rfl ?_
    refine gk_callV (As := [.int 40]) (rest := []) hC (fun l => m_X0_begin l hY a0 40 M t0) ml_RX0_55 ok_X0_begin dX0_hear_46 t0 ⟨by decide, rfl⟩ rfl (Nat.le_trans (by decide) hdb) (Nat.le_of_ble_eq_true rfl) rfl (q := 49) rfl (fun r23 => ?_)
    show gk_K Z Y 3 gk_rI 49 [(0, .ref a0), (1, .int a1), (2, .int a2)] [] r23 _
    refine gk_aload_n hC 0 dX0_hear_49 rfl (q := 50) rfl ?_
    refine gk_iconst hC (v := 2) dX0_hear_50 kc_i_2 (q := 51) rfl ?_
    refine gk_iload_n hC 2 dX0_hear_51 rfl (q := 52) rfl ?_
    refine gk_callV (As := [.int 2, .int a2]) (rest := []) hC (fun l => hrec0 l a0 2 a2 r23 t0) ml_RX0_42 ok_X0_hear dX0_hear_52 t0 ⟨by decide, rfl⟩ rfl hdn (Nat.le_of_ble_eq_true rfl) rfl (q := 55) rfl (fun r24 => ?_)
    show gk_K Z Y 3 gk_rI 55 [(0, .ref a0), (1, .int a1), (2, .int a2)] [.int r24.1] r24.2 _
    refine gk_aload_n hC 0 dX0_hear_55 rfl (q := 56) rfl ?_
    refine gk_aload_n hC 0 dX0_hear_56 rfl (q := 57) rfl ?_
    refine gk_getI hC dX0_hear_57 fl_RX0_24 t0 (q := 60) rfl ?_
    refine gk_iload_n hC 2 dX0_hear_60 rfl (q := 61) rfl ?_
    refine gk_callV (As := [.int (r24.2.1 a0 2), .int a2]) (rest := [.int r24.1]) hC (fun l => hrec2 l a0 (r24.2.1 a0 2) a2 r24.2 t0) ml_RX0_49 ok_X0_pay dX0_hear_61 t0 ⟨by decide, rfl⟩ rfl hdn (Nat.le_of_ble_eq_true rfl) rfl (q := 64) rfl (fun r25 => ?_)
    show gk_K Z Y 3 gk_rI 64 [(0, .ref a0), (1, .int a1), (2, .int a2)] [.int r25.1, .int r24.1] r25.2 _
    refine gk_isub hC dX0_hear_64 (q := 65) rfl ?_
    exact gk_iret hC hR dX0_hear_65 rfl
  · refine gk_aload_n hC 0 dX0_hear_66 rfl (q := 67) rfl ?_
    refine gk_bipush hC (v := 10) dX0_hear_67 kc_b_10 (q := 69) rfl ?_
    refine gk_callV (As := [.int 10]) (rest := []) hC (fun l => m_X0_begin l hY a0 10 M t0) ml_RX0_55 ok_X0_begin dX0_hear_69 t0 ⟨by decide, rfl⟩ rfl (Nat.le_trans (by decide) hdb) (Nat.le_of_ble_eq_true rfl) rfl (q := 72) rfl (fun r26 => ?_)
    show gk_K Z Y 3 gk_rI 72 [(0, .ref a0), (1, .int a1), (2, .int a2)] [] r26 _
    refine gk_iload_n hC 2 dX0_hear_72 rfl (q := 73) rfl ?_
    refine gk_aload_n hC 0 dX0_hear_73 rfl (q := 74) rfl ?_
    refine gk_getI hC dX0_hear_74 fl_RX0_27 t0 (q := 77) rfl ?_
    refine gk_iadd hC dX0_hear_77 (q := 78) rfl ?_
    exact gk_iret hC hR dX0_hear_78 rfl
def f_X0_turn (LN : Nat → Nat) (RF : Nat → Nat → Nat) (rec0 : Nat → Int32 → Int32 → gk_M → Option (Int32 × gk_M)) (rec1 : Nat → Int32 → Int32 → gk_M → Option (Int32 × gk_M)) (rec2 : Nat → Int32 → Int32 → gk_M → Option (Int32 × gk_M)) (rec3 : Nat → Int32 → Int32 → gk_M → Option (Int32 × gk_M)) (a0 : Nat) (a1 : Int32) (a2 : Int32) (M : gk_M) : Option (Int32 × gk_M) :=
  gk_lk a1 [(1, (f_X0_begin LN RF a0 20 M).bind fun r21 =>
    (rec1 a0 0 a2 r21).bind fun r22 =>
    some ((r22.1 + (r22.2.1 a0 5)), r22.2)),
    (3, (f_X0_begin LN RF a0 41 M).bind fun r23 =>
    (rec1 a0 2 (a2 - (r23.1 a0 5)) r23).bind fun r24 =>
    some (r24.1, r24.2)),
    (6, (f_X0_begin LN RF a0 70 M).bind fun r25 =>
    (rec1 a0 0 a2 r25).bind fun r26 =>
    (rec0 a0 (r26.2.1 a0 2) (r26.2.1 a0 5) r26.2).bind fun r27 =>
    some ((r26.1 ^^^ r27.1), r27.2))]
  ((f_X0_begin LN RF a0 11 M).bind fun r28 =>
  (rec0 a0 (r28.1 a0 2) a2 r28).bind fun r29 =>
  some ((r29.1 * 2), r29.2))
set_option maxHeartbeats 4000000 in
set_option maxRecDepth 100000 in
theorem m_X0_turn (l : Launch) {Y : gk_Y} {d dn : Nat} (hdn : dn + 1 ≤ d) (hdb : 1 ≤ d) (hY : gk_WF Y) (rec0 : Nat → Int32 → Int32 → gk_M → Option (Int32 × gk_M)) (rec1 : Nat → Int32 → Int32 → gk_M → Option (Int32 × gk_M)) (rec2 : Nat → Int32 → Int32 → gk_M → Option (Int32 × gk_M)) (rec3 : Nat → Int32 → Int32 → gk_M → Option (Int32 × gk_M)) (hrec0 : ∀ (l : Launch) (b0 : Nat) (b1 b2 : Int32) (M : gk_M), gk_T Y 10 b0 → gk_MF l Y yX0_hear cX0_hear 3 (some .int) dn [.ref b0, .int b1, .int b2] M gk_rI (rec0 b0 b1 b2 M)) (hrec1 : ∀ (l : Launch) (b0 : Nat) (b1 b2 : Int32) (M : gk_M), gk_T Y 10 b0 → gk_MF l Y yX0_turn cX0_turn 3 (some .int) dn [.ref b0, .int b1, .int b2] M gk_rI (rec1 b0 b1 b2 M)) (hrec2 : ∀ (l : Launch) (b0 : Nat) (b1 b2 : Int32) (M : gk_M), gk_T Y 10 b0 → gk_MF l Y yX0_pay cX0_pay 3 (some .int) dn [.ref b0, .int b1, .int b2] M gk_rI (rec2 b0 b1 b2 M)) (hrec3 : ∀ (l : Launch) (b0 : Nat) (b1 b2 : Int32) (M : gk_M), gk_T Y 10 b0 → gk_MF l Y yX0_end cX0_end 3 (some .int) dn [.ref b0, .int b1, .int b2] M gk_rI (rec3 b0 b1 b2 M)) (a0 : Nat) (a1 : Int32) (a2 : Int32) (M : gk_M) (t0 : gk_T Y 10 a0) : gk_MF l Y yX0_turn cX0_turn 3 (some .int) d [.ref a0, .int a1, .int a2] M gk_rI (f_X0_turn (gk_ln Y) (gk_rf Y) rec0 rec1 rec2 rec3 a0 a1 a2 M) := by
  refine gk_met hY (plainFor_of_name (by decide)) (Nat.le_of_ble_eq_true rfl) fun Z hC hR => ?_
  show gk_K Z Y 3 gk_rI 0 [(0, .ref a0), (1, .int a1), (2, .int a2)] [] M _
  unfold f_X0_turn
  refine gk_iload_n hC 1 dX0_turn_0 rfl (q := 1) rfl ?_
  refine gk_lookup hC (ts := [36, 54, 72]) (tg := 98) dX0_turn_1 (by decide) (by decide) rfl (by decide) rfl ⟨?_, ?_, ?_, trivial⟩ ?_
  · refine gk_aload_n hC 0 dX0_turn_36 rfl (q := 37) rfl ?_
    refine gk_bipush hC (v := 20) dX0_turn_37 kc_b_20 (q := 39) rfl ?_
    refine gk_callV (As := [.int 20]) (rest := []) hC (fun l => m_X0_begin l hY a0 20 M t0) ml_RX0_55 ok_X0_begin dX0_turn_39 t0 ⟨by decide, rfl⟩ rfl (Nat.le_trans (by decide) hdb) (Nat.le_of_ble_eq_true rfl) rfl (q := 42) rfl (fun r21 => ?_)
    show gk_K Z Y 3 gk_rI 42 [(0, .ref a0), (1, .int a1), (2, .int a2)] [] r21 _
    refine gk_aload_n hC 0 dX0_turn_42 rfl (q := 43) rfl ?_
    refine gk_iconst hC (v := 0) dX0_turn_43 kc_i_0 (q := 44) rfl ?_
    refine gk_iload_n hC 2 dX0_turn_44 rfl (q := 45) rfl ?_
    refine gk_callV (As := [.int 0, .int a2]) (rest := []) hC (fun l => hrec1 l a0 0 a2 r21 t0) ml_RX0_46 ok_X0_turn dX0_turn_45 t0 ⟨by decide, rfl⟩ rfl hdn (Nat.le_of_ble_eq_true rfl) rfl (q := 48) rfl (fun r22 => ?_)
    show gk_K Z Y 3 gk_rI 48 [(0, .ref a0), (1, .int a1), (2, .int a2)] [.int r22.1] r22.2 _
    refine gk_aload_n hC 0 dX0_turn_48 rfl (q := 49) rfl ?_
    refine gk_getI hC dX0_turn_49 fl_RX0_39 t0 (q := 52) rfl ?_
    refine gk_iadd hC dX0_turn_52 (q := 53) rfl ?_
    exact gk_iret hC hR dX0_turn_53 rfl
  · refine gk_aload_n hC 0 dX0_turn_54 rfl (q := 55) rfl ?_
    refine gk_bipush hC (v := 41) dX0_turn_55 kc_b_41 (q := 57) rfl ?_
    refine gk_callV (As := [.int 41]) (rest := []) hC (fun l => m_X0_begin l hY a0 41 M t0) ml_RX0_55 ok_X0_begin dX0_turn_57 t0 ⟨by decide, rfl⟩ rfl (Nat.le_trans (by decide) hdb) (Nat.le_of_ble_eq_true rfl) rfl (q := 60) rfl (fun r23 => ?_)
    show gk_K Z Y 3 gk_rI 60 [(0, .ref a0), (1, .int a1), (2, .int a2)] [] r23 _
    refine gk_aload_n hC 0 dX0_turn_60 rfl (q := 61) rfl ?_
    refine gk_iconst hC (v := 2) dX0_turn_61 kc_i_2 (q := 62) rfl ?_
    refine gk_iload_n hC 2 dX0_turn_62 rfl (q := 63) rfl ?_
    refine gk_aload_n hC 0 dX0_turn_63 rfl (q := 64) rfl ?_
    refine gk_getI hC dX0_turn_64 fl_RX0_39 t0 (q := 67) rfl ?_
    refine gk_isub hC dX0_turn_67 (q := 68) rfl ?_
    refine gk_callV (As := [.int 2, .int (a2 - (r23.1 a0 5))]) (rest := []) hC (fun l => hrec1 l a0 2 (a2 - (r23.1 a0 5)) r23 t0) ml_RX0_46 ok_X0_turn dX0_turn_68 t0 ⟨by decide, rfl⟩ rfl hdn (Nat.le_of_ble_eq_true rfl) rfl (q := 71) rfl (fun r24 => ?_)
    show gk_K Z Y 3 gk_rI 71 [(0, .ref a0), (1, .int a1), (2, .int a2)] [.int r24.1] r24.2 _
    exact gk_iret hC hR dX0_turn_71 rfl
  · refine gk_aload_n hC 0 dX0_turn_72 rfl (q := 73) rfl ?_
    refine gk_bipush hC (v := 70) dX0_turn_73 kc_b_70 (q := 75) rfl ?_
    refine gk_callV (As := [.int 70]) (rest := []) hC (fun l => m_X0_begin l hY a0 70 M t0) ml_RX0_55 ok_X0_begin dX0_turn_75 t0 ⟨by decide, rfl⟩ rfl (Nat.le_trans (by decide) hdb) (Nat.le_of_ble_eq_true rfl) rfl (q := 78) rfl (fun r25 => ?_)
    show gk_K Z Y 3 gk_rI 78 [(0, .ref a0), (1, .int a1), (2, .int a2)] [] r25 _
    refine gk_aload_n hC 0 dX0_turn_78 rfl (q := 79) rfl ?_
    refine gk_iconst hC (v := 0) dX0_turn_79 kc_i_0 (q := 80) rfl ?_
    refine gk_iload_n hC 2 dX0_turn_80 rfl (q := 81) rfl ?_
    refine gk_callV (As := [.int 0, .int a2]) (rest := []) hC (fun l => hrec1 l a0 0 a2 r25 t0) ml_RX0_46 ok_X0_turn dX0_turn_81 t0 ⟨by decide, rfl⟩ rfl hdn (Nat.le_of_ble_eq_true rfl) rfl (q := 84) rfl (fun r26 => ?_)
    show gk_K Z Y 3 gk_rI 84 [(0, .ref a0), (1, .int a1), (2, .int a2)] [.int r26.1] r26.2 _
    refine gk_aload_n hC 0 dX0_turn_84 rfl (q := 85) rfl ?_
    refine gk_aload_n hC 0 dX0_turn_85 rfl (q := 86) rfl ?_
    refine gk_getI hC dX0_turn_86 fl_RX0_24 t0 (q := 89) rfl ?_
    refine gk_aload_n hC 0 dX0_turn_89 rfl (q := 90) rfl ?_
    refine gk_getI hC dX0_turn_90 fl_RX0_39 t0 (q := 93) rfl ?_
    refine gk_callV (As := [.int (r26.2.1 a0 2), .int (r26.2.1 a0 5)]) (rest := [.int r26.1]) hC (fun l => hrec0 l a0 (r26.2.1 a0 2) (r26.2.1 a0 5) r26.2 t0) ml_RX0_42 ok_X0_hear dX0_turn_93 t0 ⟨by decide, rfl⟩ rfl hdn (Nat.le_of_ble_eq_true rfl) rfl (q := 96) rfl (fun r27 => ?_)
    show gk_K Z Y 3 gk_rI 96 [(0, .ref a0), (1, .int a1), (2, .int a2)] [.int r27.1, .int r26.1] r27.2 _
    refine gk_ixor hC dX0_turn_96 (q := 97) rfl ?_
    exact gk_iret hC hR dX0_turn_97 rfl
  · refine gk_aload_n hC 0 dX0_turn_98 rfl (q := 99) rfl ?_
    refine gk_bipush hC (v := 11) dX0_turn_99 kc_b_11 (q := 101) rfl ?_
    refine gk_callV (As := [.int 11]) (rest := []) hC (fun l => m_X0_begin l hY a0 11 M t0) ml_RX0_55 ok_X0_begin dX0_turn_101 t0 ⟨by decide, rfl⟩ rfl (Nat.le_trans (by decide) hdb) (Nat.le_of_ble_eq_true rfl) rfl (q := 104) rfl (fun r28 => ?_)
    show gk_K Z Y 3 gk_rI 104 [(0, .ref a0), (1, .int a1), (2, .int a2)] [] r28 _
    refine gk_aload_n hC 0 dX0_turn_104 rfl (q := 105) rfl ?_
    refine gk_aload_n hC 0 dX0_turn_105 rfl (q := 106) rfl ?_
    refine gk_getI hC dX0_turn_106 fl_RX0_24 t0 (q := 109) rfl ?_
    refine gk_iload_n hC 2 dX0_turn_109 rfl (q := 110) rfl ?_
    refine gk_callV (As := [.int (r28.1 a0 2), .int a2]) (rest := []) hC (fun l => hrec0 l a0 (r28.1 a0 2) a2 r28 t0) ml_RX0_42 ok_X0_hear dX0_turn_110 t0 ⟨by decide, rfl⟩ rfl hdn (Nat.le_of_ble_eq_true rfl) rfl (q := 113) rfl (fun r29 => ?_)
    show gk_K Z Y 3 gk_rI 113 [(0, .ref a0), (1, .int a1), (2, .int a2)] [.int r29.1] r29.2 _
    refine gk_iconst hC (v := 2) dX0_turn_113 kc_i_2 (q := 114) rfl ?_
    refine gk_imul hC dX0_turn_114 (q := 115) rfl ?_
    exact gk_iret hC hR dX0_turn_115 rfl
def f_X0_pay (LN : Nat → Nat) (RF : Nat → Nat → Nat) (rec0 : Nat → Int32 → Int32 → gk_M → Option (Int32 × gk_M)) (rec1 : Nat → Int32 → Int32 → gk_M → Option (Int32 × gk_M)) (rec2 : Nat → Int32 → Int32 → gk_M → Option (Int32 × gk_M)) (rec3 : Nat → Int32 → Int32 → gk_M → Option (Int32 × gk_M)) (a0 : Nat) (a1 : Int32) (a2 : Int32) (M : gk_M) : Option (Int32 × gk_M) :=
  gk_lk a1 [(5, (f_X0_begin LN RF a0 60 M).bind fun r21 =>
    (rec2 a0 0 a2 r21).bind fun r22 =>
    some ((r22.1 + (r22.2.1 a0 5)), r22.2)),
    (7, (f_X0_begin LN RF a0 80 M).bind fun r23 =>
    (rec2 a0 0 a2 r23).bind fun r24 =>
    some ((r24.1 * 2), r24.2))]
  ((f_X0_begin LN RF a0 12 M).bind fun r25 =>
  some ((a2 - (r25.1 a0 4)), r25))
set_option maxHeartbeats 4000000 in
set_option maxRecDepth 100000 in
theorem m_X0_pay (l : Launch) {Y : gk_Y} {d dn : Nat} (hdn : dn + 1 ≤ d) (hdb : 1 ≤ d) (hY : gk_WF Y) (rec0 : Nat → Int32 → Int32 → gk_M → Option (Int32 × gk_M)) (rec1 : Nat → Int32 → Int32 → gk_M → Option (Int32 × gk_M)) (rec2 : Nat → Int32 → Int32 → gk_M → Option (Int32 × gk_M)) (rec3 : Nat → Int32 → Int32 → gk_M → Option (Int32 × gk_M)) (hrec0 : ∀ (l : Launch) (b0 : Nat) (b1 b2 : Int32) (M : gk_M), gk_T Y 10 b0 → gk_MF l Y yX0_hear cX0_hear 3 (some .int) dn [.ref b0, .int b1, .int b2] M gk_rI (rec0 b0 b1 b2 M)) (hrec1 : ∀ (l : Launch) (b0 : Nat) (b1 b2 : Int32) (M : gk_M), gk_T Y 10 b0 → gk_MF l Y yX0_turn cX0_turn 3 (some .int) dn [.ref b0, .int b1, .int b2] M gk_rI (rec1 b0 b1 b2 M)) (hrec2 : ∀ (l : Launch) (b0 : Nat) (b1 b2 : Int32) (M : gk_M), gk_T Y 10 b0 → gk_MF l Y yX0_pay cX0_pay 3 (some .int) dn [.ref b0, .int b1, .int b2] M gk_rI (rec2 b0 b1 b2 M)) (hrec3 : ∀ (l : Launch) (b0 : Nat) (b1 b2 : Int32) (M : gk_M), gk_T Y 10 b0 → gk_MF l Y yX0_end cX0_end 3 (some .int) dn [.ref b0, .int b1, .int b2] M gk_rI (rec3 b0 b1 b2 M)) (a0 : Nat) (a1 : Int32) (a2 : Int32) (M : gk_M) (t0 : gk_T Y 10 a0) : gk_MF l Y yX0_pay cX0_pay 3 (some .int) d [.ref a0, .int a1, .int a2] M gk_rI (f_X0_pay (gk_ln Y) (gk_rf Y) rec0 rec1 rec2 rec3 a0 a1 a2 M) := by
  refine gk_met hY (plainFor_of_name (by decide)) (Nat.le_of_ble_eq_true rfl) fun Z hC hR => ?_
  show gk_K Z Y 3 gk_rI 0 [(0, .ref a0), (1, .int a1), (2, .int a2)] [] M _
  unfold f_X0_pay
  refine gk_iload_n hC 1 dX0_pay_0 rfl (q := 1) rfl ?_
  refine gk_lookup hC (ts := [28, 46]) (tg := 61) dX0_pay_1 (by decide) (by decide) rfl (by decide) rfl ⟨?_, ?_, trivial⟩ ?_
  · refine gk_aload_n hC 0 dX0_pay_28 rfl (q := 29) rfl ?_
    refine gk_bipush hC (v := 60) dX0_pay_29 kc_b_60 (q := 31) rfl ?_
    refine gk_callV (As := [.int 60]) (rest := []) hC (fun l => m_X0_begin l hY a0 60 M t0) ml_RX0_55 ok_X0_begin dX0_pay_31 t0 ⟨by decide, rfl⟩ rfl (Nat.le_trans (by decide) hdb) (Nat.le_of_ble_eq_true rfl) rfl (q := 34) rfl (fun r21 => ?_)
    show gk_K Z Y 3 gk_rI 34 [(0, .ref a0), (1, .int a1), (2, .int a2)] [] r21 _
    refine gk_aload_n hC 0 dX0_pay_34 rfl (q := 35) rfl ?_
    refine gk_iconst hC (v := 0) dX0_pay_35 kc_i_0 (q := 36) rfl ?_
    refine gk_iload_n hC 2 dX0_pay_36 rfl (q := 37) rfl ?_
    refine gk_callV (As := [.int 0, .int a2]) (rest := []) hC (fun l => hrec2 l a0 0 a2 r21 t0) ml_RX0_49 ok_X0_pay dX0_pay_37 t0 ⟨by decide, rfl⟩ rfl hdn (Nat.le_of_ble_eq_true rfl) rfl (q := 40) rfl (fun r22 => ?_)
    show gk_K Z Y 3 gk_rI 40 [(0, .ref a0), (1, .int a1), (2, .int a2)] [.int r22.1] r22.2 _
    refine gk_aload_n hC 0 dX0_pay_40 rfl (q := 41) rfl ?_
    refine gk_getI hC dX0_pay_41 fl_RX0_39 t0 (q := 44) rfl ?_
    refine gk_iadd hC dX0_pay_44 (q := 45) rfl ?_
    exact gk_iret hC hR dX0_pay_45 rfl
  · refine gk_aload_n hC 0 dX0_pay_46 rfl (q := 47) rfl ?_
    refine gk_bipush hC (v := 80) dX0_pay_47 kc_b_80 (q := 49) rfl ?_
    refine gk_callV (As := [.int 80]) (rest := []) hC (fun l => m_X0_begin l hY a0 80 M t0) ml_RX0_55 ok_X0_begin dX0_pay_49 t0 ⟨by decide, rfl⟩ rfl (Nat.le_trans (by decide) hdb) (Nat.le_of_ble_eq_true rfl) rfl (q := 52) rfl (fun r23 => ?_)
    show gk_K Z Y 3 gk_rI 52 [(0, .ref a0), (1, .int a1), (2, .int a2)] [] r23 _
    refine gk_aload_n hC 0 dX0_pay_52 rfl (q := 53) rfl ?_
    refine gk_iconst hC (v := 0) dX0_pay_53 kc_i_0 (q := 54) rfl ?_
    refine gk_iload_n hC 2 dX0_pay_54 rfl (q := 55) rfl ?_
    refine gk_callV (As := [.int 0, .int a2]) (rest := []) hC (fun l => hrec2 l a0 0 a2 r23 t0) ml_RX0_49 ok_X0_pay dX0_pay_55 t0 ⟨by decide, rfl⟩ rfl hdn (Nat.le_of_ble_eq_true rfl) rfl (q := 58) rfl (fun r24 => ?_)
    show gk_K Z Y 3 gk_rI 58 [(0, .ref a0), (1, .int a1), (2, .int a2)] [.int r24.1] r24.2 _
    refine gk_iconst hC (v := 2) dX0_pay_58 kc_i_2 (q := 59) rfl ?_
    refine gk_imul hC dX0_pay_59 (q := 60) rfl ?_
    exact gk_iret hC hR dX0_pay_60 rfl
  · refine gk_aload_n hC 0 dX0_pay_61 rfl (q := 62) rfl ?_
    refine gk_bipush hC (v := 12) dX0_pay_62 kc_b_12 (q := 64) rfl ?_
    refine gk_callV (As := [.int 12]) (rest := []) hC (fun l => m_X0_begin l hY a0 12 M t0) ml_RX0_55 ok_X0_begin dX0_pay_64 t0 ⟨by decide, rfl⟩ rfl (Nat.le_trans (by decide) hdb) (Nat.le_of_ble_eq_true rfl) rfl (q := 67) rfl (fun r25 => ?_)
    show gk_K Z Y 3 gk_rI 67 [(0, .ref a0), (1, .int a1), (2, .int a2)] [] r25 _
    refine gk_iload_n hC 2 dX0_pay_67 rfl (q := 68) rfl ?_
    refine gk_aload_n hC 0 dX0_pay_68 rfl (q := 69) rfl ?_
    refine gk_getI hC dX0_pay_69 fl_RX0_33 t0 (q := 72) rfl ?_
    refine gk_isub hC dX0_pay_72 (q := 73) rfl ?_
    exact gk_iret hC hR dX0_pay_73 rfl
def f_X0_end (LN : Nat → Nat) (RF : Nat → Nat → Nat) (rec0 : Nat → Int32 → Int32 → gk_M → Option (Int32 × gk_M)) (rec1 : Nat → Int32 → Int32 → gk_M → Option (Int32 × gk_M)) (rec2 : Nat → Int32 → Int32 → gk_M → Option (Int32 × gk_M)) (rec3 : Nat → Int32 → Int32 → gk_M → Option (Int32 × gk_M)) (a0 : Nat) (a1 : Int32) (a2 : Int32) (M : gk_M) : Option (Int32 × gk_M) :=
  gk_jn (fun y21 : Unit =>
    (f_X0_begin LN RF a0 31 M).bind fun r23 =>
    (rec3 a0 0 (a2 + 1) r23).bind fun r24 =>
    some (r24.1, r24.2)) fun k28_21 =>
  gk_sw a1 2 [k28_21 (),
    k28_21 (),
    (f_X0_begin LN RF a0 50 M).bind fun r25 =>
    (rec2 a0 (r25.1 a0 2) a2 r25).bind fun r26 =>
    (rec3 a0 0 a2 r26.2).bind fun r27 =>
    some ((r26.1 - r27.1), r27.2)]
  ((f_X0_begin LN RF a0 13 M).bind fun r28 =>
  (rec1 a0 (r28.1 a0 2) a2 r28).bind fun r29 =>
  (rec2 a0 (r29.2.1 a0 2) a2 r29.2).bind fun r30 =>
  some ((r29.1 ^^^ r30.1), r30.2))
set_option maxHeartbeats 4000000 in
set_option maxRecDepth 100000 in
theorem m_X0_end (l : Launch) {Y : gk_Y} {d dn : Nat} (hdn : dn + 1 ≤ d) (hdb : 1 ≤ d) (hY : gk_WF Y) (rec0 : Nat → Int32 → Int32 → gk_M → Option (Int32 × gk_M)) (rec1 : Nat → Int32 → Int32 → gk_M → Option (Int32 × gk_M)) (rec2 : Nat → Int32 → Int32 → gk_M → Option (Int32 × gk_M)) (rec3 : Nat → Int32 → Int32 → gk_M → Option (Int32 × gk_M)) (hrec0 : ∀ (l : Launch) (b0 : Nat) (b1 b2 : Int32) (M : gk_M), gk_T Y 10 b0 → gk_MF l Y yX0_hear cX0_hear 3 (some .int) dn [.ref b0, .int b1, .int b2] M gk_rI (rec0 b0 b1 b2 M)) (hrec1 : ∀ (l : Launch) (b0 : Nat) (b1 b2 : Int32) (M : gk_M), gk_T Y 10 b0 → gk_MF l Y yX0_turn cX0_turn 3 (some .int) dn [.ref b0, .int b1, .int b2] M gk_rI (rec1 b0 b1 b2 M)) (hrec2 : ∀ (l : Launch) (b0 : Nat) (b1 b2 : Int32) (M : gk_M), gk_T Y 10 b0 → gk_MF l Y yX0_pay cX0_pay 3 (some .int) dn [.ref b0, .int b1, .int b2] M gk_rI (rec2 b0 b1 b2 M)) (hrec3 : ∀ (l : Launch) (b0 : Nat) (b1 b2 : Int32) (M : gk_M), gk_T Y 10 b0 → gk_MF l Y yX0_end cX0_end 3 (some .int) dn [.ref b0, .int b1, .int b2] M gk_rI (rec3 b0 b1 b2 M)) (a0 : Nat) (a1 : Int32) (a2 : Int32) (M : gk_M) (t0 : gk_T Y 10 a0) : gk_MF l Y yX0_end cX0_end 3 (some .int) d [.ref a0, .int a1, .int a2] M gk_rI (f_X0_end (gk_ln Y) (gk_rf Y) rec0 rec1 rec2 rec3 a0 a1 a2 M) := by
  refine gk_met hY (plainFor_of_name (by decide)) (Nat.le_of_ble_eq_true rfl) fun Z hC hR => ?_
  show gk_K Z Y 3 gk_rI 0 [(0, .ref a0), (1, .int a1), (2, .int a2)] [] M _
  unfold f_X0_end
  refine gk_iload_n hC 1 dX0_end_0 rfl (q := 1) rfl ?_
  refine gk_jnR (fun k28_21 => ∀ z22 : Unit, gk_K Z Y 3 gk_rI 28 [(0, .ref a0), (2, .int a2)] [] M (k28_21 z22)) (fun y21 => ?_) (fun k28_21 hk28_21 => ?_)
  · show gk_K Z Y 3 gk_rI 28 [(0, .ref a0), (2, .int a2)] [] M _
    refine gk_aload_n hC 0 dX0_end_28 rfl (q := 29) rfl ?_
    refine gk_bipush hC (v := 31) dX0_end_29 kc_b_31 (q := 31) rfl ?_
    refine gk_callV (As := [.int 31]) (rest := []) hC (fun l => m_X0_begin l hY a0 31 M t0) ml_RX0_55 ok_X0_begin dX0_end_31 t0 ⟨by decide, rfl⟩ rfl (Nat.le_trans (by decide) hdb) (Nat.le_of_ble_eq_true rfl) rfl (q := 34) rfl (fun r23 => ?_)
    show gk_K Z Y 3 gk_rI 34 [(0, .ref a0), (2, .int a2)] [] r23 _
    refine gk_aload_n hC 0 dX0_end_34 rfl (q := 35) rfl ?_
    refine gk_iconst hC (v := 0) dX0_end_35 kc_i_0 (q := 36) rfl ?_
    refine gk_iload_n hC 1 dX0_end_36 rfl (q := 37) rfl ?_
    refine gk_iconst hC (v := 1) dX0_end_37 kc_i_1 (q := 38) rfl ?_
    refine gk_iadd hC dX0_end_38 (q := 39) rfl ?_
    refine gk_callV (As := [.int 0, .int (a2 + 1)]) (rest := []) hC (fun l => hrec3 l a0 0 (a2 + 1) r23 t0) ml_RX0_52 ok_X0_end dX0_end_39 t0 ⟨by decide, rfl⟩ rfl hdn (Nat.le_of_ble_eq_true rfl) rfl (q := 42) rfl (fun r24 => ?_)
    show gk_K Z Y 3 gk_rI 42 [(0, .ref a0), (2, .int a2)] [.int r24.1] r24.2 _
    exact gk_iret hC hR dX0_end_42 rfl
  · refine gk_table hC (ts := [28, 28, 43]) (tg := 66) dX0_end_1 (by decide) (by decide) rfl ⟨?_, ?_, ?_, trivial⟩ ?_
    · refine gk_pick [0, 2] rfl ?_
      exact hk28_21 ()
    · refine gk_pick [0, 2] rfl ?_
      exact hk28_21 ()
    · refine gk_aload_n hC 0 dX0_end_43 rfl (q := 44) rfl ?_
      refine gk_bipush hC (v := 50) dX0_end_44 kc_b_50 (q := 46) rfl ?_
      refine gk_callV (As := [.int 50]) (rest := []) hC (fun l => m_X0_begin l hY a0 50 M t0) ml_RX0_55 ok_X0_begin dX0_end_46 t0 ⟨by decide, rfl⟩ rfl (Nat.le_trans (by decide) hdb) (Nat.le_of_ble_eq_true rfl) rfl (q := 49) rfl (fun r25 => ?_)
      show gk_K Z Y 3 gk_rI 49 [(0, .ref a0), (1, .int a1), (2, .int a2)] [] r25 _
      refine gk_aload_n hC 0 dX0_end_49 rfl (q := 50) rfl ?_
      refine gk_aload_n hC 0 dX0_end_50 rfl (q := 51) rfl ?_
      refine gk_getI hC dX0_end_51 fl_RX0_24 t0 (q := 54) rfl ?_
      refine gk_iload_n hC 2 dX0_end_54 rfl (q := 55) rfl ?_
      refine gk_callV (As := [.int (r25.1 a0 2), .int a2]) (rest := []) hC (fun l => hrec2 l a0 (r25.1 a0 2) a2 r25 t0) ml_RX0_49 ok_X0_pay dX0_end_55 t0 ⟨by decide, rfl⟩ rfl hdn (Nat.le_of_ble_eq_true rfl) rfl (q := 58) rfl (fun r26 => ?_)
      show gk_K Z Y 3 gk_rI 58 [(0, .ref a0), (1, .int a1), (2, .int a2)] [.int r26.1] r26.2 _
      refine gk_aload_n hC 0 dX0_end_58 rfl (q := 59) rfl ?_
      refine gk_iconst hC (v := 0) dX0_end_59 kc_i_0 (q := 60) rfl ?_
      refine gk_iload_n hC 2 dX0_end_60 rfl (q := 61) rfl ?_
      refine gk_callV (As := [.int 0, .int a2]) (rest := [.int r26.1]) hC (fun l => hrec3 l a0 0 a2 r26.2 t0) ml_RX0_52 ok_X0_end dX0_end_61 t0 ⟨by decide, rfl⟩ rfl hdn (Nat.le_of_ble_eq_true rfl) rfl (q := 64) rfl (fun r27 => ?_)
      show gk_K Z Y 3 gk_rI 64 [(0, .ref a0), (1, .int a1), (2, .int a2)] [.int r27.1, .int r26.1] r27.2 _
      refine gk_isub hC dX0_end_64 (q := 65) rfl ?_
      exact gk_iret hC hR dX0_end_65 rfl
    · refine gk_aload_n hC 0 dX0_end_66 rfl (q := 67) rfl ?_
      refine gk_bipush hC (v := 13) dX0_end_67 kc_b_13 (q := 69) rfl ?_
      refine gk_callV (As := [.int 13]) (rest := []) hC (fun l => m_X0_begin l hY a0 13 M t0) ml_RX0_55 ok_X0_begin dX0_end_69 t0 ⟨by decide, rfl⟩ rfl (Nat.le_trans (by decide) hdb) (Nat.le_of_ble_eq_true rfl) rfl (q := 72) rfl (fun r28 => ?_)
      show gk_K Z Y 3 gk_rI 72 [(0, .ref a0), (1, .int a1), (2, .int a2)] [] r28 _
      refine gk_aload_n hC 0 dX0_end_72 rfl (q := 73) rfl ?_
      refine gk_aload_n hC 0 dX0_end_73 rfl (q := 74) rfl ?_
      refine gk_getI hC dX0_end_74 fl_RX0_24 t0 (q := 77) rfl ?_
      refine gk_iload_n hC 2 dX0_end_77 rfl (q := 78) rfl ?_
      refine gk_callV (As := [.int (r28.1 a0 2), .int a2]) (rest := []) hC (fun l => hrec1 l a0 (r28.1 a0 2) a2 r28 t0) ml_RX0_46 ok_X0_turn dX0_end_78 t0 ⟨by decide, rfl⟩ rfl hdn (Nat.le_of_ble_eq_true rfl) rfl (q := 81) rfl (fun r29 => ?_)
      show gk_K Z Y 3 gk_rI 81 [(0, .ref a0), (1, .int a1), (2, .int a2)] [.int r29.1] r29.2 _
      refine gk_aload_n hC 0 dX0_end_81 rfl (q := 82) rfl ?_
      refine gk_aload_n hC 0 dX0_end_82 rfl (q := 83) rfl ?_
      refine gk_getI hC dX0_end_83 fl_RX0_24 t0 (q := 86) rfl ?_
      refine gk_iload_n hC 2 dX0_end_86 rfl (q := 87) rfl ?_
      refine gk_callV (As := [.int (r29.2.1 a0 2), .int a2]) (rest := [.int r29.1]) hC (fun l => hrec2 l a0 (r29.2.1 a0 2) a2 r29.2 t0) ml_RX0_49 ok_X0_pay dX0_end_87 t0 ⟨by decide, rfl⟩ rfl hdn (Nat.le_of_ble_eq_true rfl) rfl (q := 90) rfl (fun r30 => ?_)
      show gk_K Z Y 3 gk_rI 90 [(0, .ref a0), (1, .int a1), (2, .int a2)] [.int r30.1, .int r29.1] r30.2 _
      refine gk_ixor hC dX0_end_90 (q := 91) rfl ?_
      exact gk_iret hC hR dX0_end_91 rfl
def rc_B (LN : Nat → Nat) (RF : Nat → Nat → Nat) : Nat → Nat → Nat → Int32 → Int32 → gk_M → Option (Int32 × gk_M)
  | 0, _, _, _, _, _ => none
  | n + 1, w, b0, b1, b2, M => if w = 0 then f_X0_hear LN RF (rc_B LN RF n 0) (rc_B LN RF n 1) (rc_B LN RF n 2) (rc_B LN RF n 3) b0 b1 b2 M else if w = 1 then f_X0_turn LN RF (rc_B LN RF n 0) (rc_B LN RF n 1) (rc_B LN RF n 2) (rc_B LN RF n 3) b0 b1 b2 M else if w = 2 then f_X0_pay LN RF (rc_B LN RF n 0) (rc_B LN RF n 1) (rc_B LN RF n 2) (rc_B LN RF n 3) b0 b1 b2 M else f_X0_end LN RF (rc_B LN RF n 0) (rc_B LN RF n 1) (rc_B LN RF n 2) (rc_B LN RF n 3) b0 b1 b2 M
set_option maxRecDepth 100000 in
theorem rm_B {Y : gk_Y} (hY : gk_WF Y) : ∀ n : Nat, (∀ (l : Launch) (b0 : Nat) (b1 b2 : Int32) (M : gk_M), gk_T Y 10 b0 → gk_MF l Y yX0_hear cX0_hear 3 (some .int) (1 + n) [.ref b0, .int b1, .int b2] M gk_rI (rc_B (gk_ln Y) (gk_rf Y) n 0 b0 b1 b2 M)) ∧ (∀ (l : Launch) (b0 : Nat) (b1 b2 : Int32) (M : gk_M), gk_T Y 10 b0 → gk_MF l Y yX0_turn cX0_turn 3 (some .int) (1 + n) [.ref b0, .int b1, .int b2] M gk_rI (rc_B (gk_ln Y) (gk_rf Y) n 1 b0 b1 b2 M)) ∧ (∀ (l : Launch) (b0 : Nat) (b1 b2 : Int32) (M : gk_M), gk_T Y 10 b0 → gk_MF l Y yX0_pay cX0_pay 3 (some .int) (1 + n) [.ref b0, .int b1, .int b2] M gk_rI (rc_B (gk_ln Y) (gk_rf Y) n 2 b0 b1 b2 M)) ∧ (∀ (l : Launch) (b0 : Nat) (b1 b2 : Int32) (M : gk_M), gk_T Y 10 b0 → gk_MF l Y yX0_end cX0_end 3 (some .int) (1 + n) [.ref b0, .int b1, .int b2] M gk_rI (rc_B (gk_ln Y) (gk_rf Y) n 3 b0 b1 b2 M)) := by
  intro n
  induction n with
  | zero => exact ⟨(fun l b0 b1 b2 M t0 x h => by cases h), (fun l b0 b1 b2 M t0 x h => by cases h), (fun l b0 b1 b2 M t0 x h => by cases h), (fun l b0 b1 b2 M t0 x h => by cases h)⟩
  | succ n ih =>
    obtain ⟨h0, h1, h2, h3⟩ := ih
    exact ⟨(fun l b0 b1 b2 M t0 => m_X0_hear l (dn := 1 + n) (by omega) (by omega) hY _ _ _ _ h0 h1 h2 h3 b0 b1 b2 M t0), (fun l b0 b1 b2 M t0 => m_X0_turn l (dn := 1 + n) (by omega) (by omega) hY _ _ _ _ h0 h1 h2 h3 b0 b1 b2 M t0), (fun l b0 b1 b2 M t0 => m_X0_pay l (dn := 1 + n) (by omega) (by omega) hY _ _ _ _ h0 h1 h2 h3 b0 b1 b2 M t0), (fun l b0 b1 b2 M t0 => m_X0_end l (dn := 1 + n) (by omega) (by omega) hY _ _ _ _ h0 h1 h2 h3 b0 b1 b2 M t0)⟩
theorem mr_B_0 (l : Launch) {Y : gk_Y} (hY : gk_WF Y) (b0 : Nat) (b1 b2 : Int32) (M : gk_M) (t0 : gk_T Y 10 b0) : gk_MF l Y yX0_hear cX0_hear 3 (some .int) 11 [.ref b0, .int b1, .int b2] M gk_rI (rc_B (gk_ln Y) (gk_rf Y) 10 0 b0 b1 b2 M) := (rm_B hY 10).1 l b0 b1 b2 M t0
theorem mr_B_1 (l : Launch) {Y : gk_Y} (hY : gk_WF Y) (b0 : Nat) (b1 b2 : Int32) (M : gk_M) (t0 : gk_T Y 10 b0) : gk_MF l Y yX0_turn cX0_turn 3 (some .int) 11 [.ref b0, .int b1, .int b2] M gk_rI (rc_B (gk_ln Y) (gk_rf Y) 10 1 b0 b1 b2 M) := (rm_B hY 10).2.1 l b0 b1 b2 M t0
theorem mr_B_2 (l : Launch) {Y : gk_Y} (hY : gk_WF Y) (b0 : Nat) (b1 b2 : Int32) (M : gk_M) (t0 : gk_T Y 10 b0) : gk_MF l Y yX0_pay cX0_pay 3 (some .int) 11 [.ref b0, .int b1, .int b2] M gk_rI (rc_B (gk_ln Y) (gk_rf Y) 10 2 b0 b1 b2 M) := (rm_B hY 10).2.2.1 l b0 b1 b2 M t0
theorem mr_B_3 (l : Launch) {Y : gk_Y} (hY : gk_WF Y) (b0 : Nat) (b1 b2 : Int32) (M : gk_M) (t0 : gk_T Y 10 b0) : gk_MF l Y yX0_end cX0_end 3 (some .int) 11 [.ref b0, .int b1, .int b2] M gk_rI (rc_B (gk_ln Y) (gk_rf Y) 10 3 b0 b1 b2 M) := (rm_B hY 10).2.2.2 l b0 b1 b2 M t0
def f_X0_run (LN : Nat → Nat) (RF : Nat → Nat → Nat) (a0 : Nat) (a1 : Nat) (a2 : Int32) (a3 : Int32) (a4 : Int32) (M : gk_M) : Option (Int32 × gk_M) :=
  gk_put M a0 1 0 fun M21 =>
  gk_put M21 a0 2 (M21.1 a1 1) fun M22 =>
  gk_put M22 a0 3 a2 fun M23 =>
  gk_put M23 a0 4 (M23.1 a1 2) fun M24 =>
  gk_put M24 a0 5 (M24.1 a1 3) fun M25 =>
  gk_sw a3 0 [(rc_B LN RF 10 0 a0 (M25.1 a0 2) a4 M25).bind fun r26 =>
    some (r26.1, r26.2),
    (rc_B LN RF 10 1 a0 (M25.1 a0 2) a4 M25).bind fun r27 =>
    some (r27.1, r27.2),
    (rc_B LN RF 10 2 a0 (M25.1 a0 2) a4 M25).bind fun r28 =>
    some (r28.1, r28.2)]
  ((rc_B LN RF 10 3 a0 (M25.1 a0 2) a4 M25).bind fun r29 =>
  some (r29.1, r29.2))
set_option maxHeartbeats 4000000 in
set_option maxRecDepth 100000 in
theorem m_X0_run (l : Launch) {Y : gk_Y} (hY : gk_WF Y) (a0 : Nat) (a1 : Nat) (a2 : Int32) (a3 : Int32) (a4 : Int32) (M : gk_M) (t0 : gk_T Y 10 a0) (ta1 : gk_T Y 15 a1) : gk_MF l Y yX0_run cX0_run 5 (some .int) 12 [.ref a0, .ref a1, .int a2, .int a3, .int a4] M gk_rI (f_X0_run (gk_ln Y) (gk_rf Y) a0 a1 a2 a3 a4 M) := by
  refine gk_met hY (plainFor_of_name (by decide)) (Nat.le_of_ble_eq_true rfl) fun Z hC hR => ?_
  show gk_K Z Y 5 gk_rI 0 [(0, .ref a0), (1, .ref a1), (2, .int a2), (3, .int a3), (4, .int a4)] [] M _
  unfold f_X0_run
  refine gk_aload_n hC 0 dX0_run_0 rfl (q := 1) rfl ?_
  refine gk_iconst hC (v := 0) dX0_run_1 kc_i_0 (q := 2) rfl ?_
  refine gk_putI hC dX0_run_2 fp_RX0_15 t0 (q := 5) rfl (fun M21 => ?_)
  refine gk_aload_n hC 0 dX0_run_5 rfl (q := 6) rfl ?_
  refine gk_aload_n hC 1 dX0_run_6 rfl (q := 7) rfl ?_
  refine gk_getI hC dX0_run_7 fl_RX0_19 ta1 (q := 10) rfl ?_
  refine gk_putI hC dX0_run_10 fp_RX0_24 t0 (q := 13) rfl (fun M22 => ?_)
  refine gk_aload_n hC 0 dX0_run_13 rfl (q := 14) rfl ?_
  refine gk_iload_n hC 2 dX0_run_14 rfl (q := 15) rfl ?_
  refine gk_putI hC dX0_run_15 fp_RX0_27 t0 (q := 18) rfl (fun M23 => ?_)
  refine gk_aload_n hC 0 dX0_run_18 rfl (q := 19) rfl ?_
  refine gk_aload_n hC 1 dX0_run_19 rfl (q := 20) rfl ?_
  refine gk_getI hC dX0_run_20 fl_RX0_30 ta1 (q := 23) rfl ?_
  refine gk_putI hC dX0_run_23 fp_RX0_33 t0 (q := 26) rfl (fun M24 => ?_)
  refine gk_aload_n hC 0 dX0_run_26 rfl (q := 27) rfl ?_
  refine gk_aload_n hC 1 dX0_run_27 rfl (q := 28) rfl ?_
  refine gk_getI hC dX0_run_28 fl_RX0_36 ta1 (q := 31) rfl ?_
  refine gk_putI hC dX0_run_31 fp_RX0_39 t0 (q := 34) rfl (fun M25 => ?_)
  refine gk_iload_n hC 3 dX0_run_34 rfl (q := 35) rfl ?_
  refine gk_table hC (ts := [60, 71, 82]) (tg := 93) dX0_run_35 (by decide) (by decide) rfl ⟨?_, ?_, ?_, trivial⟩ ?_
  · refine gk_aload_n hC 0 dX0_run_60 rfl (q := 61) rfl ?_
    refine gk_aload_n hC 0 dX0_run_61 rfl (q := 62) rfl ?_
    refine gk_getI hC dX0_run_62 fl_RX0_24 t0 (q := 65) rfl ?_
    refine gk_iload hC 4 dX0_run_65 rfl (q := 67) rfl ?_
    refine gk_callV (As := [.int (M25.1 a0 2), .int a4]) (rest := []) hC (fun l => mr_B_0 l hY a0 (M25.1 a0 2) a4 M25 t0) ml_RX0_42 ok_X0_hear dX0_run_67 t0 ⟨by decide, rfl⟩ rfl (by decide) (Nat.le_of_ble_eq_true rfl) rfl (q := 70) rfl (fun r26 => ?_)
    show gk_K Z Y 5 gk_rI 70 [(0, .ref a0), (1, .ref a1), (2, .int a2), (3, .int a3), (4, .int a4)] [.int r26.1] r26.2 _
    exact gk_iret hC hR dX0_run_70 rfl
  · refine gk_aload_n hC 0 dX0_run_71 rfl (q := 72) rfl ?_
    refine gk_aload_n hC 0 dX0_run_72 rfl (q := 73) rfl ?_
    refine gk_getI hC dX0_run_73 fl_RX0_24 t0 (q := 76) rfl ?_
    refine gk_iload hC 4 dX0_run_76 rfl (q := 78) rfl ?_
    refine gk_callV (As := [.int (M25.1 a0 2), .int a4]) (rest := []) hC (fun l => mr_B_1 l hY a0 (M25.1 a0 2) a4 M25 t0) ml_RX0_46 ok_X0_turn dX0_run_78 t0 ⟨by decide, rfl⟩ rfl (by decide) (Nat.le_of_ble_eq_true rfl) rfl (q := 81) rfl (fun r27 => ?_)
    show gk_K Z Y 5 gk_rI 81 [(0, .ref a0), (1, .ref a1), (2, .int a2), (3, .int a3), (4, .int a4)] [.int r27.1] r27.2 _
    exact gk_iret hC hR dX0_run_81 rfl
  · refine gk_aload_n hC 0 dX0_run_82 rfl (q := 83) rfl ?_
    refine gk_aload_n hC 0 dX0_run_83 rfl (q := 84) rfl ?_
    refine gk_getI hC dX0_run_84 fl_RX0_24 t0 (q := 87) rfl ?_
    refine gk_iload hC 4 dX0_run_87 rfl (q := 89) rfl ?_
    refine gk_callV (As := [.int (M25.1 a0 2), .int a4]) (rest := []) hC (fun l => mr_B_2 l hY a0 (M25.1 a0 2) a4 M25 t0) ml_RX0_49 ok_X0_pay dX0_run_89 t0 ⟨by decide, rfl⟩ rfl (by decide) (Nat.le_of_ble_eq_true rfl) rfl (q := 92) rfl (fun r28 => ?_)
    show gk_K Z Y 5 gk_rI 92 [(0, .ref a0), (1, .ref a1), (2, .int a2), (3, .int a3), (4, .int a4)] [.int r28.1] r28.2 _
    exact gk_iret hC hR dX0_run_92 rfl
  · refine gk_aload_n hC 0 dX0_run_93 rfl (q := 94) rfl ?_
    refine gk_aload_n hC 0 dX0_run_94 rfl (q := 95) rfl ?_
    refine gk_getI hC dX0_run_95 fl_RX0_24 t0 (q := 98) rfl ?_
    refine gk_iload hC 4 dX0_run_98 rfl (q := 100) rfl ?_
    refine gk_callV (As := [.int (M25.1 a0 2), .int a4]) (rest := []) hC (fun l => mr_B_3 l hY a0 (M25.1 a0 2) a4 M25 t0) ml_RX0_52 ok_X0_end dX0_run_100 t0 ⟨by decide, rfl⟩ rfl (by decide) (Nat.le_of_ble_eq_true rfl) rfl (q := 103) rfl (fun r29 => ?_)
    show gk_K Z Y 5 gk_rI 103 [(0, .ref a0), (1, .ref a1), (2, .int a2), (3, .int a3), (4, .int a4)] [.int r29.1] r29.2 _
    exact gk_iret hC hR dX0_run_103 rfl
def f_X1_open (LN : Nat → Nat) (RF : Nat → Nat → Nat) (a0 : Nat) (a1 : Int32) (M : gk_M) : Option (gk_M) :=
  gk_put M a0 0 a1 fun M21 =>
  gk_put M21 a0 1 0 fun M22 =>
  gk_put M22 a0 2 0 fun M23 =>
  gk_put M23 a0 3 0 fun M24 =>
  gk_put M24 a0 4 0 fun M25 =>
  gk_put M25 a0 5 (-1) fun M26 =>
  gk_put M26 a0 6 0 fun M27 =>
  gk_put M27 a0 7 0 fun M28 =>
  gk_put M28 a0 8 0 fun M29 =>
  gk_put M29 a0 9 0 fun M30 =>
  gk_putl M30 a0 0 fun M31 =>
  some M31
set_option maxHeartbeats 4000000 in
set_option maxRecDepth 100000 in
theorem m_X1_open (l : Launch) {Y : gk_Y} (hY : gk_WF Y) (a0 : Nat) (a1 : Int32) (M : gk_M) (t0 : gk_T Y 11 a0) : gk_MF l Y yX1_open cX1_open 2 none 0 [.ref a0, .int a1] M gk_rV (f_X1_open (gk_ln Y) (gk_rf Y) a0 a1 M) := by
  refine gk_met hY (plainFor_of_name (by decide)) (Nat.le_of_ble_eq_true rfl) fun Z hC hR => ?_
  show gk_K Z Y 2 gk_rV 0 [(0, .ref a0), (1, .int a1)] [] M _
  unfold f_X1_open
  refine gk_aload_n hC 0 dX1_open_0 rfl (q := 1) rfl ?_
  refine gk_iload_n hC 1 dX1_open_1 rfl (q := 2) rfl ?_
  refine gk_putI hC dX1_open_2 fp_RX1_9 t0 (q := 5) rfl (fun M21 => ?_)
  refine gk_aload_n hC 0 dX1_open_5 rfl (q := 6) rfl ?_
  refine gk_iconst hC (v := 0) dX1_open_6 kc_i_0 (q := 7) rfl ?_
  refine gk_putI hC dX1_open_7 fp_RX1_15 t0 (q := 10) rfl (fun M22 => ?_)
  refine gk_aload_n hC 0 dX1_open_10 rfl (q := 11) rfl ?_
  refine gk_iconst hC (v := 0) dX1_open_11 kc_i_0 (q := 12) rfl ?_
  refine gk_putI hC dX1_open_12 fp_RX1_18 t0 (q := 15) rfl (fun M23 => ?_)
  refine gk_aload_n hC 0 dX1_open_15 rfl (q := 16) rfl ?_
  refine gk_iconst hC (v := 0) dX1_open_16 kc_i_0 (q := 17) rfl ?_
  refine gk_putI hC dX1_open_17 fp_RX1_21 t0 (q := 20) rfl (fun M24 => ?_)
  refine gk_aload_n hC 0 dX1_open_20 rfl (q := 21) rfl ?_
  refine gk_iconst hC (v := 0) dX1_open_21 kc_i_0 (q := 22) rfl ?_
  refine gk_putI hC dX1_open_22 fp_RX1_24 t0 (q := 25) rfl (fun M25 => ?_)
  refine gk_aload_n hC 0 dX1_open_25 rfl (q := 26) rfl ?_
  refine gk_iconst hC (v := (-1)) dX1_open_26 kc_i_m1 (q := 27) rfl ?_
  refine gk_putI hC dX1_open_27 fp_RX1_27 t0 (q := 30) rfl (fun M26 => ?_)
  refine gk_aload_n hC 0 dX1_open_30 rfl (q := 31) rfl ?_
  refine gk_iconst hC (v := 0) dX1_open_31 kc_i_0 (q := 32) rfl ?_
  refine gk_putI hC dX1_open_32 fp_RX1_30 t0 (q := 35) rfl (fun M27 => ?_)
  refine gk_aload_n hC 0 dX1_open_35 rfl (q := 36) rfl ?_
  refine gk_iconst hC (v := 0) dX1_open_36 kc_i_0 (q := 37) rfl ?_
  refine gk_putI hC dX1_open_37 fp_RX1_33 t0 (q := 40) rfl (fun M28 => ?_)
  refine gk_aload_n hC 0 dX1_open_40 rfl (q := 41) rfl ?_
  refine gk_iconst hC (v := 0) dX1_open_41 kc_i_0 (q := 42) rfl ?_
  refine gk_putI hC dX1_open_42 fp_RX1_36 t0 (q := 45) rfl (fun M29 => ?_)
  refine gk_aload_n hC 0 dX1_open_45 rfl (q := 46) rfl ?_
  refine gk_iconst hC (v := 0) dX1_open_46 kc_i_0 (q := 47) rfl ?_
  refine gk_putI hC dX1_open_47 fp_RX1_39 t0 (q := 50) rfl (fun M30 => ?_)
  refine gk_aload_n hC 0 dX1_open_50 rfl (q := 51) rfl ?_
  refine gk_lconst hC (v := 0) dX1_open_51 kc_l_0 (q := 52) rfl ?_
  refine gk_putL hC dX1_open_52 fp_RX1_42 t0 (q := 55) rfl (fun M31 => ?_)
  exact gk_vret hC hR dX1_open_55 rfl
def f_X1_copyFrom (LN : Nat → Nat) (RF : Nat → Nat → Nat) (a0 : Nat) (a1 : Nat) (M : gk_M) : Option (gk_M) :=
  gk_put M a0 0 (M.1 a1 0) fun M21 =>
  gk_put M21 a0 1 (M21.1 a1 1) fun M22 =>
  gk_put M22 a0 2 (M22.1 a1 2) fun M23 =>
  gk_put M23 a0 3 (M23.1 a1 3) fun M24 =>
  gk_put M24 a0 4 (M24.1 a1 4) fun M25 =>
  gk_put M25 a0 5 (M25.1 a1 5) fun M26 =>
  gk_put M26 a0 6 (M26.1 a1 6) fun M27 =>
  gk_put M27 a0 7 (M27.1 a1 7) fun M28 =>
  gk_put M28 a0 8 (M28.1 a1 8) fun M29 =>
  gk_put M29 a0 9 (M29.1 a1 9) fun M30 =>
  gk_putl M30 a0 (M30.2 a1) fun M31 =>
  some M31
set_option maxHeartbeats 4000000 in
set_option maxRecDepth 100000 in
theorem m_X1_copyFrom (l : Launch) {Y : gk_Y} (hY : gk_WF Y) (a0 : Nat) (a1 : Nat) (M : gk_M) (t0 : gk_T Y 11 a0) (ta1 : gk_T Y 11 a1) : gk_MF l Y yX1_copyFrom cX1_copyFrom 2 none 0 [.ref a0, .ref a1] M gk_rV (f_X1_copyFrom (gk_ln Y) (gk_rf Y) a0 a1 M) := by
  refine gk_met hY (plainFor_of_name (by decide)) (Nat.le_of_ble_eq_true rfl) fun Z hC hR => ?_
  show gk_K Z Y 2 gk_rV 0 [(0, .ref a0), (1, .ref a1)] [] M _
  unfold f_X1_copyFrom
  refine gk_aload_n hC 0 dX1_copyFrom_0 rfl (q := 1) rfl ?_
  refine gk_aload_n hC 1 dX1_copyFrom_1 rfl (q := 2) rfl ?_
  refine gk_getI hC dX1_copyFrom_2 fl_RX1_9 ta1 (q := 5) rfl ?_
  refine gk_putI hC dX1_copyFrom_5 fp_RX1_9 t0 (q := 8) rfl (fun M21 => ?_)
  refine gk_aload_n hC 0 dX1_copyFrom_8 rfl (q := 9) rfl ?_
  refine gk_aload_n hC 1 dX1_copyFrom_9 rfl (q := 10) rfl ?_
  refine gk_getI hC dX1_copyFrom_10 fl_RX1_15 ta1 (q := 13) rfl ?_
  refine gk_putI hC dX1_copyFrom_13 fp_RX1_15 t0 (q := 16) rfl (fun M22 => ?_)
  refine gk_aload_n hC 0 dX1_copyFrom_16 rfl (q := 17) rfl ?_
  refine gk_aload_n hC 1 dX1_copyFrom_17 rfl (q := 18) rfl ?_
  refine gk_getI hC dX1_copyFrom_18 fl_RX1_18 ta1 (q := 21) rfl ?_
  refine gk_putI hC dX1_copyFrom_21 fp_RX1_18 t0 (q := 24) rfl (fun M23 => ?_)
  refine gk_aload_n hC 0 dX1_copyFrom_24 rfl (q := 25) rfl ?_
  refine gk_aload_n hC 1 dX1_copyFrom_25 rfl (q := 26) rfl ?_
  refine gk_getI hC dX1_copyFrom_26 fl_RX1_21 ta1 (q := 29) rfl ?_
  refine gk_putI hC dX1_copyFrom_29 fp_RX1_21 t0 (q := 32) rfl (fun M24 => ?_)
  refine gk_aload_n hC 0 dX1_copyFrom_32 rfl (q := 33) rfl ?_
  refine gk_aload_n hC 1 dX1_copyFrom_33 rfl (q := 34) rfl ?_
  refine gk_getI hC dX1_copyFrom_34 fl_RX1_24 ta1 (q := 37) rfl ?_
  refine gk_putI hC dX1_copyFrom_37 fp_RX1_24 t0 (q := 40) rfl (fun M25 => ?_)
  refine gk_aload_n hC 0 dX1_copyFrom_40 rfl (q := 41) rfl ?_
  refine gk_aload_n hC 1 dX1_copyFrom_41 rfl (q := 42) rfl ?_
  refine gk_getI hC dX1_copyFrom_42 fl_RX1_27 ta1 (q := 45) rfl ?_
  refine gk_putI hC dX1_copyFrom_45 fp_RX1_27 t0 (q := 48) rfl (fun M26 => ?_)
  refine gk_aload_n hC 0 dX1_copyFrom_48 rfl (q := 49) rfl ?_
  refine gk_aload_n hC 1 dX1_copyFrom_49 rfl (q := 50) rfl ?_
  refine gk_getI hC dX1_copyFrom_50 fl_RX1_30 ta1 (q := 53) rfl ?_
  refine gk_putI hC dX1_copyFrom_53 fp_RX1_30 t0 (q := 56) rfl (fun M27 => ?_)
  refine gk_aload_n hC 0 dX1_copyFrom_56 rfl (q := 57) rfl ?_
  refine gk_aload_n hC 1 dX1_copyFrom_57 rfl (q := 58) rfl ?_
  refine gk_getI hC dX1_copyFrom_58 fl_RX1_33 ta1 (q := 61) rfl ?_
  refine gk_putI hC dX1_copyFrom_61 fp_RX1_33 t0 (q := 64) rfl (fun M28 => ?_)
  refine gk_aload_n hC 0 dX1_copyFrom_64 rfl (q := 65) rfl ?_
  refine gk_aload_n hC 1 dX1_copyFrom_65 rfl (q := 66) rfl ?_
  refine gk_getI hC dX1_copyFrom_66 fl_RX1_36 ta1 (q := 69) rfl ?_
  refine gk_putI hC dX1_copyFrom_69 fp_RX1_36 t0 (q := 72) rfl (fun M29 => ?_)
  refine gk_aload_n hC 0 dX1_copyFrom_72 rfl (q := 73) rfl ?_
  refine gk_aload_n hC 1 dX1_copyFrom_73 rfl (q := 74) rfl ?_
  refine gk_getI hC dX1_copyFrom_74 fl_RX1_39 ta1 (q := 77) rfl ?_
  refine gk_putI hC dX1_copyFrom_77 fp_RX1_39 t0 (q := 80) rfl (fun M30 => ?_)
  refine gk_aload_n hC 0 dX1_copyFrom_80 rfl (q := 81) rfl ?_
  refine gk_aload_n hC 1 dX1_copyFrom_81 rfl (q := 82) rfl ?_
  refine gk_getL hC dX1_copyFrom_82 fl_RX1_42 ta1 (q := 85) rfl ?_
  refine gk_putL hC dX1_copyFrom_85 fp_RX1_42 t0 (q := 88) rfl (fun M31 => ?_)
  exact gk_vret hC hR dX1_copyFrom_88 rfl
def f_X1_lineAt (LN : Nat → Nat) (RF : Nat → Nat → Nat) (a0 : Nat) (a1 : Int32) (M : gk_M) : Option (Int32) :=
  gk_jn (fun y21 : Int32 =>
    some y21) fun k27_21 =>
  gk_jn (fun y23 : Unit =>
    k27_21 (-1)) fun k12_23 =>
  if a1 < 0 then
    k12_23 ()
  else
  if a1 < (M.1 a0 3) then
    k27_21 ((((Int32.toUInt32 (M.1 a0 8)) >>> ((Int32.toUInt32 (4 * a1)) &&& Int32.toUInt32 31)).toInt32) &&& 15)
  else
  k12_23 ()
set_option maxHeartbeats 4000000 in
set_option maxRecDepth 100000 in
theorem m_X1_lineAt (l : Launch) {Y : gk_Y} (hY : gk_WF Y) (a0 : Nat) (a1 : Int32) (M : gk_M) (t0 : gk_T Y 11 a0) : gk_MF l Y yX1_lineAt cX1_lineAt 2 (some .int) 0 [.ref a0, .int a1] M (gk_rR M) (f_X1_lineAt (gk_ln Y) (gk_rf Y) a0 a1 M) := by
  refine gk_met hY (plainFor_of_name (by decide)) (Nat.le_of_ble_eq_true rfl) fun Z hC hR => ?_
  show gk_K Z Y 2 (gk_rR M) 0 [(0, .ref a0), (1, .int a1)] [] M _
  unfold f_X1_lineAt
  refine gk_iload_n hC 1 dX1_lineAt_0 rfl (q := 1) rfl ?_
  refine gk_jnR (fun k27_21 => ∀ z22 : Int32, gk_K Z Y 2 (gk_rR M) 27 [] [.int z22] M (k27_21 z22)) (fun y21 => ?_) (fun k27_21 hk27_21 => ?_)
  · show gk_K Z Y 2 (gk_rR M) 27 [] [.int y21] M _
    exact gk_iret hC hR dX1_lineAt_27 rfl
  · refine gk_jnR (fun k12_23 => ∀ z24 : Unit, gk_K Z Y 2 (gk_rR M) 12 [] [] M (k12_23 z24)) (fun y23 => ?_) (fun k12_23 hk12_23 => ?_)
    · show gk_K Z Y 2 (gk_rR M) 12 [] [] M _
      refine gk_iconst hC (v := (-1)) dX1_lineAt_12 kc_i_m1 (q := 13) rfl ?_
      refine gk_goto hC dX1_lineAt_13 (q := 27) rfl ?_
      exact hk27_21 (-1)
    · refine gk_if_lt hC dX1_lineAt_1 (tg := 12) rfl (q := 4) rfl ?_ ?_
      · refine gk_pick [] rfl ?_
        exact hk12_23 ()
      · refine gk_iload_n hC 1 dX1_lineAt_4 rfl (q := 5) rfl ?_
        refine gk_aload_n hC 0 dX1_lineAt_5 rfl (q := 6) rfl ?_
        refine gk_getI hC dX1_lineAt_6 fl_RX1_21 t0 (q := 9) rfl ?_
        refine gk_icmp_lt hC dX1_lineAt_9 (tg := 16) rfl (q := 12) rfl ?_ ?_
        · refine gk_aload_n hC 0 dX1_lineAt_16 rfl (q := 17) rfl ?_
          refine gk_getI hC dX1_lineAt_17 fl_RX1_36 t0 (q := 20) rfl ?_
          refine gk_iconst hC (v := 4) dX1_lineAt_20 kc_i_4 (q := 21) rfl ?_
          refine gk_iload_n hC 1 dX1_lineAt_21 rfl (q := 22) rfl ?_
          refine gk_imul hC dX1_lineAt_22 (q := 23) rfl ?_
          refine gk_iushr hC dX1_lineAt_23 (q := 24) rfl ?_
          refine gk_bipush hC (v := 15) dX1_lineAt_24 kc_b_15 (q := 26) rfl ?_
          refine gk_iand hC dX1_lineAt_26 (q := 27) rfl ?_
          refine gk_pick [] rfl ?_
          exact hk27_21 ((((Int32.toUInt32 (M.1 a0 8)) >>> ((Int32.toUInt32 (4 * a1)) &&& Int32.toUInt32 31)).toInt32) &&& 15)
        · refine gk_pick [] rfl ?_
          exact hk12_23 ()
def f_X1_payerAt (LN : Nat → Nat) (RF : Nat → Nat → Nat) (a0 : Nat) (a1 : Int32) (M : gk_M) : Option (Int32) :=
  gk_jn (fun y21 : Int32 =>
    some y21) fun k27_21 =>
  gk_jn (fun y23 : Unit =>
    k27_21 (-1)) fun k12_23 =>
  if a1 < 0 then
    k12_23 ()
  else
  if a1 < (M.1 a0 3) then
    k27_21 ((((Int32.toUInt32 (M.1 a0 9)) >>> ((Int32.toUInt32 (4 * a1)) &&& Int32.toUInt32 31)).toInt32) &&& 15)
  else
  k12_23 ()
set_option maxHeartbeats 4000000 in
set_option maxRecDepth 100000 in
theorem m_X1_payerAt (l : Launch) {Y : gk_Y} (hY : gk_WF Y) (a0 : Nat) (a1 : Int32) (M : gk_M) (t0 : gk_T Y 11 a0) : gk_MF l Y yX1_payerAt cX1_payerAt 2 (some .int) 0 [.ref a0, .int a1] M (gk_rR M) (f_X1_payerAt (gk_ln Y) (gk_rf Y) a0 a1 M) := by
  refine gk_met hY (plainFor_of_name (by decide)) (Nat.le_of_ble_eq_true rfl) fun Z hC hR => ?_
  show gk_K Z Y 2 (gk_rR M) 0 [(0, .ref a0), (1, .int a1)] [] M _
  unfold f_X1_payerAt
  refine gk_iload_n hC 1 dX1_payerAt_0 rfl (q := 1) rfl ?_
  refine gk_jnR (fun k27_21 => ∀ z22 : Int32, gk_K Z Y 2 (gk_rR M) 27 [] [.int z22] M (k27_21 z22)) (fun y21 => ?_) (fun k27_21 hk27_21 => ?_)
  · show gk_K Z Y 2 (gk_rR M) 27 [] [.int y21] M _
    exact gk_iret hC hR dX1_payerAt_27 rfl
  · refine gk_jnR (fun k12_23 => ∀ z24 : Unit, gk_K Z Y 2 (gk_rR M) 12 [] [] M (k12_23 z24)) (fun y23 => ?_) (fun k12_23 hk12_23 => ?_)
    · show gk_K Z Y 2 (gk_rR M) 12 [] [] M _
      refine gk_iconst hC (v := (-1)) dX1_payerAt_12 kc_i_m1 (q := 13) rfl ?_
      refine gk_goto hC dX1_payerAt_13 (q := 27) rfl ?_
      exact hk27_21 (-1)
    · refine gk_if_lt hC dX1_payerAt_1 (tg := 12) rfl (q := 4) rfl ?_ ?_
      · refine gk_pick [] rfl ?_
        exact hk12_23 ()
      · refine gk_iload_n hC 1 dX1_payerAt_4 rfl (q := 5) rfl ?_
        refine gk_aload_n hC 0 dX1_payerAt_5 rfl (q := 6) rfl ?_
        refine gk_getI hC dX1_payerAt_6 fl_RX1_21 t0 (q := 9) rfl ?_
        refine gk_icmp_lt hC dX1_payerAt_9 (tg := 16) rfl (q := 12) rfl ?_ ?_
        · refine gk_aload_n hC 0 dX1_payerAt_16 rfl (q := 17) rfl ?_
          refine gk_getI hC dX1_payerAt_17 fl_RX1_39 t0 (q := 20) rfl ?_
          refine gk_iconst hC (v := 4) dX1_payerAt_20 kc_i_4 (q := 21) rfl ?_
          refine gk_iload_n hC 1 dX1_payerAt_21 rfl (q := 22) rfl ?_
          refine gk_imul hC dX1_payerAt_22 (q := 23) rfl ?_
          refine gk_iushr hC dX1_payerAt_23 (q := 24) rfl ?_
          refine gk_bipush hC (v := 15) dX1_payerAt_24 kc_b_15 (q := 26) rfl ?_
          refine gk_iand hC dX1_payerAt_26 (q := 27) rfl ?_
          refine gk_pick [] rfl ?_
          exact hk27_21 ((((Int32.toUInt32 (M.1 a0 9)) >>> ((Int32.toUInt32 (4 * a1)) &&& Int32.toUInt32 31)).toInt32) &&& 15)
        · refine gk_pick [] rfl ?_
          exact hk12_23 ()
def f_X1_actAt (LN : Nat → Nat) (RF : Nat → Nat → Nat) (a0 : Nat) (a1 : Int32) (M : gk_M) : Option (Int32) :=
  gk_jn (fun y21 : Int32 =>
    some y21) fun k35_21 =>
  gk_jn (fun y23 : Unit =>
    k35_21 (-1)) fun k18_23 =>
  if a1 < 0 then
    k18_23 ()
  else
  if (M.1 a0 7) ≤ a1 then
    k18_23 ()
  else
  if a1 < 10 then
    k35_21 (Int64.toInt32 ((((Int64.toUInt64 (M.2 a0)) >>> ((Int32.toInt64 (5 * a1)).toUInt64 &&& Int64.toUInt64 63)).toInt64) &&& 31))
  else
  k18_23 ()
set_option maxHeartbeats 4000000 in
set_option maxRecDepth 100000 in
theorem m_X1_actAt (l : Launch) {Y : gk_Y} (hY : gk_WF Y) (a0 : Nat) (a1 : Int32) (M : gk_M) (t0 : gk_T Y 11 a0) : gk_MF l Y yX1_actAt cX1_actAt 2 (some .int) 0 [.ref a0, .int a1] M (gk_rR M) (f_X1_actAt (gk_ln Y) (gk_rf Y) a0 a1 M) := by
  refine gk_met hY (plainFor_of_name (by decide)) (Nat.le_of_ble_eq_true rfl) fun Z hC hR => ?_
  show gk_K Z Y 2 (gk_rR M) 0 [(0, .ref a0), (1, .int a1)] [] M _
  unfold f_X1_actAt
  refine gk_iload_n hC 1 dX1_actAt_0 rfl (q := 1) rfl ?_
  refine gk_jnR (fun k35_21 => ∀ z22 : Int32, gk_K Z Y 2 (gk_rR M) 35 [] [.int z22] M (k35_21 z22)) (fun y21 => ?_) (fun k35_21 hk35_21 => ?_)
  · show gk_K Z Y 2 (gk_rR M) 35 [] [.int y21] M _
    exact gk_iret hC hR dX1_actAt_35 rfl
  · refine gk_jnR (fun k18_23 => ∀ z24 : Unit, gk_K Z Y 2 (gk_rR M) 18 [] [] M (k18_23 z24)) (fun y23 => ?_) (fun k18_23 hk18_23 => ?_)
    · show gk_K Z Y 2 (gk_rR M) 18 [] [] M _
      refine gk_iconst hC (v := (-1)) dX1_actAt_18 kc_i_m1 (q := 19) rfl ?_
      refine gk_goto hC dX1_actAt_19 (q := 35) rfl ?_
      exact hk35_21 (-1)
    · refine gk_if_lt hC dX1_actAt_1 (tg := 18) rfl (q := 4) rfl ?_ ?_
      · refine gk_pick [] rfl ?_
        exact hk18_23 ()
      · refine gk_iload_n hC 1 dX1_actAt_4 rfl (q := 5) rfl ?_
        refine gk_aload_n hC 0 dX1_actAt_5 rfl (q := 6) rfl ?_
        refine gk_getI hC dX1_actAt_6 fl_RX1_33 t0 (q := 9) rfl ?_
        refine gk_icmp_ge hC dX1_actAt_9 (tg := 18) rfl (q := 12) rfl ?_ ?_
        · refine gk_pick [] rfl ?_
          exact hk18_23 ()
        · refine gk_iload_n hC 1 dX1_actAt_12 rfl (q := 13) rfl ?_
          refine gk_bipush hC (v := 10) dX1_actAt_13 kc_b_10 (q := 15) rfl ?_
          refine gk_icmp_lt hC dX1_actAt_15 (tg := 22) rfl (q := 18) rfl ?_ ?_
          · refine gk_aload_n hC 0 dX1_actAt_22 rfl (q := 23) rfl ?_
            refine gk_getL hC dX1_actAt_23 fl_RX1_42 t0 (q := 26) rfl ?_
            refine gk_iconst hC (v := 5) dX1_actAt_26 kc_i_5 (q := 27) rfl ?_
            refine gk_iload_n hC 1 dX1_actAt_27 rfl (q := 28) rfl ?_
            refine gk_imul hC dX1_actAt_28 (q := 29) rfl ?_
            refine gk_lushr hC dX1_actAt_29 (q := 30) rfl ?_
            refine gk_ldc2 hC (v := 31) cl_RX1_46 dX1_actAt_30 (q := 33) rfl ?_
            refine gk_land hC dX1_actAt_33 (q := 34) rfl ?_
            refine gk_l2i hC dX1_actAt_34 (q := 35) rfl ?_
            refine gk_pick [] rfl ?_
            exact hk35_21 (Int64.toInt32 ((((Int64.toUInt64 (M.2 a0)) >>> ((Int32.toInt64 (5 * a1)).toUInt64 &&& Int64.toUInt64 63)).toInt64) &&& 31))
          · refine gk_pick [] rfl ?_
            exact hk18_23 ()
def lp_X1_comesRoundTo_19 (LN : Nat → Nat) (RF : Nat → Nat → Nat) (v0 : Nat) (v1 : Int32) (M : gk_M) (k44 : Unit → Option (Int32)) : Nat → Int32 → Option (Int32)
  | 0, _ => none
  | n + 1, x =>
    if (M.1 v0 3) ≤ x then
      k44 ()
    else
    (f_X1_lineAt LN RF v0 x M).bind fun r1 =>
    if r1 = v1 then
      some 1
    else
    lp_X1_comesRoundTo_19 LN RF v0 v1 M k44 n (x + 1)
def f_X1_comesRoundTo (LN : Nat → Nat) (RF : Nat → Nat → Nat) (a0 : Nat) (a1 : Int32) (M : gk_M) : Option (Int32) :=
  gk_jn (fun y21 : Unit =>
    gk_jn (fun y23 : Unit =>
      some 0) fun k44_23 =>
    lp_X1_comesRoundTo_19 LN RF a0 a1 M k44_23 gk_fuel 0) fun k17_21 =>
  if (M.1 a0 3) ≤ 0 then
    k17_21 ()
  else
  if a1 = (M.1 a0 0) then
    some 1
  else
  k17_21 ()
set_option maxHeartbeats 4000000 in
set_option maxRecDepth 100000 in
theorem lk_X1_comesRoundTo_19 {Z : gk_Z} {Y : gk_Y} (hY : gk_WF Y) (hC : gk_C Z Y cX1_comesRoundTo 3 RX1 1) (hR : gk_R Z Y (some .boolean)) (v0 : Nat) (v1 : Int32) (M : gk_M) (tv0 : gk_T Y 11 v0) (k44 : Unit → Option (Int32)) (hk44 : ∀ z25 : Unit, gk_K Z Y 3 (gk_rR M) 44 [] [] M (k44 z25)) : ∀ (n : Nat) (x : Int32), gk_K Z Y 3 (gk_rR M) 19 [(0, .ref v0), (1, .int v1), (2, .int x)] [] M (lp_X1_comesRoundTo_19 (gk_ln Y) (gk_rf Y) v0 v1 M k44 n x) := by
  intro n
  induction n with
  | zero => intro x; exact gk_none
  | succ n ih =>
    intro x
    rw [lp_X1_comesRoundTo_19]
    refine gk_iload_n hC 2 dX1_comesRoundTo_19 rfl (q := 20) rfl ?_
    refine gk_aload_n hC 0 dX1_comesRoundTo_20 rfl (q := 21) rfl ?_
    refine gk_getI hC dX1_comesRoundTo_21 fl_RX1_21 tv0 (q := 24) rfl ?_
    refine gk_icmp_ge hC dX1_comesRoundTo_24 (tg := 44) rfl (q := 27) rfl ?_ ?_
    · refine gk_pick [] rfl ?_
      exact hk44 ()
    · refine gk_aload_n hC 0 dX1_comesRoundTo_27 rfl (q := 28) rfl ?_
      refine gk_iload_n hC 2 dX1_comesRoundTo_28 rfl (q := 29) rfl ?_
      refine gk_callV (As := [.int x]) (rest := []) hC (fun l => m_X1_lineAt l hY v0 x M tv0) ml_RX1_48 ok_X1_lineAt dX1_comesRoundTo_29 tv0 ⟨by decide, rfl⟩ rfl (by decide) (Nat.le_of_ble_eq_true rfl) rfl (q := 32) rfl (fun r1 => ?_)
      show gk_K Z Y 3 (gk_rR M) 32 [(0, .ref v0), (1, .int v1), (2, .int x)] [.int r1] M _
      refine gk_iload_n hC 1 dX1_comesRoundTo_32 rfl (q := 33) rfl ?_
      refine gk_icmp_ne hC dX1_comesRoundTo_33 (tg := 38) rfl (q := 36) rfl ?_ ?_
      · refine gk_iconst hC (v := 1) dX1_comesRoundTo_36 kc_i_1 (q := 37) rfl ?_
        exact gk_zret hC hR dX1_comesRoundTo_37 (Or.inr rfl) rfl
      · refine gk_iinc hC (v := 1) 2 (lv' := [(0, .ref v0), (1, .int v1), (2, .int (x + 1))]) [1, 2, 0] dX1_comesRoundTo_38 rfl kc_i_1 (by decide) rfl (q := 41) rfl ?_
        refine gk_goto hC dX1_comesRoundTo_41 (q := 19) rfl ?_
        exact ih (x + 1)
set_option maxHeartbeats 4000000 in
set_option maxRecDepth 100000 in
theorem m_X1_comesRoundTo (l : Launch) {Y : gk_Y} (hY : gk_WF Y) (a0 : Nat) (a1 : Int32) (M : gk_M) (t0 : gk_T Y 11 a0) : gk_MF l Y yX1_comesRoundTo cX1_comesRoundTo 3 (some .boolean) 1 [.ref a0, .int a1] M (gk_rR M) (f_X1_comesRoundTo (gk_ln Y) (gk_rf Y) a0 a1 M) := by
  refine gk_met hY (plainFor_of_name (by decide)) (Nat.le_of_ble_eq_true rfl) fun Z hC hR => ?_
  show gk_K Z Y 3 (gk_rR M) 0 [(0, .ref a0), (1, .int a1)] [] M _
  unfold f_X1_comesRoundTo
  refine gk_aload_n hC 0 dX1_comesRoundTo_0 rfl (q := 1) rfl ?_
  refine gk_getI hC dX1_comesRoundTo_1 fl_RX1_21 t0 (q := 4) rfl ?_
  refine gk_jnR (fun k17_21 => ∀ z22 : Unit, gk_K Z Y 3 (gk_rR M) 17 [(0, .ref a0), (1, .int a1)] [] M (k17_21 z22)) (fun y21 => ?_) (fun k17_21 hk17_21 => ?_)
  · show gk_K Z Y 3 (gk_rR M) 17 [(0, .ref a0), (1, .int a1)] [] M _
    refine gk_iconst hC (v := 0) dX1_comesRoundTo_17 kc_i_0 (q := 18) rfl ?_
    refine gk_istore_n hC (lv' := [(0, .ref a0), (1, .int a1), (2, .int 0)]) [1, 2, 0] dX1_comesRoundTo_18 (by decide) rfl (q := 19) rfl ?_
    refine gk_jnR (fun k44_23 => ∀ z24 : Unit, gk_K Z Y 3 (gk_rR M) 44 [] [] M (k44_23 z24)) (fun y23 => ?_) (fun k44_23 hk44_23 => ?_)
    · show gk_K Z Y 3 (gk_rR M) 44 [] [] M _
      refine gk_iconst hC (v := 0) dX1_comesRoundTo_44 kc_i_0 (q := 45) rfl ?_
      exact gk_zret hC hR dX1_comesRoundTo_45 (Or.inl rfl) rfl
    · exact lk_X1_comesRoundTo_19 hY hC hR a0 a1 M t0 k44_23 hk44_23 gk_fuel 0
  · refine gk_if_le hC dX1_comesRoundTo_4 (tg := 17) rfl (q := 7) rfl ?_ ?_
    · exact hk17_21 ()
    · refine gk_iload_n hC 1 dX1_comesRoundTo_7 rfl (q := 8) rfl ?_
      refine gk_aload_n hC 0 dX1_comesRoundTo_8 rfl (q := 9) rfl ?_
      refine gk_getI hC dX1_comesRoundTo_9 fl_RX1_9 t0 (q := 12) rfl ?_
      refine gk_icmp_ne hC dX1_comesRoundTo_12 (tg := 17) rfl (q := 15) rfl ?_ ?_
      · refine gk_iconst hC (v := 1) dX1_comesRoundTo_15 kc_i_1 (q := 16) rfl ?_
        exact gk_zret hC hR dX1_comesRoundTo_16 (Or.inr rfl) rfl
      · exact hk17_21 ()
def f_X1_enter (LN : Nat → Nat) (RF : Nat → Nat → Nat) (a0 : Nat) (a1 : Int32) (a2 : Int32) (M : gk_M) : Option (gk_M) :=
  gk_put M a0 8 ((M.1 a0 8) ||| (a1 <<< ((4 * (M.1 a0 3)) &&& 31))) fun M21 =>
  gk_put M21 a0 9 ((M21.1 a0 9) ||| (a2 <<< ((4 * (M21.1 a0 3)) &&& 31))) fun M22 =>
  gk_put M22 a0 3 ((M22.1 a0 3) + 1) fun M23 =>
  some M23
set_option maxHeartbeats 4000000 in
set_option maxRecDepth 100000 in
theorem m_X1_enter (l : Launch) {Y : gk_Y} (hY : gk_WF Y) (a0 : Nat) (a1 : Int32) (a2 : Int32) (M : gk_M) (t0 : gk_T Y 11 a0) : gk_MF l Y yX1_enter cX1_enter 3 none 0 [.ref a0, .int a1, .int a2] M gk_rV (f_X1_enter (gk_ln Y) (gk_rf Y) a0 a1 a2 M) := by
  refine gk_met hY (plainFor_of_name (by decide)) (Nat.le_of_ble_eq_true rfl) fun Z hC hR => ?_
  show gk_K Z Y 3 gk_rV 0 [(0, .ref a0), (1, .int a1), (2, .int a2)] [] M _
  unfold f_X1_enter
  refine gk_aload_n hC 0 dX1_enter_0 rfl (q := 1) rfl ?_
  refine gk_dup hC dX1_enter_1 rfl (q := 2) rfl ?_
  refine gk_getI hC dX1_enter_2 fl_RX1_36 t0 (q := 5) rfl ?_
  refine gk_iload_n hC 1 dX1_enter_5 rfl (q := 6) rfl ?_
  refine gk_iconst hC (v := 4) dX1_enter_6 kc_i_4 (q := 7) rfl ?_
  refine gk_aload_n hC 0 dX1_enter_7 rfl (q := 8) rfl ?_
  refine gk_getI hC dX1_enter_8 fl_RX1_21 t0 (q := 11) rfl ?_
  refine gk_imul hC dX1_enter_11 (q := 12) rfl ?_
  refine gk_ishl hC dX1_enter_12 (q := 13) rfl ?_
  refine gk_ior hC dX1_enter_13 (q := 14) rfl ?_
  refine gk_putI hC dX1_enter_14 fp_RX1_36 t0 (q := 17) rfl (fun M21 => ?_)
  refine gk_aload_n hC 0 dX1_enter_17 rfl (q := 18) rfl ?_
  refine gk_dup hC dX1_enter_18 rfl (q := 19) rfl ?_
  refine gk_getI hC dX1_enter_19 fl_RX1_39 t0 (q := 22) rfl ?_
  refine gk_iload_n hC 2 dX1_enter_22 rfl (q := 23) rfl ?_
  refine gk_iconst hC (v := 4) dX1_enter_23 kc_i_4 (q := 24) rfl ?_
  refine gk_aload_n hC 0 dX1_enter_24 rfl (q := 25) rfl ?_
  refine gk_getI hC dX1_enter_25 fl_RX1_21 t0 (q := 28) rfl ?_
  refine gk_imul hC dX1_enter_28 (q := 29) rfl ?_
  refine gk_ishl hC dX1_enter_29 (q := 30) rfl ?_
  refine gk_ior hC dX1_enter_30 (q := 31) rfl ?_
  refine gk_putI hC dX1_enter_31 fp_RX1_39 t0 (q := 34) rfl (fun M22 => ?_)
  refine gk_aload_n hC 0 dX1_enter_34 rfl (q := 35) rfl ?_
  refine gk_dup hC dX1_enter_35 rfl (q := 36) rfl ?_
  refine gk_getI hC dX1_enter_36 fl_RX1_21 t0 (q := 39) rfl ?_
  refine gk_iconst hC (v := 1) dX1_enter_39 kc_i_1 (q := 40) rfl ?_
  refine gk_iadd hC dX1_enter_40 (q := 41) rfl ?_
  refine gk_putI hC dX1_enter_41 fp_RX1_21 t0 (q := 44) rfl (fun M23 => ?_)
  exact gk_vret hC hR dX1_enter_44 rfl
def f_X1_note (LN : Nat → Nat) (RF : Nat → Nat → Nat) (a0 : Nat) (a1 : Int32) (M : gk_M) : Option (gk_M) :=
  gk_jn (fun y21 : gk_M =>
    gk_put y21 a0 7 ((y21.1 a0 7) + 1) fun M23 =>
    some M23) fun k27_21 =>
  if 10 ≤ (M.1 a0 7) then
    k27_21 M
  else
  gk_putl M a0 ((M.2 a0) ||| ((Int32.toInt64 a1) <<< ((Int32.toInt64 (5 * (M.1 a0 7))) &&& 63))) fun M24 =>
  k27_21 M24
set_option maxHeartbeats 4000000 in
set_option maxRecDepth 100000 in
theorem m_X1_note (l : Launch) {Y : gk_Y} (hY : gk_WF Y) (a0 : Nat) (a1 : Int32) (M : gk_M) (t0 : gk_T Y 11 a0) : gk_MF l Y yX1_note cX1_note 2 none 0 [.ref a0, .int a1] M gk_rV (f_X1_note (gk_ln Y) (gk_rf Y) a0 a1 M) := by
  refine gk_met hY (plainFor_of_name (by decide)) (Nat.le_of_ble_eq_true rfl) fun Z hC hR => ?_
  show gk_K Z Y 2 gk_rV 0 [(0, .ref a0), (1, .int a1)] [] M _
  unfold f_X1_note
  refine gk_aload_n hC 0 dX1_note_0 rfl (q := 1) rfl ?_
  refine gk_getI hC dX1_note_1 fl_RX1_33 t0 (q := 4) rfl ?_
  refine gk_bipush hC (v := 10) dX1_note_4 kc_b_10 (q := 6) rfl ?_
  refine gk_jnR (fun k27_21 => ∀ z22 : gk_M, gk_K Z Y 2 gk_rV 27 [(0, .ref a0)] [] z22 (k27_21 z22)) (fun y21 => ?_) (fun k27_21 hk27_21 => ?_)
  · show gk_K Z Y 2 gk_rV 27 [(0, .ref a0)] [] y21 _
    refine gk_aload_n hC 0 dX1_note_27 rfl (q := 28) rfl ?_
    refine gk_dup hC dX1_note_28 rfl (q := 29) rfl ?_
    refine gk_getI hC dX1_note_29 fl_RX1_33 t0 (q := 32) rfl ?_
    refine gk_iconst hC (v := 1) dX1_note_32 kc_i_1 (q := 33) rfl ?_
    refine gk_iadd hC dX1_note_33 (q := 34) rfl ?_
    refine gk_putI hC dX1_note_34 fp_RX1_33 t0 (q := 37) rfl (fun M23 => ?_)
    exact gk_vret hC hR dX1_note_37 rfl
  · refine gk_icmp_ge hC dX1_note_6 (tg := 27) rfl (q := 9) rfl ?_ ?_
    · refine gk_pick [0] rfl ?_
      exact hk27_21 M
    · refine gk_aload_n hC 0 dX1_note_9 rfl (q := 10) rfl ?_
      refine gk_dup hC dX1_note_10 rfl (q := 11) rfl ?_
      refine gk_getL hC dX1_note_11 fl_RX1_42 t0 (q := 14) rfl ?_
      refine gk_iload_n hC 1 dX1_note_14 rfl (q := 15) rfl ?_
      refine gk_i2l hC dX1_note_15 (q := 16) rfl ?_
      refine gk_iconst hC (v := 5) dX1_note_16 kc_i_5 (q := 17) rfl ?_
      refine gk_aload_n hC 0 dX1_note_17 rfl (q := 18) rfl ?_
      refine gk_getI hC dX1_note_18 fl_RX1_33 t0 (q := 21) rfl ?_
      refine gk_imul hC dX1_note_21 (q := 22) rfl ?_
      refine gk_lshl hC dX1_note_22 (q := 23) rfl ?_
      refine gk_lor hC dX1_note_23 (q := 24) rfl ?_
      refine gk_putL hC dX1_note_24 fp_RX1_42 t0 (q := 27) rfl (fun M24 => ?_)
      refine gk_pick [0] rfl ?_
      exact hk27_21 M24
def f_J9_min_7cf53 (LN : Nat → Nat) (RF : Nat → Nat → Nat) (a0 : Int32) (a1 : Int32) (M : gk_M) : Option (Int32) :=
  gk_jn (fun y21 : Int32 =>
    some y21) fun k10_21 =>
  if a1 < a0 then
    k10_21 a1
  else
  k10_21 a0
set_option maxHeartbeats 4000000 in
set_option maxRecDepth 100000 in
theorem m_J9_min_7cf53 (l : Launch) {Y : gk_Y} (hY : gk_WF Y) (a0 : Int32) (a1 : Int32) (M : gk_M)  : gk_MF l Y yJ9_min_7cf53 cJ9_min_7cf53 2 (some .int) 0 [.int a0, .int a1] M (gk_rR M) (f_J9_min_7cf53 (gk_ln Y) (gk_rf Y) a0 a1 M) := by
  refine gk_met hY (by decide +kernel) (Nat.le_of_ble_eq_true rfl) fun Z hC hR => ?_
  show gk_K Z Y 2 (gk_rR M) 0 [(0, .int a0), (1, .int a1)] [] M _
  unfold f_J9_min_7cf53
  refine gk_iload_n hC 0 dJ9_min_7cf53_0 rfl (q := 1) rfl ?_
  refine gk_iload_n hC 1 dJ9_min_7cf53_1 rfl (q := 2) rfl ?_
  refine gk_jnR (fun k10_21 => ∀ z22 : Int32, gk_K Z Y 2 (gk_rR M) 10 [] [.int z22] M (k10_21 z22)) (fun y21 => ?_) (fun k10_21 hk10_21 => ?_)
  · show gk_K Z Y 2 (gk_rR M) 10 [] [.int y21] M _
    exact gk_iret hC hR dJ9_min_7cf53_10 rfl
  · refine gk_icmp_gt hC dJ9_min_7cf53_2 (tg := 9) rfl (q := 5) rfl ?_ ?_
    · refine gk_iload_n hC 1 dJ9_min_7cf53_9 rfl (q := 10) rfl ?_
      refine gk_pick [] rfl ?_
      exact hk10_21 a1
    · refine gk_iload_n hC 0 dJ9_min_7cf53_5 rfl (q := 6) rfl ?_
      refine gk_goto hC dJ9_min_7cf53_6 (q := 10) rfl ?_
      refine gk_pick [] rfl ?_
      exact hk10_21 a0
def lp_X2_copyFrom_123 (LN : Nat → Nat) (RF : Nat → Nat → Nat) (v0 : Nat) (v1 : Nat) (k161 : gk_M → Option (gk_M)) : Nat → (Int32 × gk_M) → Option (gk_M)
  | 0, _ => none
  | n + 1, x =>
    if (x.2.1 v0 9) ≤ x.1 then
      k161 x.2
    else
    gk_ald LN x.2 (RF v1 5) x.1 fun x3 =>
    gk_ast LN x.2 (RF v0 5) x.1 x3 fun M4 =>
    gk_ald LN M4 (RF v1 6) x.1 fun x7 =>
    gk_ast LN M4 (RF v0 6) x.1 x7 fun M8 =>
    lp_X2_copyFrom_123 LN RF v0 v1 k161 n ((x.1 + 1), M8)
def lp_X2_copyFrom_92 (LN : Nat → Nat) (RF : Nat → Nat → Nat) (v0 : Nat) (v1 : Nat) (k121 : gk_M → Option (gk_M)) : Nat → (Int32 × gk_M) → Option (gk_M)
  | 0, _ => none
  | n + 1, x =>
    if (x.2.1 v0 8) ≤ x.1 then
      k121 x.2
    else
    gk_aldr LN RF (RF v0 1) x.1 fun o2 =>
    gk_aldr LN RF (RF v1 1) x.1 fun o5 =>
    (f_X1_copyFrom LN RF o2 o5 x.2).bind fun r7 =>
    lp_X2_copyFrom_92 LN RF v0 v1 k121 n ((x.1 + 1), r7)
def lp_X2_copyFrom_42 (LN : Nat → Nat) (RF : Nat → Nat → Nat) (v0 : Nat) (v1 : Nat) (k90 : gk_M → Option (gk_M)) : Nat → (Int32 × gk_M) → Option (gk_M)
  | 0, _ => none
  | n + 1, x =>
    if 8 ≤ x.1 then
      k90 x.2
    else
    gk_ald LN x.2 (RF v1 2) x.1 fun x3 =>
    gk_ast LN x.2 (RF v0 2) x.1 x3 fun M4 =>
    gk_ald LN M4 (RF v1 3) x.1 fun x7 =>
    gk_ast LN M4 (RF v0 3) x.1 x7 fun M8 =>
    gk_ald LN M8 (RF v1 4) x.1 fun x11 =>
    gk_ast LN M8 (RF v0 4) x.1 x11 fun M12 =>
    lp_X2_copyFrom_42 LN RF v0 v1 k90 n ((x.1 + 1), M12)
def f_X2_copyFrom (LN : Nat → Nat) (RF : Nat → Nat → Nat) (a0 : Nat) (a1 : Nat) (M : gk_M) : Option (gk_M) :=
  gk_put M a0 7 (M.1 a1 7) fun M21 =>
  (f_J9_min_7cf53 LN RF (M21.1 a1 8) (nI (LN (RF a0 1))) M21).bind fun r23 =>
  gk_put M21 a0 8 r23 fun M24 =>
  gk_put M24 a0 9 (M24.1 a1 9) fun M25 =>
  gk_put M25 a0 10 (M25.1 a1 10) fun M26 =>
  gk_jn (fun y27 : gk_M =>
    gk_jn (fun y29 : gk_M =>
      gk_jn (fun y31 : gk_M =>
        some y31) fun k161_31 =>
      lp_X2_copyFrom_123 LN RF a0 a1 k161_31 gk_fuel (0, y29)) fun k121_29 =>
    lp_X2_copyFrom_92 LN RF a0 a1 k121_29 gk_fuel (0, y27)) fun k90_27 =>
  lp_X2_copyFrom_42 LN RF a0 a1 k90_27 gk_fuel (0, M26)
set_option maxHeartbeats 4000000 in
set_option maxRecDepth 100000 in
theorem lk_X2_copyFrom_123 {Z : gk_Z} {Y : gk_Y} (hY : gk_WF Y) (hC : gk_C Z Y cX2_copyFrom 3 RX2 1) (hR : gk_R Z Y none) (v0 : Nat) (v1 : Nat) (tv0 : gk_T Y 12 v0) (tv1 : gk_T Y 12 v1) (k161 : gk_M → Option (gk_M)) (hk161 : ∀ z33 : gk_M, gk_K Z Y 3 gk_rV 161 [] [] z33 (k161 z33)) : ∀ (n : Nat) (x : Int32 × gk_M), gk_K Z Y 3 gk_rV 123 [(0, .ref v0), (1, .ref v1), (2, .int x.1)] [] x.2 (lp_X2_copyFrom_123 (gk_ln Y) (gk_rf Y) v0 v1 k161 n x) := by
  intro n
  induction n with
  | zero => intro x; exact gk_none
  | succ n ih =>
    intro x
    rw [lp_X2_copyFrom_123]
    refine gk_iload_n hC 2 dX2_copyFrom_123 rfl (q := 124) rfl ?_
    refine gk_aload_n hC 0 dX2_copyFrom_124 rfl (q := 125) rfl ?_
    refine gk_getI hC dX2_copyFrom_125 fl_RX2_51 tv0 (q := 128) rfl ?_
    refine gk_icmp_ge hC dX2_copyFrom_128 (tg := 161) rfl (q := 131) rfl ?_ ?_
    · refine gk_pick [] rfl ?_
      exact hk161 x.2
    · refine gk_aload_n hC 0 dX2_copyFrom_131 rfl (q := 132) rfl ?_
      refine gk_getR hC dX2_copyFrom_132 fl_RX2_21 (by decide) tv0 (q := 135) rfl (fun t1 => ?_)
      refine gk_iload_n hC 2 dX2_copyFrom_135 rfl (q := 136) rfl ?_
      refine gk_aload_n hC 1 dX2_copyFrom_136 rfl (q := 137) rfl ?_
      refine gk_getR hC dX2_copyFrom_137 fl_RX2_21 (by decide) tv1 (q := 140) rfl (fun t2 => ?_)
      refine gk_iload_n hC 2 dX2_copyFrom_140 rfl (q := 141) rfl ?_
      refine gk_iald hC dX2_copyFrom_141 t2 (q := 142) rfl (fun x3 => ?_)
      refine gk_iast hC dX2_copyFrom_142 t1 (q := 143) rfl (fun M4 => ?_)
      refine gk_aload_n hC 0 dX2_copyFrom_143 rfl (q := 144) rfl ?_
      refine gk_getR hC dX2_copyFrom_144 fl_RX2_24 (by decide) tv0 (q := 147) rfl (fun t5 => ?_)
      refine gk_iload_n hC 2 dX2_copyFrom_147 rfl (q := 148) rfl ?_
      refine gk_aload_n hC 1 dX2_copyFrom_148 rfl (q := 149) rfl ?_
      refine gk_getR hC dX2_copyFrom_149 fl_RX2_24 (by decide) tv1 (q := 152) rfl (fun t6 => ?_)
      refine gk_iload_n hC 2 dX2_copyFrom_152 rfl (q := 153) rfl ?_
      refine gk_iald hC dX2_copyFrom_153 t6 (q := 154) rfl (fun x7 => ?_)
      refine gk_iast hC dX2_copyFrom_154 t5 (q := 155) rfl (fun M8 => ?_)
      refine gk_iinc hC (v := 1) 2 (lv' := [(0, .ref v0), (1, .ref v1), (2, .int (x.1 + 1))]) [1, 2, 0] dX2_copyFrom_155 rfl kc_i_1 (by decide) rfl (q := 158) rfl ?_
      refine gk_goto hC dX2_copyFrom_158 (q := 123) rfl ?_
      exact ih ((x.1 + 1), M8)
set_option maxHeartbeats 4000000 in
set_option maxRecDepth 100000 in
theorem lk_X2_copyFrom_92 {Z : gk_Z} {Y : gk_Y} (hY : gk_WF Y) (hC : gk_C Z Y cX2_copyFrom 3 RX2 1) (hR : gk_R Z Y none) (v0 : Nat) (v1 : Nat) (tv0 : gk_T Y 12 v0) (tv1 : gk_T Y 12 v1) (k121 : gk_M → Option (gk_M)) (hk121 : ∀ z34 : gk_M, gk_K Z Y 3 gk_rV 121 [(0, .ref v0), (1, .ref v1)] [] z34 (k121 z34)) : ∀ (n : Nat) (x : Int32 × gk_M), gk_K Z Y 3 gk_rV 92 [(0, .ref v0), (1, .ref v1), (2, .int x.1)] [] x.2 (lp_X2_copyFrom_92 (gk_ln Y) (gk_rf Y) v0 v1 k121 n x) := by
  intro n
  induction n with
  | zero => intro x; exact gk_none
  | succ n ih =>
    intro x
    rw [lp_X2_copyFrom_92]
    refine gk_iload_n hC 2 dX2_copyFrom_92 rfl (q := 93) rfl ?_
    refine gk_aload_n hC 0 dX2_copyFrom_93 rfl (q := 94) rfl ?_
    refine gk_getI hC dX2_copyFrom_94 fl_RX2_42 tv0 (q := 97) rfl ?_
    refine gk_icmp_ge hC dX2_copyFrom_97 (tg := 121) rfl (q := 100) rfl ?_ ?_
    · refine gk_pick [0, 1] rfl ?_
      exact hk121 x.2
    · refine gk_aload_n hC 0 dX2_copyFrom_100 rfl (q := 101) rfl ?_
      refine gk_getR hC dX2_copyFrom_101 fl_RX2_33 (by decide) tv0 (q := 104) rfl (fun t1 => ?_)
      refine gk_iload_n hC 2 dX2_copyFrom_104 rfl (q := 105) rfl ?_
      refine gk_aald hC dX2_copyFrom_105 (Or.inl rfl) t1 (q := 106) rfl (fun o2 t3 => ?_)
      refine gk_aload_n hC 1 dX2_copyFrom_106 rfl (q := 107) rfl ?_
      refine gk_getR hC dX2_copyFrom_107 fl_RX2_33 (by decide) tv1 (q := 110) rfl (fun t4 => ?_)
      refine gk_iload_n hC 2 dX2_copyFrom_110 rfl (q := 111) rfl ?_
      refine gk_aald hC dX2_copyFrom_111 (Or.inl rfl) t4 (q := 112) rfl (fun o5 t6 => ?_)
      refine gk_callV (As := [.ref o5]) (rest := []) hC (fun l => m_X1_copyFrom l hY o2 o5 x.2 t3 t6) ml_RX2_57 ok_X1_copyFrom dX2_copyFrom_112 t3 ⟨by decide, rfl⟩ rfl (by decide) (Nat.le_of_ble_eq_true rfl) rfl (q := 115) rfl (fun r7 => ?_)
      show gk_K Z Y 3 gk_rV 115 [(0, .ref v0), (1, .ref v1), (2, .int x.1)] [] r7 _
      refine gk_iinc hC (v := 1) 2 (lv' := [(0, .ref v0), (1, .ref v1), (2, .int (x.1 + 1))]) [1, 2, 0] dX2_copyFrom_115 rfl kc_i_1 (by decide) rfl (q := 118) rfl ?_
      refine gk_goto hC dX2_copyFrom_118 (q := 92) rfl ?_
      exact ih ((x.1 + 1), r7)
set_option maxHeartbeats 4000000 in
set_option maxRecDepth 100000 in
theorem lk_X2_copyFrom_42 {Z : gk_Z} {Y : gk_Y} (hY : gk_WF Y) (hC : gk_C Z Y cX2_copyFrom 3 RX2 1) (hR : gk_R Z Y none) (v0 : Nat) (v1 : Nat) (tv0 : gk_T Y 12 v0) (tv1 : gk_T Y 12 v1) (k90 : gk_M → Option (gk_M)) (hk90 : ∀ z35 : gk_M, gk_K Z Y 3 gk_rV 90 [(0, .ref v0), (1, .ref v1)] [] z35 (k90 z35)) : ∀ (n : Nat) (x : Int32 × gk_M), gk_K Z Y 3 gk_rV 42 [(0, .ref v0), (1, .ref v1), (2, .int x.1)] [] x.2 (lp_X2_copyFrom_42 (gk_ln Y) (gk_rf Y) v0 v1 k90 n x) := by
  intro n
  induction n with
  | zero => intro x; exact gk_none
  | succ n ih =>
    intro x
    rw [lp_X2_copyFrom_42]
    refine gk_iload_n hC 2 dX2_copyFrom_42 rfl (q := 43) rfl ?_
    refine gk_bipush hC (v := 8) dX2_copyFrom_43 kc_b_8 (q := 45) rfl ?_
    refine gk_icmp_ge hC dX2_copyFrom_45 (tg := 90) rfl (q := 48) rfl ?_ ?_
    · refine gk_pick [0, 1] rfl ?_
      exact hk90 x.2
    · refine gk_aload_n hC 0 dX2_copyFrom_48 rfl (q := 49) rfl ?_
      refine gk_getR hC dX2_copyFrom_49 fl_RX2_9 (by decide) tv0 (q := 52) rfl (fun t1 => ?_)
      refine gk_iload_n hC 2 dX2_copyFrom_52 rfl (q := 53) rfl ?_
      refine gk_aload_n hC 1 dX2_copyFrom_53 rfl (q := 54) rfl ?_
      refine gk_getR hC dX2_copyFrom_54 fl_RX2_9 (by decide) tv1 (q := 57) rfl (fun t2 => ?_)
      refine gk_iload_n hC 2 dX2_copyFrom_57 rfl (q := 58) rfl ?_
      refine gk_iald hC dX2_copyFrom_58 t2 (q := 59) rfl (fun x3 => ?_)
      refine gk_iast hC dX2_copyFrom_59 t1 (q := 60) rfl (fun M4 => ?_)
      refine gk_aload_n hC 0 dX2_copyFrom_60 rfl (q := 61) rfl ?_
      refine gk_getR hC dX2_copyFrom_61 fl_RX2_15 (by decide) tv0 (q := 64) rfl (fun t5 => ?_)
      refine gk_iload_n hC 2 dX2_copyFrom_64 rfl (q := 65) rfl ?_
      refine gk_aload_n hC 1 dX2_copyFrom_65 rfl (q := 66) rfl ?_
      refine gk_getR hC dX2_copyFrom_66 fl_RX2_15 (by decide) tv1 (q := 69) rfl (fun t6 => ?_)
      refine gk_iload_n hC 2 dX2_copyFrom_69 rfl (q := 70) rfl ?_
      refine gk_iald hC dX2_copyFrom_70 t6 (q := 71) rfl (fun x7 => ?_)
      refine gk_iast hC dX2_copyFrom_71 t5 (q := 72) rfl (fun M8 => ?_)
      refine gk_aload_n hC 0 dX2_copyFrom_72 rfl (q := 73) rfl ?_
      refine gk_getR hC dX2_copyFrom_73 fl_RX2_18 (by decide) tv0 (q := 76) rfl (fun t9 => ?_)
      refine gk_iload_n hC 2 dX2_copyFrom_76 rfl (q := 77) rfl ?_
      refine gk_aload_n hC 1 dX2_copyFrom_77 rfl (q := 78) rfl ?_
      refine gk_getR hC dX2_copyFrom_78 fl_RX2_18 (by decide) tv1 (q := 81) rfl (fun t10 => ?_)
      refine gk_iload_n hC 2 dX2_copyFrom_81 rfl (q := 82) rfl ?_
      refine gk_iald hC dX2_copyFrom_82 t10 (q := 83) rfl (fun x11 => ?_)
      refine gk_iast hC dX2_copyFrom_83 t9 (q := 84) rfl (fun M12 => ?_)
      refine gk_iinc hC (v := 1) 2 (lv' := [(0, .ref v0), (1, .ref v1), (2, .int (x.1 + 1))]) [1, 2, 0] dX2_copyFrom_84 rfl kc_i_1 (by decide) rfl (q := 87) rfl ?_
      refine gk_goto hC dX2_copyFrom_87 (q := 42) rfl ?_
      exact ih ((x.1 + 1), M12)
set_option maxHeartbeats 4000000 in
set_option maxRecDepth 100000 in
theorem m_X2_copyFrom (l : Launch) {Y : gk_Y} (hY : gk_WF Y) (a0 : Nat) (a1 : Nat) (M : gk_M) (t0 : gk_T Y 12 a0) (ta1 : gk_T Y 12 a1) : gk_MF l Y yX2_copyFrom cX2_copyFrom 3 none 1 [.ref a0, .ref a1] M gk_rV (f_X2_copyFrom (gk_ln Y) (gk_rf Y) a0 a1 M) := by
  refine gk_met hY (plainFor_of_name (by decide)) (Nat.le_of_ble_eq_true rfl) fun Z hC hR => ?_
  show gk_K Z Y 3 gk_rV 0 [(0, .ref a0), (1, .ref a1)] [] M _
  unfold f_X2_copyFrom
  refine gk_aload_n hC 0 dX2_copyFrom_0 rfl (q := 1) rfl ?_
  refine gk_aload_n hC 1 dX2_copyFrom_1 rfl (q := 2) rfl ?_
  refine gk_getI hC dX2_copyFrom_2 fl_RX2_38 ta1 (q := 5) rfl ?_
  refine gk_putI hC dX2_copyFrom_5 fp_RX2_38 t0 (q := 8) rfl (fun M21 => ?_)
  refine gk_aload_n hC 0 dX2_copyFrom_8 rfl (q := 9) rfl ?_
  refine gk_aload_n hC 1 dX2_copyFrom_9 rfl (q := 10) rfl ?_
  refine gk_getI hC dX2_copyFrom_10 fl_RX2_42 ta1 (q := 13) rfl ?_
  refine gk_aload_n hC 0 dX2_copyFrom_13 rfl (q := 14) rfl ?_
  refine gk_getR hC dX2_copyFrom_14 fl_RX2_33 (by decide) t0 (q := 17) rfl (fun t22 => ?_)
  refine gk_alenR hC dX2_copyFrom_17 (Or.inl rfl) t22 (q := 18) rfl ?_
  refine gk_callS (As := [.int (M21.1 a1 8), .int (nI ((gk_ln Y) ((gk_rf Y) a0 1)))]) (rest := [.ref a0]) hC (fun l => m_J9_min_7cf53 l hY (M21.1 a1 8) (nI ((gk_ln Y) ((gk_rf Y) a0 1))) M21) ml_RX2_45 ok_J9_min_7cf53 dX2_copyFrom_18 rfl (by decide) (Nat.le_of_ble_eq_true rfl) rfl (q := 21) rfl (fun r23 => ?_)
  show gk_K Z Y 3 gk_rV 21 [(0, .ref a0), (1, .ref a1)] [.int r23, .ref a0] M21 _
  refine gk_putI hC dX2_copyFrom_21 fp_RX2_42 t0 (q := 24) rfl (fun M24 => ?_)
  refine gk_aload_n hC 0 dX2_copyFrom_24 rfl (q := 25) rfl ?_
  refine gk_aload_n hC 1 dX2_copyFrom_25 rfl (q := 26) rfl ?_
  refine gk_getI hC dX2_copyFrom_26 fl_RX2_51 ta1 (q := 29) rfl ?_
  refine gk_putI hC dX2_copyFrom_29 fp_RX2_51 t0 (q := 32) rfl (fun M25 => ?_)
  refine gk_aload_n hC 0 dX2_copyFrom_32 rfl (q := 33) rfl ?_
  refine gk_aload_n hC 1 dX2_copyFrom_33 rfl (q := 34) rfl ?_
  refine gk_getI hC dX2_copyFrom_34 fl_RX2_54 ta1 (q := 37) rfl ?_
  refine gk_putI hC dX2_copyFrom_37 fp_RX2_54 t0 (q := 40) rfl (fun M26 => ?_)
  refine gk_iconst hC (v := 0) dX2_copyFrom_40 kc_i_0 (q := 41) rfl ?_
  refine gk_istore_n hC (lv' := [(0, .ref a0), (1, .ref a1), (2, .int 0)]) [1, 2, 0] dX2_copyFrom_41 (by decide) rfl (q := 42) rfl ?_
  refine gk_jnR (fun k90_27 => ∀ z28 : gk_M, gk_K Z Y 3 gk_rV 90 [(0, .ref a0), (1, .ref a1)] [] z28 (k90_27 z28)) (fun y27 => ?_) (fun k90_27 hk90_27 => ?_)
  · show gk_K Z Y 3 gk_rV 90 [(0, .ref a0), (1, .ref a1)] [] y27 _
    refine gk_iconst hC (v := 0) dX2_copyFrom_90 kc_i_0 (q := 91) rfl ?_
    refine gk_istore_n hC (lv' := [(0, .ref a0), (1, .ref a1), (2, .int 0)]) [1, 2, 0] dX2_copyFrom_91 (by decide) rfl (q := 92) rfl ?_
    refine gk_jnR (fun k121_29 => ∀ z30 : gk_M, gk_K Z Y 3 gk_rV 121 [(0, .ref a0), (1, .ref a1)] [] z30 (k121_29 z30)) (fun y29 => ?_) (fun k121_29 hk121_29 => ?_)
    · show gk_K Z Y 3 gk_rV 121 [(0, .ref a0), (1, .ref a1)] [] y29 _
      refine gk_iconst hC (v := 0) dX2_copyFrom_121 kc_i_0 (q := 122) rfl ?_
      refine gk_istore_n hC (lv' := [(0, .ref a0), (1, .ref a1), (2, .int 0)]) [1, 2, 0] dX2_copyFrom_122 (by decide) rfl (q := 123) rfl ?_
      refine gk_jnR (fun k161_31 => ∀ z32 : gk_M, gk_K Z Y 3 gk_rV 161 [] [] z32 (k161_31 z32)) (fun y31 => ?_) (fun k161_31 hk161_31 => ?_)
      · show gk_K Z Y 3 gk_rV 161 [] [] y31 _
        exact gk_vret hC hR dX2_copyFrom_161 rfl
      · exact lk_X2_copyFrom_123 hY hC hR a0 a1 t0 ta1 k161_31 hk161_31 gk_fuel (0, y29)
    · exact lk_X2_copyFrom_92 hY hC hR a0 a1 t0 ta1 k121_29 hk121_29 gk_fuel (0, y27)
  · exact lk_X2_copyFrom_42 hY hC hR a0 a1 t0 ta1 k90_27 hk90_27 gk_fuel (0, M26)
def f_X2_isLine (LN : Nat → Nat) (RF : Nat → Nat → Nat) (a0 : Nat) (a1 : Int32) (M : gk_M) : Option (Int32) :=
  gk_jn (fun y21 : Int32 =>
    gk_zz y21 (some y21)) fun k17_21 =>
  gk_jn (fun y23 : Unit =>
    k17_21 0) fun k16_23 =>
  if a1 < 0 then
    k16_23 ()
  else
  if (M.1 a0 7) ≤ a1 then
    k16_23 ()
  else
  k17_21 1
set_option maxHeartbeats 4000000 in
set_option maxRecDepth 100000 in
theorem m_X2_isLine (l : Launch) {Y : gk_Y} (hY : gk_WF Y) (a0 : Nat) (a1 : Int32) (M : gk_M) (t0 : gk_T Y 12 a0) : gk_MF l Y yX2_isLine cX2_isLine 2 (some .boolean) 0 [.ref a0, .int a1] M (gk_rR M) (f_X2_isLine (gk_ln Y) (gk_rf Y) a0 a1 M) := by
  refine gk_met hY (plainFor_of_name (by decide)) (Nat.le_of_ble_eq_true rfl) fun Z hC hR => ?_
  show gk_K Z Y 2 (gk_rR M) 0 [(0, .ref a0), (1, .int a1)] [] M _
  unfold f_X2_isLine
  refine gk_iload_n hC 1 dX2_isLine_0 rfl (q := 1) rfl ?_
  refine gk_jnR (fun k17_21 => ∀ z22 : Int32, gk_K Z Y 2 (gk_rR M) 17 [] [.int z22] M (k17_21 z22)) (fun y21 => ?_) (fun k17_21 hk17_21 => ?_)
  · show gk_K Z Y 2 (gk_rR M) 17 [] [.int y21] M _
    exact gk_zzR (fun hv => gk_zret hC hR dX2_isLine_17 hv rfl)
  · refine gk_jnR (fun k16_23 => ∀ z24 : Unit, gk_K Z Y 2 (gk_rR M) 16 [] [] M (k16_23 z24)) (fun y23 => ?_) (fun k16_23 hk16_23 => ?_)
    · show gk_K Z Y 2 (gk_rR M) 16 [] [] M _
      refine gk_iconst hC (v := 0) dX2_isLine_16 kc_i_0 (q := 17) rfl ?_
      exact hk17_21 0
    · refine gk_if_lt hC dX2_isLine_1 (tg := 16) rfl (q := 4) rfl ?_ ?_
      · refine gk_pick [] rfl ?_
        exact hk16_23 ()
      · refine gk_iload_n hC 1 dX2_isLine_4 rfl (q := 5) rfl ?_
        refine gk_aload_n hC 0 dX2_isLine_5 rfl (q := 6) rfl ?_
        refine gk_getI hC dX2_isLine_6 fl_RX2_38 t0 (q := 9) rfl ?_
        refine gk_icmp_ge hC dX2_isLine_9 (tg := 16) rfl (q := 12) rfl ?_ ?_
        · refine gk_pick [] rfl ?_
          exact hk16_23 ()
        · refine gk_iconst hC (v := 1) dX2_isLine_12 kc_i_1 (q := 13) rfl ?_
          refine gk_goto hC dX2_isLine_13 (q := 17) rfl ?_
          refine gk_pick [] rfl ?_
          exact hk17_21 1
def f_X2_isCall (LN : Nat → Nat) (RF : Nat → Nat → Nat) (a0 : Nat) (a1 : Int32) (M : gk_M) : Option (Int32) :=
  gk_jn (fun y21 : Int32 =>
    gk_zz y21 (some y21)) fun k17_21 =>
  gk_jn (fun y23 : Unit =>
    k17_21 0) fun k16_23 =>
  if a1 < 0 then
    k16_23 ()
  else
  if (M.1 a0 8) ≤ a1 then
    k16_23 ()
  else
  k17_21 1
set_option maxHeartbeats 4000000 in
set_option maxRecDepth 100000 in
theorem m_X2_isCall (l : Launch) {Y : gk_Y} (hY : gk_WF Y) (a0 : Nat) (a1 : Int32) (M : gk_M) (t0 : gk_T Y 12 a0) : gk_MF l Y yX2_isCall cX2_isCall 2 (some .boolean) 0 [.ref a0, .int a1] M (gk_rR M) (f_X2_isCall (gk_ln Y) (gk_rf Y) a0 a1 M) := by
  refine gk_met hY (plainFor_of_name (by decide)) (Nat.le_of_ble_eq_true rfl) fun Z hC hR => ?_
  show gk_K Z Y 2 (gk_rR M) 0 [(0, .ref a0), (1, .int a1)] [] M _
  unfold f_X2_isCall
  refine gk_iload_n hC 1 dX2_isCall_0 rfl (q := 1) rfl ?_
  refine gk_jnR (fun k17_21 => ∀ z22 : Int32, gk_K Z Y 2 (gk_rR M) 17 [] [.int z22] M (k17_21 z22)) (fun y21 => ?_) (fun k17_21 hk17_21 => ?_)
  · show gk_K Z Y 2 (gk_rR M) 17 [] [.int y21] M _
    exact gk_zzR (fun hv => gk_zret hC hR dX2_isCall_17 hv rfl)
  · refine gk_jnR (fun k16_23 => ∀ z24 : Unit, gk_K Z Y 2 (gk_rR M) 16 [] [] M (k16_23 z24)) (fun y23 => ?_) (fun k16_23 hk16_23 => ?_)
    · show gk_K Z Y 2 (gk_rR M) 16 [] [] M _
      refine gk_iconst hC (v := 0) dX2_isCall_16 kc_i_0 (q := 17) rfl ?_
      exact hk17_21 0
    · refine gk_if_lt hC dX2_isCall_1 (tg := 16) rfl (q := 4) rfl ?_ ?_
      · refine gk_pick [] rfl ?_
        exact hk16_23 ()
      · refine gk_iload_n hC 1 dX2_isCall_4 rfl (q := 5) rfl ?_
        refine gk_aload_n hC 0 dX2_isCall_5 rfl (q := 6) rfl ?_
        refine gk_getI hC dX2_isCall_6 fl_RX2_42 t0 (q := 9) rfl ?_
        refine gk_icmp_ge hC dX2_isCall_9 (tg := 16) rfl (q := 12) rfl ?_ ?_
        · refine gk_pick [] rfl ?_
          exact hk16_23 ()
        · refine gk_iconst hC (v := 1) dX2_isCall_12 kc_i_1 (q := 13) rfl ?_
          refine gk_goto hC dX2_isCall_13 (q := 17) rfl ?_
          refine gk_pick [] rfl ?_
          exact hk17_21 1
def f_X2_hasRoom (LN : Nat → Nat) (RF : Nat → Nat → Nat) (a0 : Nat) (M : gk_M) : Option (Int32) :=
  gk_jn (fun y22 : Int32 =>
    gk_zz y22 (some y22)) fun k17_22 =>
  if (nI (LN (RF a0 1))) ≤ (M.1 a0 8) then
    k17_22 0
  else
  k17_22 1
set_option maxHeartbeats 4000000 in
set_option maxRecDepth 100000 in
theorem m_X2_hasRoom (l : Launch) {Y : gk_Y} (hY : gk_WF Y) (a0 : Nat) (M : gk_M) (t0 : gk_T Y 12 a0) : gk_MF l Y yX2_hasRoom cX2_hasRoom 1 (some .boolean) 0 [.ref a0] M (gk_rR M) (f_X2_hasRoom (gk_ln Y) (gk_rf Y) a0 M) := by
  refine gk_met hY (plainFor_of_name (by decide)) (Nat.le_of_ble_eq_true rfl) fun Z hC hR => ?_
  show gk_K Z Y 1 (gk_rR M) 0 [(0, .ref a0)] [] M _
  unfold f_X2_hasRoom
  refine gk_aload_n hC 0 dX2_hasRoom_0 rfl (q := 1) rfl ?_
  refine gk_getI hC dX2_hasRoom_1 fl_RX2_42 t0 (q := 4) rfl ?_
  refine gk_aload_n hC 0 dX2_hasRoom_4 rfl (q := 5) rfl ?_
  refine gk_getR hC dX2_hasRoom_5 fl_RX2_33 (by decide) t0 (q := 8) rfl (fun t21 => ?_)
  refine gk_alenR hC dX2_hasRoom_8 (Or.inl rfl) t21 (q := 9) rfl ?_
  refine gk_jnR (fun k17_22 => ∀ z23 : Int32, gk_K Z Y 1 (gk_rR M) 17 [] [.int z23] M (k17_22 z23)) (fun y22 => ?_) (fun k17_22 hk17_22 => ?_)
  · show gk_K Z Y 1 (gk_rR M) 17 [] [.int y22] M _
    exact gk_zzR (fun hv => gk_zret hC hR dX2_hasRoom_17 hv rfl)
  · refine gk_icmp_ge hC dX2_hasRoom_9 (tg := 16) rfl (q := 12) rfl ?_ ?_
    · refine gk_iconst hC (v := 0) dX2_hasRoom_16 kc_i_0 (q := 17) rfl ?_
      refine gk_pick [] rfl ?_
      exact hk17_22 0
    · refine gk_iconst hC (v := 1) dX2_hasRoom_12 kc_i_1 (q := 13) rfl ?_
      refine gk_goto hC dX2_hasRoom_13 (q := 17) rfl ?_
      refine gk_pick [] rfl ?_
      exact hk17_22 1
def f_X2_isFree (LN : Nat → Nat) (RF : Nat → Nat → Nat) (a0 : Nat) (a1 : Int32) (M : gk_M) : Option (Int32) :=
  gk_ald LN M (RF a0 2) a1 fun x22 =>
  gk_jn (fun y23 : Int32 =>
    gk_zz y23 (some y23)) fun k15_23 =>
  if x22 = (-1) then
    k15_23 1
  else
  k15_23 0
set_option maxHeartbeats 4000000 in
set_option maxRecDepth 100000 in
theorem m_X2_isFree (l : Launch) {Y : gk_Y} (hY : gk_WF Y) (a0 : Nat) (a1 : Int32) (M : gk_M) (t0 : gk_T Y 12 a0) : gk_MF l Y yX2_isFree cX2_isFree 2 (some .boolean) 0 [.ref a0, .int a1] M (gk_rR M) (f_X2_isFree (gk_ln Y) (gk_rf Y) a0 a1 M) := by
  refine gk_met hY (plainFor_of_name (by decide)) (Nat.le_of_ble_eq_true rfl) fun Z hC hR => ?_
  show gk_K Z Y 2 (gk_rR M) 0 [(0, .ref a0), (1, .int a1)] [] M _
  unfold f_X2_isFree
  refine gk_aload_n hC 0 dX2_isFree_0 rfl (q := 1) rfl ?_
  refine gk_getR hC dX2_isFree_1 fl_RX2_9 (by decide) t0 (q := 4) rfl (fun t21 => ?_)
  refine gk_iload_n hC 1 dX2_isFree_4 rfl (q := 5) rfl ?_
  refine gk_iald hC dX2_isFree_5 t21 (q := 6) rfl (fun x22 => ?_)
  refine gk_iconst hC (v := (-1)) dX2_isFree_6 kc_i_m1 (q := 7) rfl ?_
  refine gk_jnR (fun k15_23 => ∀ z24 : Int32, gk_K Z Y 2 (gk_rR M) 15 [] [.int z24] M (k15_23 z24)) (fun y23 => ?_) (fun k15_23 hk15_23 => ?_)
  · show gk_K Z Y 2 (gk_rR M) 15 [] [.int y23] M _
    exact gk_zzR (fun hv => gk_zret hC hR dX2_isFree_15 hv rfl)
  · refine gk_icmp_ne hC dX2_isFree_7 (tg := 14) rfl (q := 10) rfl ?_ ?_
    · refine gk_iconst hC (v := 1) dX2_isFree_10 kc_i_1 (q := 11) rfl ?_
      refine gk_goto hC dX2_isFree_11 (q := 15) rfl ?_
      refine gk_pick [] rfl ?_
      exact hk15_23 1
    · refine gk_iconst hC (v := 0) dX2_isFree_14 kc_i_0 (q := 15) rfl ?_
      refine gk_pick [] rfl ?_
      exact hk15_23 0
def f_X2_isRinging (LN : Nat → Nat) (RF : Nat → Nat → Nat) (a0 : Nat) (a1 : Int32) (M : gk_M) : Option (Int32) :=
  (f_X2_isFree LN RF a0 a1 M).bind fun r21 =>
  gk_jn (fun y22 : Int32 =>
    gk_zz y22 (some y22)) fun k34_22 =>
  gk_jn (fun y24 : Unit =>
    k34_22 0) fun k33_24 =>
  if r21 = 0 then
    gk_ald LN M (RF a0 2) a1 fun x28 =>
    gk_aldr LN RF (RF a0 1) x28 fun o29 =>
    if (((M.1 o29 4) >>> (a1 &&& 31)) &&& 1) = 0 then
      k33_24 ()
    else
    k34_22 1
  else
  k33_24 ()
set_option maxHeartbeats 4000000 in
set_option maxRecDepth 100000 in
theorem m_X2_isRinging (l : Launch) {Y : gk_Y} (hY : gk_WF Y) (a0 : Nat) (a1 : Int32) (M : gk_M) (t0 : gk_T Y 12 a0) : gk_MF l Y yX2_isRinging cX2_isRinging 2 (some .boolean) 1 [.ref a0, .int a1] M (gk_rR M) (f_X2_isRinging (gk_ln Y) (gk_rf Y) a0 a1 M) := by
  refine gk_met hY (plainFor_of_name (by decide)) (Nat.le_of_ble_eq_true rfl) fun Z hC hR => ?_
  show gk_K Z Y 2 (gk_rR M) 0 [(0, .ref a0), (1, .int a1)] [] M _
  unfold f_X2_isRinging
  refine gk_aload_n hC 0 dX2_isRinging_0 rfl (q := 1) rfl ?_
  refine gk_iload_n hC 1 dX2_isRinging_1 rfl (q := 2) rfl ?_
  refine gk_callV (As := [.int a1]) (rest := []) hC (fun l => m_X2_isFree l hY a0 a1 M t0) ml_RX2_61 ok_X2_isFree dX2_isRinging_2 t0 ⟨by decide, rfl⟩ rfl (by decide) (Nat.le_of_ble_eq_true rfl) rfl (q := 5) rfl (fun r21 => ?_)
  show gk_K Z Y 2 (gk_rR M) 5 [(0, .ref a0), (1, .int a1)] [.int r21] M _
  refine gk_jnR (fun k34_22 => ∀ z23 : Int32, gk_K Z Y 2 (gk_rR M) 34 [] [.int z23] M (k34_22 z23)) (fun y22 => ?_) (fun k34_22 hk34_22 => ?_)
  · show gk_K Z Y 2 (gk_rR M) 34 [] [.int y22] M _
    exact gk_zzR (fun hv => gk_zret hC hR dX2_isRinging_34 hv rfl)
  · refine gk_jnR (fun k33_24 => ∀ z25 : Unit, gk_K Z Y 2 (gk_rR M) 33 [] [] M (k33_24 z25)) (fun y24 => ?_) (fun k33_24 hk33_24 => ?_)
    · show gk_K Z Y 2 (gk_rR M) 33 [] [] M _
      refine gk_iconst hC (v := 0) dX2_isRinging_33 kc_i_0 (q := 34) rfl ?_
      exact hk34_22 0
    · refine gk_if_ne hC dX2_isRinging_5 (tg := 33) rfl (q := 8) rfl ?_ ?_
      · refine gk_aload_n hC 0 dX2_isRinging_8 rfl (q := 9) rfl ?_
        refine gk_getR hC dX2_isRinging_9 fl_RX2_33 (by decide) t0 (q := 12) rfl (fun t26 => ?_)
        refine gk_aload_n hC 0 dX2_isRinging_12 rfl (q := 13) rfl ?_
        refine gk_getR hC dX2_isRinging_13 fl_RX2_9 (by decide) t0 (q := 16) rfl (fun t27 => ?_)
        refine gk_iload_n hC 1 dX2_isRinging_16 rfl (q := 17) rfl ?_
        refine gk_iald hC dX2_isRinging_17 t27 (q := 18) rfl (fun x28 => ?_)
        refine gk_aald hC dX2_isRinging_18 (Or.inl rfl) t26 (q := 19) rfl (fun o29 t30 => ?_)
        refine gk_getI hC dX2_isRinging_19 fl_RX2_65 t30 (q := 22) rfl ?_
        refine gk_iload_n hC 1 dX2_isRinging_22 rfl (q := 23) rfl ?_
        refine gk_ishr hC dX2_isRinging_23 (q := 24) rfl ?_
        refine gk_iconst hC (v := 1) dX2_isRinging_24 kc_i_1 (q := 25) rfl ?_
        refine gk_iand hC dX2_isRinging_25 (q := 26) rfl ?_
        refine gk_if_eq hC dX2_isRinging_26 (tg := 33) rfl (q := 29) rfl ?_ ?_
        · refine gk_pick [] rfl ?_
          exact hk33_24 ()
        · refine gk_iconst hC (v := 1) dX2_isRinging_29 kc_i_1 (q := 30) rfl ?_
          refine gk_goto hC dX2_isRinging_30 (q := 34) rfl ?_
          refine gk_pick [] rfl ?_
          exact hk34_22 1
      · refine gk_pick [] rfl ?_
        exact hk33_24 ()
end
