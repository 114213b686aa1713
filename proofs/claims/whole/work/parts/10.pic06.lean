noncomputable section
def f_X7_call (LN : Nat → Nat) (RF : Nat → Nat → Nat) (a0 : Nat) (a1 : Int32) (a2 : Int32) (M : gk_M) : Option (Int32) :=
  (f_X2_isCall LN RF (RF a0 0) a1 M).bind fun r22 =>
  if r22 = 0 then
    some (-1)
  else
  gk_aldr LN RF (RF (RF a0 0) 1) a1 fun o25 =>
  gk_sw a2 0 [some (M.1 o25 0),
    some (M.1 o25 1),
    some (M.1 o25 2),
    some (M.1 o25 3),
    some (M.1 o25 4),
    some (M.1 o25 5),
    some (M.1 o25 6),
    some (M.1 o25 7)]
  (some (-1))
set_option maxHeartbeats 4000000 in
set_option maxRecDepth 100000 in
theorem m_X7_call (l : Launch) {Y : gk_Y} (hY : gk_WF Y) (a0 : Nat) (a1 : Int32) (a2 : Int32) (M : gk_M) (t0 : gk_T Y 17 a0) : gk_MF l Y yX7_call cX7_call 4 (some .int) 1 [.ref a0, .int a1, .int a2] M (gk_rR M) (f_X7_call (gk_ln Y) (gk_rf Y) a0 a1 a2 M) := by
  refine gk_met hY (plainFor_of_name (by decide)) (Nat.le_of_ble_eq_true rfl) fun Z hC hR => ?_
  show gk_K Z Y 4 (gk_rR M) 0 [(0, .ref a0), (1, .int a1), (2, .int a2)] [] M _
  unfold f_X7_call
  refine gk_aload_n hC 0 dX7_call_0 rfl (q := 1) rfl ?_
  refine gk_getR hC dX7_call_1 fl_RX7_17 (by decide) t0 (q := 4) rfl (fun t21 => ?_)
  refine gk_iload_n hC 1 dX7_call_4 rfl (q := 5) rfl ?_
  refine gk_callV (As := [.int a1]) (rest := []) hC (fun l => m_X2_isCall l hY ((gk_rf Y) a0 0) a1 M t21) ml_RX7_167 ok_X2_isCall dX7_call_5 t21 ⟨by decide, rfl⟩ rfl (by decide) (Nat.le_of_ble_eq_true rfl) rfl (q := 8) rfl (fun r22 => ?_)
  show gk_K Z Y 4 (gk_rR M) 8 [(0, .ref a0), (1, .int a1), (2, .int a2)] [.int r22] M _
  refine gk_if_ne hC dX7_call_8 (tg := 13) rfl (q := 11) rfl ?_ ?_
  · refine gk_iconst hC (v := (-1)) dX7_call_11 kc_i_m1 (q := 12) rfl ?_
    exact gk_iret hC hR dX7_call_12 rfl
  · refine gk_aload_n hC 0 dX7_call_13 rfl (q := 14) rfl ?_
    refine gk_getR hC dX7_call_14 fl_RX7_17 (by decide) t0 (q := 17) rfl (fun t23 => ?_)
    refine gk_getR hC dX7_call_17 fl_RX7_170 (by decide) t23 (q := 20) rfl (fun t24 => ?_)
    refine gk_iload_n hC 1 dX7_call_20 rfl (q := 21) rfl ?_
    refine gk_aald hC dX7_call_21 (Or.inl rfl) t24 (q := 22) rfl (fun o25 t26 => ?_)
    refine gk_astore_n hC (lv' := [(2, .int a2), (3, .ref o25)]) [3, 0] dX7_call_22 (by decide) rfl (q := 23) rfl ?_
    refine gk_iload_n hC 0 dX7_call_23 rfl (q := 24) rfl ?_
    refine gk_table hC (ts := [72, 77, 82, 87, 92, 97, 102, 107]) (tg := 112) dX7_call_24 (by decide) (by decide) rfl ⟨?_, ?_, ?_, ?_, ?_, ?_, ?_, ?_, trivial⟩ ?_
    · refine gk_aload_n hC 1 dX7_call_72 rfl (q := 73) rfl ?_
      refine gk_getI hC dX7_call_73 fl_RX7_174 t26 (q := 76) rfl ?_
      exact gk_iret hC hR dX7_call_76 rfl
    · refine gk_aload_n hC 1 dX7_call_77 rfl (q := 78) rfl ?_
      refine gk_getI hC dX7_call_78 fl_RX7_179 t26 (q := 81) rfl ?_
      exact gk_iret hC hR dX7_call_81 rfl
    · refine gk_aload_n hC 1 dX7_call_82 rfl (q := 83) rfl ?_
      refine gk_getI hC dX7_call_83 fl_RX7_182 t26 (q := 86) rfl ?_
      exact gk_iret hC hR dX7_call_86 rfl
    · refine gk_aload_n hC 1 dX7_call_87 rfl (q := 88) rfl ?_
      refine gk_getI hC dX7_call_88 fl_RX7_185 t26 (q := 91) rfl ?_
      exact gk_iret hC hR dX7_call_91 rfl
    · refine gk_aload_n hC 1 dX7_call_92 rfl (q := 93) rfl ?_
      refine gk_getI hC dX7_call_93 fl_RX7_188 t26 (q := 96) rfl ?_
      exact gk_iret hC hR dX7_call_96 rfl
    · refine gk_aload_n hC 1 dX7_call_97 rfl (q := 98) rfl ?_
      refine gk_getI hC dX7_call_98 fl_RX7_191 t26 (q := 101) rfl ?_
      exact gk_iret hC hR dX7_call_101 rfl
    · refine gk_aload_n hC 1 dX7_call_102 rfl (q := 103) rfl ?_
      refine gk_getI hC dX7_call_103 fl_RX7_194 t26 (q := 106) rfl ?_
      exact gk_iret hC hR dX7_call_106 rfl
    · refine gk_aload_n hC 1 dX7_call_107 rfl (q := 108) rfl ?_
      refine gk_getI hC dX7_call_108 fl_RX7_197 t26 (q := 111) rfl ?_
      exact gk_iret hC hR dX7_call_111 rfl
    · refine gk_iconst hC (v := (-1)) dX7_call_112 kc_i_m1 (q := 113) rfl ?_
      exact gk_iret hC hR dX7_call_113 rfl
def f_X7_row (LN : Nat → Nat) (RF : Nat → Nat → Nat) (a0 : Nat) (a1 : Int32) (a2 : Int32) (M : gk_M) : Option (Int32) :=
  (f_X2_isCall LN RF (RF a0 0) a1 M).bind fun r22 =>
  gk_jn (fun y23 : Int32 =>
    some y23) fun k28_23 =>
  if r22 = 0 then
    k28_23 (-1)
  else
  gk_aldr LN RF (RF (RF a0 0) 1) a1 fun o27 =>
  (f_X1_lineAt LN RF o27 a2 M).bind fun r29 =>
  k28_23 r29
set_option maxHeartbeats 4000000 in
set_option maxRecDepth 100000 in
theorem m_X7_row (l : Launch) {Y : gk_Y} (hY : gk_WF Y) (a0 : Nat) (a1 : Int32) (a2 : Int32) (M : gk_M) (t0 : gk_T Y 17 a0) : gk_MF l Y yX7_row cX7_row 3 (some .int) 1 [.ref a0, .int a1, .int a2] M (gk_rR M) (f_X7_row (gk_ln Y) (gk_rf Y) a0 a1 a2 M) := by
  refine gk_met hY (plainFor_of_name (by decide)) (Nat.le_of_ble_eq_true rfl) fun Z hC hR => ?_
  show gk_K Z Y 3 (gk_rR M) 0 [(0, .ref a0), (1, .int a1), (2, .int a2)] [] M _
  unfold f_X7_row
  refine gk_aload_n hC 0 dX7_row_0 rfl (q := 1) rfl ?_
  refine gk_getR hC dX7_row_1 fl_RX7_17 (by decide) t0 (q := 4) rfl (fun t21 => ?_)
  refine gk_iload_n hC 1 dX7_row_4 rfl (q := 5) rfl ?_
  refine gk_callV (As := [.int a1]) (rest := []) hC (fun l => m_X2_isCall l hY ((gk_rf Y) a0 0) a1 M t21) ml_RX7_167 ok_X2_isCall dX7_row_5 t21 ⟨by decide, rfl⟩ rfl (by decide) (Nat.le_of_ble_eq_true rfl) rfl (q := 8) rfl (fun r22 => ?_)
  show gk_K Z Y 3 (gk_rR M) 8 [(0, .ref a0), (1, .int a1), (2, .int a2)] [.int r22] M _
  refine gk_jnR (fun k28_23 => ∀ z24 : Int32, gk_K Z Y 3 (gk_rR M) 28 [] [.int z24] M (k28_23 z24)) (fun y23 => ?_) (fun k28_23 hk28_23 => ?_)
  · show gk_K Z Y 3 (gk_rR M) 28 [] [.int y23] M _
    exact gk_iret hC hR dX7_row_28 rfl
  · refine gk_if_eq hC dX7_row_8 (tg := 27) rfl (q := 11) rfl ?_ ?_
    · refine gk_iconst hC (v := (-1)) dX7_row_27 kc_i_m1 (q := 28) rfl ?_
      refine gk_pick [] rfl ?_
      exact hk28_23 (-1)
    · refine gk_aload_n hC 0 dX7_row_11 rfl (q := 12) rfl ?_
      refine gk_getR hC dX7_row_12 fl_RX7_17 (by decide) t0 (q := 15) rfl (fun t25 => ?_)
      refine gk_getR hC dX7_row_15 fl_RX7_170 (by decide) t25 (q := 18) rfl (fun t26 => ?_)
      refine gk_iload_n hC 1 dX7_row_18 rfl (q := 19) rfl ?_
      refine gk_aald hC dX7_row_19 (Or.inl rfl) t26 (q := 20) rfl (fun o27 t28 => ?_)
      refine gk_iload_n hC 2 dX7_row_20 rfl (q := 21) rfl ?_
      refine gk_callV (As := [.int a2]) (rest := []) hC (fun l => m_X1_lineAt l hY o27 a2 M t28) ml_RX7_200 ok_X1_lineAt dX7_row_21 t28 ⟨by decide, rfl⟩ rfl (by decide) (Nat.le_of_ble_eq_true rfl) rfl (q := 24) rfl (fun r29 => ?_)
      show gk_K Z Y 3 (gk_rR M) 24 [(0, .ref a0), (1, .int a1), (2, .int a2)] [.int r29] M _
      refine gk_goto hC dX7_row_24 (q := 28) rfl ?_
      refine gk_pick [] rfl ?_
      exact hk28_23 r29
def f_X7_piece (LN : Nat → Nat) (RF : Nat → Nat → Nat) (a0 : Nat) (a1 : Int32) (a2 : Int32) (M : gk_M) : Option (Int32) :=
  (f_X2_isCall LN RF (RF a0 0) a1 M).bind fun r22 =>
  gk_jn (fun y23 : Int32 =>
    some y23) fun k28_23 =>
  if r22 = 0 then
    k28_23 (-1)
  else
  gk_aldr LN RF (RF (RF a0 0) 1) a1 fun o27 =>
  (f_X1_payerAt LN RF o27 a2 M).bind fun r29 =>
  k28_23 r29
set_option maxHeartbeats 4000000 in
set_option maxRecDepth 100000 in
theorem m_X7_piece (l : Launch) {Y : gk_Y} (hY : gk_WF Y) (a0 : Nat) (a1 : Int32) (a2 : Int32) (M : gk_M) (t0 : gk_T Y 17 a0) : gk_MF l Y yX7_piece cX7_piece 3 (some .int) 1 [.ref a0, .int a1, .int a2] M (gk_rR M) (f_X7_piece (gk_ln Y) (gk_rf Y) a0 a1 a2 M) := by
  refine gk_met hY (plainFor_of_name (by decide)) (Nat.le_of_ble_eq_true rfl) fun Z hC hR => ?_
  show gk_K Z Y 3 (gk_rR M) 0 [(0, .ref a0), (1, .int a1), (2, .int a2)] [] M _
  unfold f_X7_piece
  refine gk_aload_n hC 0 dX7_piece_0 rfl (q := 1) rfl ?_
  refine gk_getR hC dX7_piece_1 fl_RX7_17 (by decide) t0 (q := 4) rfl (fun t21 => ?_)
  refine gk_iload_n hC 1 dX7_piece_4 rfl (q := 5) rfl ?_
  refine gk_callV (As := [.int a1]) (rest := []) hC (fun l => m_X2_isCall l hY ((gk_rf Y) a0 0) a1 M t21) ml_RX7_167 ok_X2_isCall dX7_piece_5 t21 ⟨by decide, rfl⟩ rfl (by decide) (Nat.le_of_ble_eq_true rfl) rfl (q := 8) rfl (fun r22 => ?_)
  show gk_K Z Y 3 (gk_rR M) 8 [(0, .ref a0), (1, .int a1), (2, .int a2)] [.int r22] M _
  refine gk_jnR (fun k28_23 => ∀ z24 : Int32, gk_K Z Y 3 (gk_rR M) 28 [] [.int z24] M (k28_23 z24)) (fun y23 => ?_) (fun k28_23 hk28_23 => ?_)
  · show gk_K Z Y 3 (gk_rR M) 28 [] [.int y23] M _
    exact gk_iret hC hR dX7_piece_28 rfl
  · refine gk_if_eq hC dX7_piece_8 (tg := 27) rfl (q := 11) rfl ?_ ?_
    · refine gk_iconst hC (v := (-1)) dX7_piece_27 kc_i_m1 (q := 28) rfl ?_
      refine gk_pick [] rfl ?_
      exact hk28_23 (-1)
    · refine gk_aload_n hC 0 dX7_piece_11 rfl (q := 12) rfl ?_
      refine gk_getR hC dX7_piece_12 fl_RX7_17 (by decide) t0 (q := 15) rfl (fun t25 => ?_)
      refine gk_getR hC dX7_piece_15 fl_RX7_170 (by decide) t25 (q := 18) rfl (fun t26 => ?_)
      refine gk_iload_n hC 1 dX7_piece_18 rfl (q := 19) rfl ?_
      refine gk_aald hC dX7_piece_19 (Or.inl rfl) t26 (q := 20) rfl (fun o27 t28 => ?_)
      refine gk_iload_n hC 2 dX7_piece_20 rfl (q := 21) rfl ?_
      refine gk_callV (As := [.int a2]) (rest := []) hC (fun l => m_X1_payerAt l hY o27 a2 M t28) ml_RX7_203 ok_X1_payerAt dX7_piece_21 t28 ⟨by decide, rfl⟩ rfl (by decide) (Nat.le_of_ble_eq_true rfl) rfl (q := 24) rfl (fun r29 => ?_)
      show gk_K Z Y 3 (gk_rR M) 24 [(0, .ref a0), (1, .int a1), (2, .int a2)] [.int r29] M _
      refine gk_goto hC dX7_piece_24 (q := 28) rfl ?_
      refine gk_pick [] rfl ?_
      exact hk28_23 r29
def f_X7_acted (LN : Nat → Nat) (RF : Nat → Nat → Nat) (a0 : Nat) (a1 : Int32) (a2 : Int32) (M : gk_M) : Option (Int32) :=
  (f_X2_isCall LN RF (RF a0 0) a1 M).bind fun r22 =>
  gk_jn (fun y23 : Int32 =>
    some y23) fun k28_23 =>
  if r22 = 0 then
    k28_23 (-1)
  else
  gk_aldr LN RF (RF (RF a0 0) 1) a1 fun o27 =>
  (f_X1_actAt LN RF o27 a2 M).bind fun r29 =>
  k28_23 r29
set_option maxHeartbeats 4000000 in
set_option maxRecDepth 100000 in
theorem m_X7_acted (l : Launch) {Y : gk_Y} (hY : gk_WF Y) (a0 : Nat) (a1 : Int32) (a2 : Int32) (M : gk_M) (t0 : gk_T Y 17 a0) : gk_MF l Y yX7_acted cX7_acted 3 (some .int) 1 [.ref a0, .int a1, .int a2] M (gk_rR M) (f_X7_acted (gk_ln Y) (gk_rf Y) a0 a1 a2 M) := by
  refine gk_met hY (plainFor_of_name (by decide)) (Nat.le_of_ble_eq_true rfl) fun Z hC hR => ?_
  show gk_K Z Y 3 (gk_rR M) 0 [(0, .ref a0), (1, .int a1), (2, .int a2)] [] M _
  unfold f_X7_acted
  refine gk_aload_n hC 0 dX7_acted_0 rfl (q := 1) rfl ?_
  refine gk_getR hC dX7_acted_1 fl_RX7_17 (by decide) t0 (q := 4) rfl (fun t21 => ?_)
  refine gk_iload_n hC 1 dX7_acted_4 rfl (q := 5) rfl ?_
  refine gk_callV (As := [.int a1]) (rest := []) hC (fun l => m_X2_isCall l hY ((gk_rf Y) a0 0) a1 M t21) ml_RX7_167 ok_X2_isCall dX7_acted_5 t21 ⟨by decide, rfl⟩ rfl (by decide) (Nat.le_of_ble_eq_true rfl) rfl (q := 8) rfl (fun r22 => ?_)
  show gk_K Z Y 3 (gk_rR M) 8 [(0, .ref a0), (1, .int a1), (2, .int a2)] [.int r22] M _
  refine gk_jnR (fun k28_23 => ∀ z24 : Int32, gk_K Z Y 3 (gk_rR M) 28 [] [.int z24] M (k28_23 z24)) (fun y23 => ?_) (fun k28_23 hk28_23 => ?_)
  · show gk_K Z Y 3 (gk_rR M) 28 [] [.int y23] M _
    exact gk_iret hC hR dX7_acted_28 rfl
  · refine gk_if_eq hC dX7_acted_8 (tg := 27) rfl (q := 11) rfl ?_ ?_
    · refine gk_iconst hC (v := (-1)) dX7_acted_27 kc_i_m1 (q := 28) rfl ?_
      refine gk_pick [] rfl ?_
      exact hk28_23 (-1)
    · refine gk_aload_n hC 0 dX7_acted_11 rfl (q := 12) rfl ?_
      refine gk_getR hC dX7_acted_12 fl_RX7_17 (by decide) t0 (q := 15) rfl (fun t25 => ?_)
      refine gk_getR hC dX7_acted_15 fl_RX7_170 (by decide) t25 (q := 18) rfl (fun t26 => ?_)
      refine gk_iload_n hC 1 dX7_acted_18 rfl (q := 19) rfl ?_
      refine gk_aald hC dX7_acted_19 (Or.inl rfl) t26 (q := 20) rfl (fun o27 t28 => ?_)
      refine gk_iload_n hC 2 dX7_acted_20 rfl (q := 21) rfl ?_
      refine gk_callV (As := [.int a2]) (rest := []) hC (fun l => m_X1_actAt l hY o27 a2 M t28) ml_RX7_206 ok_X1_actAt dX7_acted_21 t28 ⟨by decide, rfl⟩ rfl (by decide) (Nat.le_of_ble_eq_true rfl) rfl (q := 24) rfl (fun r29 => ?_)
      show gk_K Z Y 3 (gk_rR M) 24 [(0, .ref a0), (1, .int a1), (2, .int a2)] [.int r29] M _
      refine gk_goto hC dX7_acted_24 (q := 28) rfl ?_
      refine gk_pick [] rfl ?_
      exact hk28_23 r29
def f_X7_tells (LN : Nat → Nat) (RF : Nat → Nat → Nat) (a0 : Nat) (a1 : Int32) (a2 : Int32) (M : gk_M) : Option (Int32) :=
  (f_X2_isCall LN RF (RF a0 0) a1 M).bind fun r22 =>
  gk_jn (fun y23 : Unit =>
    some (-1)) fun k22_23 =>
  if r22 = 0 then
    k22_23 ()
  else
  (f_X2_isLine LN RF (RF a0 0) a2 M).bind fun r26 =>
  if r26 = 0 then
    k22_23 ()
  else
  gk_aldr LN RF (RF (RF a0 0) 1) a1 fun o30 =>
  (f_X2_isTold LN RF (RF a0 0) o30 a2 M).bind fun r32 =>
  gk_jn (fun y33 : Int32 =>
    some y33) fun k49_33 =>
  if r32 = 0 then
    k49_33 0
  else
  k49_33 1
set_option maxHeartbeats 4000000 in
set_option maxRecDepth 100000 in
theorem m_X7_tells (l : Launch) {Y : gk_Y} (hY : gk_WF Y) (a0 : Nat) (a1 : Int32) (a2 : Int32) (M : gk_M) (t0 : gk_T Y 17 a0) : gk_MF l Y yX7_tells cX7_tells 3 (some .int) 3 [.ref a0, .int a1, .int a2] M (gk_rR M) (f_X7_tells (gk_ln Y) (gk_rf Y) a0 a1 a2 M) := by
  refine gk_met hY (plainFor_of_name (by decide)) (Nat.le_of_ble_eq_true rfl) fun Z hC hR => ?_
  show gk_K Z Y 3 (gk_rR M) 0 [(0, .ref a0), (1, .int a1), (2, .int a2)] [] M _
  unfold f_X7_tells
  refine gk_aload_n hC 0 dX7_tells_0 rfl (q := 1) rfl ?_
  refine gk_getR hC dX7_tells_1 fl_RX7_17 (by decide) t0 (q := 4) rfl (fun t21 => ?_)
  refine gk_iload_n hC 1 dX7_tells_4 rfl (q := 5) rfl ?_
  refine gk_callV (As := [.int a1]) (rest := []) hC (fun l => m_X2_isCall l hY ((gk_rf Y) a0 0) a1 M t21) ml_RX7_167 ok_X2_isCall dX7_tells_5 t21 ⟨by decide, rfl⟩ rfl (by decide) (Nat.le_of_ble_eq_true rfl) rfl (q := 8) rfl (fun r22 => ?_)
  show gk_K Z Y 3 (gk_rR M) 8 [(0, .ref a0), (1, .int a1), (2, .int a2)] [.int r22] M _
  refine gk_jnR (fun k22_23 => ∀ z24 : Unit, gk_K Z Y 3 (gk_rR M) 22 [] [] M (k22_23 z24)) (fun y23 => ?_) (fun k22_23 hk22_23 => ?_)
  · show gk_K Z Y 3 (gk_rR M) 22 [] [] M _
    refine gk_iconst hC (v := (-1)) dX7_tells_22 kc_i_m1 (q := 23) rfl ?_
    exact gk_iret hC hR dX7_tells_23 rfl
  · refine gk_if_eq hC dX7_tells_8 (tg := 22) rfl (q := 11) rfl ?_ ?_
    · refine gk_pick [] rfl ?_
      exact hk22_23 ()
    · refine gk_aload_n hC 0 dX7_tells_11 rfl (q := 12) rfl ?_
      refine gk_getR hC dX7_tells_12 fl_RX7_17 (by decide) t0 (q := 15) rfl (fun t25 => ?_)
      refine gk_iload_n hC 2 dX7_tells_15 rfl (q := 16) rfl ?_
      refine gk_callV (As := [.int a2]) (rest := []) hC (fun l => m_X2_isLine l hY ((gk_rf Y) a0 0) a2 M t25) ml_RX7_96 ok_X2_isLine dX7_tells_16 t25 ⟨by decide, rfl⟩ rfl (by decide) (Nat.le_of_ble_eq_true rfl) rfl (q := 19) rfl (fun r26 => ?_)
      show gk_K Z Y 3 (gk_rR M) 19 [(0, .ref a0), (1, .int a1), (2, .int a2)] [.int r26] M _
      refine gk_if_ne hC dX7_tells_19 (tg := 24) rfl (q := 22) rfl ?_ ?_
      · refine gk_pick [] rfl ?_
        exact hk22_23 ()
      · refine gk_aload_n hC 0 dX7_tells_24 rfl (q := 25) rfl ?_
        refine gk_getR hC dX7_tells_25 fl_RX7_17 (by decide) t0 (q := 28) rfl (fun t27 => ?_)
        refine gk_aload_n hC 0 dX7_tells_28 rfl (q := 29) rfl ?_
        refine gk_getR hC dX7_tells_29 fl_RX7_17 (by decide) t0 (q := 32) rfl (fun t28 => ?_)
        refine gk_getR hC dX7_tells_32 fl_RX7_170 (by decide) t28 (q := 35) rfl (fun t29 => ?_)
        refine gk_iload_n hC 1 dX7_tells_35 rfl (q := 36) rfl ?_
        refine gk_aald hC dX7_tells_36 (Or.inl rfl) t29 (q := 37) rfl (fun o30 t31 => ?_)
        refine gk_iload_n hC 2 dX7_tells_37 rfl (q := 38) rfl ?_
        refine gk_callV (As := [.ref o30, .int a2]) (rest := []) hC (fun l => m_X2_isTold l hY ((gk_rf Y) a0 0) o30 a2 M t27 t31) ml_RX7_209 ok_X2_isTold dX7_tells_38 t27 ⟨by decide, rfl⟩ rfl (by decide) (Nat.le_of_ble_eq_true rfl) rfl (q := 41) rfl (fun r32 => ?_)
        show gk_K Z Y 3 (gk_rR M) 41 [(0, .ref a0), (1, .int a1), (2, .int a2)] [.int r32] M _
        refine gk_jnR (fun k49_33 => ∀ z34 : Int32, gk_K Z Y 3 (gk_rR M) 49 [] [.int z34] M (k49_33 z34)) (fun y33 => ?_) (fun k49_33 hk49_33 => ?_)
        · show gk_K Z Y 3 (gk_rR M) 49 [] [.int y33] M _
          exact gk_iret hC hR dX7_tells_49 rfl
        · refine gk_if_eq hC dX7_tells_41 (tg := 48) rfl (q := 44) rfl ?_ ?_
          · refine gk_iconst hC (v := 0) dX7_tells_48 kc_i_0 (q := 49) rfl ?_
            refine gk_pick [] rfl ?_
            exact hk49_33 0
          · refine gk_iconst hC (v := 1) dX7_tells_44 kc_i_1 (q := 45) rfl ?_
            refine gk_goto hC dX7_tells_45 (q := 49) rfl ?_
            refine gk_pick [] rfl ?_
            exact hk49_33 1
def f_X7_backs (LN : Nat → Nat) (RF : Nat → Nat → Nat) (a0 : Nat) (a1 : Int32) (a2 : Int32) (M : gk_M) : Option (Int32) :=
  gk_jn (fun y21 : Unit =>
    some (-1)) fun k15_21 =>
  if a1 < 0 then
    k15_21 ()
  else
  if a1 < (M.1 (RF a0 0) 9) then
    gk_lk a2 [(0, gk_ald LN M (RF (RF a0 0) 5) a1 fun x26 =>
      some x26),
      (1, gk_ald LN M (RF (RF a0 0) 6) a1 fun x29 =>
      some x29)]
    (some (-1))
  else
  k15_21 ()
set_option maxHeartbeats 4000000 in
set_option maxRecDepth 100000 in
theorem m_X7_backs (l : Launch) {Y : gk_Y} (hY : gk_WF Y) (a0 : Nat) (a1 : Int32) (a2 : Int32) (M : gk_M) (t0 : gk_T Y 17 a0) : gk_MF l Y yX7_backs cX7_backs 3 (some .int) 0 [.ref a0, .int a1, .int a2] M (gk_rR M) (f_X7_backs (gk_ln Y) (gk_rf Y) a0 a1 a2 M) := by
  refine gk_met hY (plainFor_of_name (by decide)) (Nat.le_of_ble_eq_true rfl) fun Z hC hR => ?_
  show gk_K Z Y 3 (gk_rR M) 0 [(0, .ref a0), (1, .int a1), (2, .int a2)] [] M _
  unfold f_X7_backs
  refine gk_iload_n hC 1 dX7_backs_0 rfl (q := 1) rfl ?_
  refine gk_jnR (fun k15_21 => ∀ z22 : Unit, gk_K Z Y 3 (gk_rR M) 15 [] [] M (k15_21 z22)) (fun y21 => ?_) (fun k15_21 hk15_21 => ?_)
  · show gk_K Z Y 3 (gk_rR M) 15 [] [] M _
    refine gk_iconst hC (v := (-1)) dX7_backs_15 kc_i_m1 (q := 16) rfl ?_
    exact gk_iret hC hR dX7_backs_16 rfl
  · refine gk_if_lt hC dX7_backs_1 (tg := 15) rfl (q := 4) rfl ?_ ?_
    · refine gk_pick [] rfl ?_
      exact hk15_21 ()
    · refine gk_iload_n hC 1 dX7_backs_4 rfl (q := 5) rfl ?_
      refine gk_aload_n hC 0 dX7_backs_5 rfl (q := 6) rfl ?_
      refine gk_getR hC dX7_backs_6 fl_RX7_17 (by decide) t0 (q := 9) rfl (fun t23 => ?_)
      refine gk_getI hC dX7_backs_9 fl_RX7_213 t23 (q := 12) rfl ?_
      refine gk_icmp_lt hC dX7_backs_12 (tg := 17) rfl (q := 15) rfl ?_ ?_
      · refine gk_iload_n hC 2 dX7_backs_17 rfl (q := 18) rfl ?_
        refine gk_lookup hC (ts := [44, 54]) (tg := 64) dX7_backs_18 (by decide) (by decide) rfl (by decide) rfl ⟨?_, ?_, trivial⟩ ?_
        · refine gk_aload_n hC 0 dX7_backs_44 rfl (q := 45) rfl ?_
          refine gk_getR hC dX7_backs_45 fl_RX7_17 (by decide) t0 (q := 48) rfl (fun t24 => ?_)
          refine gk_getR hC dX7_backs_48 fl_RX7_216 (by decide) t24 (q := 51) rfl (fun t25 => ?_)
          refine gk_iload_n hC 1 dX7_backs_51 rfl (q := 52) rfl ?_
          refine gk_iald hC dX7_backs_52 t25 (q := 53) rfl (fun x26 => ?_)
          exact gk_iret hC hR dX7_backs_53 rfl
        · refine gk_aload_n hC 0 dX7_backs_54 rfl (q := 55) rfl ?_
          refine gk_getR hC dX7_backs_55 fl_RX7_17 (by decide) t0 (q := 58) rfl (fun t27 => ?_)
          refine gk_getR hC dX7_backs_58 fl_RX7_219 (by decide) t27 (q := 61) rfl (fun t28 => ?_)
          refine gk_iload_n hC 1 dX7_backs_61 rfl (q := 62) rfl ?_
          refine gk_iald hC dX7_backs_62 t28 (q := 63) rfl (fun x29 => ?_)
          exact gk_iret hC hR dX7_backs_63 rfl
        · refine gk_iconst hC (v := (-1)) dX7_backs_64 kc_i_m1 (q := 65) rfl ?_
          exact gk_iret hC hR dX7_backs_65 rfl
      · refine gk_pick [] rfl ?_
        exact hk15_21 ()
def f_J6_bitCount_0f7a4 (LN : Nat → Nat) (RF : Nat → Nat → Nat) (a0 : Int32) (M : gk_M) : Option (Int32) :=
  some ((((((((a0 - ((((Int32.toUInt32 a0) >>> ((Int32.toUInt32 1) &&& Int32.toUInt32 31)).toInt32) &&& 1431655765)) &&& 858993459) + ((((Int32.toUInt32 (a0 - ((((Int32.toUInt32 a0) >>> ((Int32.toUInt32 1) &&& Int32.toUInt32 31)).toInt32) &&& 1431655765))) >>> ((Int32.toUInt32 2) &&& Int32.toUInt32 31)).toInt32) &&& 858993459)) + (((Int32.toUInt32 (((a0 - ((((Int32.toUInt32 a0) >>> ((Int32.toUInt32 1) &&& Int32.toUInt32 31)).toInt32) &&& 1431655765)) &&& 858993459) + ((((Int32.toUInt32 (a0 - ((((Int32.toUInt32 a0) >>> ((Int32.toUInt32 1) &&& Int32.toUInt32 31)).toInt32) &&& 1431655765))) >>> ((Int32.toUInt32 2) &&& Int32.toUInt32 31)).toInt32) &&& 858993459))) >>> ((Int32.toUInt32 4) &&& Int32.toUInt32 31)).toInt32)) &&& 252645135) + (((Int32.toUInt32 (((((a0 - ((((Int32.toUInt32 a0) >>> ((Int32.toUInt32 1) &&& Int32.toUInt32 31)).toInt32) &&& 1431655765)) &&& 858993459) + ((((Int32.toUInt32 (a0 - ((((Int32.toUInt32 a0) >>> ((Int32.toUInt32 1) &&& Int32.toUInt32 31)).toInt32) &&& 1431655765))) >>> ((Int32.toUInt32 2) &&& Int32.toUInt32 31)).toInt32) &&& 858993459)) + (((Int32.toUInt32 (((a0 - ((((Int32.toUInt32 a0) >>> ((Int32.toUInt32 1) &&& Int32.toUInt32 31)).toInt32) &&& 1431655765)) &&& 858993459) + ((((Int32.toUInt32 (a0 - ((((Int32.toUInt32 a0) >>> ((Int32.toUInt32 1) &&& Int32.toUInt32 31)).toInt32) &&& 1431655765))) >>> ((Int32.toUInt32 2) &&& Int32.toUInt32 31)).toInt32) &&& 858993459))) >>> ((Int32.toUInt32 4) &&& Int32.toUInt32 31)).toInt32)) &&& 252645135)) >>> ((Int32.toUInt32 8) &&& Int32.toUInt32 31)).toInt32)) + (((Int32.toUInt32 ((((((a0 - ((((Int32.toUInt32 a0) >>> ((Int32.toUInt32 1) &&& Int32.toUInt32 31)).toInt32) &&& 1431655765)) &&& 858993459) + ((((Int32.toUInt32 (a0 - ((((Int32.toUInt32 a0) >>> ((Int32.toUInt32 1) &&& Int32.toUInt32 31)).toInt32) &&& 1431655765))) >>> ((Int32.toUInt32 2) &&& Int32.toUInt32 31)).toInt32) &&& 858993459)) + (((Int32.toUInt32 (((a0 - ((((Int32.toUInt32 a0) >>> ((Int32.toUInt32 1) &&& Int32.toUInt32 31)).toInt32) &&& 1431655765)) &&& 858993459) + ((((Int32.toUInt32 (a0 - ((((Int32.toUInt32 a0) >>> ((Int32.toUInt32 1) &&& Int32.toUInt32 31)).toInt32) &&& 1431655765))) >>> ((Int32.toUInt32 2) &&& Int32.toUInt32 31)).toInt32) &&& 858993459))) >>> ((Int32.toUInt32 4) &&& Int32.toUInt32 31)).toInt32)) &&& 252645135) + (((Int32.toUInt32 (((((a0 - ((((Int32.toUInt32 a0) >>> ((Int32.toUInt32 1) &&& Int32.toUInt32 31)).toInt32) &&& 1431655765)) &&& 858993459) + ((((Int32.toUInt32 (a0 - ((((Int32.toUInt32 a0) >>> ((Int32.toUInt32 1) &&& Int32.toUInt32 31)).toInt32) &&& 1431655765))) >>> ((Int32.toUInt32 2) &&& Int32.toUInt32 31)).toInt32) &&& 858993459)) + (((Int32.toUInt32 (((a0 - ((((Int32.toUInt32 a0) >>> ((Int32.toUInt32 1) &&& Int32.toUInt32 31)).toInt32) &&& 1431655765)) &&& 858993459) + ((((Int32.toUInt32 (a0 - ((((Int32.toUInt32 a0) >>> ((Int32.toUInt32 1) &&& Int32.toUInt32 31)).toInt32) &&& 1431655765))) >>> ((Int32.toUInt32 2) &&& Int32.toUInt32 31)).toInt32) &&& 858993459))) >>> ((Int32.toUInt32 4) &&& Int32.toUInt32 31)).toInt32)) &&& 252645135)) >>> ((Int32.toUInt32 8) &&& Int32.toUInt32 31)).toInt32))) >>> ((Int32.toUInt32 16) &&& Int32.toUInt32 31)).toInt32)) &&& 63)
set_option maxHeartbeats 4000000 in
set_option maxRecDepth 100000 in
theorem m_J6_bitCount_0f7a4 (l : Launch) {Y : gk_Y} (hY : gk_WF Y) (a0 : Int32) (M : gk_M)  : gk_MF l Y yJ6_bitCount_0f7a4 cJ6_bitCount_0f7a4 1 (some .int) 0 [.int a0] M (gk_rR M) (f_J6_bitCount_0f7a4 (gk_ln Y) (gk_rf Y) a0 M) := by
  refine gk_met hY (by decide +kernel) (Nat.le_of_ble_eq_true rfl) fun Z hC hR => ?_
  show gk_K Z Y 1 (gk_rR M) 0 [(0, .int a0)] [] M _
  unfold f_J6_bitCount_0f7a4
  refine gk_iload_n hC 0 dJ6_bitCount_0f7a4_0 rfl (q := 1) rfl ?_
  refine gk_iload_n hC 0 dJ6_bitCount_0f7a4_1 rfl (q := 2) rfl ?_
  refine gk_iconst hC (v := 1) dJ6_bitCount_0f7a4_2 kc_i_1 (q := 3) rfl ?_
  refine gk_iushr hC dJ6_bitCount_0f7a4_3 (q := 4) rfl ?_
  refine gk_ldcw hC (v := 1431655765) cl_RJ6_265 dJ6_bitCount_0f7a4_4 (q := 7) rfl ?_
  refine gk_iand hC dJ6_bitCount_0f7a4_7 (q := 8) rfl ?_
  refine gk_isub hC dJ6_bitCount_0f7a4_8 (q := 9) rfl ?_
  refine gk_istore_n hC (lv' := [(0, .int (a0 - ((((Int32.toUInt32 a0) >>> ((Int32.toUInt32 1) &&& Int32.toUInt32 31)).toInt32) &&& 1431655765)))]) [0] dJ6_bitCount_0f7a4_9 (by decide) rfl (q := 10) rfl ?_
  refine gk_iload_n hC 0 dJ6_bitCount_0f7a4_10 rfl (q := 11) rfl ?_
  refine gk_ldcw hC (v := 858993459) cl_RJ6_266 dJ6_bitCount_0f7a4_11 (q := 14) rfl ?_
  refine gk_iand hC dJ6_bitCount_0f7a4_14 (q := 15) rfl ?_
  refine gk_iload_n hC 0 dJ6_bitCount_0f7a4_15 rfl (q := 16) rfl ?_
  refine gk_iconst hC (v := 2) dJ6_bitCount_0f7a4_16 kc_i_2 (q := 17) rfl ?_
  refine gk_iushr hC dJ6_bitCount_0f7a4_17 (q := 18) rfl ?_
  refine gk_ldcw hC (v := 858993459) cl_RJ6_266 dJ6_bitCount_0f7a4_18 (q := 21) rfl ?_
  refine gk_iand hC dJ6_bitCount_0f7a4_21 (q := 22) rfl ?_
  refine gk_iadd hC dJ6_bitCount_0f7a4_22 (q := 23) rfl ?_
  refine gk_istore_n hC (lv' := [(0, .int (((a0 - ((((Int32.toUInt32 a0) >>> ((Int32.toUInt32 1) &&& Int32.toUInt32 31)).toInt32) &&& 1431655765)) &&& 858993459) + ((((Int32.toUInt32 (a0 - ((((Int32.toUInt32 a0) >>> ((Int32.toUInt32 1) &&& Int32.toUInt32 31)).toInt32) &&& 1431655765))) >>> ((Int32.toUInt32 2) &&& Int32.toUInt32 31)).toInt32) &&& 858993459)))]) [0] dJ6_bitCount_0f7a4_23 (by decide) rfl (q := 24) rfl ?_
  refine gk_iload_n hC 0 dJ6_bitCount_0f7a4_24 rfl (q := 25) rfl ?_
  refine gk_iload_n hC 0 dJ6_bitCount_0f7a4_25 rfl (q := 26) rfl ?_
  refine gk_iconst hC (v := 4) dJ6_bitCount_0f7a4_26 kc_i_4 (q := 27) rfl ?_
  refine gk_iushr hC dJ6_bitCount_0f7a4_27 (q := 28) rfl ?_
  refine gk_iadd hC dJ6_bitCount_0f7a4_28 (q := 29) rfl ?_
  refine gk_ldcw hC (v := 252645135) cl_RJ6_267 dJ6_bitCount_0f7a4_29 (q := 32) rfl ?_
  refine gk_iand hC dJ6_bitCount_0f7a4_32 (q := 33) rfl ?_
  refine gk_istore_n hC (lv' := [(0, .int (((((a0 - ((((Int32.toUInt32 a0) >>> ((Int32.toUInt32 1) &&& Int32.toUInt32 31)).toInt32) &&& 1431655765)) &&& 858993459) + ((((Int32.toUInt32 (a0 - ((((Int32.toUInt32 a0) >>> ((Int32.toUInt32 1) &&& Int32.toUInt32 31)).toInt32) &&& 1431655765))) >>> ((Int32.toUInt32 2) &&& Int32.toUInt32 31)).toInt32) &&& 858993459)) + (((Int32.toUInt32 (((a0 - ((((Int32.toUInt32 a0) >>> ((Int32.toUInt32 1) &&& Int32.toUInt32 31)).toInt32) &&& 1431655765)) &&& 858993459) + ((((Int32.toUInt32 (a0 - ((((Int32.toUInt32 a0) >>> ((Int32.toUInt32 1) &&& Int32.toUInt32 31)).toInt32) &&& 1431655765))) >>> ((Int32.toUInt32 2) &&& Int32.toUInt32 31)).toInt32) &&& 858993459))) >>> ((Int32.toUInt32 4) &&& Int32.toUInt32 31)).toInt32)) &&& 252645135))]) [0] dJ6_bitCount_0f7a4_33 (by decide) rfl (q := 34) rfl ?_
  refine gk_iload_n hC 0 dJ6_bitCount_0f7a4_34 rfl (q := 35) rfl ?_
  refine gk_iload_n hC 0 dJ6_bitCount_0f7a4_35 rfl (q := 36) rfl ?_
  refine gk_bipush hC (v := 8) dJ6_bitCount_0f7a4_36 kc_b_8 (q := 38) rfl ?_
  refine gk_iushr hC dJ6_bitCount_0f7a4_38 (q := 39) rfl ?_
  refine gk_iadd hC dJ6_bitCount_0f7a4_39 (q := 40) rfl ?_
  refine gk_istore_n hC (lv' := [(0, .int ((((((a0 - ((((Int32.toUInt32 a0) >>> ((Int32.toUInt32 1) &&& Int32.toUInt32 31)).toInt32) &&& 1431655765)) &&& 858993459) + ((((Int32.toUInt32 (a0 - ((((Int32.toUInt32 a0) >>> ((Int32.toUInt32 1) &&& Int32.toUInt32 31)).toInt32) &&& 1431655765))) >>> ((Int32.toUInt32 2) &&& Int32.toUInt32 31)).toInt32) &&& 858993459)) + (((Int32.toUInt32 (((a0 - ((((Int32.toUInt32 a0) >>> ((Int32.toUInt32 1) &&& Int32.toUInt32 31)).toInt32) &&& 1431655765)) &&& 858993459) + ((((Int32.toUInt32 (a0 - ((((Int32.toUInt32 a0) >>> ((Int32.toUInt32 1) &&& Int32.toUInt32 31)).toInt32) &&& 1431655765))) >>> ((Int32.toUInt32 2) &&& Int32.toUInt32 31)).toInt32) &&& 858993459))) >>> ((Int32.toUInt32 4) &&& Int32.toUInt32 31)).toInt32)) &&& 252645135) + (((Int32.toUInt32 (((((a0 - ((((Int32.toUInt32 a0) >>> ((Int32.toUInt32 1) &&& Int32.toUInt32 31)).toInt32) &&& 1431655765)) &&& 858993459) + ((((Int32.toUInt32 (a0 - ((((Int32.toUInt32 a0) >>> ((Int32.toUInt32 1) &&& Int32.toUInt32 31)).toInt32) &&& 1431655765))) >>> ((Int32.toUInt32 2) &&& Int32.toUInt32 31)).toInt32) &&& 858993459)) + (((Int32.toUInt32 (((a0 - ((((Int32.toUInt32 a0) >>> ((Int32.toUInt32 1) &&& Int32.toUInt32 31)).toInt32) &&& 1431655765)) &&& 858993459) + ((((Int32.toUInt32 (a0 - ((((Int32.toUInt32 a0) >>> ((Int32.toUInt32 1) &&& Int32.toUInt32 31)).toInt32) &&& 1431655765))) >>> ((Int32.toUInt32 2) &&& Int32.toUInt32 31)).toInt32) &&& 858993459))) >>> ((Int32.toUInt32 4) &&& Int32.toUInt32 31)).toInt32)) &&& 252645135)) >>> ((Int32.toUInt32 8) &&& Int32.toUInt32 31)).toInt32)))]) [0] dJ6_bitCount_0f7a4_40 (by decide) rfl (q := 41) rfl ?_
  refine gk_iload_n hC 0 dJ6_bitCount_0f7a4_41 rfl (q := 42) rfl ?_
  refine gk_iload_n hC 0 dJ6_bitCount_0f7a4_42 rfl (q := 43) rfl ?_
  refine gk_bipush hC (v := 16) dJ6_bitCount_0f7a4_43 kc_b_16 (q := 45) rfl ?_
  refine gk_iushr hC dJ6_bitCount_0f7a4_45 (q := 46) rfl ?_
  refine gk_iadd hC dJ6_bitCount_0f7a4_46 (q := 47) rfl ?_
  refine gk_istore_n hC (lv' := [(0, .int (((((((a0 - ((((Int32.toUInt32 a0) >>> ((Int32.toUInt32 1) &&& Int32.toUInt32 31)).toInt32) &&& 1431655765)) &&& 858993459) + ((((Int32.toUInt32 (a0 - ((((Int32.toUInt32 a0) >>> ((Int32.toUInt32 1) &&& Int32.toUInt32 31)).toInt32) &&& 1431655765))) >>> ((Int32.toUInt32 2) &&& Int32.toUInt32 31)).toInt32) &&& 858993459)) + (((Int32.toUInt32 (((a0 - ((((Int32.toUInt32 a0) >>> ((Int32.toUInt32 1) &&& Int32.toUInt32 31)).toInt32) &&& 1431655765)) &&& 858993459) + ((((Int32.toUInt32 (a0 - ((((Int32.toUInt32 a0) >>> ((Int32.toUInt32 1) &&& Int32.toUInt32 31)).toInt32) &&& 1431655765))) >>> ((Int32.toUInt32 2) &&& Int32.toUInt32 31)).toInt32) &&& 858993459))) >>> ((Int32.toUInt32 4) &&& Int32.toUInt32 31)).toInt32)) &&& 252645135) + (((Int32.toUInt32 (((((a0 - ((((Int32.toUInt32 a0) >>> ((Int32.toUInt32 1) &&& Int32.toUInt32 31)).toInt32) &&& 1431655765)) &&& 858993459) + ((((Int32.toUInt32 (a0 - ((((Int32.toUInt32 a0) >>> ((Int32.toUInt32 1) &&& Int32.toUInt32 31)).toInt32) &&& 1431655765))) >>> ((Int32.toUInt32 2) &&& Int32.toUInt32 31)).toInt32) &&& 858993459)) + (((Int32.toUInt32 (((a0 - ((((Int32.toUInt32 a0) >>> ((Int32.toUInt32 1) &&& Int32.toUInt32 31)).toInt32) &&& 1431655765)) &&& 858993459) + ((((Int32.toUInt32 (a0 - ((((Int32.toUInt32 a0) >>> ((Int32.toUInt32 1) &&& Int32.toUInt32 31)).toInt32) &&& 1431655765))) >>> ((Int32.toUInt32 2) &&& Int32.toUInt32 31)).toInt32) &&& 858993459))) >>> ((Int32.toUInt32 4) &&& Int32.toUInt32 31)).toInt32)) &&& 252645135)) >>> ((Int32.toUInt32 8) &&& Int32.toUInt32 31)).toInt32)) + (((Int32.toUInt32 ((((((a0 - ((((Int32.toUInt32 a0) >>> ((Int32.toUInt32 1) &&& Int32.toUInt32 31)).toInt32) &&& 1431655765)) &&& 858993459) + ((((Int32.toUInt32 (a0 - ((((Int32.toUInt32 a0) >>> ((Int32.toUInt32 1) &&& Int32.toUInt32 31)).toInt32) &&& 1431655765))) >>> ((Int32.toUInt32 2) &&& Int32.toUInt32 31)).toInt32) &&& 858993459)) + (((Int32.toUInt32 (((a0 - ((((Int32.toUInt32 a0) >>> ((Int32.toUInt32 1) &&& Int32.toUInt32 31)).toInt32) &&& 1431655765)) &&& 858993459) + ((((Int32.toUInt32 (a0 - ((((Int32.toUInt32 a0) >>> ((Int32.toUInt32 1) &&& Int32.toUInt32 31)).toInt32) &&& 1431655765))) >>> ((Int32.toUInt32 2) &&& Int32.toUInt32 31)).toInt32) &&& 858993459))) >>> ((Int32.toUInt32 4) &&& Int32.toUInt32 31)).toInt32)) &&& 252645135) + (((Int32.toUInt32 (((((a0 - ((((Int32.toUInt32 a0) >>> ((Int32.toUInt32 1) &&& Int32.toUInt32 31)).toInt32) &&& 1431655765)) &&& 858993459) + ((((Int32.toUInt32 (a0 - ((((Int32.toUInt32 a0) >>> ((Int32.toUInt32 1) &&& Int32.toUInt32 31)).toInt32) &&& 1431655765))) >>> ((Int32.toUInt32 2) &&& Int32.toUInt32 31)).toInt32) &&& 858993459)) + (((Int32.toUInt32 (((a0 - ((((Int32.toUInt32 a0) >>> ((Int32.toUInt32 1) &&& Int32.toUInt32 31)).toInt32) &&& 1431655765)) &&& 858993459) + ((((Int32.toUInt32 (a0 - ((((Int32.toUInt32 a0) >>> ((Int32.toUInt32 1) &&& Int32.toUInt32 31)).toInt32) &&& 1431655765))) >>> ((Int32.toUInt32 2) &&& Int32.toUInt32 31)).toInt32) &&& 858993459))) >>> ((Int32.toUInt32 4) &&& Int32.toUInt32 31)).toInt32)) &&& 252645135)) >>> ((Int32.toUInt32 8) &&& Int32.toUInt32 31)).toInt32))) >>> ((Int32.toUInt32 16) &&& Int32.toUInt32 31)).toInt32)))]) [0] dJ6_bitCount_0f7a4_47 (by decide) rfl (q := 48) rfl ?_
  refine gk_iload_n hC 0 dJ6_bitCount_0f7a4_48 rfl (q := 49) rfl ?_
  refine gk_bipush hC (v := 63) dJ6_bitCount_0f7a4_49 kc_b_63 (q := 51) rfl ?_
  refine gk_iand hC dJ6_bitCount_0f7a4_51 (q := 52) rfl ?_
  exact gk_iret hC hR dJ6_bitCount_0f7a4_52 rfl
def f_X7_isJudged (LN : Nat → Nat) (RF : Nat → Nat → Nat) (a0 : Nat) (a1 : Int32) (a2 : Int32) (a3 : Int32) (a4 : Int32) (a5 : Int32) (M : gk_M) : Option (Int32) :=
  gk_jn (fun y21 : Int32 =>
    gk_jn (fun y23 : Int32 =>
      gk_jn (fun y25 : Int32 =>
        gk_zz y25 (some y25)) fun k105_25 =>
      gk_jn (fun y27 : Unit =>
        k105_25 0) fun k104_27 =>
      if y21 = 0 then
        k104_27 ()
      else
      if y23 = 0 then
        k104_27 ()
      else
      if a5 < 1 then
        k104_27 ()
      else
      if 3 < a5 then
        k104_27 ()
      else
      k105_25 1) fun k76_23 =>
    gk_jn (fun y29 : Unit =>
      k76_23 0) fun k75_29 =>
    if a4 < 0 then
      k75_29 ()
    else
    if (1 <<< ((M.1 (RF a0 0) 7) &&& 31)) ≤ a4 then
      k75_29 ()
    else
    (f_J6_bitCount_0f7a4 LN RF a4 M).bind fun r32 =>
    if 3 < r32 then
      k75_29 ()
    else
    k76_23 1) fun k41_21 =>
  gk_jn (fun y33 : Unit =>
    k41_21 0) fun k40_33 =>
  if a1 < 0 then
    k40_33 ()
  else
  if 2 < a1 then
    k40_33 ()
  else
  (f_X2_isLine LN RF (RF a0 0) a2 M).bind fun r36 =>
  if r36 = 0 then
    k40_33 ()
  else
  gk_jn (fun y37 : Unit =>
    k41_21 1) fun k36_37 =>
  if a1 = 1 then
    k36_37 ()
  else
  (f_X2_isLine LN RF (RF a0 0) a3 M).bind fun r40 =>
  if r40 = 0 then
    k40_33 ()
  else
  k36_37 ()
set_option maxHeartbeats 4000000 in
set_option maxRecDepth 100000 in
theorem m_X7_isJudged (l : Launch) {Y : gk_Y} (hY : gk_WF Y) (a0 : Nat) (a1 : Int32) (a2 : Int32) (a3 : Int32) (a4 : Int32) (a5 : Int32) (M : gk_M) (t0 : gk_T Y 17 a0) : gk_MF l Y yX7_isJudged cX7_isJudged 8 (some .boolean) 1 [.ref a0, .int a1, .int a2, .int a3, .int a4, .int a5] M (gk_rR M) (f_X7_isJudged (gk_ln Y) (gk_rf Y) a0 a1 a2 a3 a4 a5 M) := by
  refine gk_met hY (plainFor_of_name (by decide)) (Nat.le_of_ble_eq_true rfl) fun Z hC hR => ?_
  show gk_K Z Y 8 (gk_rR M) 0 [(0, .ref a0), (1, .int a1), (2, .int a2), (3, .int a3), (4, .int a4), (5, .int a5)] [] M _
  unfold f_X7_isJudged
  refine gk_iload_n hC 1 dX7_isJudged_0 rfl (q := 1) rfl ?_
  refine gk_jnR (fun k41_21 => ∀ z22 : Int32, gk_K Z Y 8 (gk_rR M) 41 [(0, .ref a0), (4, .int a4), (5, .int a5)] [.int z22] M (k41_21 z22)) (fun y21 => ?_) (fun k41_21 hk41_21 => ?_)
  · show gk_K Z Y 8 (gk_rR M) 41 [(0, .ref a0), (4, .int a4), (5, .int a5)] [.int y21] M _
    refine gk_istore hC (lv' := [(0, .ref a0), (4, .int a4), (5, .int a5), (6, .int y21)]) [1, 2, 3, 0] dX7_isJudged_41 (by decide) rfl (q := 43) rfl ?_
    refine gk_iload hC 1 dX7_isJudged_43 rfl (q := 45) rfl ?_
    refine gk_jnR (fun k76_23 => ∀ z24 : Int32, gk_K Z Y 8 (gk_rR M) 76 [(5, .int a5), (6, .int y21)] [.int z24] M (k76_23 z24)) (fun y23 => ?_) (fun k76_23 hk76_23 => ?_)
    · show gk_K Z Y 8 (gk_rR M) 76 [(5, .int a5), (6, .int y21)] [.int y23] M _
      refine gk_istore hC (lv' := [(5, .int a5), (6, .int y21), (7, .int y23)]) [1, 2, 0] dX7_isJudged_76 (by decide) rfl (q := 78) rfl ?_
      refine gk_iload hC 1 dX7_isJudged_78 rfl (q := 80) rfl ?_
      refine gk_jnR (fun k105_25 => ∀ z26 : Int32, gk_K Z Y 8 (gk_rR M) 105 [] [.int z26] M (k105_25 z26)) (fun y25 => ?_) (fun k105_25 hk105_25 => ?_)
      · show gk_K Z Y 8 (gk_rR M) 105 [] [.int y25] M _
        exact gk_zzR (fun hv => gk_zret hC hR dX7_isJudged_105 hv rfl)
      · refine gk_jnR (fun k104_27 => ∀ z28 : Unit, gk_K Z Y 8 (gk_rR M) 104 [] [] M (k104_27 z28)) (fun y27 => ?_) (fun k104_27 hk104_27 => ?_)
        · show gk_K Z Y 8 (gk_rR M) 104 [] [] M _
          refine gk_iconst hC (v := 0) dX7_isJudged_104 kc_i_0 (q := 105) rfl ?_
          exact hk105_25 0
        · refine gk_if_eq hC dX7_isJudged_80 (tg := 104) rfl (q := 83) rfl ?_ ?_
          · refine gk_pick [] rfl ?_
            exact hk104_27 ()
          · refine gk_iload hC 2 dX7_isJudged_83 rfl (q := 85) rfl ?_
            refine gk_if_eq hC dX7_isJudged_85 (tg := 104) rfl (q := 88) rfl ?_ ?_
            · refine gk_pick [] rfl ?_
              exact hk104_27 ()
            · refine gk_iload hC 0 dX7_isJudged_88 rfl (q := 90) rfl ?_
              refine gk_iconst hC (v := 1) dX7_isJudged_90 kc_i_1 (q := 91) rfl ?_
              refine gk_icmp_lt hC dX7_isJudged_91 (tg := 104) rfl (q := 94) rfl ?_ ?_
              · refine gk_pick [] rfl ?_
                exact hk104_27 ()
              · refine gk_iload hC 0 dX7_isJudged_94 rfl (q := 96) rfl ?_
                refine gk_iconst hC (v := 3) dX7_isJudged_96 kc_i_3 (q := 97) rfl ?_
                refine gk_icmp_gt hC dX7_isJudged_97 (tg := 104) rfl (q := 100) rfl ?_ ?_
                · refine gk_pick [] rfl ?_
                  exact hk104_27 ()
                · refine gk_iconst hC (v := 1) dX7_isJudged_100 kc_i_1 (q := 101) rfl ?_
                  refine gk_goto hC dX7_isJudged_101 (q := 105) rfl ?_
                  refine gk_pick [] rfl ?_
                  exact hk105_25 1
    · refine gk_jnR (fun k75_29 => ∀ z30 : Unit, gk_K Z Y 8 (gk_rR M) 75 [(5, .int a5), (6, .int y21)] [] M (k75_29 z30)) (fun y29 => ?_) (fun k75_29 hk75_29 => ?_)
      · show gk_K Z Y 8 (gk_rR M) 75 [(5, .int a5), (6, .int y21)] [] M _
        refine gk_iconst hC (v := 0) dX7_isJudged_75 kc_i_0 (q := 76) rfl ?_
        exact hk76_23 0
      · refine gk_if_lt hC dX7_isJudged_45 (tg := 75) rfl (q := 48) rfl ?_ ?_
        · refine gk_pick [2, 3] rfl ?_
          exact hk75_29 ()
        · refine gk_iload hC 1 dX7_isJudged_48 rfl (q := 50) rfl ?_
          refine gk_iconst hC (v := 1) dX7_isJudged_50 kc_i_1 (q := 51) rfl ?_
          refine gk_aload_n hC 0 dX7_isJudged_51 rfl (q := 52) rfl ?_
          refine gk_getR hC dX7_isJudged_52 fl_RX7_17 (by decide) t0 (q := 55) rfl (fun t31 => ?_)
          refine gk_getI hC dX7_isJudged_55 fl_RX7_49 t31 (q := 58) rfl ?_
          refine gk_ishl hC dX7_isJudged_58 (q := 59) rfl ?_
          refine gk_icmp_ge hC dX7_isJudged_59 (tg := 75) rfl (q := 62) rfl ?_ ?_
          · refine gk_pick [2, 3] rfl ?_
            exact hk75_29 ()
          · refine gk_iload hC 1 dX7_isJudged_62 rfl (q := 64) rfl ?_
            refine gk_callS (As := [.int a4]) (rest := []) hC (fun l => m_J6_bitCount_0f7a4 l hY a4 M) ml_RX7_321 ok_J6_bitCount_0f7a4 dX7_isJudged_64 rfl (by decide) (Nat.le_of_ble_eq_true rfl) rfl (q := 67) rfl (fun r32 => ?_)
            show gk_K Z Y 8 (gk_rR M) 67 [(0, .ref a0), (4, .int a4), (5, .int a5), (6, .int y21)] [.int r32] M _
            refine gk_iconst hC (v := 3) dX7_isJudged_67 kc_i_3 (q := 68) rfl ?_
            refine gk_icmp_gt hC dX7_isJudged_68 (tg := 75) rfl (q := 71) rfl ?_ ?_
            · refine gk_pick [2, 3] rfl ?_
              exact hk75_29 ()
            · refine gk_iconst hC (v := 1) dX7_isJudged_71 kc_i_1 (q := 72) rfl ?_
              refine gk_goto hC dX7_isJudged_72 (q := 76) rfl ?_
              refine gk_pick [2, 3] rfl ?_
              exact hk76_23 1
  · refine gk_jnR (fun k40_33 => ∀ z34 : Unit, gk_K Z Y 8 (gk_rR M) 40 [(0, .ref a0), (4, .int a4), (5, .int a5)] [] M (k40_33 z34)) (fun y33 => ?_) (fun k40_33 hk40_33 => ?_)
    · show gk_K Z Y 8 (gk_rR M) 40 [(0, .ref a0), (4, .int a4), (5, .int a5)] [] M _
      refine gk_iconst hC (v := 0) dX7_isJudged_40 kc_i_0 (q := 41) rfl ?_
      exact hk41_21 0
    · refine gk_if_lt hC dX7_isJudged_1 (tg := 40) rfl (q := 4) rfl ?_ ?_
      · refine gk_pick [0, 4, 5] rfl ?_
        exact hk40_33 ()
      · refine gk_iload_n hC 1 dX7_isJudged_4 rfl (q := 5) rfl ?_
        refine gk_iconst hC (v := 2) dX7_isJudged_5 kc_i_2 (q := 6) rfl ?_
        refine gk_icmp_gt hC dX7_isJudged_6 (tg := 40) rfl (q := 9) rfl ?_ ?_
        · refine gk_pick [0, 4, 5] rfl ?_
          exact hk40_33 ()
        · refine gk_aload_n hC 0 dX7_isJudged_9 rfl (q := 10) rfl ?_
          refine gk_getR hC dX7_isJudged_10 fl_RX7_17 (by decide) t0 (q := 13) rfl (fun t35 => ?_)
          refine gk_iload_n hC 2 dX7_isJudged_13 rfl (q := 14) rfl ?_
          refine gk_callV (As := [.int a2]) (rest := []) hC (fun l => m_X2_isLine l hY ((gk_rf Y) a0 0) a2 M t35) ml_RX7_96 ok_X2_isLine dX7_isJudged_14 t35 ⟨by decide, rfl⟩ rfl (by decide) (Nat.le_of_ble_eq_true rfl) rfl (q := 17) rfl (fun r36 => ?_)
          show gk_K Z Y 8 (gk_rR M) 17 [(0, .ref a0), (1, .int a1), (2, .int a2), (3, .int a3), (4, .int a4), (5, .int a5)] [.int r36] M _
          refine gk_if_eq hC dX7_isJudged_17 (tg := 40) rfl (q := 20) rfl ?_ ?_
          · refine gk_pick [0, 4, 5] rfl ?_
            exact hk40_33 ()
          · refine gk_iload_n hC 1 dX7_isJudged_20 rfl (q := 21) rfl ?_
            refine gk_iconst hC (v := 1) dX7_isJudged_21 kc_i_1 (q := 22) rfl ?_
            refine gk_jnR (fun k36_37 => ∀ z38 : Unit, gk_K Z Y 8 (gk_rR M) 36 [(0, .ref a0), (4, .int a4), (5, .int a5)] [] M (k36_37 z38)) (fun y37 => ?_) (fun k36_37 hk36_37 => ?_)
            · show gk_K Z Y 8 (gk_rR M) 36 [(0, .ref a0), (4, .int a4), (5, .int a5)] [] M _
              refine gk_iconst hC (v := 1) dX7_isJudged_36 kc_i_1 (q := 37) rfl ?_
              refine gk_goto hC dX7_isJudged_37 (q := 41) rfl ?_
              exact hk41_21 1
            · refine gk_icmp_eq hC dX7_isJudged_22 (tg := 36) rfl (q := 25) rfl ?_ ?_
              · refine gk_pick [0, 4, 5] rfl ?_
                exact hk36_37 ()
              · refine gk_aload_n hC 0 dX7_isJudged_25 rfl (q := 26) rfl ?_
                refine gk_getR hC dX7_isJudged_26 fl_RX7_17 (by decide) t0 (q := 29) rfl (fun t39 => ?_)
                refine gk_iload_n hC 3 dX7_isJudged_29 rfl (q := 30) rfl ?_
                refine gk_callV (As := [.int a3]) (rest := []) hC (fun l => m_X2_isLine l hY ((gk_rf Y) a0 0) a3 M t39) ml_RX7_96 ok_X2_isLine dX7_isJudged_30 t39 ⟨by decide, rfl⟩ rfl (by decide) (Nat.le_of_ble_eq_true rfl) rfl (q := 33) rfl (fun r40 => ?_)
                show gk_K Z Y 8 (gk_rR M) 33 [(0, .ref a0), (1, .int a1), (2, .int a2), (3, .int a3), (4, .int a4), (5, .int a5)] [.int r40] M _
                refine gk_if_eq hC dX7_isJudged_33 (tg := 40) rfl (q := 36) rfl ?_ ?_
                · refine gk_pick [0, 4, 5] rfl ?_
                  exact hk40_33 ()
                · refine gk_pick [0, 4, 5] rfl ?_
                  exact hk36_37 ()
def f_X7_judge (LN : Nat → Nat) (RF : Nat → Nat → Nat) (a0 : Nat) (a1 : Int32) (a2 : Int32) (a3 : Int32) (a4 : Int32) (a5 : Int32) (M : gk_M) : Option (Int32 × gk_M) :=
  (f_X7_isJudged LN RF a0 a1 a2 a3 a4 a5 M).bind fun r21 =>
  if r21 = 0 then
    (f_X7_refused LN RF a0 1 M).bind fun r22 =>
    some (r22.1, r22.2)
  else
  (f_X3_open LN RF (RF a0 2) (RF a0 0) a1 a2 a3 a4 M).bind fun r25 =>
  (f_X3_find LN RF (RF a0 2) a5 r25).bind fun r27 =>
  gk_put r27.2 a0 6 r27.1 fun M28 =>
  gk_cpy LN M28 (RF (RF a0 2) 3) 0 (RF a0 5) 0 3 fun M32 =>
  (f_X7_done LN RF a0 (M32.1 a0 6) M32).bind fun r33 =>
  some (r33.1, r33.2)
set_option maxHeartbeats 4000000 in
set_option maxRecDepth 100000 in
theorem m_X7_judge (l : Launch) {Y : gk_Y} (hY : gk_WF Y) (a0 : Nat) (a1 : Int32) (a2 : Int32) (a3 : Int32) (a4 : Int32) (a5 : Int32) (M : gk_M) (t0 : gk_T Y 17 a0) : gk_MF l Y yX7_judge cX7_judge 6 (some .int) 11 [.ref a0, .int a1, .int a2, .int a3, .int a4, .int a5] M gk_rI (f_X7_judge (gk_ln Y) (gk_rf Y) a0 a1 a2 a3 a4 a5 M) := by
  refine gk_met hY (plainFor_of_name (by decide)) (Nat.le_of_ble_eq_true rfl) fun Z hC hR => ?_
  show gk_K Z Y 6 gk_rI 0 [(0, .ref a0), (1, .int a1), (2, .int a2), (3, .int a3), (4, .int a4), (5, .int a5)] [] M _
  unfold f_X7_judge
  refine gk_aload_n hC 0 dX7_judge_0 rfl (q := 1) rfl ?_
  refine gk_iload_n hC 1 dX7_judge_1 rfl (q := 2) rfl ?_
  refine gk_iload_n hC 2 dX7_judge_2 rfl (q := 3) rfl ?_
  refine gk_iload_n hC 3 dX7_judge_3 rfl (q := 4) rfl ?_
  refine gk_iload hC 4 dX7_judge_4 rfl (q := 6) rfl ?_
  refine gk_iload hC 5 dX7_judge_6 rfl (q := 8) rfl ?_
  refine gk_callV (As := [.int a1, .int a2, .int a3, .int a4, .int a5]) (rest := []) hC (fun l => m_X7_isJudged l hY a0 a1 a2 a3 a4 a5 M t0) ml_RX7_222 ok_X7_isJudged dX7_judge_8 t0 ⟨by decide, rfl⟩ rfl (by decide) (Nat.le_of_ble_eq_true rfl) rfl (q := 11) rfl (fun r21 => ?_)
  show gk_K Z Y 6 gk_rI 11 [(0, .ref a0), (1, .int a1), (2, .int a2), (3, .int a3), (4, .int a4), (5, .int a5)] [.int r21] M _
  refine gk_if_ne hC dX7_judge_11 (tg := 20) rfl (q := 14) rfl ?_ ?_
  · refine gk_aload_n hC 0 dX7_judge_14 rfl (q := 15) rfl ?_
    refine gk_iconst hC (v := 1) dX7_judge_15 kc_i_1 (q := 16) rfl ?_
    refine gk_callV (As := [.int 1]) (rest := []) hC (fun l => m_X7_refused l hY a0 1 M t0) ml_RX7_53 ok_X7_refused dX7_judge_16 t0 ⟨by decide, rfl⟩ rfl (by decide) (Nat.le_of_ble_eq_true rfl) rfl (q := 19) rfl (fun r22 => ?_)
    show gk_K Z Y 6 gk_rI 19 [(0, .ref a0), (1, .int a1), (2, .int a2), (3, .int a3), (4, .int a4), (5, .int a5)] [.int r22.1] r22.2 _
    exact gk_iret hC hR dX7_judge_19 rfl
  · refine gk_aload_n hC 0 dX7_judge_20 rfl (q := 21) rfl ?_
    refine gk_getR hC dX7_judge_21 fl_RX7_27 (by decide) t0 (q := 24) rfl (fun t23 => ?_)
    refine gk_aload_n hC 0 dX7_judge_24 rfl (q := 25) rfl ?_
    refine gk_getR hC dX7_judge_25 fl_RX7_17 (by decide) t0 (q := 28) rfl (fun t24 => ?_)
    refine gk_iload_n hC 1 dX7_judge_28 rfl (q := 29) rfl ?_
    refine gk_iload_n hC 2 dX7_judge_29 rfl (q := 30) rfl ?_
    refine gk_iload_n hC 3 dX7_judge_30 rfl (q := 31) rfl ?_
    refine gk_iload hC 4 dX7_judge_31 rfl (q := 33) rfl ?_
    refine gk_callV (As := [.ref ((gk_rf Y) a0 0), .int a1, .int a2, .int a3, .int a4]) (rest := []) hC (fun l => m_X3_open l hY ((gk_rf Y) a0 2) ((gk_rf Y) a0 0) a1 a2 a3 a4 M t23 t24) ml_RX7_225 ok_X3_open dX7_judge_33 t23 ⟨by decide, rfl⟩ rfl (by decide) (Nat.le_of_ble_eq_true rfl) rfl (q := 36) rfl (fun r25 => ?_)
    show gk_K Z Y 6 gk_rI 36 [(0, .ref a0), (1, .int a1), (2, .int a2), (3, .int a3), (4, .int a4), (5, .int a5)] [] r25 _
    refine gk_aload_n hC 0 dX7_judge_36 rfl (q := 37) rfl ?_
    refine gk_aload_n hC 0 dX7_judge_37 rfl (q := 38) rfl ?_
    refine gk_getR hC dX7_judge_38 fl_RX7_27 (by decide) t0 (q := 41) rfl (fun t26 => ?_)
    refine gk_iload hC 5 dX7_judge_41 rfl (q := 43) rfl ?_
    refine gk_callV (As := [.int a5]) (rest := [.ref a0]) hC (fun l => m_X3_find l hY ((gk_rf Y) a0 2) a5 r25 t26) ml_RX7_229 ok_X3_find dX7_judge_43 t26 ⟨by decide, rfl⟩ rfl (by decide) (Nat.le_of_ble_eq_true rfl) rfl (q := 46) rfl (fun r27 => ?_)
    show gk_K Z Y 6 gk_rI 46 [(0, .ref a0), (1, .int a1), (2, .int a2), (3, .int a3), (4, .int a4), (5, .int a5)] [.int r27.1, .ref a0] r27.2 _
    refine gk_putI hC dX7_judge_46 fp_RX7_232 t0 (q := 49) rfl (fun M28 => ?_)
    refine gk_aload_n hC 0 dX7_judge_49 rfl (q := 50) rfl ?_
    refine gk_getR hC dX7_judge_50 fl_RX7_27 (by decide) t0 (q := 53) rfl (fun t29 => ?_)
    refine gk_getR hC dX7_judge_53 fl_RX7_235 (by decide) t29 (q := 56) rfl (fun t30 => ?_)
    refine gk_iconst hC (v := 0) dX7_judge_56 kc_i_0 (q := 57) rfl ?_
    refine gk_aload_n hC 0 dX7_judge_57 rfl (q := 58) rfl ?_
    refine gk_getR hC dX7_judge_58 fl_RX7_45 (by decide) t0 (q := 61) rfl (fun t31 => ?_)
    refine gk_iconst hC (v := 0) dX7_judge_61 kc_i_0 (q := 62) rfl ?_
    refine gk_iconst hC (v := 3) dX7_judge_62 kc_i_3 (q := 63) rfl ?_
    refine gk_acopy hC ml_RX7_238 dX7_judge_63 t30 t31 (by decide) (Nat.le_of_ble_eq_true rfl) (q := 66) rfl (fun M32 => ?_)
    refine gk_aload_n hC 0 dX7_judge_66 rfl (q := 67) rfl ?_
    refine gk_aload_n hC 0 dX7_judge_67 rfl (q := 68) rfl ?_
    refine gk_getI hC dX7_judge_68 fl_RX7_232 t0 (q := 71) rfl ?_
    refine gk_callV (As := [.int (M32.1 a0 6)]) (rest := []) hC (fun l => m_X7_done l hY a0 (M32.1 a0 6) M32 t0) ml_RX7_57 ok_X7_done dX7_judge_71 t0 ⟨by decide, rfl⟩ rfl (by decide) (Nat.le_of_ble_eq_true rfl) rfl (q := 74) rfl (fun r33 => ?_)
    show gk_K Z Y 6 gk_rI 74 [(0, .ref a0), (1, .int a1), (2, .int a2), (3, .int a3), (4, .int a4), (5, .int a5)] [.int r33.1] r33.2 _
    exact gk_iret hC hR dX7_judge_74 rfl
def f_X7_actOf (LN : Nat → Nat) (RF : Nat → Nat → Nat) (a0 : Nat) (a1 : Int32) (M : gk_M) : Option (Int32) :=
  gk_jn (fun y21 : Int32 =>
    some y21) fun k27_21 =>
  gk_jn (fun y23 : Unit =>
    k27_21 (-1)) fun k17_23 =>
  if a1 < 0 then
    k17_23 ()
  else
  if (M.1 a0 6) ≤ a1 then
    k17_23 ()
  else
  if a1 < 3 then
    gk_ald LN M (RF a0 5) a1 fun x26 =>
    k27_21 x26
  else
  k17_23 ()
set_option maxHeartbeats 4000000 in
set_option maxRecDepth 100000 in
theorem m_X7_actOf (l : Launch) {Y : gk_Y} (hY : gk_WF Y) (a0 : Nat) (a1 : Int32) (M : gk_M) (t0 : gk_T Y 17 a0) : gk_MF l Y yX7_actOf cX7_actOf 2 (some .int) 0 [.ref a0, .int a1] M (gk_rR M) (f_X7_actOf (gk_ln Y) (gk_rf Y) a0 a1 M) := by
  refine gk_met hY (plainFor_of_name (by decide)) (Nat.le_of_ble_eq_true rfl) fun Z hC hR => ?_
  show gk_K Z Y 2 (gk_rR M) 0 [(0, .ref a0), (1, .int a1)] [] M _
  unfold f_X7_actOf
  refine gk_iload_n hC 1 dX7_actOf_0 rfl (q := 1) rfl ?_
  refine gk_jnR (fun k27_21 => ∀ z22 : Int32, gk_K Z Y 2 (gk_rR M) 27 [] [.int z22] M (k27_21 z22)) (fun y21 => ?_) (fun k27_21 hk27_21 => ?_)
  · show gk_K Z Y 2 (gk_rR M) 27 [] [.int y21] M _
    exact gk_iret hC hR dX7_actOf_27 rfl
  · refine gk_jnR (fun k17_23 => ∀ z24 : Unit, gk_K Z Y 2 (gk_rR M) 17 [] [] M (k17_23 z24)) (fun y23 => ?_) (fun k17_23 hk17_23 => ?_)
    · show gk_K Z Y 2 (gk_rR M) 17 [] [] M _
      refine gk_iconst hC (v := (-1)) dX7_actOf_17 kc_i_m1 (q := 18) rfl ?_
      refine gk_goto hC dX7_actOf_18 (q := 27) rfl ?_
      exact hk27_21 (-1)
    · refine gk_if_lt hC dX7_actOf_1 (tg := 17) rfl (q := 4) rfl ?_ ?_
      · refine gk_pick [] rfl ?_
        exact hk17_23 ()
      · refine gk_iload_n hC 1 dX7_actOf_4 rfl (q := 5) rfl ?_
        refine gk_aload_n hC 0 dX7_actOf_5 rfl (q := 6) rfl ?_
        refine gk_getI hC dX7_actOf_6 fl_RX7_232 t0 (q := 9) rfl ?_
        refine gk_icmp_ge hC dX7_actOf_9 (tg := 17) rfl (q := 12) rfl ?_ ?_
        · refine gk_pick [] rfl ?_
          exact hk17_23 ()
        · refine gk_iload_n hC 1 dX7_actOf_12 rfl (q := 13) rfl ?_
          refine gk_iconst hC (v := 3) dX7_actOf_13 kc_i_3 (q := 14) rfl ?_
          refine gk_icmp_lt hC dX7_actOf_14 (tg := 21) rfl (q := 17) rfl ?_ ?_
          · refine gk_aload_n hC 0 dX7_actOf_21 rfl (q := 22) rfl ?_
            refine gk_getR hC dX7_actOf_22 fl_RX7_45 (by decide) t0 (q := 25) rfl (fun t25 => ?_)
            refine gk_iload_n hC 1 dX7_actOf_25 rfl (q := 26) rfl ?_
            refine gk_iald hC dX7_actOf_26 t25 (q := 27) rfl (fun x26 => ?_)
            refine gk_pick [] rfl ?_
            exact hk27_21 x26
          · refine gk_pick [] rfl ?_
            exact hk17_23 ()
def lp_X7_alone_35 (LN : Nat → Nat) (RF : Nat → Nat → Nat) (v0 : Nat) (v5 : Int32) (k102 : gk_M → Option (Int32 × gk_M)) : Nat → (Int32 × gk_M) → Option (Int32 × gk_M)
  | 0, _ => none
  | n + 1, x =>
    if (x.2.1 (RF (RF v0 0) 0) 1) ≤ x.1 then
      k102 x.2
    else
    gk_aldr LN RF (RF (RF (RF v0 0) 0) 0) x.1 fun o6 =>
    (f_X5_isOfThoseThatAct LN RF o6 x.2).bind fun r8 =>
    gk_jn (fun y9 : gk_M =>
      lp_X7_alone_35 LN RF v0 v5 k102 n ((x.1 + 1), y9)) fun k96_9 =>
    if r8 = 0 then
      k96_9 x.2
    else
    (f_X6_leaveAlone LN RF (RF (RF v0 2) 0) x.1 x.2).bind fun r13 =>
    (f_X3_find LN RF (RF v0 2) v5 r13).bind fun r15 =>
    if r15.1 ≤ 0 then
      k96_9 r15.2
    else
    some (x.1, r15.2)
def f_X7_alone (LN : Nat → Nat) (RF : Nat → Nat → Nat) (a0 : Nat) (a1 : Int32) (a2 : Int32) (a3 : Int32) (a4 : Int32) (a5 : Int32) (M : gk_M) : Option (Int32 × gk_M) :=
  (f_X7_isJudged LN RF a0 a1 a2 a3 a4 a5 M).bind fun r21 =>
  if r21 = 0 then
    some ((-1), M)
  else
  (f_X3_open LN RF (RF a0 2) (RF a0 0) a1 a2 a3 a4 M).bind fun r24 =>
  gk_jn (fun y25 : gk_M =>
    some ((-1), y25)) fun k102_25 =>
  lp_X7_alone_35 LN RF a0 a5 k102_25 gk_fuel (0, r24)
set_option maxHeartbeats 4000000 in
set_option maxRecDepth 100000 in
theorem lk_X7_alone_35 {Z : gk_Z} {Y : gk_Y} (hY : gk_WF Y) (hC : gk_C Z Y cX7_alone 7 RX7 11) (hR : gk_R Z Y (some .int)) (v0 : Nat) (v5 : Int32) (tv0 : gk_T Y 17 v0) (k102 : gk_M → Option (Int32 × gk_M)) (hk102 : ∀ z27 : gk_M, gk_K Z Y 7 gk_rI 102 [] [] z27 (k102 z27)) : ∀ (n : Nat) (x : Int32 × gk_M), gk_K Z Y 7 gk_rI 35 [(0, .ref v0), (5, .int v5), (6, .int x.1)] [] x.2 (lp_X7_alone_35 (gk_ln Y) (gk_rf Y) v0 v5 k102 n x) := by
  intro n
  induction n with
  | zero => intro x; exact gk_none
  | succ n ih =>
    intro x
    rw [lp_X7_alone_35]
    refine gk_iload hC 2 dX7_alone_35 rfl (q := 37) rfl ?_
    refine gk_aload_n hC 0 dX7_alone_37 rfl (q := 38) rfl ?_
    refine gk_getR hC dX7_alone_38 fl_RX7_17 (by decide) tv0 (q := 41) rfl (fun t1 => ?_)
    refine gk_getR hC dX7_alone_41 fl_RX7_64 (by decide) t1 (q := 44) rfl (fun t2 => ?_)
    refine gk_getI hC dX7_alone_44 fl_RX7_244 t2 (q := 47) rfl ?_
    refine gk_icmp_ge hC dX7_alone_47 (tg := 102) rfl (q := 50) rfl ?_ ?_
    · refine gk_pick [] rfl ?_
      exact hk102 x.2
    · refine gk_aload_n hC 0 dX7_alone_50 rfl (q := 51) rfl ?_
      refine gk_getR hC dX7_alone_51 fl_RX7_17 (by decide) tv0 (q := 54) rfl (fun t3 => ?_)
      refine gk_getR hC dX7_alone_54 fl_RX7_64 (by decide) t3 (q := 57) rfl (fun t4 => ?_)
      refine gk_getR hC dX7_alone_57 fl_RX7_80 (by decide) t4 (q := 60) rfl (fun t5 => ?_)
      refine gk_iload hC 2 dX7_alone_60 rfl (q := 62) rfl ?_
      refine gk_aald hC dX7_alone_62 (Or.inr (Or.inl rfl)) t5 (q := 63) rfl (fun o6 t7 => ?_)
      refine gk_callV (As := []) (rest := []) hC (fun l => m_X5_isOfThoseThatAct l hY o6 x.2 t7) ml_RX7_247 ok_X5_isOfThoseThatAct dX7_alone_63 t7 ⟨by decide, rfl⟩ rfl (by decide) (Nat.le_of_ble_eq_true rfl) rfl (q := 66) rfl (fun r8 => ?_)
      show gk_K Z Y 7 gk_rI 66 [(0, .ref v0), (5, .int v5), (6, .int x.1)] [.int r8] x.2 _
      refine gk_jnR (fun k96_9 => ∀ z10 : gk_M, gk_K Z Y 7 gk_rI 96 [(0, .ref v0), (5, .int v5), (6, .int x.1)] [] z10 (k96_9 z10)) (fun y9 => ?_) (fun k96_9 hk96_9 => ?_)
      · show gk_K Z Y 7 gk_rI 96 [(0, .ref v0), (5, .int v5), (6, .int x.1)] [] y9 _
        refine gk_iinc hC (v := 1) 2 (lv' := [(0, .ref v0), (5, .int v5), (6, .int (x.1 + 1))]) [1, 2, 0] dX7_alone_96 rfl kc_i_1 (by decide) rfl (q := 99) rfl ?_
        refine gk_goto hC dX7_alone_99 (q := 35) rfl ?_
        exact ih ((x.1 + 1), y9)
      · refine gk_if_eq hC dX7_alone_66 (tg := 96) rfl (q := 69) rfl ?_ ?_
        · exact hk96_9 x.2
        · refine gk_aload_n hC 0 dX7_alone_69 rfl (q := 70) rfl ?_
          refine gk_getR hC dX7_alone_70 fl_RX7_27 (by decide) tv0 (q := 73) rfl (fun t11 => ?_)
          refine gk_getR hC dX7_alone_73 fl_RX7_250 (by decide) t11 (q := 76) rfl (fun t12 => ?_)
          refine gk_iload hC 2 dX7_alone_76 rfl (q := 78) rfl ?_
          refine gk_callV (As := [.int x.1]) (rest := []) hC (fun l => m_X6_leaveAlone l hY ((gk_rf Y) ((gk_rf Y) v0 2) 0) x.1 x.2 t12) ml_RX7_251 ok_X6_leaveAlone dX7_alone_78 t12 ⟨by decide, rfl⟩ rfl (by decide) (Nat.le_of_ble_eq_true rfl) rfl (q := 81) rfl (fun r13 => ?_)
          show gk_K Z Y 7 gk_rI 81 [(0, .ref v0), (5, .int v5), (6, .int x.1)] [] r13 _
          refine gk_aload_n hC 0 dX7_alone_81 rfl (q := 82) rfl ?_
          refine gk_getR hC dX7_alone_82 fl_RX7_27 (by decide) tv0 (q := 85) rfl (fun t14 => ?_)
          refine gk_iload hC 1 dX7_alone_85 rfl (q := 87) rfl ?_
          refine gk_callV (As := [.int v5]) (rest := []) hC (fun l => m_X3_find l hY ((gk_rf Y) v0 2) v5 r13 t14) ml_RX7_229 ok_X3_find dX7_alone_87 t14 ⟨by decide, rfl⟩ rfl (by decide) (Nat.le_of_ble_eq_true rfl) rfl (q := 90) rfl (fun r15 => ?_)
          show gk_K Z Y 7 gk_rI 90 [(0, .ref v0), (5, .int v5), (6, .int x.1)] [.int r15.1] r15.2 _
          refine gk_if_le hC dX7_alone_90 (tg := 96) rfl (q := 93) rfl ?_ ?_
          · exact hk96_9 r15.2
          · refine gk_iload hC 2 dX7_alone_93 rfl (q := 95) rfl ?_
            exact gk_iret hC hR dX7_alone_95 rfl
set_option maxHeartbeats 4000000 in
set_option maxRecDepth 100000 in
theorem m_X7_alone (l : Launch) {Y : gk_Y} (hY : gk_WF Y) (a0 : Nat) (a1 : Int32) (a2 : Int32) (a3 : Int32) (a4 : Int32) (a5 : Int32) (M : gk_M) (t0 : gk_T Y 17 a0) : gk_MF l Y yX7_alone cX7_alone 7 (some .int) 11 [.ref a0, .int a1, .int a2, .int a3, .int a4, .int a5] M gk_rI (f_X7_alone (gk_ln Y) (gk_rf Y) a0 a1 a2 a3 a4 a5 M) := by
  refine gk_met hY (plainFor_of_name (by decide)) (Nat.le_of_ble_eq_true rfl) fun Z hC hR => ?_
  show gk_K Z Y 7 gk_rI 0 [(0, .ref a0), (1, .int a1), (2, .int a2), (3, .int a3), (4, .int a4), (5, .int a5)] [] M _
  unfold f_X7_alone
  refine gk_aload_n hC 0 dX7_alone_0 rfl (q := 1) rfl ?_
  refine gk_iload_n hC 1 dX7_alone_1 rfl (q := 2) rfl ?_
  refine gk_iload_n hC 2 dX7_alone_2 rfl (q := 3) rfl ?_
  refine gk_iload_n hC 3 dX7_alone_3 rfl (q := 4) rfl ?_
  refine gk_iload hC 4 dX7_alone_4 rfl (q := 6) rfl ?_
  refine gk_iload hC 5 dX7_alone_6 rfl (q := 8) rfl ?_
  refine gk_callV (As := [.int a1, .int a2, .int a3, .int a4, .int a5]) (rest := []) hC (fun l => m_X7_isJudged l hY a0 a1 a2 a3 a4 a5 M t0) ml_RX7_222 ok_X7_isJudged dX7_alone_8 t0 ⟨by decide, rfl⟩ rfl (by decide) (Nat.le_of_ble_eq_true rfl) rfl (q := 11) rfl (fun r21 => ?_)
  show gk_K Z Y 7 gk_rI 11 [(0, .ref a0), (1, .int a1), (2, .int a2), (3, .int a3), (4, .int a4), (5, .int a5)] [.int r21] M _
  refine gk_if_ne hC dX7_alone_11 (tg := 16) rfl (q := 14) rfl ?_ ?_
  · refine gk_iconst hC (v := (-1)) dX7_alone_14 kc_i_m1 (q := 15) rfl ?_
    exact gk_iret hC hR dX7_alone_15 rfl
  · refine gk_aload_n hC 0 dX7_alone_16 rfl (q := 17) rfl ?_
    refine gk_getR hC dX7_alone_17 fl_RX7_27 (by decide) t0 (q := 20) rfl (fun t22 => ?_)
    refine gk_aload_n hC 0 dX7_alone_20 rfl (q := 21) rfl ?_
    refine gk_getR hC dX7_alone_21 fl_RX7_17 (by decide) t0 (q := 24) rfl (fun t23 => ?_)
    refine gk_iload_n hC 1 dX7_alone_24 rfl (q := 25) rfl ?_
    refine gk_iload_n hC 2 dX7_alone_25 rfl (q := 26) rfl ?_
    refine gk_iload_n hC 3 dX7_alone_26 rfl (q := 27) rfl ?_
    refine gk_iload hC 4 dX7_alone_27 rfl (q := 29) rfl ?_
    refine gk_callV (As := [.ref ((gk_rf Y) a0 0), .int a1, .int a2, .int a3, .int a4]) (rest := []) hC (fun l => m_X3_open l hY ((gk_rf Y) a0 2) ((gk_rf Y) a0 0) a1 a2 a3 a4 M t22 t23) ml_RX7_225 ok_X3_open dX7_alone_29 t22 ⟨by decide, rfl⟩ rfl (by decide) (Nat.le_of_ble_eq_true rfl) rfl (q := 32) rfl (fun r24 => ?_)
    show gk_K Z Y 7 gk_rI 32 [(0, .ref a0), (1, .int a1), (2, .int a2), (3, .int a3), (4, .int a4), (5, .int a5)] [] r24 _
    refine gk_iconst hC (v := 0) dX7_alone_32 kc_i_0 (q := 33) rfl ?_
    refine gk_istore hC (lv' := [(0, .ref a0), (5, .int a5), (6, .int 0)]) [1, 6, 0] dX7_alone_33 (by decide) rfl (q := 35) rfl ?_
    refine gk_jnR (fun k102_25 => ∀ z26 : gk_M, gk_K Z Y 7 gk_rI 102 [] [] z26 (k102_25 z26)) (fun y25 => ?_) (fun k102_25 hk102_25 => ?_)
    · show gk_K Z Y 7 gk_rI 102 [] [] y25 _
      refine gk_iconst hC (v := (-1)) dX7_alone_102 kc_i_m1 (q := 103) rfl ?_
      exact gk_iret hC hR dX7_alone_103 rfl
    · exact lk_X7_alone_35 hY hC hR a0 a5 t0 k102_25 hk102_25 gk_fuel (0, r24)
def lp_X7_peace_54 (LN : Nat → Nat) (RF : Nat → Nat → Nat) (v0 : Nat) (v1 : Int32) (v6 : Int32) (k123 : gk_M → Option (Int32 × gk_M)) : Nat → (Int32 × Int32 × gk_M) → Option (Int32 × gk_M)
  | 0, _ => none
  | n + 1, x =>
    if 9 < x.2.1 then
      k123 x.2.2
    else
    gk_aldr LN RF (RF (RF (RF v0 2) 0) 0) v1 fun o4 =>
    gk_put x.2.2 o4 2 x.2.1 fun M6 =>
    (f_X6_placeOf LN RF (RF (RF v0 2) 0) v1 M6).bind fun r9 =>
    gk_jn (fun y10 : gk_M =>
      lp_X7_peace_54 LN RF v0 v1 v6 k123 n (r9, (x.2.1 + 1), y10)) fun k113_10 =>
    if r9 = x.1 then
      k113_10 M6
    else
    (f_X3_find LN RF (RF v0 2) v6 M6).bind fun r13 =>
    if r13.1 = 0 then
      some (x.2.1, r13.2)
    else
    k113_10 r13.2
def f_X7_peace (LN : Nat → Nat) (RF : Nat → Nat → Nat) (a0 : Nat) (a1 : Int32) (a2 : Int32) (a3 : Int32) (a4 : Int32) (a5 : Int32) (a6 : Int32) (M : gk_M) : Option (Int32 × gk_M) :=
  (f_X6_holds LN RF (RF (RF a0 0) 0) a1 M).bind fun r23 =>
  gk_jn (fun y24 : Unit =>
    some ((-1), M)) fun k29_24 =>
  if r23 = 0 then
    k29_24 ()
  else
  (f_X7_isJudged LN RF a0 a2 a3 a4 a5 a6 M).bind fun r26 =>
  if r26 = 0 then
    k29_24 ()
  else
  (f_X3_open LN RF (RF a0 2) (RF a0 0) a2 a3 a4 a5 M).bind fun r29 =>
  gk_jn (fun y30 : gk_M =>
    some ((-1), y30)) fun k123_30 =>
  lp_X7_peace_54 LN RF a0 a1 a6 k123_30 gk_fuel ((-1), 0, r29)
set_option maxHeartbeats 4000000 in
set_option maxRecDepth 100000 in
theorem lk_X7_peace_54 {Z : gk_Z} {Y : gk_Y} (hY : gk_WF Y) (hC : gk_C Z Y cX7_peace 10 RX7 11) (hR : gk_R Z Y (some .int)) (v0 : Nat) (v1 : Int32) (v6 : Int32) (tv0 : gk_T Y 17 v0) (k123 : gk_M → Option (Int32 × gk_M)) (hk123 : ∀ z32 : gk_M, gk_K Z Y 10 gk_rI 123 [] [] z32 (k123 z32)) : ∀ (n : Nat) (x : Int32 × Int32 × gk_M), gk_K Z Y 10 gk_rI 54 [(0, .ref v0), (1, .int v1), (6, .int v6), (7, .int x.1), (8, .int x.2.1)] [] x.2.2 (lp_X7_peace_54 (gk_ln Y) (gk_rf Y) v0 v1 v6 k123 n x) := by
  intro n
  induction n with
  | zero => intro x; exact gk_none
  | succ n ih =>
    intro x
    rw [lp_X7_peace_54]
    refine gk_iload hC 4 dX7_peace_54 rfl (q := 56) rfl ?_
    refine gk_bipush hC (v := 9) dX7_peace_56 kc_b_9 (q := 58) rfl ?_
    refine gk_icmp_gt hC dX7_peace_58 (tg := 123) rfl (q := 61) rfl ?_ ?_
    · refine gk_pick [] rfl ?_
      exact hk123 x.2.2
    · refine gk_aload_n hC 0 dX7_peace_61 rfl (q := 62) rfl ?_
      refine gk_getR hC dX7_peace_62 fl_RX7_27 (by decide) tv0 (q := 65) rfl (fun t1 => ?_)
      refine gk_getR hC dX7_peace_65 fl_RX7_250 (by decide) t1 (q := 68) rfl (fun t2 => ?_)
      refine gk_getR hC dX7_peace_68 fl_RX7_80 (by decide) t2 (q := 71) rfl (fun t3 => ?_)
      refine gk_iload_n hC 1 dX7_peace_71 rfl (q := 72) rfl ?_
      refine gk_aald hC dX7_peace_72 (Or.inr (Or.inl rfl)) t3 (q := 73) rfl (fun o4 t5 => ?_)
      refine gk_iload hC 4 dX7_peace_73 rfl (q := 75) rfl ?_
      refine gk_putI hC dX7_peace_75 fp_RX7_93 t5 (q := 78) rfl (fun M6 => ?_)
      refine gk_aload_n hC 0 dX7_peace_78 rfl (q := 79) rfl ?_
      refine gk_getR hC dX7_peace_79 fl_RX7_27 (by decide) tv0 (q := 82) rfl (fun t7 => ?_)
      refine gk_getR hC dX7_peace_82 fl_RX7_250 (by decide) t7 (q := 85) rfl (fun t8 => ?_)
      refine gk_iload_n hC 1 dX7_peace_85 rfl (q := 86) rfl ?_
      refine gk_callV (As := [.int v1]) (rest := []) hC (fun l => m_X6_placeOf l hY ((gk_rf Y) ((gk_rf Y) v0 2) 0) v1 M6 t8) ml_RX7_255 ok_X6_placeOf dX7_peace_86 t8 ⟨by decide, rfl⟩ rfl (by decide) (Nat.le_of_ble_eq_true rfl) rfl (q := 89) rfl (fun r9 => ?_)
      show gk_K Z Y 10 gk_rI 89 [(0, .ref v0), (1, .int v1), (6, .int v6), (7, .int x.1), (8, .int x.2.1)] [.int r9] M6 _
      refine gk_istore hC (lv' := [(0, .ref v0), (1, .int v1), (6, .int v6), (7, .int x.1), (8, .int x.2.1), (9, .int r9)]) [1, 2, 3, 4, 5, 0] dX7_peace_89 (by decide) rfl (q := 91) rfl ?_
      refine gk_iload hC 5 dX7_peace_91 rfl (q := 93) rfl ?_
      refine gk_iload hC 3 dX7_peace_93 rfl (q := 95) rfl ?_
      refine gk_jnR (fun k113_10 => ∀ z11 : gk_M, gk_K Z Y 10 gk_rI 113 [(0, .ref v0), (1, .int v1), (6, .int v6), (8, .int x.2.1), (9, .int r9)] [] z11 (k113_10 z11)) (fun y10 => ?_) (fun k113_10 hk113_10 => ?_)
      · show gk_K Z Y 10 gk_rI 113 [(0, .ref v0), (1, .int v1), (6, .int v6), (8, .int x.2.1), (9, .int r9)] [] y10 _
        refine gk_iload hC 4 dX7_peace_113 rfl (q := 115) rfl ?_
        refine gk_istore hC (lv' := [(0, .ref v0), (1, .int v1), (6, .int v6), (7, .int r9), (8, .int x.2.1)]) [1, 2, 3, 0, 4] dX7_peace_115 (by decide) rfl (q := 117) rfl ?_
        refine gk_iinc hC (v := 1) 4 (lv' := [(0, .ref v0), (1, .int v1), (6, .int v6), (7, .int r9), (8, .int (x.2.1 + 1))]) [1, 2, 3, 4, 0] dX7_peace_117 rfl kc_i_1 (by decide) rfl (q := 120) rfl ?_
        refine gk_goto hC dX7_peace_120 (q := 54) rfl ?_
        exact ih (r9, (x.2.1 + 1), y10)
      · refine gk_icmp_eq hC dX7_peace_95 (tg := 113) rfl (q := 98) rfl ?_ ?_
        · refine gk_pick [0, 1, 2, 4, 5] rfl ?_
          exact hk113_10 M6
        · refine gk_aload_n hC 0 dX7_peace_98 rfl (q := 99) rfl ?_
          refine gk_getR hC dX7_peace_99 fl_RX7_27 (by decide) tv0 (q := 102) rfl (fun t12 => ?_)
          refine gk_iload hC 2 dX7_peace_102 rfl (q := 104) rfl ?_
          refine gk_callV (As := [.int v6]) (rest := []) hC (fun l => m_X3_find l hY ((gk_rf Y) v0 2) v6 M6 t12) ml_RX7_229 ok_X3_find dX7_peace_104 t12 ⟨by decide, rfl⟩ rfl (by decide) (Nat.le_of_ble_eq_true rfl) rfl (q := 107) rfl (fun r13 => ?_)
          show gk_K Z Y 10 gk_rI 107 [(0, .ref v0), (1, .int v1), (6, .int v6), (7, .int x.1), (8, .int x.2.1), (9, .int r9)] [.int r13.1] r13.2 _
          refine gk_if_ne hC dX7_peace_107 (tg := 113) rfl (q := 110) rfl ?_ ?_
          · refine gk_iload hC 4 dX7_peace_110 rfl (q := 112) rfl ?_
            exact gk_iret hC hR dX7_peace_112 rfl
          · refine gk_pick [0, 1, 2, 4, 5] rfl ?_
            exact hk113_10 r13.2
set_option maxHeartbeats 4000000 in
set_option maxRecDepth 100000 in
theorem m_X7_peace (l : Launch) {Y : gk_Y} (hY : gk_WF Y) (a0 : Nat) (a1 : Int32) (a2 : Int32) (a3 : Int32) (a4 : Int32) (a5 : Int32) (a6 : Int32) (M : gk_M) (t0 : gk_T Y 17 a0) : gk_MF l Y yX7_peace cX7_peace 10 (some .int) 11 [.ref a0, .int a1, .int a2, .int a3, .int a4, .int a5, .int a6] M gk_rI (f_X7_peace (gk_ln Y) (gk_rf Y) a0 a1 a2 a3 a4 a5 a6 M) := by
  refine gk_met hY (plainFor_of_name (by decide)) (Nat.le_of_ble_eq_true rfl) fun Z hC hR => ?_
  show gk_K Z Y 10 gk_rI 0 [(0, .ref a0), (1, .int a1), (2, .int a2), (3, .int a3), (4, .int a4), (5, .int a5), (6, .int a6)] [] M _
  unfold f_X7_peace
  refine gk_aload_n hC 0 dX7_peace_0 rfl (q := 1) rfl ?_
  refine gk_getR hC dX7_peace_1 fl_RX7_17 (by decide) t0 (q := 4) rfl (fun t21 => ?_)
  refine gk_getR hC dX7_peace_4 fl_RX7_64 (by decide) t21 (q := 7) rfl (fun t22 => ?_)
  refine gk_iload_n hC 1 dX7_peace_7 rfl (q := 8) rfl ?_
  refine gk_callV (As := [.int a1]) (rest := []) hC (fun l => m_X6_holds l hY ((gk_rf Y) ((gk_rf Y) a0 0) 0) a1 M t22) ml_RX7_76 ok_X6_holds dX7_peace_8 t22 ⟨by decide, rfl⟩ rfl (by decide) (Nat.le_of_ble_eq_true rfl) rfl (q := 11) rfl (fun r23 => ?_)
  show gk_K Z Y 10 gk_rI 11 [(0, .ref a0), (1, .int a1), (2, .int a2), (3, .int a3), (4, .int a4), (5, .int a5), (6, .int a6)] [.int r23] M _
  refine gk_jnR (fun k29_24 => ∀ z25 : Unit, gk_K Z Y 10 gk_rI 29 [] [] M (k29_24 z25)) (fun y24 => ?_) (fun k29_24 hk29_24 => ?_)
  · show gk_K Z Y 10 gk_rI 29 [] [] M _
    refine gk_iconst hC (v := (-1)) dX7_peace_29 kc_i_m1 (q := 30) rfl ?_
    exact gk_iret hC hR dX7_peace_30 rfl
  · refine gk_if_eq hC dX7_peace_11 (tg := 29) rfl (q := 14) rfl ?_ ?_
    · refine gk_pick [] rfl ?_
      exact hk29_24 ()
    · refine gk_aload_n hC 0 dX7_peace_14 rfl (q := 15) rfl ?_
      refine gk_iload_n hC 2 dX7_peace_15 rfl (q := 16) rfl ?_
      refine gk_iload_n hC 3 dX7_peace_16 rfl (q := 17) rfl ?_
      refine gk_iload hC 4 dX7_peace_17 rfl (q := 19) rfl ?_
      refine gk_iload hC 5 dX7_peace_19 rfl (q := 21) rfl ?_
      refine gk_iload hC 6 dX7_peace_21 rfl (q := 23) rfl ?_
      refine gk_callV (As := [.int a2, .int a3, .int a4, .int a5, .int a6]) (rest := []) hC (fun l => m_X7_isJudged l hY a0 a2 a3 a4 a5 a6 M t0) ml_RX7_222 ok_X7_isJudged dX7_peace_23 t0 ⟨by decide, rfl⟩ rfl (by decide) (Nat.le_of_ble_eq_true rfl) rfl (q := 26) rfl (fun r26 => ?_)
      show gk_K Z Y 10 gk_rI 26 [(0, .ref a0), (1, .int a1), (2, .int a2), (3, .int a3), (4, .int a4), (5, .int a5), (6, .int a6)] [.int r26] M _
      refine gk_if_ne hC dX7_peace_26 (tg := 31) rfl (q := 29) rfl ?_ ?_
      · refine gk_pick [] rfl ?_
        exact hk29_24 ()
      · refine gk_aload_n hC 0 dX7_peace_31 rfl (q := 32) rfl ?_
        refine gk_getR hC dX7_peace_32 fl_RX7_27 (by decide) t0 (q := 35) rfl (fun t27 => ?_)
        refine gk_aload_n hC 0 dX7_peace_35 rfl (q := 36) rfl ?_
        refine gk_getR hC dX7_peace_36 fl_RX7_17 (by decide) t0 (q := 39) rfl (fun t28 => ?_)
        refine gk_iload_n hC 2 dX7_peace_39 rfl (q := 40) rfl ?_
        refine gk_iload_n hC 3 dX7_peace_40 rfl (q := 41) rfl ?_
        refine gk_iload hC 4 dX7_peace_41 rfl (q := 43) rfl ?_
        refine gk_iload hC 5 dX7_peace_43 rfl (q := 45) rfl ?_
        refine gk_callV (As := [.ref ((gk_rf Y) a0 0), .int a2, .int a3, .int a4, .int a5]) (rest := []) hC (fun l => m_X3_open l hY ((gk_rf Y) a0 2) ((gk_rf Y) a0 0) a2 a3 a4 a5 M t27 t28) ml_RX7_225 ok_X3_open dX7_peace_45 t27 ⟨by decide, rfl⟩ rfl (by decide) (Nat.le_of_ble_eq_true rfl) rfl (q := 48) rfl (fun r29 => ?_)
        show gk_K Z Y 10 gk_rI 48 [(0, .ref a0), (1, .int a1), (2, .int a2), (3, .int a3), (4, .int a4), (5, .int a5), (6, .int a6)] [] r29 _
        refine gk_iconst hC (v := (-1)) dX7_peace_48 kc_i_m1 (q := 49) rfl ?_
        refine gk_istore hC (lv' := [(0, .ref a0), (1, .int a1), (6, .int a6), (7, .int (-1))]) [1, 2, 7, 0] dX7_peace_49 (by decide) rfl (q := 51) rfl ?_
        refine gk_iconst hC (v := 0) dX7_peace_51 kc_i_0 (q := 52) rfl ?_
        refine gk_istore hC (lv' := [(0, .ref a0), (1, .int a1), (6, .int a6), (7, .int (-1)), (8, .int 0)]) [1, 2, 3, 4, 0] dX7_peace_52 (by decide) rfl (q := 54) rfl ?_
        refine gk_jnR (fun k123_30 => ∀ z31 : gk_M, gk_K Z Y 10 gk_rI 123 [] [] z31 (k123_30 z31)) (fun y30 => ?_) (fun k123_30 hk123_30 => ?_)
        · show gk_K Z Y 10 gk_rI 123 [] [] y30 _
          refine gk_iconst hC (v := (-1)) dX7_peace_123 kc_i_m1 (q := 124) rfl ?_
          exact gk_iret hC hR dX7_peace_124 rfl
        · exact lk_X7_peace_54 hY hC hR a0 a1 a6 t0 k123_30 hk123_30 gk_fuel ((-1), 0, r29)
def f_X7_count (LN : Nat → Nat) (RF : Nat → Nat → Nat) (a0 : Nat) (a1 : Int32) (M : gk_M) : Option (Int32) :=
  gk_sw a1 0 [some (M.1 (RF a0 0) 7),
    some (M.1 (RF (RF a0 0) 0) 1),
    some (M.1 (RF a0 0) 8),
    some (M.1 (RF a0 0) 10),
    some (M.1 (RF a0 0) 9),
    (f_X2_countOpen LN RF (RF a0 0) M).bind fun r28 =>
    some r28,
    some (M.1 a0 6),
    some (M.1 (RF a0 3) 1)]
  (some (-1))
set_option maxHeartbeats 4000000 in
set_option maxRecDepth 100000 in
theorem m_X7_count (l : Launch) {Y : gk_Y} (hY : gk_WF Y) (a0 : Nat) (a1 : Int32) (M : gk_M) (t0 : gk_T Y 17 a0) : gk_MF l Y yX7_count cX7_count 2 (some .int) 1 [.ref a0, .int a1] M (gk_rR M) (f_X7_count (gk_ln Y) (gk_rf Y) a0 a1 M) := by
  refine gk_met hY (plainFor_of_name (by decide)) (Nat.le_of_ble_eq_true rfl) fun Z hC hR => ?_
  show gk_K Z Y 2 (gk_rR M) 0 [(0, .ref a0), (1, .int a1)] [] M _
  unfold f_X7_count
  refine gk_iload_n hC 1 dX7_count_0 rfl (q := 1) rfl ?_
  refine gk_table hC (ts := [48, 56, 67, 75, 83, 91, 99, 104]) (tg := 112) dX7_count_1 (by decide) (by decide) rfl ⟨?_, ?_, ?_, ?_, ?_, ?_, ?_, ?_, trivial⟩ ?_
  · refine gk_aload_n hC 0 dX7_count_48 rfl (q := 49) rfl ?_
    refine gk_getR hC dX7_count_49 fl_RX7_17 (by decide) t0 (q := 52) rfl (fun t21 => ?_)
    refine gk_getI hC dX7_count_52 fl_RX7_49 t21 (q := 55) rfl ?_
    exact gk_iret hC hR dX7_count_55 rfl
  · refine gk_aload_n hC 0 dX7_count_56 rfl (q := 57) rfl ?_
    refine gk_getR hC dX7_count_57 fl_RX7_17 (by decide) t0 (q := 60) rfl (fun t22 => ?_)
    refine gk_getR hC dX7_count_60 fl_RX7_64 (by decide) t22 (q := 63) rfl (fun t23 => ?_)
    refine gk_getI hC dX7_count_63 fl_RX7_244 t23 (q := 66) rfl ?_
    exact gk_iret hC hR dX7_count_66 rfl
  · refine gk_aload_n hC 0 dX7_count_67 rfl (q := 68) rfl ?_
    refine gk_getR hC dX7_count_68 fl_RX7_17 (by decide) t0 (q := 71) rfl (fun t24 => ?_)
    refine gk_getI hC dX7_count_71 fl_RX7_258 t24 (q := 74) rfl ?_
    exact gk_iret hC hR dX7_count_74 rfl
  · refine gk_aload_n hC 0 dX7_count_75 rfl (q := 76) rfl ?_
    refine gk_getR hC dX7_count_76 fl_RX7_17 (by decide) t0 (q := 79) rfl (fun t25 => ?_)
    refine gk_getI hC dX7_count_79 fl_RX7_121 t25 (q := 82) rfl ?_
    exact gk_iret hC hR dX7_count_82 rfl
  · refine gk_aload_n hC 0 dX7_count_83 rfl (q := 84) rfl ?_
    refine gk_getR hC dX7_count_84 fl_RX7_17 (by decide) t0 (q := 87) rfl (fun t26 => ?_)
    refine gk_getI hC dX7_count_87 fl_RX7_213 t26 (q := 90) rfl ?_
    exact gk_iret hC hR dX7_count_90 rfl
  · refine gk_aload_n hC 0 dX7_count_91 rfl (q := 92) rfl ?_
    refine gk_getR hC dX7_count_92 fl_RX7_17 (by decide) t0 (q := 95) rfl (fun t27 => ?_)
    refine gk_callV (As := []) (rest := []) hC (fun l => m_X2_countOpen l hY ((gk_rf Y) a0 0) M t27) ml_RX7_261 ok_X2_countOpen dX7_count_95 t27 ⟨by decide, rfl⟩ rfl (by decide) (Nat.le_of_ble_eq_true rfl) rfl (q := 98) rfl (fun r28 => ?_)
    show gk_K Z Y 2 (gk_rR M) 98 [(0, .ref a0), (1, .int a1)] [.int r28] M _
    exact gk_iret hC hR dX7_count_98 rfl
  · refine gk_aload_n hC 0 dX7_count_99 rfl (q := 100) rfl ?_
    refine gk_getI hC dX7_count_100 fl_RX7_232 t0 (q := 103) rfl ?_
    exact gk_iret hC hR dX7_count_103 rfl
  · refine gk_aload_n hC 0 dX7_count_104 rfl (q := 105) rfl ?_
    refine gk_getR hC dX7_count_105 fl_RX7_34 (by decide) t0 (q := 108) rfl (fun t29 => ?_)
    refine gk_getI hC dX7_count_108 fl_RX7_265 t29 (q := 111) rfl ?_
    exact gk_iret hC hR dX7_count_111 rfl
  · refine gk_iconst hC (v := (-1)) dX7_count_112 kc_i_m1 (q := 113) rfl ?_
    exact gk_iret hC hR dX7_count_113 rfl
def f_X7_act (LN : Nat → Nat) (RF : Nat → Nat → Nat) (a0 : Nat) (a1 : Int32) (a2 : Int32) (a3 : Int32) (M : gk_M) : Option (Int32 × gk_M) :=
  (f_X6_holds LN RF (RF (RF a0 0) 0) a1 M).bind fun r23 =>
  gk_jn (fun y24 : Unit =>
    (f_X7_refused LN RF a0 1 M).bind fun r26 =>
    some (r26.1, r26.2)) fun k23_24 =>
  if r23 = 0 then
    k23_24 ()
  else
  if a2 < 0 then
    k23_24 ()
  else
  if a2 ≤ 3 then
    gk_aldr LN RF (RF (RF (RF a0 0) 0) 0) a1 fun o31 =>
    (f_X0_run LN RF (RF a0 3) o31 a1 a2 a3 M).bind fun r33 =>
    (f_X7_done LN RF a0 r33.1 r33.2).bind fun r34 =>
    some (r34.1, r34.2)
  else
  k23_24 ()
set_option maxHeartbeats 4000000 in
set_option maxRecDepth 100000 in
theorem m_X7_act (l : Launch) {Y : gk_Y} (hY : gk_WF Y) (a0 : Nat) (a1 : Int32) (a2 : Int32) (a3 : Int32) (M : gk_M) (t0 : gk_T Y 17 a0) : gk_MF l Y yX7_act cX7_act 4 (some .int) 13 [.ref a0, .int a1, .int a2, .int a3] M gk_rI (f_X7_act (gk_ln Y) (gk_rf Y) a0 a1 a2 a3 M) := by
  refine gk_met hY (plainFor_of_name (by decide)) (Nat.le_of_ble_eq_true rfl) fun Z hC hR => ?_
  show gk_K Z Y 4 gk_rI 0 [(0, .ref a0), (1, .int a1), (2, .int a2), (3, .int a3)] [] M _
  unfold f_X7_act
  refine gk_aload_n hC 0 dX7_act_0 rfl (q := 1) rfl ?_
  refine gk_getR hC dX7_act_1 fl_RX7_17 (by decide) t0 (q := 4) rfl (fun t21 => ?_)
  refine gk_getR hC dX7_act_4 fl_RX7_64 (by decide) t21 (q := 7) rfl (fun t22 => ?_)
  refine gk_iload_n hC 1 dX7_act_7 rfl (q := 8) rfl ?_
  refine gk_callV (As := [.int a1]) (rest := []) hC (fun l => m_X6_holds l hY ((gk_rf Y) ((gk_rf Y) a0 0) 0) a1 M t22) ml_RX7_76 ok_X6_holds dX7_act_8 t22 ⟨by decide, rfl⟩ rfl (by decide) (Nat.le_of_ble_eq_true rfl) rfl (q := 11) rfl (fun r23 => ?_)
  show gk_K Z Y 4 gk_rI 11 [(0, .ref a0), (1, .int a1), (2, .int a2), (3, .int a3)] [.int r23] M _
  refine gk_jnR (fun k23_24 => ∀ z25 : Unit, gk_K Z Y 4 gk_rI 23 [(0, .ref a0)] [] M (k23_24 z25)) (fun y24 => ?_) (fun k23_24 hk23_24 => ?_)
  · show gk_K Z Y 4 gk_rI 23 [(0, .ref a0)] [] M _
    refine gk_aload_n hC 0 dX7_act_23 rfl (q := 24) rfl ?_
    refine gk_iconst hC (v := 1) dX7_act_24 kc_i_1 (q := 25) rfl ?_
    refine gk_callV (As := [.int 1]) (rest := []) hC (fun l => m_X7_refused l hY a0 1 M t0) ml_RX7_53 ok_X7_refused dX7_act_25 t0 ⟨by decide, rfl⟩ rfl (by decide) (Nat.le_of_ble_eq_true rfl) rfl (q := 28) rfl (fun r26 => ?_)
    show gk_K Z Y 4 gk_rI 28 [(0, .ref a0)] [.int r26.1] r26.2 _
    exact gk_iret hC hR dX7_act_28 rfl
  · refine gk_if_eq hC dX7_act_11 (tg := 23) rfl (q := 14) rfl ?_ ?_
    · refine gk_pick [0] rfl ?_
      exact hk23_24 ()
    · refine gk_iload_n hC 2 dX7_act_14 rfl (q := 15) rfl ?_
      refine gk_if_lt hC dX7_act_15 (tg := 23) rfl (q := 18) rfl ?_ ?_
      · refine gk_pick [0] rfl ?_
        exact hk23_24 ()
      · refine gk_iload_n hC 2 dX7_act_18 rfl (q := 19) rfl ?_
        refine gk_iconst hC (v := 3) dX7_act_19 kc_i_3 (q := 20) rfl ?_
        refine gk_icmp_le hC dX7_act_20 (tg := 29) rfl (q := 23) rfl ?_ ?_
        · refine gk_aload_n hC 0 dX7_act_29 rfl (q := 30) rfl ?_
          refine gk_aload_n hC 0 dX7_act_30 rfl (q := 31) rfl ?_
          refine gk_getR hC dX7_act_31 fl_RX7_34 (by decide) t0 (q := 34) rfl (fun t27 => ?_)
          refine gk_aload_n hC 0 dX7_act_34 rfl (q := 35) rfl ?_
          refine gk_getR hC dX7_act_35 fl_RX7_17 (by decide) t0 (q := 38) rfl (fun t28 => ?_)
          refine gk_getR hC dX7_act_38 fl_RX7_64 (by decide) t28 (q := 41) rfl (fun t29 => ?_)
          refine gk_getR hC dX7_act_41 fl_RX7_80 (by decide) t29 (q := 44) rfl (fun t30 => ?_)
          refine gk_iload_n hC 1 dX7_act_44 rfl (q := 45) rfl ?_
          refine gk_aald hC dX7_act_45 (Or.inr (Or.inl rfl)) t30 (q := 46) rfl (fun o31 t32 => ?_)
          refine gk_iload_n hC 1 dX7_act_46 rfl (q := 47) rfl ?_
          refine gk_iload_n hC 2 dX7_act_47 rfl (q := 48) rfl ?_
          refine gk_iload_n hC 3 dX7_act_48 rfl (q := 49) rfl ?_
          refine gk_callV (As := [.ref o31, .int a1, .int a2, .int a3]) (rest := [.ref a0]) hC (fun l => m_X0_run l hY ((gk_rf Y) a0 3) o31 a1 a2 a3 M t27 t32) ml_RX7_268 ok_X0_run dX7_act_49 t27 ⟨by decide, rfl⟩ rfl (by decide) (Nat.le_of_ble_eq_true rfl) rfl (q := 52) rfl (fun r33 => ?_)
          show gk_K Z Y 4 gk_rI 52 [(0, .ref a0), (1, .int a1), (2, .int a2), (3, .int a3)] [.int r33.1, .ref a0] r33.2 _
          refine gk_callV (As := [.int r33.1]) (rest := []) hC (fun l => m_X7_done l hY a0 r33.1 r33.2 t0) ml_RX7_57 ok_X7_done dX7_act_52 t0 ⟨by decide, rfl⟩ rfl (by decide) (Nat.le_of_ble_eq_true rfl) rfl (q := 55) rfl (fun r34 => ?_)
          show gk_K Z Y 4 gk_rI 55 [(0, .ref a0), (1, .int a1), (2, .int a2), (3, .int a3)] [.int r34.1] r34.2 _
          exact gk_iret hC hR dX7_act_55 rfl
        · refine gk_pick [0] rfl ?_
          exact hk23_24 ()
def f_X7_trace (LN : Nat → Nat) (RF : Nat → Nat → Nat) (a0 : Nat) (a1 : Int32) (M : gk_M) : Option (Int32) :=
  gk_jn (fun y21 : Int32 =>
    some y21) fun k34_21 =>
  gk_jn (fun y23 : Unit =>
    k34_21 (-1)) fun k21_23 =>
  if a1 < 0 then
    k21_23 ()
  else
  if (M.1 (RF a0 3) 1) ≤ a1 then
    k21_23 ()
  else
  if a1 < 50 then
    gk_ald LN M (RF (RF a0 3) 0) a1 fun x28 =>
    k34_21 x28
  else
  k21_23 ()
set_option maxHeartbeats 4000000 in
set_option maxRecDepth 100000 in
theorem m_X7_trace (l : Launch) {Y : gk_Y} (hY : gk_WF Y) (a0 : Nat) (a1 : Int32) (M : gk_M) (t0 : gk_T Y 17 a0) : gk_MF l Y yX7_trace cX7_trace 2 (some .int) 0 [.ref a0, .int a1] M (gk_rR M) (f_X7_trace (gk_ln Y) (gk_rf Y) a0 a1 M) := by
  refine gk_met hY (plainFor_of_name (by decide)) (Nat.le_of_ble_eq_true rfl) fun Z hC hR => ?_
  show gk_K Z Y 2 (gk_rR M) 0 [(0, .ref a0), (1, .int a1)] [] M _
  unfold f_X7_trace
  refine gk_iload_n hC 1 dX7_trace_0 rfl (q := 1) rfl ?_
  refine gk_jnR (fun k34_21 => ∀ z22 : Int32, gk_K Z Y 2 (gk_rR M) 34 [] [.int z22] M (k34_21 z22)) (fun y21 => ?_) (fun k34_21 hk34_21 => ?_)
  · show gk_K Z Y 2 (gk_rR M) 34 [] [.int y21] M _
    exact gk_iret hC hR dX7_trace_34 rfl
  · refine gk_jnR (fun k21_23 => ∀ z24 : Unit, gk_K Z Y 2 (gk_rR M) 21 [] [] M (k21_23 z24)) (fun y23 => ?_) (fun k21_23 hk21_23 => ?_)
    · show gk_K Z Y 2 (gk_rR M) 21 [] [] M _
      refine gk_iconst hC (v := (-1)) dX7_trace_21 kc_i_m1 (q := 22) rfl ?_
      refine gk_goto hC dX7_trace_22 (q := 34) rfl ?_
      exact hk34_21 (-1)
    · refine gk_if_lt hC dX7_trace_1 (tg := 21) rfl (q := 4) rfl ?_ ?_
      · refine gk_pick [] rfl ?_
        exact hk21_23 ()
      · refine gk_iload_n hC 1 dX7_trace_4 rfl (q := 5) rfl ?_
        refine gk_aload_n hC 0 dX7_trace_5 rfl (q := 6) rfl ?_
        refine gk_getR hC dX7_trace_6 fl_RX7_34 (by decide) t0 (q := 9) rfl (fun t25 => ?_)
        refine gk_getI hC dX7_trace_9 fl_RX7_265 t25 (q := 12) rfl ?_
        refine gk_icmp_ge hC dX7_trace_12 (tg := 21) rfl (q := 15) rfl ?_ ?_
        · refine gk_pick [] rfl ?_
          exact hk21_23 ()
        · refine gk_iload_n hC 1 dX7_trace_15 rfl (q := 16) rfl ?_
          refine gk_bipush hC (v := 50) dX7_trace_16 kc_b_50 (q := 18) rfl ?_
          refine gk_icmp_lt hC dX7_trace_18 (tg := 25) rfl (q := 21) rfl ?_ ?_
          · refine gk_aload_n hC 0 dX7_trace_25 rfl (q := 26) rfl ?_
            refine gk_getR hC dX7_trace_26 fl_RX7_34 (by decide) t0 (q := 29) rfl (fun t26 => ?_)
            refine gk_getR hC dX7_trace_29 fl_RX7_272 (by decide) t26 (q := 32) rfl (fun t27 => ?_)
            refine gk_iload_n hC 1 dX7_trace_32 rfl (q := 33) rfl ?_
            refine gk_iald hC dX7_trace_33 t27 (q := 34) rfl (fun x28 => ?_)
            refine gk_pick [] rfl ?_
            exact hk34_21 x28
          · refine gk_pick [] rfl ?_
            exact hk21_23 ()
def f_X7_sheet (LN : Nat → Nat) (RF : Nat → Nat → Nat) (a0 : Nat) (a1 : Int32) (a2 : Int32) (a3 : Int32) (M : gk_M) : Option (Int32 × gk_M) :=
  gk_jn (fun y21 : Int32 =>
    (f_X4_isSheet LN RF a1 M).bind fun r23 =>
    gk_jn (fun y24 : Unit =>
      (f_X7_refused LN RF a0 1 M).bind fun r26 =>
      some (r26.1, r26.2)) fun k41_24 =>
    if r23 = 0 then
      k41_24 ()
    else
    gk_jn (fun y27 : Unit =>
      (f_X4_lay LN RF (RF a0 4) a1 a2 a3 M).bind fun r30 =>
      (f_X7_done LN RF a0 1 r30).bind fun r31 =>
      some (r31.1, r31.2)) fun k47_27 =>
    if a2 = (-1) then
      k47_27 ()
    else
    if y21 = 0 then
      k41_24 ()
    else
    k47_27 ()) fun k22_21 =>
  gk_jn (fun y32 : Unit =>
    k22_21 0) fun k21_32 =>
  if a3 < 0 then
    k21_32 ()
  else
  if 40 < a3 then
    k21_32 ()
  else
  (f_X4_isSort LN RF a2 M).bind fun r34 =>
  if r34 = 0 then
    k21_32 ()
  else
  k22_21 1
set_option maxHeartbeats 4000000 in
set_option maxRecDepth 100000 in
theorem m_X7_sheet (l : Launch) {Y : gk_Y} (hY : gk_WF Y) (a0 : Nat) (a1 : Int32) (a2 : Int32) (a3 : Int32) (M : gk_M) (t0 : gk_T Y 17 a0) : gk_MF l Y yX7_sheet cX7_sheet 5 (some .int) 1 [.ref a0, .int a1, .int a2, .int a3] M gk_rI (f_X7_sheet (gk_ln Y) (gk_rf Y) a0 a1 a2 a3 M) := by
  refine gk_met hY (plainFor_of_name (by decide)) (Nat.le_of_ble_eq_true rfl) fun Z hC hR => ?_
  show gk_K Z Y 5 gk_rI 0 [(0, .ref a0), (1, .int a1), (2, .int a2), (3, .int a3)] [] M _
  unfold f_X7_sheet
  refine gk_iload_n hC 3 dX7_sheet_0 rfl (q := 1) rfl ?_
  refine gk_jnR (fun k22_21 => ∀ z22 : Int32, gk_K Z Y 5 gk_rI 22 [(0, .ref a0), (1, .int a1), (2, .int a2), (3, .int a3)] [.int z22] M (k22_21 z22)) (fun y21 => ?_) (fun k22_21 hk22_21 => ?_)
  · show gk_K Z Y 5 gk_rI 22 [(0, .ref a0), (1, .int a1), (2, .int a2), (3, .int a3)] [.int y21] M _
    refine gk_istore hC (lv' := [(0, .ref a0), (1, .int a1), (2, .int a2), (3, .int a3), (4, .int y21)]) [1, 2, 3, 4, 0] dX7_sheet_22 (by decide) rfl (q := 24) rfl ?_
    refine gk_iload_n hC 1 dX7_sheet_24 rfl (q := 25) rfl ?_
    refine gk_callS (As := [.int a1]) (rest := []) hC (fun l => m_X4_isSheet l hY a1 M) ml_RX7_278 ok_X4_isSheet dX7_sheet_25 rfl (by decide) (Nat.le_of_ble_eq_true rfl) rfl (q := 28) rfl (fun r23 => ?_)
    show gk_K Z Y 5 gk_rI 28 [(0, .ref a0), (1, .int a1), (2, .int a2), (3, .int a3), (4, .int y21)] [.int r23] M _
    refine gk_jnR (fun k41_24 => ∀ z25 : Unit, gk_K Z Y 5 gk_rI 41 [(0, .ref a0)] [] M (k41_24 z25)) (fun y24 => ?_) (fun k41_24 hk41_24 => ?_)
    · show gk_K Z Y 5 gk_rI 41 [(0, .ref a0)] [] M _
      refine gk_aload_n hC 0 dX7_sheet_41 rfl (q := 42) rfl ?_
      refine gk_iconst hC (v := 1) dX7_sheet_42 kc_i_1 (q := 43) rfl ?_
      refine gk_callV (As := [.int 1]) (rest := []) hC (fun l => m_X7_refused l hY a0 1 M t0) ml_RX7_53 ok_X7_refused dX7_sheet_43 t0 ⟨by decide, rfl⟩ rfl (by decide) (Nat.le_of_ble_eq_true rfl) rfl (q := 46) rfl (fun r26 => ?_)
      show gk_K Z Y 5 gk_rI 46 [(0, .ref a0)] [.int r26.1] r26.2 _
      exact gk_iret hC hR dX7_sheet_46 rfl
    · refine gk_if_eq hC dX7_sheet_28 (tg := 41) rfl (q := 31) rfl ?_ ?_
      · refine gk_pick [0] rfl ?_
        exact hk41_24 ()
      · refine gk_iload_n hC 2 dX7_sheet_31 rfl (q := 32) rfl ?_
        refine gk_iconst hC (v := (-1)) dX7_sheet_32 kc_i_m1 (q := 33) rfl ?_
        refine gk_jnR (fun k47_27 => ∀ z28 : Unit, gk_K Z Y 5 gk_rI 47 [(0, .ref a0), (1, .int a1), (2, .int a2), (3, .int a3)] [] M (k47_27 z28)) (fun y27 => ?_) (fun k47_27 hk47_27 => ?_)
        · show gk_K Z Y 5 gk_rI 47 [(0, .ref a0), (1, .int a1), (2, .int a2), (3, .int a3)] [] M _
          refine gk_aload_n hC 0 dX7_sheet_47 rfl (q := 48) rfl ?_
          refine gk_getR hC dX7_sheet_48 fl_RX7_41 (by decide) t0 (q := 51) rfl (fun t29 => ?_)
          refine gk_iload_n hC 1 dX7_sheet_51 rfl (q := 52) rfl ?_
          refine gk_iload_n hC 2 dX7_sheet_52 rfl (q := 53) rfl ?_
          refine gk_iload_n hC 3 dX7_sheet_53 rfl (q := 54) rfl ?_
          refine gk_callV (As := [.int a1, .int a2, .int a3]) (rest := []) hC (fun l => m_X4_lay l hY ((gk_rf Y) a0 4) a1 a2 a3 M t29) ml_RX7_281 ok_X4_lay dX7_sheet_54 t29 ⟨by decide, rfl⟩ rfl (by decide) (Nat.le_of_ble_eq_true rfl) rfl (q := 57) rfl (fun r30 => ?_)
          show gk_K Z Y 5 gk_rI 57 [(0, .ref a0), (1, .int a1), (2, .int a2), (3, .int a3)] [] r30 _
          refine gk_aload_n hC 0 dX7_sheet_57 rfl (q := 58) rfl ?_
          refine gk_iconst hC (v := 1) dX7_sheet_58 kc_i_1 (q := 59) rfl ?_
          refine gk_callV (As := [.int 1]) (rest := []) hC (fun l => m_X7_done l hY a0 1 r30 t0) ml_RX7_57 ok_X7_done dX7_sheet_59 t0 ⟨by decide, rfl⟩ rfl (by decide) (Nat.le_of_ble_eq_true rfl) rfl (q := 62) rfl (fun r31 => ?_)
          show gk_K Z Y 5 gk_rI 62 [(0, .ref a0), (1, .int a1), (2, .int a2), (3, .int a3)] [.int r31.1] r31.2 _
          exact gk_iret hC hR dX7_sheet_62 rfl
        · refine gk_icmp_eq hC dX7_sheet_33 (tg := 47) rfl (q := 36) rfl ?_ ?_
          · refine gk_pick [0, 1, 2, 3] rfl ?_
            exact hk47_27 ()
          · refine gk_iload hC 4 dX7_sheet_36 rfl (q := 38) rfl ?_
            refine gk_if_ne hC dX7_sheet_38 (tg := 47) rfl (q := 41) rfl ?_ ?_
            · refine gk_pick [0] rfl ?_
              exact hk41_24 ()
            · refine gk_pick [0, 1, 2, 3] rfl ?_
              exact hk47_27 ()
  · refine gk_jnR (fun k21_32 => ∀ z33 : Unit, gk_K Z Y 5 gk_rI 21 [(0, .ref a0), (1, .int a1), (2, .int a2), (3, .int a3)] [] M (k21_32 z33)) (fun y32 => ?_) (fun k21_32 hk21_32 => ?_)
    · show gk_K Z Y 5 gk_rI 21 [(0, .ref a0), (1, .int a1), (2, .int a2), (3, .int a3)] [] M _
      refine gk_iconst hC (v := 0) dX7_sheet_21 kc_i_0 (q := 22) rfl ?_
      exact hk22_21 0
    · refine gk_if_lt hC dX7_sheet_1 (tg := 21) rfl (q := 4) rfl ?_ ?_
      · exact hk21_32 ()
      · refine gk_iload_n hC 3 dX7_sheet_4 rfl (q := 5) rfl ?_
        refine gk_bipush hC (v := 40) dX7_sheet_5 kc_b_40 (q := 7) rfl ?_
        refine gk_icmp_gt hC dX7_sheet_7 (tg := 21) rfl (q := 10) rfl ?_ ?_
        · exact hk21_32 ()
        · refine gk_iload_n hC 2 dX7_sheet_10 rfl (q := 11) rfl ?_
          refine gk_callS (As := [.int a2]) (rest := []) hC (fun l => m_X4_isSort l hY a2 M) ml_RX7_275 ok_X4_isSort dX7_sheet_11 rfl (by decide) (Nat.le_of_ble_eq_true rfl) rfl (q := 14) rfl (fun r34 => ?_)
          show gk_K Z Y 5 gk_rI 14 [(0, .ref a0), (1, .int a1), (2, .int a2), (3, .int a3)] [.int r34] M _
          refine gk_if_eq hC dX7_sheet_14 (tg := 21) rfl (q := 17) rfl ?_ ?_
          · exact hk21_32 ()
          · refine gk_iconst hC (v := 1) dX7_sheet_17 kc_i_1 (q := 18) rfl ?_
            refine gk_goto hC dX7_sheet_18 (q := 22) rfl ?_
            exact hk22_21 1
end
