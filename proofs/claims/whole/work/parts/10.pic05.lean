noncomputable section
def lp_X6_placeOf_12 (LN : Nat → Nat) (RF : Nat → Nat → Nat) (v0 : Nat) (v1 : Int32) (v2 : Nat) (M : gk_M) (k93 : Int32 → Option (Int32)) : Nat → (Int32 × Int32) → Option (Int32)
  | 0, _ => none
  | n + 1, x =>
    if (M.1 v0 1) ≤ x.2 then
      k93 x.1
    else
    gk_aldr LN RF (RF v0 0) x.2 fun o2 =>
    gk_jn (fun y4 : Int32 =>
      gk_jn (fun y6 : Int32 =>
        lp_X6_placeOf_12 LN RF v0 v1 v2 M k93 n (y6, (x.2 + 1))) fun k87_6 =>
      if y4 = 0 then
        k87_6 x.1
      else
      (f_X5_isOnFor LN RF o2 (M.1 v2 0) M).bind fun r8 =>
      if r8 = 0 then
        k87_6 x.1
      else
      k87_6 (x.1 + 1)) fun k65_4 =>
    gk_jn (fun y9 : Unit =>
      k65_4 1) fun k60_9 =>
    if (M.1 o2 2) < (M.1 v2 2) then
      k60_9 ()
    else
    gk_jn (fun y11 : Unit =>
      k65_4 0) fun k64_11 =>
    if (M.1 o2 2) = (M.1 v2 2) then
      if v1 ≤ x.2 then
        k64_11 ()
      else
      k60_9 ()
    else
    k64_11 ()
def f_X6_placeOf (LN : Nat → Nat) (RF : Nat → Nat → Nat) (a0 : Nat) (a1 : Int32) (M : gk_M) : Option (Int32) :=
  gk_aldr LN RF (RF a0 0) a1 fun o22 =>
  gk_jn (fun y24 : Int32 =>
    some y24) fun k93_24 =>
  lp_X6_placeOf_12 LN RF a0 a1 o22 M k93_24 gk_fuel (0, 0)
set_option maxHeartbeats 4000000 in
set_option maxRecDepth 100000 in
theorem lk_X6_placeOf_12 {Z : gk_Z} {Y : gk_Y} (hY : gk_WF Y) (hC : gk_C Z Y cX6_placeOf 7 RX6 1) (hR : gk_R Z Y (some .int)) (v0 : Nat) (v1 : Int32) (v2 : Nat) (M : gk_M) (tv0 : gk_T Y 16 v0) (tv2 : gk_T Y 15 v2) (k93 : Int32 → Option (Int32)) (hk93 : ∀ z26 : Int32, gk_K Z Y 7 (gk_rR M) 93 [(3, .int z26)] [] M (k93 z26)) : ∀ (n : Nat) (x : Int32 × Int32), gk_K Z Y 7 (gk_rR M) 12 [(0, .ref v0), (1, .int v1), (2, .ref v2), (3, .int x.1), (4, .int x.2)] [] M (lp_X6_placeOf_12 (gk_ln Y) (gk_rf Y) v0 v1 v2 M k93 n x) := by
  intro n
  induction n with
  | zero => intro x; exact gk_none
  | succ n ih =>
    intro x
    rw [lp_X6_placeOf_12]
    refine gk_iload hC 4 dX6_placeOf_12 rfl (q := 14) rfl ?_
    refine gk_aload_n hC 0 dX6_placeOf_14 rfl (q := 15) rfl ?_
    refine gk_getI hC dX6_placeOf_15 fl_RX6_18 tv0 (q := 18) rfl ?_
    refine gk_icmp_ge hC dX6_placeOf_18 (tg := 93) rfl (q := 21) rfl ?_ ?_
    · refine gk_pick [3] rfl ?_
      exact hk93 x.1
    · refine gk_aload_n hC 0 dX6_placeOf_21 rfl (q := 22) rfl ?_
      refine gk_getR hC dX6_placeOf_22 fl_RX6_11 (by decide) tv0 (q := 25) rfl (fun t1 => ?_)
      refine gk_iload hC 4 dX6_placeOf_25 rfl (q := 27) rfl ?_
      refine gk_aald hC dX6_placeOf_27 (Or.inr (Or.inl rfl)) t1 (q := 28) rfl (fun o2 t3 => ?_)
      refine gk_astore hC (lv' := [(0, .ref v0), (1, .int v1), (2, .ref v2), (3, .int x.1), (4, .int x.2), (5, .ref o2)]) [1, 2, 3, 4, 5, 0] dX6_placeOf_28 (by decide) rfl (q := 30) rfl ?_
      refine gk_aload hC 5 dX6_placeOf_30 rfl (q := 32) rfl ?_
      refine gk_getI hC dX6_placeOf_32 fl_RX6_36 t3 (q := 35) rfl ?_
      refine gk_aload_n hC 2 dX6_placeOf_35 rfl (q := 36) rfl ?_
      refine gk_getI hC dX6_placeOf_36 fl_RX6_36 tv2 (q := 39) rfl ?_
      refine gk_jnR (fun k65_4 => ∀ z5 : Int32, gk_K Z Y 7 (gk_rR M) 65 [(0, .ref v0), (1, .int v1), (2, .ref v2), (3, .int x.1), (4, .int x.2), (5, .ref o2)] [.int z5] M (k65_4 z5)) (fun y4 => ?_) (fun k65_4 hk65_4 => ?_)
      · show gk_K Z Y 7 (gk_rR M) 65 [(0, .ref v0), (1, .int v1), (2, .ref v2), (3, .int x.1), (4, .int x.2), (5, .ref o2)] [.int y4] M _
        refine gk_istore hC (lv' := [(0, .ref v0), (1, .int v1), (2, .ref v2), (3, .int x.1), (4, .int x.2), (5, .ref o2), (6, .int y4)]) [1, 2, 3, 4, 5, 6, 0] dX6_placeOf_65 (by decide) rfl (q := 67) rfl ?_
        refine gk_iload hC 6 dX6_placeOf_67 rfl (q := 69) rfl ?_
        refine gk_jnR (fun k87_6 => ∀ z7 : Int32, gk_K Z Y 7 (gk_rR M) 87 [(0, .ref v0), (1, .int v1), (2, .ref v2), (3, .int z7), (4, .int x.2)] [] M (k87_6 z7)) (fun y6 => ?_) (fun k87_6 hk87_6 => ?_)
        · show gk_K Z Y 7 (gk_rR M) 87 [(0, .ref v0), (1, .int v1), (2, .ref v2), (3, .int y6), (4, .int x.2)] [] M _
          refine gk_iinc hC (v := 1) 4 (lv' := [(0, .ref v0), (1, .int v1), (2, .ref v2), (3, .int y6), (4, .int (x.2 + 1))]) [1, 2, 3, 4, 0] dX6_placeOf_87 rfl kc_i_1 (by decide) rfl (q := 90) rfl ?_
          refine gk_goto hC dX6_placeOf_90 (q := 12) rfl ?_
          exact ih (y6, (x.2 + 1))
        · refine gk_if_eq hC dX6_placeOf_69 (tg := 87) rfl (q := 72) rfl ?_ ?_
          · refine gk_pick [0, 1, 2, 3, 4] rfl ?_
            exact hk87_6 x.1
          · refine gk_aload hC 5 dX6_placeOf_72 rfl (q := 74) rfl ?_
            refine gk_aload_n hC 2 dX6_placeOf_74 rfl (q := 75) rfl ?_
            refine gk_getI hC dX6_placeOf_75 fl_RX6_30 tv2 (q := 78) rfl ?_
            refine gk_callV (As := [.int (M.1 v2 0)]) (rest := []) hC (fun l => m_X5_isOnFor l hY o2 (M.1 v2 0) M t3) ml_RX6_49 ok_X5_isOnFor dX6_placeOf_78 t3 ⟨by decide, rfl⟩ rfl (by decide) (Nat.le_of_ble_eq_true rfl) rfl (q := 81) rfl (fun r8 => ?_)
            show gk_K Z Y 7 (gk_rR M) 81 [(0, .ref v0), (1, .int v1), (2, .ref v2), (3, .int x.1), (4, .int x.2), (5, .ref o2), (6, .int y4)] [.int r8] M _
            refine gk_if_eq hC dX6_placeOf_81 (tg := 87) rfl (q := 84) rfl ?_ ?_
            · refine gk_pick [0, 1, 2, 3, 4] rfl ?_
              exact hk87_6 x.1
            · refine gk_iinc hC (v := 1) 3 (lv' := [(0, .ref v0), (1, .int v1), (2, .ref v2), (3, .int (x.1 + 1)), (4, .int x.2)]) [1, 2, 3, 0, 4] dX6_placeOf_84 rfl kc_i_1 (by decide) rfl (q := 87) rfl ?_
              exact hk87_6 (x.1 + 1)
      · refine gk_jnR (fun k60_9 => ∀ z10 : Unit, gk_K Z Y 7 (gk_rR M) 60 [(0, .ref v0), (1, .int v1), (2, .ref v2), (3, .int x.1), (4, .int x.2), (5, .ref o2)] [] M (k60_9 z10)) (fun y9 => ?_) (fun k60_9 hk60_9 => ?_)
        · show gk_K Z Y 7 (gk_rR M) 60 [(0, .ref v0), (1, .int v1), (2, .ref v2), (3, .int x.1), (4, .int x.2), (5, .ref o2)] [] M _
          refine gk_iconst hC (v := 1) dX6_placeOf_60 kc_i_1 (q := 61) rfl ?_
          refine gk_goto hC dX6_placeOf_61 (q := 65) rfl ?_
          exact hk65_4 1
        · refine gk_icmp_lt hC dX6_placeOf_39 (tg := 60) rfl (q := 42) rfl ?_ ?_
          · exact hk60_9 ()
          · refine gk_aload hC 5 dX6_placeOf_42 rfl (q := 44) rfl ?_
            refine gk_getI hC dX6_placeOf_44 fl_RX6_36 t3 (q := 47) rfl ?_
            refine gk_aload_n hC 2 dX6_placeOf_47 rfl (q := 48) rfl ?_
            refine gk_getI hC dX6_placeOf_48 fl_RX6_36 tv2 (q := 51) rfl ?_
            refine gk_jnR (fun k64_11 => ∀ z12 : Unit, gk_K Z Y 7 (gk_rR M) 64 [(0, .ref v0), (1, .int v1), (2, .ref v2), (3, .int x.1), (4, .int x.2), (5, .ref o2)] [] M (k64_11 z12)) (fun y11 => ?_) (fun k64_11 hk64_11 => ?_)
            · show gk_K Z Y 7 (gk_rR M) 64 [(0, .ref v0), (1, .int v1), (2, .ref v2), (3, .int x.1), (4, .int x.2), (5, .ref o2)] [] M _
              refine gk_iconst hC (v := 0) dX6_placeOf_64 kc_i_0 (q := 65) rfl ?_
              exact hk65_4 0
            · refine gk_icmp_ne hC dX6_placeOf_51 (tg := 64) rfl (q := 54) rfl ?_ ?_
              · refine gk_iload hC 4 dX6_placeOf_54 rfl (q := 56) rfl ?_
                refine gk_iload_n hC 1 dX6_placeOf_56 rfl (q := 57) rfl ?_
                refine gk_icmp_ge hC dX6_placeOf_57 (tg := 64) rfl (q := 60) rfl ?_ ?_
                · exact hk64_11 ()
                · exact hk60_9 ()
              · exact hk64_11 ()
set_option maxHeartbeats 4000000 in
set_option maxRecDepth 100000 in
theorem m_X6_placeOf (l : Launch) {Y : gk_Y} (hY : gk_WF Y) (a0 : Nat) (a1 : Int32) (M : gk_M) (t0 : gk_T Y 16 a0) : gk_MF l Y yX6_placeOf cX6_placeOf 7 (some .int) 1 [.ref a0, .int a1] M (gk_rR M) (f_X6_placeOf (gk_ln Y) (gk_rf Y) a0 a1 M) := by
  refine gk_met hY (plainFor_of_name (by decide)) (Nat.le_of_ble_eq_true rfl) fun Z hC hR => ?_
  show gk_K Z Y 7 (gk_rR M) 0 [(0, .ref a0), (1, .int a1)] [] M _
  unfold f_X6_placeOf
  refine gk_aload_n hC 0 dX6_placeOf_0 rfl (q := 1) rfl ?_
  refine gk_getR hC dX6_placeOf_1 fl_RX6_11 (by decide) t0 (q := 4) rfl (fun t21 => ?_)
  refine gk_iload_n hC 1 dX6_placeOf_4 rfl (q := 5) rfl ?_
  refine gk_aald hC dX6_placeOf_5 (Or.inr (Or.inl rfl)) t21 (q := 6) rfl (fun o22 t23 => ?_)
  refine gk_astore_n hC (lv' := [(0, .ref a0), (1, .int a1), (2, .ref o22)]) [1, 2, 0] dX6_placeOf_6 (by decide) rfl (q := 7) rfl ?_
  refine gk_iconst hC (v := 0) dX6_placeOf_7 kc_i_0 (q := 8) rfl ?_
  refine gk_istore_n hC (lv' := [(0, .ref a0), (1, .int a1), (2, .ref o22), (3, .int 0)]) [1, 2, 3, 0] dX6_placeOf_8 (by decide) rfl (q := 9) rfl ?_
  refine gk_iconst hC (v := 0) dX6_placeOf_9 kc_i_0 (q := 10) rfl ?_
  refine gk_istore hC (lv' := [(0, .ref a0), (1, .int a1), (2, .ref o22), (3, .int 0), (4, .int 0)]) [1, 2, 3, 4, 0] dX6_placeOf_10 (by decide) rfl (q := 12) rfl ?_
  refine gk_jnR (fun k93_24 => ∀ z25 : Int32, gk_K Z Y 7 (gk_rR M) 93 [(3, .int z25)] [] M (k93_24 z25)) (fun y24 => ?_) (fun k93_24 hk93_24 => ?_)
  · show gk_K Z Y 7 (gk_rR M) 93 [(3, .int y24)] [] M _
    refine gk_iload_n hC 0 dX6_placeOf_93 rfl (q := 94) rfl ?_
    exact gk_iret hC hR dX6_placeOf_94 rfl
  · exact lk_X6_placeOf_12 hY hC hR a0 a1 o22 M t0 t23 k93_24 hk93_24 gk_fuel (0, 0)
def lp_X6_inOrder_2 (LN : Nat → Nat) (RF : Nat → Nat → Nat) (v0 : Nat) (v1 : Int32) (v2 : Int32) (M : gk_M) (k40 : Unit → Option (Int32)) : Nat → Int32 → Option (Int32)
  | 0, _ => none
  | n + 1, x =>
    if (M.1 v0 1) ≤ x then
      k40 ()
    else
    gk_aldr LN RF (RF v0 0) x fun o2 =>
    (f_X5_isOnFor LN RF o2 v1 M).bind fun r4 =>
    gk_jn (fun y5 : Unit =>
      lp_X6_inOrder_2 LN RF v0 v1 v2 M k40 n (x + 1)) fun k34_5 =>
    if r4 = 0 then
      k34_5 ()
    else
    (f_X6_placeOf LN RF v0 x M).bind fun r7 =>
    if r7 = v2 then
      some x
    else
    k34_5 ()
def f_X6_inOrder (LN : Nat → Nat) (RF : Nat → Nat → Nat) (a0 : Nat) (a1 : Int32) (a2 : Int32) (M : gk_M) : Option (Int32) :=
  gk_jn (fun y21 : Unit =>
    some (-1)) fun k40_21 =>
  lp_X6_inOrder_2 LN RF a0 a1 a2 M k40_21 gk_fuel 0
set_option maxHeartbeats 4000000 in
set_option maxRecDepth 100000 in
theorem lk_X6_inOrder_2 {Z : gk_Z} {Y : gk_Y} (hY : gk_WF Y) (hC : gk_C Z Y cX6_inOrder 4 RX6 2) (hR : gk_R Z Y (some .int)) (v0 : Nat) (v1 : Int32) (v2 : Int32) (M : gk_M) (tv0 : gk_T Y 16 v0) (k40 : Unit → Option (Int32)) (hk40 : ∀ z23 : Unit, gk_K Z Y 4 (gk_rR M) 40 [] [] M (k40 z23)) : ∀ (n : Nat) (x : Int32), gk_K Z Y 4 (gk_rR M) 2 [(0, .ref v0), (1, .int v1), (2, .int v2), (3, .int x)] [] M (lp_X6_inOrder_2 (gk_ln Y) (gk_rf Y) v0 v1 v2 M k40 n x) := by
  intro n
  induction n with
  | zero => intro x; exact gk_none
  | succ n ih =>
    intro x
    rw [lp_X6_inOrder_2]
    refine gk_iload_n hC 3 dX6_inOrder_2 rfl (q := 3) rfl ?_
    refine gk_aload_n hC 0 dX6_inOrder_3 rfl (q := 4) rfl ?_
    refine gk_getI hC dX6_inOrder_4 fl_RX6_18 tv0 (q := 7) rfl ?_
    refine gk_icmp_ge hC dX6_inOrder_7 (tg := 40) rfl (q := 10) rfl ?_ ?_
    · refine gk_pick [] rfl ?_
      exact hk40 ()
    · refine gk_aload_n hC 0 dX6_inOrder_10 rfl (q := 11) rfl ?_
      refine gk_getR hC dX6_inOrder_11 fl_RX6_11 (by decide) tv0 (q := 14) rfl (fun t1 => ?_)
      refine gk_iload_n hC 3 dX6_inOrder_14 rfl (q := 15) rfl ?_
      refine gk_aald hC dX6_inOrder_15 (Or.inr (Or.inl rfl)) t1 (q := 16) rfl (fun o2 t3 => ?_)
      refine gk_iload_n hC 1 dX6_inOrder_16 rfl (q := 17) rfl ?_
      refine gk_callV (As := [.int v1]) (rest := []) hC (fun l => m_X5_isOnFor l hY o2 v1 M t3) ml_RX6_49 ok_X5_isOnFor dX6_inOrder_17 t3 ⟨by decide, rfl⟩ rfl (by decide) (Nat.le_of_ble_eq_true rfl) rfl (q := 20) rfl (fun r4 => ?_)
      show gk_K Z Y 4 (gk_rR M) 20 [(0, .ref v0), (1, .int v1), (2, .int v2), (3, .int x)] [.int r4] M _
      refine gk_jnR (fun k34_5 => ∀ z6 : Unit, gk_K Z Y 4 (gk_rR M) 34 [(0, .ref v0), (1, .int v1), (2, .int v2), (3, .int x)] [] M (k34_5 z6)) (fun y5 => ?_) (fun k34_5 hk34_5 => ?_)
      · show gk_K Z Y 4 (gk_rR M) 34 [(0, .ref v0), (1, .int v1), (2, .int v2), (3, .int x)] [] M _
        refine gk_iinc hC (v := 1) 3 (lv' := [(0, .ref v0), (1, .int v1), (2, .int v2), (3, .int (x + 1))]) [1, 2, 3, 0] dX6_inOrder_34 rfl kc_i_1 (by decide) rfl (q := 37) rfl ?_
        refine gk_goto hC dX6_inOrder_37 (q := 2) rfl ?_
        exact ih (x + 1)
      · refine gk_if_eq hC dX6_inOrder_20 (tg := 34) rfl (q := 23) rfl ?_ ?_
        · exact hk34_5 ()
        · refine gk_aload_n hC 0 dX6_inOrder_23 rfl (q := 24) rfl ?_
          refine gk_iload_n hC 3 dX6_inOrder_24 rfl (q := 25) rfl ?_
          refine gk_callV (As := [.int x]) (rest := []) hC (fun l => m_X6_placeOf l hY v0 x M tv0) ml_RX6_53 ok_X6_placeOf dX6_inOrder_25 tv0 ⟨by decide, rfl⟩ rfl (by decide) (Nat.le_of_ble_eq_true rfl) rfl (q := 28) rfl (fun r7 => ?_)
          show gk_K Z Y 4 (gk_rR M) 28 [(0, .ref v0), (1, .int v1), (2, .int v2), (3, .int x)] [.int r7] M _
          refine gk_iload_n hC 2 dX6_inOrder_28 rfl (q := 29) rfl ?_
          refine gk_icmp_ne hC dX6_inOrder_29 (tg := 34) rfl (q := 32) rfl ?_ ?_
          · refine gk_iload_n hC 3 dX6_inOrder_32 rfl (q := 33) rfl ?_
            exact gk_iret hC hR dX6_inOrder_33 rfl
          · exact hk34_5 ()
set_option maxHeartbeats 4000000 in
set_option maxRecDepth 100000 in
theorem m_X6_inOrder (l : Launch) {Y : gk_Y} (hY : gk_WF Y) (a0 : Nat) (a1 : Int32) (a2 : Int32) (M : gk_M) (t0 : gk_T Y 16 a0) : gk_MF l Y yX6_inOrder cX6_inOrder 4 (some .int) 2 [.ref a0, .int a1, .int a2] M (gk_rR M) (f_X6_inOrder (gk_ln Y) (gk_rf Y) a0 a1 a2 M) := by
  refine gk_met hY (plainFor_of_name (by decide)) (Nat.le_of_ble_eq_true rfl) fun Z hC hR => ?_
  show gk_K Z Y 4 (gk_rR M) 0 [(0, .ref a0), (1, .int a1), (2, .int a2)] [] M _
  unfold f_X6_inOrder
  refine gk_iconst hC (v := 0) dX6_inOrder_0 kc_i_0 (q := 1) rfl ?_
  refine gk_istore_n hC (lv' := [(0, .ref a0), (1, .int a1), (2, .int a2), (3, .int 0)]) [1, 2, 3, 0] dX6_inOrder_1 (by decide) rfl (q := 2) rfl ?_
  refine gk_jnR (fun k40_21 => ∀ z22 : Unit, gk_K Z Y 4 (gk_rR M) 40 [] [] M (k40_21 z22)) (fun y21 => ?_) (fun k40_21 hk40_21 => ?_)
  · show gk_K Z Y 4 (gk_rR M) 40 [] [] M _
    refine gk_iconst hC (v := (-1)) dX6_inOrder_40 kc_i_m1 (q := 41) rfl ?_
    exact gk_iret hC hR dX6_inOrder_41 rfl
  · exact lk_X6_inOrder_2 hY hC hR a0 a1 a2 M t0 k40_21 hk40_21 gk_fuel 0
def lp_X6_leaveAlone_2 (LN : Nat → Nat) (RF : Nat → Nat → Nat) (v0 : Nat) (v1 : Int32) (k47 : gk_M → Option (gk_M)) : Nat → (Int32 × gk_M) → Option (gk_M)
  | 0, _ => none
  | n + 1, x =>
    if (x.2.1 v0 1) ≤ x.1 then
      k47 x.2
    else
    gk_aldr LN RF (RF v0 0) x.1 fun o2 =>
    (f_X5_isOfThoseThatAct LN RF o2 x.2).bind fun r4 =>
    gk_jn (fun y5 : gk_M =>
      lp_X6_leaveAlone_2 LN RF v0 v1 k47 n ((x.1 + 1), y5)) fun k41_5 =>
    if r4 = 0 then
      k41_5 x.2
    else
    gk_aldr LN RF (RF v0 0) x.1 fun o8 =>
    gk_jn (fun y10 : Int32 =>
      gk_putz x.2 o8 5 y10 fun M12 =>
      k41_5 M12) fun k38_10 =>
    if x.1 = v1 then
      k38_10 1
    else
    k38_10 0
def f_X6_leaveAlone (LN : Nat → Nat) (RF : Nat → Nat → Nat) (a0 : Nat) (a1 : Int32) (M : gk_M) : Option (gk_M) :=
  gk_jn (fun y21 : gk_M =>
    some y21) fun k47_21 =>
  lp_X6_leaveAlone_2 LN RF a0 a1 k47_21 gk_fuel (0, M)
set_option maxHeartbeats 4000000 in
set_option maxRecDepth 100000 in
theorem lk_X6_leaveAlone_2 {Z : gk_Z} {Y : gk_Y} (hY : gk_WF Y) (hC : gk_C Z Y cX6_leaveAlone 3 RX6 1) (hR : gk_R Z Y none) (v0 : Nat) (v1 : Int32) (tv0 : gk_T Y 16 v0) (k47 : gk_M → Option (gk_M)) (hk47 : ∀ z23 : gk_M, gk_K Z Y 3 gk_rV 47 [] [] z23 (k47 z23)) : ∀ (n : Nat) (x : Int32 × gk_M), gk_K Z Y 3 gk_rV 2 [(0, .ref v0), (1, .int v1), (2, .int x.1)] [] x.2 (lp_X6_leaveAlone_2 (gk_ln Y) (gk_rf Y) v0 v1 k47 n x) := by
  intro n
  induction n with
  | zero => intro x; exact gk_none
  | succ n ih =>
    intro x
    rw [lp_X6_leaveAlone_2]
    refine gk_iload_n hC 2 dX6_leaveAlone_2 rfl (q := 3) rfl ?_
    refine gk_aload_n hC 0 dX6_leaveAlone_3 rfl (q := 4) rfl ?_
    refine gk_getI hC dX6_leaveAlone_4 fl_RX6_18 tv0 (q := 7) rfl ?_
    refine gk_icmp_ge hC dX6_leaveAlone_7 (tg := 47) rfl (q := 10) rfl ?_ ?_
    · refine gk_pick [] rfl ?_
      exact hk47 x.2
    · refine gk_aload_n hC 0 dX6_leaveAlone_10 rfl (q := 11) rfl ?_
      refine gk_getR hC dX6_leaveAlone_11 fl_RX6_11 (by decide) tv0 (q := 14) rfl (fun t1 => ?_)
      refine gk_iload_n hC 2 dX6_leaveAlone_14 rfl (q := 15) rfl ?_
      refine gk_aald hC dX6_leaveAlone_15 (Or.inr (Or.inl rfl)) t1 (q := 16) rfl (fun o2 t3 => ?_)
      refine gk_callV (As := []) (rest := []) hC (fun l => m_X5_isOfThoseThatAct l hY o2 x.2 t3) ml_RX6_57 ok_X5_isOfThoseThatAct dX6_leaveAlone_16 t3 ⟨by decide, rfl⟩ rfl (by decide) (Nat.le_of_ble_eq_true rfl) rfl (q := 19) rfl (fun r4 => ?_)
      show gk_K Z Y 3 gk_rV 19 [(0, .ref v0), (1, .int v1), (2, .int x.1)] [.int r4] x.2 _
      refine gk_jnR (fun k41_5 => ∀ z6 : gk_M, gk_K Z Y 3 gk_rV 41 [(0, .ref v0), (1, .int v1), (2, .int x.1)] [] z6 (k41_5 z6)) (fun y5 => ?_) (fun k41_5 hk41_5 => ?_)
      · show gk_K Z Y 3 gk_rV 41 [(0, .ref v0), (1, .int v1), (2, .int x.1)] [] y5 _
        refine gk_iinc hC (v := 1) 2 (lv' := [(0, .ref v0), (1, .int v1), (2, .int (x.1 + 1))]) [1, 2, 0] dX6_leaveAlone_41 rfl kc_i_1 (by decide) rfl (q := 44) rfl ?_
        refine gk_goto hC dX6_leaveAlone_44 (q := 2) rfl ?_
        exact ih ((x.1 + 1), y5)
      · refine gk_if_eq hC dX6_leaveAlone_19 (tg := 41) rfl (q := 22) rfl ?_ ?_
        · exact hk41_5 x.2
        · refine gk_aload_n hC 0 dX6_leaveAlone_22 rfl (q := 23) rfl ?_
          refine gk_getR hC dX6_leaveAlone_23 fl_RX6_11 (by decide) tv0 (q := 26) rfl (fun t7 => ?_)
          refine gk_iload_n hC 2 dX6_leaveAlone_26 rfl (q := 27) rfl ?_
          refine gk_aald hC dX6_leaveAlone_27 (Or.inr (Or.inl rfl)) t7 (q := 28) rfl (fun o8 t9 => ?_)
          refine gk_iload_n hC 2 dX6_leaveAlone_28 rfl (q := 29) rfl ?_
          refine gk_iload_n hC 1 dX6_leaveAlone_29 rfl (q := 30) rfl ?_
          refine gk_jnR (fun k38_10 => ∀ z11 : Int32, gk_K Z Y 3 gk_rV 38 [(0, .ref v0), (1, .int v1), (2, .int x.1)] [.int z11, .ref o8] x.2 (k38_10 z11)) (fun y10 => ?_) (fun k38_10 hk38_10 => ?_)
          · show gk_K Z Y 3 gk_rV 38 [(0, .ref v0), (1, .int v1), (2, .int x.1)] [.int y10, .ref o8] x.2 _
            refine gk_putZ hC dX6_leaveAlone_38 fp_RX6_45 t9 (q := 41) rfl (fun M12 => ?_)
            exact hk41_5 M12
          · refine gk_icmp_ne hC dX6_leaveAlone_30 (tg := 37) rfl (q := 33) rfl ?_ ?_
            · refine gk_iconst hC (v := 1) dX6_leaveAlone_33 kc_i_1 (q := 34) rfl ?_
              refine gk_goto hC dX6_leaveAlone_34 (q := 38) rfl ?_
              exact hk38_10 1
            · refine gk_iconst hC (v := 0) dX6_leaveAlone_37 kc_i_0 (q := 38) rfl ?_
              exact hk38_10 0
set_option maxHeartbeats 4000000 in
set_option maxRecDepth 100000 in
theorem m_X6_leaveAlone (l : Launch) {Y : gk_Y} (hY : gk_WF Y) (a0 : Nat) (a1 : Int32) (M : gk_M) (t0 : gk_T Y 16 a0) : gk_MF l Y yX6_leaveAlone cX6_leaveAlone 3 none 1 [.ref a0, .int a1] M gk_rV (f_X6_leaveAlone (gk_ln Y) (gk_rf Y) a0 a1 M) := by
  refine gk_met hY (plainFor_of_name (by decide)) (Nat.le_of_ble_eq_true rfl) fun Z hC hR => ?_
  show gk_K Z Y 3 gk_rV 0 [(0, .ref a0), (1, .int a1)] [] M _
  unfold f_X6_leaveAlone
  refine gk_iconst hC (v := 0) dX6_leaveAlone_0 kc_i_0 (q := 1) rfl ?_
  refine gk_istore_n hC (lv' := [(0, .ref a0), (1, .int a1), (2, .int 0)]) [1, 2, 0] dX6_leaveAlone_1 (by decide) rfl (q := 2) rfl ?_
  refine gk_jnR (fun k47_21 => ∀ z22 : gk_M, gk_K Z Y 3 gk_rV 47 [] [] z22 (k47_21 z22)) (fun y21 => ?_) (fun k47_21 hk47_21 => ?_)
  · show gk_K Z Y 3 gk_rV 47 [] [] y21 _
    exact gk_vret hC hR dX6_leaveAlone_47 rfl
  · exact lk_X6_leaveAlone_2 hY hC hR a0 a1 t0 k47_21 hk47_21 gk_fuel (0, M)
def f_X7_refused (LN : Nat → Nat) (RF : Nat → Nat → Nat) (a0 : Nat) (a1 : Int32) (M : gk_M) : Option (Int32 × gk_M) :=
  gk_put M a0 9 a1 fun M21 =>
  some ((-1), M21)
set_option maxHeartbeats 4000000 in
set_option maxRecDepth 100000 in
theorem m_X7_refused (l : Launch) {Y : gk_Y} (hY : gk_WF Y) (a0 : Nat) (a1 : Int32) (M : gk_M) (t0 : gk_T Y 17 a0) : gk_MF l Y yX7_refused cX7_refused 2 (some .int) 0 [.ref a0, .int a1] M gk_rI (f_X7_refused (gk_ln Y) (gk_rf Y) a0 a1 M) := by
  refine gk_met hY (plainFor_of_name (by decide)) (Nat.le_of_ble_eq_true rfl) fun Z hC hR => ?_
  show gk_K Z Y 2 gk_rI 0 [(0, .ref a0), (1, .int a1)] [] M _
  unfold f_X7_refused
  refine gk_aload_n hC 0 dX7_refused_0 rfl (q := 1) rfl ?_
  refine gk_iload_n hC 1 dX7_refused_1 rfl (q := 2) rfl ?_
  refine gk_putI hC dX7_refused_2 fp_RX7_318 t0 (q := 5) rfl (fun M21 => ?_)
  refine gk_iconst hC (v := (-1)) dX7_refused_5 kc_i_m1 (q := 6) rfl ?_
  exact gk_iret hC hR dX7_refused_6 rfl
def f_X7_done (LN : Nat → Nat) (RF : Nat → Nat → Nat) (a0 : Nat) (a1 : Int32) (M : gk_M) : Option (Int32 × gk_M) :=
  gk_put M a0 9 0 fun M21 =>
  some (a1, M21)
set_option maxHeartbeats 4000000 in
set_option maxRecDepth 100000 in
theorem m_X7_done (l : Launch) {Y : gk_Y} (hY : gk_WF Y) (a0 : Nat) (a1 : Int32) (M : gk_M) (t0 : gk_T Y 17 a0) : gk_MF l Y yX7_done cX7_done 2 (some .int) 0 [.ref a0, .int a1] M gk_rI (f_X7_done (gk_ln Y) (gk_rf Y) a0 a1 M) := by
  refine gk_met hY (plainFor_of_name (by decide)) (Nat.le_of_ble_eq_true rfl) fun Z hC hR => ?_
  show gk_K Z Y 2 gk_rI 0 [(0, .ref a0), (1, .int a1)] [] M _
  unfold f_X7_done
  refine gk_aload_n hC 0 dX7_done_0 rfl (q := 1) rfl ?_
  refine gk_iconst hC (v := 0) dX7_done_1 kc_i_0 (q := 2) rfl ?_
  refine gk_putI hC dX7_done_2 fp_RX7_318 t0 (q := 5) rfl (fun M21 => ?_)
  refine gk_iload_n hC 1 dX7_done_5 rfl (q := 6) rfl ?_
  exact gk_iret hC hR dX7_done_6 rfl
def f_X7_line (LN : Nat → Nat) (RF : Nat → Nat → Nat) (a0 : Nat) (M : gk_M) : Option (Int32 × gk_M) :=
  if (M.1 (RF a0 0) 7) < 8 then
    gk_put M (RF a0 0) 7 ((M.1 (RF a0 0) 7) + 1) fun M23 =>
    (f_X7_done LN RF a0 ((M23.1 (RF a0 0) 7) - 1) M23).bind fun r25 =>
    some (r25.1, r25.2)
  else
  (f_X7_refused LN RF a0 2 M).bind fun r26 =>
  some (r26.1, r26.2)
set_option maxHeartbeats 4000000 in
set_option maxRecDepth 100000 in
theorem m_X7_line (l : Launch) {Y : gk_Y} (hY : gk_WF Y) (a0 : Nat) (M : gk_M) (t0 : gk_T Y 17 a0) : gk_MF l Y yX7_line cX7_line 1 (some .int) 1 [.ref a0] M gk_rI (f_X7_line (gk_ln Y) (gk_rf Y) a0 M) := by
  refine gk_met hY (plainFor_of_name (by decide)) (Nat.le_of_ble_eq_true rfl) fun Z hC hR => ?_
  show gk_K Z Y 1 gk_rI 0 [(0, .ref a0)] [] M _
  unfold f_X7_line
  refine gk_aload_n hC 0 dX7_line_0 rfl (q := 1) rfl ?_
  refine gk_getR hC dX7_line_1 fl_RX7_17 (by decide) t0 (q := 4) rfl (fun t21 => ?_)
  refine gk_getI hC dX7_line_4 fl_RX7_49 t21 (q := 7) rfl ?_
  refine gk_bipush hC (v := 8) dX7_line_7 kc_b_8 (q := 9) rfl ?_
  refine gk_icmp_lt hC dX7_line_9 (tg := 18) rfl (q := 12) rfl ?_ ?_
  · refine gk_aload_n hC 0 dX7_line_18 rfl (q := 19) rfl ?_
    refine gk_getR hC dX7_line_19 fl_RX7_17 (by decide) t0 (q := 22) rfl (fun t22 => ?_)
    refine gk_dup hC dX7_line_22 rfl (q := 23) rfl ?_
    refine gk_getI hC dX7_line_23 fl_RX7_49 t22 (q := 26) rfl ?_
    refine gk_iconst hC (v := 1) dX7_line_26 kc_i_1 (q := 27) rfl ?_
    refine gk_iadd hC dX7_line_27 (q := 28) rfl ?_
    refine gk_putI hC dX7_line_28 fp_RX7_49 t22 (q := 31) rfl (fun M23 => ?_)
    refine gk_aload_n hC 0 dX7_line_31 rfl (q := 32) rfl ?_
    refine gk_aload_n hC 0 dX7_line_32 rfl (q := 33) rfl ?_
    refine gk_getR hC dX7_line_33 fl_RX7_17 (by decide) t0 (q := 36) rfl (fun t24 => ?_)
    refine gk_getI hC dX7_line_36 fl_RX7_49 t24 (q := 39) rfl ?_
    refine gk_iconst hC (v := 1) dX7_line_39 kc_i_1 (q := 40) rfl ?_
    refine gk_isub hC dX7_line_40 (q := 41) rfl ?_
    refine gk_callV (As := [.int ((M23.1 ((gk_rf Y) a0 0) 7) - 1)]) (rest := []) hC (fun l => m_X7_done l hY a0 ((M23.1 ((gk_rf Y) a0 0) 7) - 1) M23 t0) ml_RX7_57 ok_X7_done dX7_line_41 t0 ⟨by decide, rfl⟩ rfl (by decide) (Nat.le_of_ble_eq_true rfl) rfl (q := 44) rfl (fun r25 => ?_)
    show gk_K Z Y 1 gk_rI 44 [(0, .ref a0)] [.int r25.1] r25.2 _
    exact gk_iret hC hR dX7_line_44 rfl
  · refine gk_aload_n hC 0 dX7_line_12 rfl (q := 13) rfl ?_
    refine gk_iconst hC (v := 2) dX7_line_13 kc_i_2 (q := 14) rfl ?_
    refine gk_callV (As := [.int 2]) (rest := []) hC (fun l => m_X7_refused l hY a0 2 M t0) ml_RX7_53 ok_X7_refused dX7_line_14 t0 ⟨by decide, rfl⟩ rfl (by decide) (Nat.le_of_ble_eq_true rfl) rfl (q := 17) rfl (fun r26 => ?_)
    show gk_K Z Y 1 gk_rI 17 [(0, .ref a0)] [.int r26.1] r26.2 _
    exact gk_iret hC hR dX7_line_17 rfl
def f_X7_isRank (LN : Nat → Nat) (RF : Nat → Nat → Nat) (a0 : Int32) (M : gk_M) : Option (Int32) :=
  gk_jn (fun y21 : Int32 =>
    gk_zz y21 (some y21)) fun k15_21 =>
  gk_jn (fun y23 : Unit =>
    k15_21 0) fun k14_23 =>
  if a0 < 0 then
    k14_23 ()
  else
  if 9 < a0 then
    k14_23 ()
  else
  k15_21 1
set_option maxHeartbeats 4000000 in
set_option maxRecDepth 100000 in
theorem m_X7_isRank (l : Launch) {Y : gk_Y} (hY : gk_WF Y) (a0 : Int32) (M : gk_M)  : gk_MF l Y yX7_isRank cX7_isRank 1 (some .boolean) 0 [.int a0] M (gk_rR M) (f_X7_isRank (gk_ln Y) (gk_rf Y) a0 M) := by
  refine gk_met hY (plainFor_of_name (by decide)) (Nat.le_of_ble_eq_true rfl) fun Z hC hR => ?_
  show gk_K Z Y 1 (gk_rR M) 0 [(0, .int a0)] [] M _
  unfold f_X7_isRank
  refine gk_iload_n hC 0 dX7_isRank_0 rfl (q := 1) rfl ?_
  refine gk_jnR (fun k15_21 => ∀ z22 : Int32, gk_K Z Y 1 (gk_rR M) 15 [] [.int z22] M (k15_21 z22)) (fun y21 => ?_) (fun k15_21 hk15_21 => ?_)
  · show gk_K Z Y 1 (gk_rR M) 15 [] [.int y21] M _
    exact gk_zzR (fun hv => gk_zret hC hR dX7_isRank_15 hv rfl)
  · refine gk_jnR (fun k14_23 => ∀ z24 : Unit, gk_K Z Y 1 (gk_rR M) 14 [] [] M (k14_23 z24)) (fun y23 => ?_) (fun k14_23 hk14_23 => ?_)
    · show gk_K Z Y 1 (gk_rR M) 14 [] [] M _
      refine gk_iconst hC (v := 0) dX7_isRank_14 kc_i_0 (q := 15) rfl ?_
      exact hk15_21 0
    · refine gk_if_lt hC dX7_isRank_1 (tg := 14) rfl (q := 4) rfl ?_ ?_
      · refine gk_pick [] rfl ?_
        exact hk14_23 ()
      · refine gk_iload_n hC 0 dX7_isRank_4 rfl (q := 5) rfl ?_
        refine gk_bipush hC (v := 9) dX7_isRank_5 kc_b_9 (q := 7) rfl ?_
        refine gk_icmp_gt hC dX7_isRank_7 (tg := 14) rfl (q := 10) rfl ?_ ?_
        · refine gk_pick [] rfl ?_
          exact hk14_23 ()
        · refine gk_iconst hC (v := 1) dX7_isRank_10 kc_i_1 (q := 11) rfl ?_
          refine gk_goto hC dX7_isRank_11 (q := 15) rfl ?_
          refine gk_pick [] rfl ?_
          exact hk15_21 1
def f_X7_isWish (LN : Nat → Nat) (RF : Nat → Nat → Nat) (a0 : Nat) (a1 : Int32) (a2 : Int32) (a3 : Int32) (a4 : Int32) (a5 : Int32) (M : gk_M) : Option (Int32) :=
  (f_X2_isLine LN RF (RF a0 0) a1 M).bind fun r22 =>
  gk_jn (fun y23 : Int32 =>
    gk_jn (fun y25 : Int32 =>
      gk_jn (fun y27 : Int32 =>
        gk_zz y27 (some y27)) fun k99_27 =>
      gk_jn (fun y29 : Unit =>
        k99_27 0) fun k98_29 =>
      if y23 = 0 then
        k98_29 ()
      else
      gk_jn (fun y31 : Unit =>
        k99_27 1) fun k94_31 =>
      if a2 = 1 then
        if y25 = 0 then
          k94_31 ()
        else
        k98_29 ()
      else
      k94_31 ()) fun k77_25 =>
    gk_jn (fun y33 : Unit =>
      k77_25 1) fun k72_33 =>
    if a5 = 2 then
      k72_33 ()
    else
    if a5 ≤ 11 then
      k77_25 0
    else
    k72_33 ()) fun k57_23 =>
  gk_jn (fun y35 : Unit =>
    k57_23 0) fun k56_35 =>
  if r22 = 0 then
    k56_35 ()
  else
  (f_X2_isLine LN RF (RF a0 0) a4 M).bind fun r38 =>
  if r38 = 0 then
    k56_35 ()
  else
  if a2 < 0 then
    k56_35 ()
  else
  if 8 ≤ a2 then
    k56_35 ()
  else
  (f_X7_isRank LN RF a3 M).bind fun r39 =>
  if r39 = 0 then
    k56_35 ()
  else
  if a5 < 0 then
    k56_35 ()
  else
  if 31 < a5 then
    k56_35 ()
  else
  k57_23 1
set_option maxHeartbeats 4000000 in
set_option maxRecDepth 100000 in
theorem m_X7_isWish (l : Launch) {Y : gk_Y} (hY : gk_WF Y) (a0 : Nat) (a1 : Int32) (a2 : Int32) (a3 : Int32) (a4 : Int32) (a5 : Int32) (M : gk_M) (t0 : gk_T Y 17 a0) : gk_MF l Y yX7_isWish cX7_isWish 8 (some .boolean) 1 [.ref a0, .int a1, .int a2, .int a3, .int a4, .int a5] M (gk_rR M) (f_X7_isWish (gk_ln Y) (gk_rf Y) a0 a1 a2 a3 a4 a5 M) := by
  refine gk_met hY (plainFor_of_name (by decide)) (Nat.le_of_ble_eq_true rfl) fun Z hC hR => ?_
  show gk_K Z Y 8 (gk_rR M) 0 [(0, .ref a0), (1, .int a1), (2, .int a2), (3, .int a3), (4, .int a4), (5, .int a5)] [] M _
  unfold f_X7_isWish
  refine gk_aload_n hC 0 dX7_isWish_0 rfl (q := 1) rfl ?_
  refine gk_getR hC dX7_isWish_1 fl_RX7_17 (by decide) t0 (q := 4) rfl (fun t21 => ?_)
  refine gk_iload_n hC 1 dX7_isWish_4 rfl (q := 5) rfl ?_
  refine gk_callV (As := [.int a1]) (rest := []) hC (fun l => m_X2_isLine l hY ((gk_rf Y) a0 0) a1 M t21) ml_RX7_96 ok_X2_isLine dX7_isWish_5 t21 ⟨by decide, rfl⟩ rfl (by decide) (Nat.le_of_ble_eq_true rfl) rfl (q := 8) rfl (fun r22 => ?_)
  show gk_K Z Y 8 (gk_rR M) 8 [(0, .ref a0), (1, .int a1), (2, .int a2), (3, .int a3), (4, .int a4), (5, .int a5)] [.int r22] M _
  refine gk_jnR (fun k57_23 => ∀ z24 : Int32, gk_K Z Y 8 (gk_rR M) 57 [(2, .int a2), (5, .int a5)] [.int z24] M (k57_23 z24)) (fun y23 => ?_) (fun k57_23 hk57_23 => ?_)
  · show gk_K Z Y 8 (gk_rR M) 57 [(2, .int a2), (5, .int a5)] [.int y23] M _
    refine gk_istore hC (lv' := [(2, .int a2), (5, .int a5), (6, .int y23)]) [1, 2, 0] dX7_isWish_57 (by decide) rfl (q := 59) rfl ?_
    refine gk_iload hC 1 dX7_isWish_59 rfl (q := 61) rfl ?_
    refine gk_iconst hC (v := 2) dX7_isWish_61 kc_i_2 (q := 62) rfl ?_
    refine gk_jnR (fun k77_25 => ∀ z26 : Int32, gk_K Z Y 8 (gk_rR M) 77 [(2, .int a2), (6, .int y23)] [.int z26] M (k77_25 z26)) (fun y25 => ?_) (fun k77_25 hk77_25 => ?_)
    · show gk_K Z Y 8 (gk_rR M) 77 [(2, .int a2), (6, .int y23)] [.int y25] M _
      refine gk_istore hC (lv' := [(2, .int a2), (6, .int y23), (7, .int y25)]) [1, 2, 0] dX7_isWish_77 (by decide) rfl (q := 79) rfl ?_
      refine gk_iload hC 1 dX7_isWish_79 rfl (q := 81) rfl ?_
      refine gk_jnR (fun k99_27 => ∀ z28 : Int32, gk_K Z Y 8 (gk_rR M) 99 [] [.int z28] M (k99_27 z28)) (fun y27 => ?_) (fun k99_27 hk99_27 => ?_)
      · show gk_K Z Y 8 (gk_rR M) 99 [] [.int y27] M _
        exact gk_zzR (fun hv => gk_zret hC hR dX7_isWish_99 hv rfl)
      · refine gk_jnR (fun k98_29 => ∀ z30 : Unit, gk_K Z Y 8 (gk_rR M) 98 [] [] M (k98_29 z30)) (fun y29 => ?_) (fun k98_29 hk98_29 => ?_)
        · show gk_K Z Y 8 (gk_rR M) 98 [] [] M _
          refine gk_iconst hC (v := 0) dX7_isWish_98 kc_i_0 (q := 99) rfl ?_
          exact hk99_27 0
        · refine gk_if_eq hC dX7_isWish_81 (tg := 98) rfl (q := 84) rfl ?_ ?_
          · refine gk_pick [] rfl ?_
            exact hk98_29 ()
          · refine gk_iload_n hC 0 dX7_isWish_84 rfl (q := 85) rfl ?_
            refine gk_iconst hC (v := 1) dX7_isWish_85 kc_i_1 (q := 86) rfl ?_
            refine gk_jnR (fun k94_31 => ∀ z32 : Unit, gk_K Z Y 8 (gk_rR M) 94 [] [] M (k94_31 z32)) (fun y31 => ?_) (fun k94_31 hk94_31 => ?_)
            · show gk_K Z Y 8 (gk_rR M) 94 [] [] M _
              refine gk_iconst hC (v := 1) dX7_isWish_94 kc_i_1 (q := 95) rfl ?_
              refine gk_goto hC dX7_isWish_95 (q := 99) rfl ?_
              exact hk99_27 1
            · refine gk_icmp_ne hC dX7_isWish_86 (tg := 94) rfl (q := 89) rfl ?_ ?_
              · refine gk_iload hC 2 dX7_isWish_89 rfl (q := 91) rfl ?_
                refine gk_if_ne hC dX7_isWish_91 (tg := 98) rfl (q := 94) rfl ?_ ?_
                · refine gk_pick [] rfl ?_
                  exact hk94_31 ()
                · refine gk_pick [] rfl ?_
                  exact hk98_29 ()
              · refine gk_pick [] rfl ?_
                exact hk94_31 ()
    · refine gk_jnR (fun k72_33 => ∀ z34 : Unit, gk_K Z Y 8 (gk_rR M) 72 [(2, .int a2), (6, .int y23)] [] M (k72_33 z34)) (fun y33 => ?_) (fun k72_33 hk72_33 => ?_)
      · show gk_K Z Y 8 (gk_rR M) 72 [(2, .int a2), (6, .int y23)] [] M _
        refine gk_iconst hC (v := 1) dX7_isWish_72 kc_i_1 (q := 73) rfl ?_
        refine gk_goto hC dX7_isWish_73 (q := 77) rfl ?_
        exact hk77_25 1
      · refine gk_icmp_eq hC dX7_isWish_62 (tg := 72) rfl (q := 65) rfl ?_ ?_
        · refine gk_pick [0, 2] rfl ?_
          exact hk72_33 ()
        · refine gk_iload hC 1 dX7_isWish_65 rfl (q := 67) rfl ?_
          refine gk_bipush hC (v := 11) dX7_isWish_67 kc_b_11 (q := 69) rfl ?_
          refine gk_icmp_le hC dX7_isWish_69 (tg := 76) rfl (q := 72) rfl ?_ ?_
          · refine gk_iconst hC (v := 0) dX7_isWish_76 kc_i_0 (q := 77) rfl ?_
            refine gk_pick [0, 2] rfl ?_
            exact hk77_25 0
          · refine gk_pick [0, 2] rfl ?_
            exact hk72_33 ()
  · refine gk_jnR (fun k56_35 => ∀ z36 : Unit, gk_K Z Y 8 (gk_rR M) 56 [(2, .int a2), (5, .int a5)] [] M (k56_35 z36)) (fun y35 => ?_) (fun k56_35 hk56_35 => ?_)
    · show gk_K Z Y 8 (gk_rR M) 56 [(2, .int a2), (5, .int a5)] [] M _
      refine gk_iconst hC (v := 0) dX7_isWish_56 kc_i_0 (q := 57) rfl ?_
      exact hk57_23 0
    · refine gk_if_eq hC dX7_isWish_8 (tg := 56) rfl (q := 11) rfl ?_ ?_
      · refine gk_pick [2, 5] rfl ?_
        exact hk56_35 ()
      · refine gk_aload_n hC 0 dX7_isWish_11 rfl (q := 12) rfl ?_
        refine gk_getR hC dX7_isWish_12 fl_RX7_17 (by decide) t0 (q := 15) rfl (fun t37 => ?_)
        refine gk_iload hC 4 dX7_isWish_15 rfl (q := 17) rfl ?_
        refine gk_callV (As := [.int a4]) (rest := []) hC (fun l => m_X2_isLine l hY ((gk_rf Y) a0 0) a4 M t37) ml_RX7_96 ok_X2_isLine dX7_isWish_17 t37 ⟨by decide, rfl⟩ rfl (by decide) (Nat.le_of_ble_eq_true rfl) rfl (q := 20) rfl (fun r38 => ?_)
        show gk_K Z Y 8 (gk_rR M) 20 [(0, .ref a0), (1, .int a1), (2, .int a2), (3, .int a3), (4, .int a4), (5, .int a5)] [.int r38] M _
        refine gk_if_eq hC dX7_isWish_20 (tg := 56) rfl (q := 23) rfl ?_ ?_
        · refine gk_pick [2, 5] rfl ?_
          exact hk56_35 ()
        · refine gk_iload_n hC 2 dX7_isWish_23 rfl (q := 24) rfl ?_
          refine gk_if_lt hC dX7_isWish_24 (tg := 56) rfl (q := 27) rfl ?_ ?_
          · refine gk_pick [2, 5] rfl ?_
            exact hk56_35 ()
          · refine gk_iload_n hC 2 dX7_isWish_27 rfl (q := 28) rfl ?_
            refine gk_bipush hC (v := 8) dX7_isWish_28 kc_b_8 (q := 30) rfl ?_
            refine gk_icmp_ge hC dX7_isWish_30 (tg := 56) rfl (q := 33) rfl ?_ ?_
            · refine gk_pick [2, 5] rfl ?_
              exact hk56_35 ()
            · refine gk_iload_n hC 3 dX7_isWish_33 rfl (q := 34) rfl ?_
              refine gk_callS (As := [.int a3]) (rest := []) hC (fun l => m_X7_isRank l hY a3 M) ml_RX7_90 ok_X7_isRank dX7_isWish_34 rfl (by decide) (Nat.le_of_ble_eq_true rfl) rfl (q := 37) rfl (fun r39 => ?_)
              show gk_K Z Y 8 (gk_rR M) 37 [(0, .ref a0), (1, .int a1), (2, .int a2), (3, .int a3), (4, .int a4), (5, .int a5)] [.int r39] M _
              refine gk_if_eq hC dX7_isWish_37 (tg := 56) rfl (q := 40) rfl ?_ ?_
              · refine gk_pick [2, 5] rfl ?_
                exact hk56_35 ()
              · refine gk_iload hC 5 dX7_isWish_40 rfl (q := 42) rfl ?_
                refine gk_if_lt hC dX7_isWish_42 (tg := 56) rfl (q := 45) rfl ?_ ?_
                · refine gk_pick [2, 5] rfl ?_
                  exact hk56_35 ()
                · refine gk_iload hC 5 dX7_isWish_45 rfl (q := 47) rfl ?_
                  refine gk_bipush hC (v := 31) dX7_isWish_47 kc_b_31 (q := 49) rfl ?_
                  refine gk_icmp_gt hC dX7_isWish_49 (tg := 56) rfl (q := 52) rfl ?_ ?_
                  · refine gk_pick [2, 5] rfl ?_
                    exact hk56_35 ()
                  · refine gk_iconst hC (v := 1) dX7_isWish_52 kc_i_1 (q := 53) rfl ?_
                    refine gk_goto hC dX7_isWish_53 (q := 57) rfl ?_
                    refine gk_pick [2, 5] rfl ?_
                    exact hk57_23 1
def f_X7_wish (LN : Nat → Nat) (RF : Nat → Nat → Nat) (a0 : Nat) (a1 : Int32) (a2 : Int32) (a3 : Int32) (a4 : Int32) (a5 : Int32) (M : gk_M) : Option (Int32 × gk_M) :=
  (f_X7_isWish LN RF a0 a1 a2 a3 a4 a5 M).bind fun r21 =>
  if r21 = 0 then
    (f_X7_refused LN RF a0 1 M).bind fun r22 =>
    some (r22.1, r22.2)
  else
  (f_X6_isFull LN RF (RF (RF a0 0) 0) M).bind fun r25 =>
  if r25 = 0 then
    (f_X6_added LN RF (RF (RF a0 0) 0) a1 a2 a3 a4 a5 M).bind fun r28 =>
    (f_X7_done LN RF a0 r28.1 r28.2).bind fun r29 =>
    some (r29.1, r29.2)
  else
  (f_X7_refused LN RF a0 2 M).bind fun r30 =>
  some (r30.1, r30.2)
set_option maxHeartbeats 4000000 in
set_option maxRecDepth 100000 in
theorem m_X7_wish (l : Launch) {Y : gk_Y} (hY : gk_WF Y) (a0 : Nat) (a1 : Int32) (a2 : Int32) (a3 : Int32) (a4 : Int32) (a5 : Int32) (M : gk_M) (t0 : gk_T Y 17 a0) : gk_MF l Y yX7_wish cX7_wish 6 (some .int) 2 [.ref a0, .int a1, .int a2, .int a3, .int a4, .int a5] M gk_rI (f_X7_wish (gk_ln Y) (gk_rf Y) a0 a1 a2 a3 a4 a5 M) := by
  refine gk_met hY (plainFor_of_name (by decide)) (Nat.le_of_ble_eq_true rfl) fun Z hC hR => ?_
  show gk_K Z Y 6 gk_rI 0 [(0, .ref a0), (1, .int a1), (2, .int a2), (3, .int a3), (4, .int a4), (5, .int a5)] [] M _
  unfold f_X7_wish
  refine gk_aload_n hC 0 dX7_wish_0 rfl (q := 1) rfl ?_
  refine gk_iload_n hC 1 dX7_wish_1 rfl (q := 2) rfl ?_
  refine gk_iload_n hC 2 dX7_wish_2 rfl (q := 3) rfl ?_
  refine gk_iload_n hC 3 dX7_wish_3 rfl (q := 4) rfl ?_
  refine gk_iload hC 4 dX7_wish_4 rfl (q := 6) rfl ?_
  refine gk_iload hC 5 dX7_wish_6 rfl (q := 8) rfl ?_
  refine gk_callV (As := [.int a1, .int a2, .int a3, .int a4, .int a5]) (rest := []) hC (fun l => m_X7_isWish l hY a0 a1 a2 a3 a4 a5 M t0) ml_RX7_60 ok_X7_isWish dX7_wish_8 t0 ⟨by decide, rfl⟩ rfl (by decide) (Nat.le_of_ble_eq_true rfl) rfl (q := 11) rfl (fun r21 => ?_)
  show gk_K Z Y 6 gk_rI 11 [(0, .ref a0), (1, .int a1), (2, .int a2), (3, .int a3), (4, .int a4), (5, .int a5)] [.int r21] M _
  refine gk_if_ne hC dX7_wish_11 (tg := 20) rfl (q := 14) rfl ?_ ?_
  · refine gk_aload_n hC 0 dX7_wish_14 rfl (q := 15) rfl ?_
    refine gk_iconst hC (v := 1) dX7_wish_15 kc_i_1 (q := 16) rfl ?_
    refine gk_callV (As := [.int 1]) (rest := []) hC (fun l => m_X7_refused l hY a0 1 M t0) ml_RX7_53 ok_X7_refused dX7_wish_16 t0 ⟨by decide, rfl⟩ rfl (by decide) (Nat.le_of_ble_eq_true rfl) rfl (q := 19) rfl (fun r22 => ?_)
    show gk_K Z Y 6 gk_rI 19 [(0, .ref a0), (1, .int a1), (2, .int a2), (3, .int a3), (4, .int a4), (5, .int a5)] [.int r22.1] r22.2 _
    exact gk_iret hC hR dX7_wish_19 rfl
  · refine gk_aload_n hC 0 dX7_wish_20 rfl (q := 21) rfl ?_
    refine gk_getR hC dX7_wish_21 fl_RX7_17 (by decide) t0 (q := 24) rfl (fun t23 => ?_)
    refine gk_getR hC dX7_wish_24 fl_RX7_64 (by decide) t23 (q := 27) rfl (fun t24 => ?_)
    refine gk_callV (As := []) (rest := []) hC (fun l => m_X6_isFull l hY ((gk_rf Y) ((gk_rf Y) a0 0) 0) M t24) ml_RX7_68 ok_X6_isFull dX7_wish_27 t24 ⟨by decide, rfl⟩ rfl (by decide) (Nat.le_of_ble_eq_true rfl) rfl (q := 30) rfl (fun r25 => ?_)
    show gk_K Z Y 6 gk_rI 30 [(0, .ref a0), (1, .int a1), (2, .int a2), (3, .int a3), (4, .int a4), (5, .int a5)] [.int r25] M _
    refine gk_if_eq hC dX7_wish_30 (tg := 39) rfl (q := 33) rfl ?_ ?_
    · refine gk_aload_n hC 0 dX7_wish_39 rfl (q := 40) rfl ?_
      refine gk_aload_n hC 0 dX7_wish_40 rfl (q := 41) rfl ?_
      refine gk_getR hC dX7_wish_41 fl_RX7_17 (by decide) t0 (q := 44) rfl (fun t26 => ?_)
      refine gk_getR hC dX7_wish_44 fl_RX7_64 (by decide) t26 (q := 47) rfl (fun t27 => ?_)
      refine gk_iload_n hC 1 dX7_wish_47 rfl (q := 48) rfl ?_
      refine gk_iload_n hC 2 dX7_wish_48 rfl (q := 49) rfl ?_
      refine gk_iload_n hC 3 dX7_wish_49 rfl (q := 50) rfl ?_
      refine gk_iload hC 4 dX7_wish_50 rfl (q := 52) rfl ?_
      refine gk_iload hC 5 dX7_wish_52 rfl (q := 54) rfl ?_
      refine gk_callV (As := [.int a1, .int a2, .int a3, .int a4, .int a5]) (rest := [.ref a0]) hC (fun l => m_X6_added l hY ((gk_rf Y) ((gk_rf Y) a0 0) 0) a1 a2 a3 a4 a5 M t27) ml_RX7_72 ok_X6_added dX7_wish_54 t27 ⟨by decide, rfl⟩ rfl (by decide) (Nat.le_of_ble_eq_true rfl) rfl (q := 57) rfl (fun r28 => ?_)
      show gk_K Z Y 6 gk_rI 57 [(0, .ref a0), (1, .int a1), (2, .int a2), (3, .int a3), (4, .int a4), (5, .int a5)] [.int r28.1, .ref a0] r28.2 _
      refine gk_callV (As := [.int r28.1]) (rest := []) hC (fun l => m_X7_done l hY a0 r28.1 r28.2 t0) ml_RX7_57 ok_X7_done dX7_wish_57 t0 ⟨by decide, rfl⟩ rfl (by decide) (Nat.le_of_ble_eq_true rfl) rfl (q := 60) rfl (fun r29 => ?_)
      show gk_K Z Y 6 gk_rI 60 [(0, .ref a0), (1, .int a1), (2, .int a2), (3, .int a3), (4, .int a4), (5, .int a5)] [.int r29.1] r29.2 _
      exact gk_iret hC hR dX7_wish_60 rfl
    · refine gk_aload_n hC 0 dX7_wish_33 rfl (q := 34) rfl ?_
      refine gk_iconst hC (v := 2) dX7_wish_34 kc_i_2 (q := 35) rfl ?_
      refine gk_callV (As := [.int 2]) (rest := []) hC (fun l => m_X7_refused l hY a0 2 M t0) ml_RX7_53 ok_X7_refused dX7_wish_35 t0 ⟨by decide, rfl⟩ rfl (by decide) (Nat.le_of_ble_eq_true rfl) rfl (q := 38) rfl (fun r30 => ?_)
      show gk_K Z Y 6 gk_rI 38 [(0, .ref a0), (1, .int a1), (2, .int a2), (3, .int a3), (4, .int a4), (5, .int a5)] [.int r30.1] r30.2 _
      exact gk_iret hC hR dX7_wish_38 rfl
def f_X7_on (LN : Nat → Nat) (RF : Nat → Nat → Nat) (a0 : Nat) (a1 : Int32) (a2 : Int32) (M : gk_M) : Option (Int32 × gk_M) :=
  (f_X6_holds LN RF (RF (RF a0 0) 0) a1 M).bind fun r23 =>
  if r23 = 0 then
    (f_X7_refused LN RF a0 1 M).bind fun r24 =>
    some (r24.1, r24.2)
  else
  gk_aldr LN RF (RF (RF (RF a0 0) 0) 0) a1 fun o28 =>
  gk_jn (fun y30 : Int32 =>
    gk_putz M o28 5 a2 fun M32 =>
    (f_X7_done LN RF a0 y30 M32).bind fun r33 =>
    some (r33.1, r33.2)) fun k46_30 =>
  if (M.1 o28 5) = a2 then
    k46_30 0
  else
  k46_30 1
set_option maxHeartbeats 4000000 in
set_option maxRecDepth 100000 in
theorem m_X7_on (l : Launch) {Y : gk_Y} (hY : gk_WF Y) (a0 : Nat) (a1 : Int32) (a2 : Int32) (M : gk_M) (t0 : gk_T Y 17 a0) : gk_MF l Y yX7_on cX7_on 5 (some .int) 1 [.ref a0, .int a1, .int a2] M gk_rI (f_X7_on (gk_ln Y) (gk_rf Y) a0 a1 a2 M) := by
  refine gk_met hY (plainFor_of_name (by decide)) (Nat.le_of_ble_eq_true rfl) fun Z hC hR => ?_
  show gk_K Z Y 5 gk_rI 0 [(0, .ref a0), (1, .int a1), (2, .int a2)] [] M _
  unfold f_X7_on
  refine gk_aload_n hC 0 dX7_on_0 rfl (q := 1) rfl ?_
  refine gk_getR hC dX7_on_1 fl_RX7_17 (by decide) t0 (q := 4) rfl (fun t21 => ?_)
  refine gk_getR hC dX7_on_4 fl_RX7_64 (by decide) t21 (q := 7) rfl (fun t22 => ?_)
  refine gk_iload_n hC 1 dX7_on_7 rfl (q := 8) rfl ?_
  refine gk_callV (As := [.int a1]) (rest := []) hC (fun l => m_X6_holds l hY ((gk_rf Y) ((gk_rf Y) a0 0) 0) a1 M t22) ml_RX7_76 ok_X6_holds dX7_on_8 t22 ⟨by decide, rfl⟩ rfl (by decide) (Nat.le_of_ble_eq_true rfl) rfl (q := 11) rfl (fun r23 => ?_)
  show gk_K Z Y 5 gk_rI 11 [(0, .ref a0), (1, .int a1), (2, .int a2)] [.int r23] M _
  refine gk_if_ne hC dX7_on_11 (tg := 20) rfl (q := 14) rfl ?_ ?_
  · refine gk_aload_n hC 0 dX7_on_14 rfl (q := 15) rfl ?_
    refine gk_iconst hC (v := 1) dX7_on_15 kc_i_1 (q := 16) rfl ?_
    refine gk_callV (As := [.int 1]) (rest := []) hC (fun l => m_X7_refused l hY a0 1 M t0) ml_RX7_53 ok_X7_refused dX7_on_16 t0 ⟨by decide, rfl⟩ rfl (by decide) (Nat.le_of_ble_eq_true rfl) rfl (q := 19) rfl (fun r24 => ?_)
    show gk_K Z Y 5 gk_rI 19 [(0, .ref a0), (1, .int a1), (2, .int a2)] [.int r24.1] r24.2 _
    exact gk_iret hC hR dX7_on_19 rfl
  · refine gk_aload_n hC 0 dX7_on_20 rfl (q := 21) rfl ?_
    refine gk_getR hC dX7_on_21 fl_RX7_17 (by decide) t0 (q := 24) rfl (fun t25 => ?_)
    refine gk_getR hC dX7_on_24 fl_RX7_64 (by decide) t25 (q := 27) rfl (fun t26 => ?_)
    refine gk_getR hC dX7_on_27 fl_RX7_80 (by decide) t26 (q := 30) rfl (fun t27 => ?_)
    refine gk_iload_n hC 1 dX7_on_30 rfl (q := 31) rfl ?_
    refine gk_aald hC dX7_on_31 (Or.inr (Or.inl rfl)) t27 (q := 32) rfl (fun o28 t29 => ?_)
    refine gk_astore_n hC (lv' := [(0, .ref a0), (2, .int a2), (3, .ref o28)]) [1, 3, 0] dX7_on_32 (by decide) rfl (q := 33) rfl ?_
    refine gk_aload_n hC 2 dX7_on_33 rfl (q := 34) rfl ?_
    refine gk_getZ hC dX7_on_34 fl_RX7_84 t29 (q := 37) rfl ?_
    refine gk_iload_n hC 1 dX7_on_37 rfl (q := 38) rfl ?_
    refine gk_jnR (fun k46_30 => ∀ z31 : Int32, gk_K Z Y 5 gk_rI 46 [(0, .ref a0), (2, .int a2), (3, .ref o28)] [.int z31] M (k46_30 z31)) (fun y30 => ?_) (fun k46_30 hk46_30 => ?_)
    · show gk_K Z Y 5 gk_rI 46 [(0, .ref a0), (2, .int a2), (3, .ref o28)] [.int y30] M _
      refine gk_istore hC (lv' := [(0, .ref a0), (2, .int a2), (3, .ref o28), (4, .int y30)]) [1, 2, 3, 0] dX7_on_46 (by decide) rfl (q := 48) rfl ?_
      refine gk_aload_n hC 2 dX7_on_48 rfl (q := 49) rfl ?_
      refine gk_iload_n hC 1 dX7_on_49 rfl (q := 50) rfl ?_
      refine gk_putZ hC dX7_on_50 fp_RX7_84 t29 (q := 53) rfl (fun M32 => ?_)
      refine gk_aload_n hC 0 dX7_on_53 rfl (q := 54) rfl ?_
      refine gk_iload hC 3 dX7_on_54 rfl (q := 56) rfl ?_
      refine gk_callV (As := [.int y30]) (rest := []) hC (fun l => m_X7_done l hY a0 y30 M32 t0) ml_RX7_57 ok_X7_done dX7_on_56 t0 ⟨by decide, rfl⟩ rfl (by decide) (Nat.le_of_ble_eq_true rfl) rfl (q := 59) rfl (fun r33 => ?_)
      show gk_K Z Y 5 gk_rI 59 [(0, .ref a0), (2, .int a2), (3, .ref o28), (4, .int y30)] [.int r33.1] r33.2 _
      exact gk_iret hC hR dX7_on_59 rfl
    · refine gk_icmp_ne hC dX7_on_38 (tg := 45) rfl (q := 41) rfl ?_ ?_
      · refine gk_iconst hC (v := 0) dX7_on_41 kc_i_0 (q := 42) rfl ?_
        refine gk_goto hC dX7_on_42 (q := 46) rfl ?_
        exact hk46_30 0
      · refine gk_iconst hC (v := 1) dX7_on_45 kc_i_1 (q := 46) rfl ?_
        exact hk46_30 1
def f_X7_rank (LN : Nat → Nat) (RF : Nat → Nat → Nat) (a0 : Nat) (a1 : Int32) (a2 : Int32) (M : gk_M) : Option (Int32 × gk_M) :=
  (f_X6_holds LN RF (RF (RF a0 0) 0) a1 M).bind fun r23 =>
  gk_jn (fun y24 : Unit =>
    (f_X7_refused LN RF a0 1 M).bind fun r26 =>
    some (r26.1, r26.2)) fun k21_24 =>
  if r23 = 0 then
    k21_24 ()
  else
  (f_X7_isRank LN RF a2 M).bind fun r27 =>
  if r27 = 0 then
    k21_24 ()
  else
  gk_aldr LN RF (RF (RF (RF a0 0) 0) 0) a1 fun o31 =>
  gk_put M o31 2 a2 fun M33 =>
  (f_X7_done LN RF a0 (M.1 o31 2) M33).bind fun r34 =>
  some (r34.1, r34.2)
set_option maxHeartbeats 4000000 in
set_option maxRecDepth 100000 in
theorem m_X7_rank (l : Launch) {Y : gk_Y} (hY : gk_WF Y) (a0 : Nat) (a1 : Int32) (a2 : Int32) (M : gk_M) (t0 : gk_T Y 17 a0) : gk_MF l Y yX7_rank cX7_rank 5 (some .int) 1 [.ref a0, .int a1, .int a2] M gk_rI (f_X7_rank (gk_ln Y) (gk_rf Y) a0 a1 a2 M) := by
  refine gk_met hY (plainFor_of_name (by decide)) (Nat.le_of_ble_eq_true rfl) fun Z hC hR => ?_
  show gk_K Z Y 5 gk_rI 0 [(0, .ref a0), (1, .int a1), (2, .int a2)] [] M _
  unfold f_X7_rank
  refine gk_aload_n hC 0 dX7_rank_0 rfl (q := 1) rfl ?_
  refine gk_getR hC dX7_rank_1 fl_RX7_17 (by decide) t0 (q := 4) rfl (fun t21 => ?_)
  refine gk_getR hC dX7_rank_4 fl_RX7_64 (by decide) t21 (q := 7) rfl (fun t22 => ?_)
  refine gk_iload_n hC 1 dX7_rank_7 rfl (q := 8) rfl ?_
  refine gk_callV (As := [.int a1]) (rest := []) hC (fun l => m_X6_holds l hY ((gk_rf Y) ((gk_rf Y) a0 0) 0) a1 M t22) ml_RX7_76 ok_X6_holds dX7_rank_8 t22 ⟨by decide, rfl⟩ rfl (by decide) (Nat.le_of_ble_eq_true rfl) rfl (q := 11) rfl (fun r23 => ?_)
  show gk_K Z Y 5 gk_rI 11 [(0, .ref a0), (1, .int a1), (2, .int a2)] [.int r23] M _
  refine gk_jnR (fun k21_24 => ∀ z25 : Unit, gk_K Z Y 5 gk_rI 21 [(0, .ref a0)] [] M (k21_24 z25)) (fun y24 => ?_) (fun k21_24 hk21_24 => ?_)
  · show gk_K Z Y 5 gk_rI 21 [(0, .ref a0)] [] M _
    refine gk_aload_n hC 0 dX7_rank_21 rfl (q := 22) rfl ?_
    refine gk_iconst hC (v := 1) dX7_rank_22 kc_i_1 (q := 23) rfl ?_
    refine gk_callV (As := [.int 1]) (rest := []) hC (fun l => m_X7_refused l hY a0 1 M t0) ml_RX7_53 ok_X7_refused dX7_rank_23 t0 ⟨by decide, rfl⟩ rfl (by decide) (Nat.le_of_ble_eq_true rfl) rfl (q := 26) rfl (fun r26 => ?_)
    show gk_K Z Y 5 gk_rI 26 [(0, .ref a0)] [.int r26.1] r26.2 _
    exact gk_iret hC hR dX7_rank_26 rfl
  · refine gk_if_eq hC dX7_rank_11 (tg := 21) rfl (q := 14) rfl ?_ ?_
    · refine gk_pick [0] rfl ?_
      exact hk21_24 ()
    · refine gk_iload_n hC 2 dX7_rank_14 rfl (q := 15) rfl ?_
      refine gk_callS (As := [.int a2]) (rest := []) hC (fun l => m_X7_isRank l hY a2 M) ml_RX7_90 ok_X7_isRank dX7_rank_15 rfl (by decide) (Nat.le_of_ble_eq_true rfl) rfl (q := 18) rfl (fun r27 => ?_)
      show gk_K Z Y 5 gk_rI 18 [(0, .ref a0), (1, .int a1), (2, .int a2)] [.int r27] M _
      refine gk_if_ne hC dX7_rank_18 (tg := 27) rfl (q := 21) rfl ?_ ?_
      · refine gk_pick [0] rfl ?_
        exact hk21_24 ()
      · refine gk_aload_n hC 0 dX7_rank_27 rfl (q := 28) rfl ?_
        refine gk_getR hC dX7_rank_28 fl_RX7_17 (by decide) t0 (q := 31) rfl (fun t28 => ?_)
        refine gk_getR hC dX7_rank_31 fl_RX7_64 (by decide) t28 (q := 34) rfl (fun t29 => ?_)
        refine gk_getR hC dX7_rank_34 fl_RX7_80 (by decide) t29 (q := 37) rfl (fun t30 => ?_)
        refine gk_iload_n hC 1 dX7_rank_37 rfl (q := 38) rfl ?_
        refine gk_aald hC dX7_rank_38 (Or.inr (Or.inl rfl)) t30 (q := 39) rfl (fun o31 t32 => ?_)
        refine gk_astore_n hC (lv' := [(0, .ref a0), (2, .int a2), (3, .ref o31)]) [1, 3, 0] dX7_rank_39 (by decide) rfl (q := 40) rfl ?_
        refine gk_aload_n hC 2 dX7_rank_40 rfl (q := 41) rfl ?_
        refine gk_getI hC dX7_rank_41 fl_RX7_93 t32 (q := 44) rfl ?_
        refine gk_istore hC (lv' := [(0, .ref a0), (2, .int a2), (3, .ref o31), (4, .int (M.1 o31 2))]) [1, 2, 3, 0] dX7_rank_44 (by decide) rfl (q := 46) rfl ?_
        refine gk_aload_n hC 2 dX7_rank_46 rfl (q := 47) rfl ?_
        refine gk_iload_n hC 1 dX7_rank_47 rfl (q := 48) rfl ?_
        refine gk_putI hC dX7_rank_48 fp_RX7_93 t32 (q := 51) rfl (fun M33 => ?_)
        refine gk_aload_n hC 0 dX7_rank_51 rfl (q := 52) rfl ?_
        refine gk_iload hC 3 dX7_rank_52 rfl (q := 54) rfl ?_
        refine gk_callV (As := [.int (M.1 o31 2)]) (rest := []) hC (fun l => m_X7_done l hY a0 (M.1 o31 2) M33 t0) ml_RX7_57 ok_X7_done dX7_rank_54 t0 ⟨by decide, rfl⟩ rfl (by decide) (Nat.le_of_ble_eq_true rfl) rfl (q := 57) rfl (fun r34 => ?_)
        show gk_K Z Y 5 gk_rI 57 [(0, .ref a0), (2, .int a2), (3, .ref o31), (4, .int (M.1 o31 2))] [.int r34.1] r34.2 _
        exact gk_iret hC hR dX7_rank_57 rfl
def f_X7_dial (LN : Nat → Nat) (RF : Nat → Nat → Nat) (a0 : Nat) (a1 : Int32) (a2 : Int32) (M : gk_M) : Option (Int32 × gk_M) :=
  (f_X2_isLine LN RF (RF a0 0) a1 M).bind fun r22 =>
  gk_jn (fun y23 : Unit =>
    (f_X7_refused LN RF a0 1 M).bind fun r25 =>
    some (r25.1, r25.2)) fun k22_23 =>
  if r22 = 0 then
    k22_23 ()
  else
  (f_X2_isLine LN RF (RF a0 0) a2 M).bind fun r27 =>
  if r27 = 0 then
    k22_23 ()
  else
  (f_X2_hasRoom LN RF (RF a0 0) M).bind fun r29 =>
  if r29 = 0 then
    (f_X7_refused LN RF a0 2 M).bind fun r30 =>
    some (r30.1, r30.2)
  else
  (f_X2_isFree LN RF (RF a0 0) a1 M).bind fun r32 =>
  if r32 = 0 then
    (f_X7_refused LN RF a0 3 M).bind fun r33 =>
    some (r33.1, r33.2)
  else
  (f_X2_connect LN RF (RF a0 0) a1 a2 M).bind fun r35 =>
  (f_X7_done LN RF a0 r35.1 r35.2).bind fun r36 =>
  some (r36.1, r36.2)
set_option maxHeartbeats 4000000 in
set_option maxRecDepth 100000 in
theorem m_X7_dial (l : Launch) {Y : gk_Y} (hY : gk_WF Y) (a0 : Nat) (a1 : Int32) (a2 : Int32) (M : gk_M) (t0 : gk_T Y 17 a0) : gk_MF l Y yX7_dial cX7_dial 3 (some .int) 4 [.ref a0, .int a1, .int a2] M gk_rI (f_X7_dial (gk_ln Y) (gk_rf Y) a0 a1 a2 M) := by
  refine gk_met hY (plainFor_of_name (by decide)) (Nat.le_of_ble_eq_true rfl) fun Z hC hR => ?_
  show gk_K Z Y 3 gk_rI 0 [(0, .ref a0), (1, .int a1), (2, .int a2)] [] M _
  unfold f_X7_dial
  refine gk_aload_n hC 0 dX7_dial_0 rfl (q := 1) rfl ?_
  refine gk_getR hC dX7_dial_1 fl_RX7_17 (by decide) t0 (q := 4) rfl (fun t21 => ?_)
  refine gk_iload_n hC 1 dX7_dial_4 rfl (q := 5) rfl ?_
  refine gk_callV (As := [.int a1]) (rest := []) hC (fun l => m_X2_isLine l hY ((gk_rf Y) a0 0) a1 M t21) ml_RX7_96 ok_X2_isLine dX7_dial_5 t21 ⟨by decide, rfl⟩ rfl (by decide) (Nat.le_of_ble_eq_true rfl) rfl (q := 8) rfl (fun r22 => ?_)
  show gk_K Z Y 3 gk_rI 8 [(0, .ref a0), (1, .int a1), (2, .int a2)] [.int r22] M _
  refine gk_jnR (fun k22_23 => ∀ z24 : Unit, gk_K Z Y 3 gk_rI 22 [(0, .ref a0)] [] M (k22_23 z24)) (fun y23 => ?_) (fun k22_23 hk22_23 => ?_)
  · show gk_K Z Y 3 gk_rI 22 [(0, .ref a0)] [] M _
    refine gk_aload_n hC 0 dX7_dial_22 rfl (q := 23) rfl ?_
    refine gk_iconst hC (v := 1) dX7_dial_23 kc_i_1 (q := 24) rfl ?_
    refine gk_callV (As := [.int 1]) (rest := []) hC (fun l => m_X7_refused l hY a0 1 M t0) ml_RX7_53 ok_X7_refused dX7_dial_24 t0 ⟨by decide, rfl⟩ rfl (by decide) (Nat.le_of_ble_eq_true rfl) rfl (q := 27) rfl (fun r25 => ?_)
    show gk_K Z Y 3 gk_rI 27 [(0, .ref a0)] [.int r25.1] r25.2 _
    exact gk_iret hC hR dX7_dial_27 rfl
  · refine gk_if_eq hC dX7_dial_8 (tg := 22) rfl (q := 11) rfl ?_ ?_
    · refine gk_pick [0] rfl ?_
      exact hk22_23 ()
    · refine gk_aload_n hC 0 dX7_dial_11 rfl (q := 12) rfl ?_
      refine gk_getR hC dX7_dial_12 fl_RX7_17 (by decide) t0 (q := 15) rfl (fun t26 => ?_)
      refine gk_iload_n hC 2 dX7_dial_15 rfl (q := 16) rfl ?_
      refine gk_callV (As := [.int a2]) (rest := []) hC (fun l => m_X2_isLine l hY ((gk_rf Y) a0 0) a2 M t26) ml_RX7_96 ok_X2_isLine dX7_dial_16 t26 ⟨by decide, rfl⟩ rfl (by decide) (Nat.le_of_ble_eq_true rfl) rfl (q := 19) rfl (fun r27 => ?_)
      show gk_K Z Y 3 gk_rI 19 [(0, .ref a0), (1, .int a1), (2, .int a2)] [.int r27] M _
      refine gk_if_ne hC dX7_dial_19 (tg := 28) rfl (q := 22) rfl ?_ ?_
      · refine gk_pick [0] rfl ?_
        exact hk22_23 ()
      · refine gk_aload_n hC 0 dX7_dial_28 rfl (q := 29) rfl ?_
        refine gk_getR hC dX7_dial_29 fl_RX7_17 (by decide) t0 (q := 32) rfl (fun t28 => ?_)
        refine gk_callV (As := []) (rest := []) hC (fun l => m_X2_hasRoom l hY ((gk_rf Y) a0 0) M t28) ml_RX7_99 ok_X2_hasRoom dX7_dial_32 t28 ⟨by decide, rfl⟩ rfl (by decide) (Nat.le_of_ble_eq_true rfl) rfl (q := 35) rfl (fun r29 => ?_)
        show gk_K Z Y 3 gk_rI 35 [(0, .ref a0), (1, .int a1), (2, .int a2)] [.int r29] M _
        refine gk_if_ne hC dX7_dial_35 (tg := 44) rfl (q := 38) rfl ?_ ?_
        · refine gk_aload_n hC 0 dX7_dial_38 rfl (q := 39) rfl ?_
          refine gk_iconst hC (v := 2) dX7_dial_39 kc_i_2 (q := 40) rfl ?_
          refine gk_callV (As := [.int 2]) (rest := []) hC (fun l => m_X7_refused l hY a0 2 M t0) ml_RX7_53 ok_X7_refused dX7_dial_40 t0 ⟨by decide, rfl⟩ rfl (by decide) (Nat.le_of_ble_eq_true rfl) rfl (q := 43) rfl (fun r30 => ?_)
          show gk_K Z Y 3 gk_rI 43 [(0, .ref a0), (1, .int a1), (2, .int a2)] [.int r30.1] r30.2 _
          exact gk_iret hC hR dX7_dial_43 rfl
        · refine gk_aload_n hC 0 dX7_dial_44 rfl (q := 45) rfl ?_
          refine gk_getR hC dX7_dial_45 fl_RX7_17 (by decide) t0 (q := 48) rfl (fun t31 => ?_)
          refine gk_iload_n hC 1 dX7_dial_48 rfl (q := 49) rfl ?_
          refine gk_callV (As := [.int a1]) (rest := []) hC (fun l => m_X2_isFree l hY ((gk_rf Y) a0 0) a1 M t31) ml_RX7_102 ok_X2_isFree dX7_dial_49 t31 ⟨by decide, rfl⟩ rfl (by decide) (Nat.le_of_ble_eq_true rfl) rfl (q := 52) rfl (fun r32 => ?_)
          show gk_K Z Y 3 gk_rI 52 [(0, .ref a0), (1, .int a1), (2, .int a2)] [.int r32] M _
          refine gk_if_ne hC dX7_dial_52 (tg := 61) rfl (q := 55) rfl ?_ ?_
          · refine gk_aload_n hC 0 dX7_dial_55 rfl (q := 56) rfl ?_
            refine gk_iconst hC (v := 3) dX7_dial_56 kc_i_3 (q := 57) rfl ?_
            refine gk_callV (As := [.int 3]) (rest := []) hC (fun l => m_X7_refused l hY a0 3 M t0) ml_RX7_53 ok_X7_refused dX7_dial_57 t0 ⟨by decide, rfl⟩ rfl (by decide) (Nat.le_of_ble_eq_true rfl) rfl (q := 60) rfl (fun r33 => ?_)
            show gk_K Z Y 3 gk_rI 60 [(0, .ref a0), (1, .int a1), (2, .int a2)] [.int r33.1] r33.2 _
            exact gk_iret hC hR dX7_dial_60 rfl
          · refine gk_aload_n hC 0 dX7_dial_61 rfl (q := 62) rfl ?_
            refine gk_aload_n hC 0 dX7_dial_62 rfl (q := 63) rfl ?_
            refine gk_getR hC dX7_dial_63 fl_RX7_17 (by decide) t0 (q := 66) rfl (fun t34 => ?_)
            refine gk_iload_n hC 1 dX7_dial_66 rfl (q := 67) rfl ?_
            refine gk_iload_n hC 2 dX7_dial_67 rfl (q := 68) rfl ?_
            refine gk_callV (As := [.int a1, .int a2]) (rest := [.ref a0]) hC (fun l => m_X2_connect l hY ((gk_rf Y) a0 0) a1 a2 M t34) ml_RX7_105 ok_X2_connect dX7_dial_68 t34 ⟨by decide, rfl⟩ rfl (by decide) (Nat.le_of_ble_eq_true rfl) rfl (q := 71) rfl (fun r35 => ?_)
            show gk_K Z Y 3 gk_rI 71 [(0, .ref a0), (1, .int a1), (2, .int a2)] [.int r35.1, .ref a0] r35.2 _
            refine gk_callV (As := [.int r35.1]) (rest := []) hC (fun l => m_X7_done l hY a0 r35.1 r35.2 t0) ml_RX7_57 ok_X7_done dX7_dial_71 t0 ⟨by decide, rfl⟩ rfl (by decide) (Nat.le_of_ble_eq_true rfl) rfl (q := 74) rfl (fun r36 => ?_)
            show gk_K Z Y 3 gk_rI 74 [(0, .ref a0), (1, .int a1), (2, .int a2)] [.int r36.1] r36.2 _
            exact gk_iret hC hR dX7_dial_74 rfl
def f_X7_take (LN : Nat → Nat) (RF : Nat → Nat → Nat) (a0 : Nat) (a1 : Int32) (M : gk_M) : Option (Int32 × gk_M) :=
  (f_X2_isLine LN RF (RF a0 0) a1 M).bind fun r22 =>
  if r22 = 0 then
    (f_X7_refused LN RF a0 1 M).bind fun r23 =>
    some (r23.1, r23.2)
  else
  (f_X2_isRinging LN RF (RF a0 0) a1 M).bind fun r25 =>
  if r25 = 0 then
    (f_X7_refused LN RF a0 3 M).bind fun r26 =>
    some (r26.1, r26.2)
  else
  (f_X2_answer LN RF (RF a0 0) a1 M).bind fun r28 =>
  (f_X7_done LN RF a0 r28.1 r28.2).bind fun r29 =>
  some (r29.1, r29.2)
set_option maxHeartbeats 4000000 in
set_option maxRecDepth 100000 in
theorem m_X7_take (l : Launch) {Y : gk_Y} (hY : gk_WF Y) (a0 : Nat) (a1 : Int32) (M : gk_M) (t0 : gk_T Y 17 a0) : gk_MF l Y yX7_take cX7_take 2 (some .int) 3 [.ref a0, .int a1] M gk_rI (f_X7_take (gk_ln Y) (gk_rf Y) a0 a1 M) := by
  refine gk_met hY (plainFor_of_name (by decide)) (Nat.le_of_ble_eq_true rfl) fun Z hC hR => ?_
  show gk_K Z Y 2 gk_rI 0 [(0, .ref a0), (1, .int a1)] [] M _
  unfold f_X7_take
  refine gk_aload_n hC 0 dX7_take_0 rfl (q := 1) rfl ?_
  refine gk_getR hC dX7_take_1 fl_RX7_17 (by decide) t0 (q := 4) rfl (fun t21 => ?_)
  refine gk_iload_n hC 1 dX7_take_4 rfl (q := 5) rfl ?_
  refine gk_callV (As := [.int a1]) (rest := []) hC (fun l => m_X2_isLine l hY ((gk_rf Y) a0 0) a1 M t21) ml_RX7_96 ok_X2_isLine dX7_take_5 t21 ⟨by decide, rfl⟩ rfl (by decide) (Nat.le_of_ble_eq_true rfl) rfl (q := 8) rfl (fun r22 => ?_)
  show gk_K Z Y 2 gk_rI 8 [(0, .ref a0), (1, .int a1)] [.int r22] M _
  refine gk_if_ne hC dX7_take_8 (tg := 17) rfl (q := 11) rfl ?_ ?_
  · refine gk_aload_n hC 0 dX7_take_11 rfl (q := 12) rfl ?_
    refine gk_iconst hC (v := 1) dX7_take_12 kc_i_1 (q := 13) rfl ?_
    refine gk_callV (As := [.int 1]) (rest := []) hC (fun l => m_X7_refused l hY a0 1 M t0) ml_RX7_53 ok_X7_refused dX7_take_13 t0 ⟨by decide, rfl⟩ rfl (by decide) (Nat.le_of_ble_eq_true rfl) rfl (q := 16) rfl (fun r23 => ?_)
    show gk_K Z Y 2 gk_rI 16 [(0, .ref a0), (1, .int a1)] [.int r23.1] r23.2 _
    exact gk_iret hC hR dX7_take_16 rfl
  · refine gk_aload_n hC 0 dX7_take_17 rfl (q := 18) rfl ?_
    refine gk_getR hC dX7_take_18 fl_RX7_17 (by decide) t0 (q := 21) rfl (fun t24 => ?_)
    refine gk_iload_n hC 1 dX7_take_21 rfl (q := 22) rfl ?_
    refine gk_callV (As := [.int a1]) (rest := []) hC (fun l => m_X2_isRinging l hY ((gk_rf Y) a0 0) a1 M t24) ml_RX7_109 ok_X2_isRinging dX7_take_22 t24 ⟨by decide, rfl⟩ rfl (by decide) (Nat.le_of_ble_eq_true rfl) rfl (q := 25) rfl (fun r25 => ?_)
    show gk_K Z Y 2 gk_rI 25 [(0, .ref a0), (1, .int a1)] [.int r25] M _
    refine gk_if_ne hC dX7_take_25 (tg := 34) rfl (q := 28) rfl ?_ ?_
    · refine gk_aload_n hC 0 dX7_take_28 rfl (q := 29) rfl ?_
      refine gk_iconst hC (v := 3) dX7_take_29 kc_i_3 (q := 30) rfl ?_
      refine gk_callV (As := [.int 3]) (rest := []) hC (fun l => m_X7_refused l hY a0 3 M t0) ml_RX7_53 ok_X7_refused dX7_take_30 t0 ⟨by decide, rfl⟩ rfl (by decide) (Nat.le_of_ble_eq_true rfl) rfl (q := 33) rfl (fun r26 => ?_)
      show gk_K Z Y 2 gk_rI 33 [(0, .ref a0), (1, .int a1)] [.int r26.1] r26.2 _
      exact gk_iret hC hR dX7_take_33 rfl
    · refine gk_aload_n hC 0 dX7_take_34 rfl (q := 35) rfl ?_
      refine gk_aload_n hC 0 dX7_take_35 rfl (q := 36) rfl ?_
      refine gk_getR hC dX7_take_36 fl_RX7_17 (by decide) t0 (q := 39) rfl (fun t27 => ?_)
      refine gk_iload_n hC 1 dX7_take_39 rfl (q := 40) rfl ?_
      refine gk_callV (As := [.int a1]) (rest := [.ref a0]) hC (fun l => m_X2_answer l hY ((gk_rf Y) a0 0) a1 M t27) ml_RX7_112 ok_X2_answer dX7_take_40 t27 ⟨by decide, rfl⟩ rfl (by decide) (Nat.le_of_ble_eq_true rfl) rfl (q := 43) rfl (fun r28 => ?_)
      show gk_K Z Y 2 gk_rI 43 [(0, .ref a0), (1, .int a1)] [.int r28.1, .ref a0] r28.2 _
      refine gk_callV (As := [.int r28.1]) (rest := []) hC (fun l => m_X7_done l hY a0 r28.1 r28.2 t0) ml_RX7_57 ok_X7_done dX7_take_43 t0 ⟨by decide, rfl⟩ rfl (by decide) (Nat.le_of_ble_eq_true rfl) rfl (q := 46) rfl (fun r29 => ?_)
      show gk_K Z Y 2 gk_rI 46 [(0, .ref a0), (1, .int a1)] [.int r29.1] r29.2 _
      exact gk_iret hC hR dX7_take_46 rfl
def f_X7_down (LN : Nat → Nat) (RF : Nat → Nat → Nat) (a0 : Nat) (a1 : Int32) (M : gk_M) : Option (Int32 × gk_M) :=
  (f_X2_isLine LN RF (RF a0 0) a1 M).bind fun r22 =>
  if r22 = 0 then
    (f_X7_refused LN RF a0 1 M).bind fun r23 =>
    some (r23.1, r23.2)
  else
  (f_X2_canHangUp LN RF (RF a0 0) a1 M).bind fun r25 =>
  if r25 = 0 then
    (f_X7_refused LN RF a0 3 M).bind fun r26 =>
    some (r26.1, r26.2)
  else
  (f_X2_hangUp LN RF (RF a0 0) a1 M).bind fun r28 =>
  (f_X7_done LN RF a0 r28.1 r28.2).bind fun r29 =>
  some (r29.1, r29.2)
set_option maxHeartbeats 4000000 in
set_option maxRecDepth 100000 in
theorem m_X7_down (l : Launch) {Y : gk_Y} (hY : gk_WF Y) (a0 : Nat) (a1 : Int32) (M : gk_M) (t0 : gk_T Y 17 a0) : gk_MF l Y yX7_down cX7_down 2 (some .int) 3 [.ref a0, .int a1] M gk_rI (f_X7_down (gk_ln Y) (gk_rf Y) a0 a1 M) := by
  refine gk_met hY (plainFor_of_name (by decide)) (Nat.le_of_ble_eq_true rfl) fun Z hC hR => ?_
  show gk_K Z Y 2 gk_rI 0 [(0, .ref a0), (1, .int a1)] [] M _
  unfold f_X7_down
  refine gk_aload_n hC 0 dX7_down_0 rfl (q := 1) rfl ?_
  refine gk_getR hC dX7_down_1 fl_RX7_17 (by decide) t0 (q := 4) rfl (fun t21 => ?_)
  refine gk_iload_n hC 1 dX7_down_4 rfl (q := 5) rfl ?_
  refine gk_callV (As := [.int a1]) (rest := []) hC (fun l => m_X2_isLine l hY ((gk_rf Y) a0 0) a1 M t21) ml_RX7_96 ok_X2_isLine dX7_down_5 t21 ⟨by decide, rfl⟩ rfl (by decide) (Nat.le_of_ble_eq_true rfl) rfl (q := 8) rfl (fun r22 => ?_)
  show gk_K Z Y 2 gk_rI 8 [(0, .ref a0), (1, .int a1)] [.int r22] M _
  refine gk_if_ne hC dX7_down_8 (tg := 17) rfl (q := 11) rfl ?_ ?_
  · refine gk_aload_n hC 0 dX7_down_11 rfl (q := 12) rfl ?_
    refine gk_iconst hC (v := 1) dX7_down_12 kc_i_1 (q := 13) rfl ?_
    refine gk_callV (As := [.int 1]) (rest := []) hC (fun l => m_X7_refused l hY a0 1 M t0) ml_RX7_53 ok_X7_refused dX7_down_13 t0 ⟨by decide, rfl⟩ rfl (by decide) (Nat.le_of_ble_eq_true rfl) rfl (q := 16) rfl (fun r23 => ?_)
    show gk_K Z Y 2 gk_rI 16 [(0, .ref a0), (1, .int a1)] [.int r23.1] r23.2 _
    exact gk_iret hC hR dX7_down_16 rfl
  · refine gk_aload_n hC 0 dX7_down_17 rfl (q := 18) rfl ?_
    refine gk_getR hC dX7_down_18 fl_RX7_17 (by decide) t0 (q := 21) rfl (fun t24 => ?_)
    refine gk_iload_n hC 1 dX7_down_21 rfl (q := 22) rfl ?_
    refine gk_callV (As := [.int a1]) (rest := []) hC (fun l => m_X2_canHangUp l hY ((gk_rf Y) a0 0) a1 M t24) ml_RX7_115 ok_X2_canHangUp dX7_down_22 t24 ⟨by decide, rfl⟩ rfl (by decide) (Nat.le_of_ble_eq_true rfl) rfl (q := 25) rfl (fun r25 => ?_)
    show gk_K Z Y 2 gk_rI 25 [(0, .ref a0), (1, .int a1)] [.int r25] M _
    refine gk_if_ne hC dX7_down_25 (tg := 34) rfl (q := 28) rfl ?_ ?_
    · refine gk_aload_n hC 0 dX7_down_28 rfl (q := 29) rfl ?_
      refine gk_iconst hC (v := 3) dX7_down_29 kc_i_3 (q := 30) rfl ?_
      refine gk_callV (As := [.int 3]) (rest := []) hC (fun l => m_X7_refused l hY a0 3 M t0) ml_RX7_53 ok_X7_refused dX7_down_30 t0 ⟨by decide, rfl⟩ rfl (by decide) (Nat.le_of_ble_eq_true rfl) rfl (q := 33) rfl (fun r26 => ?_)
      show gk_K Z Y 2 gk_rI 33 [(0, .ref a0), (1, .int a1)] [.int r26.1] r26.2 _
      exact gk_iret hC hR dX7_down_33 rfl
    · refine gk_aload_n hC 0 dX7_down_34 rfl (q := 35) rfl ?_
      refine gk_aload_n hC 0 dX7_down_35 rfl (q := 36) rfl ?_
      refine gk_getR hC dX7_down_36 fl_RX7_17 (by decide) t0 (q := 39) rfl (fun t27 => ?_)
      refine gk_iload_n hC 1 dX7_down_39 rfl (q := 40) rfl ?_
      refine gk_callV (As := [.int a1]) (rest := [.ref a0]) hC (fun l => m_X2_hangUp l hY ((gk_rf Y) a0 0) a1 M t27) ml_RX7_118 ok_X2_hangUp dX7_down_40 t27 ⟨by decide, rfl⟩ rfl (by decide) (Nat.le_of_ble_eq_true rfl) rfl (q := 43) rfl (fun r28 => ?_)
      show gk_K Z Y 2 gk_rI 43 [(0, .ref a0), (1, .int a1)] [.int r28.1, .ref a0] r28.2 _
      refine gk_callV (As := [.int r28.1]) (rest := []) hC (fun l => m_X7_done l hY a0 r28.1 r28.2 t0) ml_RX7_57 ok_X7_done dX7_down_43 t0 ⟨by decide, rfl⟩ rfl (by decide) (Nat.le_of_ble_eq_true rfl) rfl (q := 46) rfl (fun r29 => ?_)
      show gk_K Z Y 2 gk_rI 46 [(0, .ref a0), (1, .int a1)] [.int r29.1] r29.2 _
      exact gk_iret hC hR dX7_down_46 rfl
def f_X7_tick (LN : Nat → Nat) (RF : Nat → Nat → Nat) (a0 : Nat) (M : gk_M) : Option (Int32 × gk_M) :=
  if (M.1 (RF a0 0) 10) < 1000 then
    (f_X2_pass LN RF (RF a0 0) M).bind fun r23 =>
    (f_X7_done LN RF a0 (r23.1 (RF a0 0) 10) r23).bind fun r25 =>
    some (r25.1, r25.2)
  else
  (f_X7_refused LN RF a0 2 M).bind fun r26 =>
  some (r26.1, r26.2)
set_option maxHeartbeats 4000000 in
set_option maxRecDepth 100000 in
theorem m_X7_tick (l : Launch) {Y : gk_Y} (hY : gk_WF Y) (a0 : Nat) (M : gk_M) (t0 : gk_T Y 17 a0) : gk_MF l Y yX7_tick cX7_tick 1 (some .int) 4 [.ref a0] M gk_rI (f_X7_tick (gk_ln Y) (gk_rf Y) a0 M) := by
  refine gk_met hY (plainFor_of_name (by decide)) (Nat.le_of_ble_eq_true rfl) fun Z hC hR => ?_
  show gk_K Z Y 1 gk_rI 0 [(0, .ref a0)] [] M _
  unfold f_X7_tick
  refine gk_aload_n hC 0 dX7_tick_0 rfl (q := 1) rfl ?_
  refine gk_getR hC dX7_tick_1 fl_RX7_17 (by decide) t0 (q := 4) rfl (fun t21 => ?_)
  refine gk_getI hC dX7_tick_4 fl_RX7_121 t21 (q := 7) rfl ?_
  refine gk_sipush hC (v := 1000) dX7_tick_7 kc_s_1000 (q := 10) rfl ?_
  refine gk_icmp_lt hC dX7_tick_10 (tg := 19) rfl (q := 13) rfl ?_ ?_
  · refine gk_aload_n hC 0 dX7_tick_19 rfl (q := 20) rfl ?_
    refine gk_getR hC dX7_tick_20 fl_RX7_17 (by decide) t0 (q := 23) rfl (fun t22 => ?_)
    refine gk_callV (As := []) (rest := []) hC (fun l => m_X2_pass l hY ((gk_rf Y) a0 0) M t22) ml_RX7_124 ok_X2_pass dX7_tick_23 t22 ⟨by decide, rfl⟩ rfl (by decide) (Nat.le_of_ble_eq_true rfl) rfl (q := 26) rfl (fun r23 => ?_)
    show gk_K Z Y 1 gk_rI 26 [(0, .ref a0)] [] r23 _
    refine gk_aload_n hC 0 dX7_tick_26 rfl (q := 27) rfl ?_
    refine gk_aload_n hC 0 dX7_tick_27 rfl (q := 28) rfl ?_
    refine gk_getR hC dX7_tick_28 fl_RX7_17 (by decide) t0 (q := 31) rfl (fun t24 => ?_)
    refine gk_getI hC dX7_tick_31 fl_RX7_121 t24 (q := 34) rfl ?_
    refine gk_callV (As := [.int (r23.1 ((gk_rf Y) a0 0) 10)]) (rest := []) hC (fun l => m_X7_done l hY a0 (r23.1 ((gk_rf Y) a0 0) 10) r23 t0) ml_RX7_57 ok_X7_done dX7_tick_34 t0 ⟨by decide, rfl⟩ rfl (by decide) (Nat.le_of_ble_eq_true rfl) rfl (q := 37) rfl (fun r25 => ?_)
    show gk_K Z Y 1 gk_rI 37 [(0, .ref a0)] [.int r25.1] r25.2 _
    exact gk_iret hC hR dX7_tick_37 rfl
  · refine gk_aload_n hC 0 dX7_tick_13 rfl (q := 14) rfl ?_
    refine gk_iconst hC (v := 2) dX7_tick_14 kc_i_2 (q := 15) rfl ?_
    refine gk_callV (As := [.int 2]) (rest := []) hC (fun l => m_X7_refused l hY a0 2 M t0) ml_RX7_53 ok_X7_refused dX7_tick_15 t0 ⟨by decide, rfl⟩ rfl (by decide) (Nat.le_of_ble_eq_true rfl) rfl (q := 18) rfl (fun r26 => ?_)
    show gk_K Z Y 1 gk_rI 18 [(0, .ref a0)] [.int r26.1] r26.2 _
    exact gk_iret hC hR dX7_tick_18 rfl
def f_X7_image (LN : Nat → Nat) (RF : Nat → Nat → Nat) (a0 : Nat) (M : gk_M) : Option (Int32 × gk_M) :=
  (f_X2_copyFrom LN RF (RF a0 1) (RF a0 0) M).bind fun r23 =>
  (f_X6_copyFrom LN RF (RF (RF a0 1) 0) (RF (RF a0 0) 0) r23).bind fun r28 =>
  gk_putz r28 a0 7 1 fun M29 =>
  (f_X7_done LN RF a0 1 M29).bind fun r30 =>
  some (r30.1, r30.2)
set_option maxHeartbeats 4000000 in
set_option maxRecDepth 100000 in
theorem m_X7_image (l : Launch) {Y : gk_Y} (hY : gk_WF Y) (a0 : Nat) (M : gk_M) (t0 : gk_T Y 17 a0) : gk_MF l Y yX7_image cX7_image 1 (some .int) 2 [.ref a0] M gk_rI (f_X7_image (gk_ln Y) (gk_rf Y) a0 M) := by
  refine gk_met hY (plainFor_of_name (by decide)) (Nat.le_of_ble_eq_true rfl) fun Z hC hR => ?_
  show gk_K Z Y 1 gk_rI 0 [(0, .ref a0)] [] M _
  unfold f_X7_image
  refine gk_aload_n hC 0 dX7_image_0 rfl (q := 1) rfl ?_
  refine gk_getR hC dX7_image_1 fl_RX7_21 (by decide) t0 (q := 4) rfl (fun t21 => ?_)
  refine gk_aload_n hC 0 dX7_image_4 rfl (q := 5) rfl ?_
  refine gk_getR hC dX7_image_5 fl_RX7_17 (by decide) t0 (q := 8) rfl (fun t22 => ?_)
  refine gk_callV (As := [.ref ((gk_rf Y) a0 0)]) (rest := []) hC (fun l => m_X2_copyFrom l hY ((gk_rf Y) a0 1) ((gk_rf Y) a0 0) M t21 t22) ml_RX7_127 ok_X2_copyFrom dX7_image_8 t21 ⟨by decide, rfl⟩ rfl (by decide) (Nat.le_of_ble_eq_true rfl) rfl (q := 11) rfl (fun r23 => ?_)
  show gk_K Z Y 1 gk_rI 11 [(0, .ref a0)] [] r23 _
  refine gk_aload_n hC 0 dX7_image_11 rfl (q := 12) rfl ?_
  refine gk_getR hC dX7_image_12 fl_RX7_21 (by decide) t0 (q := 15) rfl (fun t24 => ?_)
  refine gk_getR hC dX7_image_15 fl_RX7_64 (by decide) t24 (q := 18) rfl (fun t25 => ?_)
  refine gk_aload_n hC 0 dX7_image_18 rfl (q := 19) rfl ?_
  refine gk_getR hC dX7_image_19 fl_RX7_17 (by decide) t0 (q := 22) rfl (fun t26 => ?_)
  refine gk_getR hC dX7_image_22 fl_RX7_64 (by decide) t26 (q := 25) rfl (fun t27 => ?_)
  refine gk_callV (As := [.ref ((gk_rf Y) ((gk_rf Y) a0 0) 0)]) (rest := []) hC (fun l => m_X6_copyFrom l hY ((gk_rf Y) ((gk_rf Y) a0 1) 0) ((gk_rf Y) ((gk_rf Y) a0 0) 0) r23 t25 t27) ml_RX7_131 ok_X6_copyFrom dX7_image_25 t25 ⟨by decide, rfl⟩ rfl (by decide) (Nat.le_of_ble_eq_true rfl) rfl (q := 28) rfl (fun r28 => ?_)
  show gk_K Z Y 1 gk_rI 28 [(0, .ref a0)] [] r28 _
  refine gk_aload_n hC 0 dX7_image_28 rfl (q := 29) rfl ?_
  refine gk_iconst hC (v := 1) dX7_image_29 kc_i_1 (q := 30) rfl ?_
  refine gk_putZ hC dX7_image_30 fp_RX7_134 t0 (q := 33) rfl (fun M29 => ?_)
  refine gk_aload_n hC 0 dX7_image_33 rfl (q := 34) rfl ?_
  refine gk_iconst hC (v := 1) dX7_image_34 kc_i_1 (q := 35) rfl ?_
  refine gk_callV (As := [.int 1]) (rest := []) hC (fun l => m_X7_done l hY a0 1 M29 t0) ml_RX7_57 ok_X7_done dX7_image_35 t0 ⟨by decide, rfl⟩ rfl (by decide) (Nat.le_of_ble_eq_true rfl) rfl (q := 38) rfl (fun r30 => ?_)
  show gk_K Z Y 1 gk_rI 38 [(0, .ref a0)] [.int r30.1] r30.2 _
  exact gk_iret hC hR dX7_image_38 rfl
def f_X7_restore (LN : Nat → Nat) (RF : Nat → Nat → Nat) (a0 : Nat) (M : gk_M) : Option (Int32 × gk_M) :=
  if (M.1 a0 8) < 10 then
    if (M.1 a0 7) = 0 then
      (f_X7_refused LN RF a0 3 M).bind fun r21 =>
      some (r21.1, r21.2)
    else
    (f_X2_copyFrom LN RF (RF a0 0) (RF a0 1) M).bind fun r24 =>
    (f_X6_copyFrom LN RF (RF (RF a0 0) 0) (RF (RF a0 1) 0) r24).bind fun r29 =>
    gk_put r29 a0 8 ((r29.1 a0 8) + 1) fun M30 =>
    (f_X7_done LN RF a0 (M30.1 (RF a0 0) 10) M30).bind fun r32 =>
    some (r32.1, r32.2)
  else
  (f_X7_refused LN RF a0 2 M).bind fun r33 =>
  some (r33.1, r33.2)
set_option maxHeartbeats 4000000 in
set_option maxRecDepth 100000 in
theorem m_X7_restore (l : Launch) {Y : gk_Y} (hY : gk_WF Y) (a0 : Nat) (M : gk_M) (t0 : gk_T Y 17 a0) : gk_MF l Y yX7_restore cX7_restore 1 (some .int) 2 [.ref a0] M gk_rI (f_X7_restore (gk_ln Y) (gk_rf Y) a0 M) := by
  refine gk_met hY (plainFor_of_name (by decide)) (Nat.le_of_ble_eq_true rfl) fun Z hC hR => ?_
  show gk_K Z Y 1 gk_rI 0 [(0, .ref a0)] [] M _
  unfold f_X7_restore
  refine gk_aload_n hC 0 dX7_restore_0 rfl (q := 1) rfl ?_
  refine gk_getI hC dX7_restore_1 fl_RX7_137 t0 (q := 4) rfl ?_
  refine gk_bipush hC (v := 10) dX7_restore_4 kc_b_10 (q := 6) rfl ?_
  refine gk_icmp_lt hC dX7_restore_6 (tg := 15) rfl (q := 9) rfl ?_ ?_
  · refine gk_aload_n hC 0 dX7_restore_15 rfl (q := 16) rfl ?_
    refine gk_getZ hC dX7_restore_16 fl_RX7_134 t0 (q := 19) rfl ?_
    refine gk_if_ne hC dX7_restore_19 (tg := 28) rfl (q := 22) rfl ?_ ?_
    · refine gk_aload_n hC 0 dX7_restore_22 rfl (q := 23) rfl ?_
      refine gk_iconst hC (v := 3) dX7_restore_23 kc_i_3 (q := 24) rfl ?_
      refine gk_callV (As := [.int 3]) (rest := []) hC (fun l => m_X7_refused l hY a0 3 M t0) ml_RX7_53 ok_X7_refused dX7_restore_24 t0 ⟨by decide, rfl⟩ rfl (by decide) (Nat.le_of_ble_eq_true rfl) rfl (q := 27) rfl (fun r21 => ?_)
      show gk_K Z Y 1 gk_rI 27 [(0, .ref a0)] [.int r21.1] r21.2 _
      exact gk_iret hC hR dX7_restore_27 rfl
    · refine gk_aload_n hC 0 dX7_restore_28 rfl (q := 29) rfl ?_
      refine gk_getR hC dX7_restore_29 fl_RX7_17 (by decide) t0 (q := 32) rfl (fun t22 => ?_)
      refine gk_aload_n hC 0 dX7_restore_32 rfl (q := 33) rfl ?_
      refine gk_getR hC dX7_restore_33 fl_RX7_21 (by decide) t0 (q := 36) rfl (fun t23 => ?_)
      refine gk_callV (As := [.ref ((gk_rf Y) a0 1)]) (rest := []) hC (fun l => m_X2_copyFrom l hY ((gk_rf Y) a0 0) ((gk_rf Y) a0 1) M t22 t23) ml_RX7_127 ok_X2_copyFrom dX7_restore_36 t22 ⟨by decide, rfl⟩ rfl (by decide) (Nat.le_of_ble_eq_true rfl) rfl (q := 39) rfl (fun r24 => ?_)
      show gk_K Z Y 1 gk_rI 39 [(0, .ref a0)] [] r24 _
      refine gk_aload_n hC 0 dX7_restore_39 rfl (q := 40) rfl ?_
      refine gk_getR hC dX7_restore_40 fl_RX7_17 (by decide) t0 (q := 43) rfl (fun t25 => ?_)
      refine gk_getR hC dX7_restore_43 fl_RX7_64 (by decide) t25 (q := 46) rfl (fun t26 => ?_)
      refine gk_aload_n hC 0 dX7_restore_46 rfl (q := 47) rfl ?_
      refine gk_getR hC dX7_restore_47 fl_RX7_21 (by decide) t0 (q := 50) rfl (fun t27 => ?_)
      refine gk_getR hC dX7_restore_50 fl_RX7_64 (by decide) t27 (q := 53) rfl (fun t28 => ?_)
      refine gk_callV (As := [.ref ((gk_rf Y) ((gk_rf Y) a0 1) 0)]) (rest := []) hC (fun l => m_X6_copyFrom l hY ((gk_rf Y) ((gk_rf Y) a0 0) 0) ((gk_rf Y) ((gk_rf Y) a0 1) 0) r24 t26 t28) ml_RX7_131 ok_X6_copyFrom dX7_restore_53 t26 ⟨by decide, rfl⟩ rfl (by decide) (Nat.le_of_ble_eq_true rfl) rfl (q := 56) rfl (fun r29 => ?_)
      show gk_K Z Y 1 gk_rI 56 [(0, .ref a0)] [] r29 _
      refine gk_aload_n hC 0 dX7_restore_56 rfl (q := 57) rfl ?_
      refine gk_dup hC dX7_restore_57 rfl (q := 58) rfl ?_
      refine gk_getI hC dX7_restore_58 fl_RX7_137 t0 (q := 61) rfl ?_
      refine gk_iconst hC (v := 1) dX7_restore_61 kc_i_1 (q := 62) rfl ?_
      refine gk_iadd hC dX7_restore_62 (q := 63) rfl ?_
      refine gk_putI hC dX7_restore_63 fp_RX7_137 t0 (q := 66) rfl (fun M30 => ?_)
      refine gk_aload_n hC 0 dX7_restore_66 rfl (q := 67) rfl ?_
      refine gk_aload_n hC 0 dX7_restore_67 rfl (q := 68) rfl ?_
      refine gk_getR hC dX7_restore_68 fl_RX7_17 (by decide) t0 (q := 71) rfl (fun t31 => ?_)
      refine gk_getI hC dX7_restore_71 fl_RX7_121 t31 (q := 74) rfl ?_
      refine gk_callV (As := [.int (M30.1 ((gk_rf Y) a0 0) 10)]) (rest := []) hC (fun l => m_X7_done l hY a0 (M30.1 ((gk_rf Y) a0 0) 10) M30 t0) ml_RX7_57 ok_X7_done dX7_restore_74 t0 ⟨by decide, rfl⟩ rfl (by decide) (Nat.le_of_ble_eq_true rfl) rfl (q := 77) rfl (fun r32 => ?_)
      show gk_K Z Y 1 gk_rI 77 [(0, .ref a0)] [.int r32.1] r32.2 _
      exact gk_iret hC hR dX7_restore_77 rfl
  · refine gk_aload_n hC 0 dX7_restore_9 rfl (q := 10) rfl ?_
    refine gk_iconst hC (v := 2) dX7_restore_10 kc_i_2 (q := 11) rfl ?_
    refine gk_callV (As := [.int 2]) (rest := []) hC (fun l => m_X7_refused l hY a0 2 M t0) ml_RX7_53 ok_X7_refused dX7_restore_11 t0 ⟨by decide, rfl⟩ rfl (by decide) (Nat.le_of_ble_eq_true rfl) rfl (q := 14) rfl (fun r33 => ?_)
    show gk_K Z Y 1 gk_rI 14 [(0, .ref a0)] [.int r33.1] r33.2 _
    exact gk_iret hC hR dX7_restore_14 rfl
def f_X7_wishTold (LN : Nat → Nat) (RF : Nat → Nat → Nat) (a0 : Nat) (a1 : Int32) (a2 : Int32) (M : gk_M) : Option (Int32) :=
  (f_X6_holds LN RF (RF (RF a0 0) 0) a1 M).bind fun r23 =>
  if r23 = 0 then
    some (-1)
  else
  gk_aldr LN RF (RF (RF (RF a0 0) 0) 0) a1 fun o27 =>
  gk_sw a2 0 [some (M.1 o27 0),
    some (M.1 o27 1),
    some (M.1 o27 2),
    some (M.1 o27 3),
    some (M.1 o27 4),
    gk_jn (fun y29 : Int32 =>
      some y29) fun k105_29 =>
    if (M.1 o27 5) = 0 then
      k105_29 0
    else
    k105_29 1]
  (some (-1))
set_option maxHeartbeats 4000000 in
set_option maxRecDepth 100000 in
theorem m_X7_wishTold (l : Launch) {Y : gk_Y} (hY : gk_WF Y) (a0 : Nat) (a1 : Int32) (a2 : Int32) (M : gk_M) (t0 : gk_T Y 17 a0) : gk_MF l Y yX7_wishTold cX7_wishTold 4 (some .int) 1 [.ref a0, .int a1, .int a2] M (gk_rR M) (f_X7_wishTold (gk_ln Y) (gk_rf Y) a0 a1 a2 M) := by
  refine gk_met hY (plainFor_of_name (by decide)) (Nat.le_of_ble_eq_true rfl) fun Z hC hR => ?_
  show gk_K Z Y 4 (gk_rR M) 0 [(0, .ref a0), (1, .int a1), (2, .int a2)] [] M _
  unfold f_X7_wishTold
  refine gk_aload_n hC 0 dX7_wishTold_0 rfl (q := 1) rfl ?_
  refine gk_getR hC dX7_wishTold_1 fl_RX7_17 (by decide) t0 (q := 4) rfl (fun t21 => ?_)
  refine gk_getR hC dX7_wishTold_4 fl_RX7_64 (by decide) t21 (q := 7) rfl (fun t22 => ?_)
  refine gk_iload_n hC 1 dX7_wishTold_7 rfl (q := 8) rfl ?_
  refine gk_callV (As := [.int a1]) (rest := []) hC (fun l => m_X6_holds l hY ((gk_rf Y) ((gk_rf Y) a0 0) 0) a1 M t22) ml_RX7_76 ok_X6_holds dX7_wishTold_8 t22 ⟨by decide, rfl⟩ rfl (by decide) (Nat.le_of_ble_eq_true rfl) rfl (q := 11) rfl (fun r23 => ?_)
  show gk_K Z Y 4 (gk_rR M) 11 [(0, .ref a0), (1, .int a1), (2, .int a2)] [.int r23] M _
  refine gk_if_ne hC dX7_wishTold_11 (tg := 16) rfl (q := 14) rfl ?_ ?_
  · refine gk_iconst hC (v := (-1)) dX7_wishTold_14 kc_i_m1 (q := 15) rfl ?_
    exact gk_iret hC hR dX7_wishTold_15 rfl
  · refine gk_aload_n hC 0 dX7_wishTold_16 rfl (q := 17) rfl ?_
    refine gk_getR hC dX7_wishTold_17 fl_RX7_17 (by decide) t0 (q := 20) rfl (fun t24 => ?_)
    refine gk_getR hC dX7_wishTold_20 fl_RX7_64 (by decide) t24 (q := 23) rfl (fun t25 => ?_)
    refine gk_getR hC dX7_wishTold_23 fl_RX7_80 (by decide) t25 (q := 26) rfl (fun t26 => ?_)
    refine gk_iload_n hC 1 dX7_wishTold_26 rfl (q := 27) rfl ?_
    refine gk_aald hC dX7_wishTold_27 (Or.inr (Or.inl rfl)) t26 (q := 28) rfl (fun o27 t28 => ?_)
    refine gk_astore_n hC (lv' := [(2, .int a2), (3, .ref o27)]) [3, 0] dX7_wishTold_28 (by decide) rfl (q := 29) rfl ?_
    refine gk_iload_n hC 0 dX7_wishTold_29 rfl (q := 30) rfl ?_
    refine gk_table hC (ts := [68, 73, 78, 83, 88, 93]) (tg := 106) dX7_wishTold_30 (by decide) (by decide) rfl ⟨?_, ?_, ?_, ?_, ?_, ?_, trivial⟩ ?_
    · refine gk_aload_n hC 1 dX7_wishTold_68 rfl (q := 69) rfl ?_
      refine gk_getI hC dX7_wishTold_69 fl_RX7_140 t28 (q := 72) rfl ?_
      exact gk_iret hC hR dX7_wishTold_72 rfl
    · refine gk_aload_n hC 1 dX7_wishTold_73 rfl (q := 74) rfl ?_
      refine gk_getI hC dX7_wishTold_74 fl_RX7_143 t28 (q := 77) rfl ?_
      exact gk_iret hC hR dX7_wishTold_77 rfl
    · refine gk_aload_n hC 1 dX7_wishTold_78 rfl (q := 79) rfl ?_
      refine gk_getI hC dX7_wishTold_79 fl_RX7_93 t28 (q := 82) rfl ?_
      exact gk_iret hC hR dX7_wishTold_82 rfl
    · refine gk_aload_n hC 1 dX7_wishTold_83 rfl (q := 84) rfl ?_
      refine gk_getI hC dX7_wishTold_84 fl_RX7_146 t28 (q := 87) rfl ?_
      exact gk_iret hC hR dX7_wishTold_87 rfl
    · refine gk_aload_n hC 1 dX7_wishTold_88 rfl (q := 89) rfl ?_
      refine gk_getI hC dX7_wishTold_89 fl_RX7_149 t28 (q := 92) rfl ?_
      exact gk_iret hC hR dX7_wishTold_92 rfl
    · refine gk_aload_n hC 1 dX7_wishTold_93 rfl (q := 94) rfl ?_
      refine gk_getZ hC dX7_wishTold_94 fl_RX7_84 t28 (q := 97) rfl ?_
      refine gk_jnR (fun k105_29 => ∀ z30 : Int32, gk_K Z Y 4 (gk_rR M) 105 [] [.int z30] M (k105_29 z30)) (fun y29 => ?_) (fun k105_29 hk105_29 => ?_)
      · show gk_K Z Y 4 (gk_rR M) 105 [] [.int y29] M _
        exact gk_iret hC hR dX7_wishTold_105 rfl
      · refine gk_if_eq hC dX7_wishTold_97 (tg := 104) rfl (q := 100) rfl ?_ ?_
        · refine gk_iconst hC (v := 0) dX7_wishTold_104 kc_i_0 (q := 105) rfl ?_
          refine gk_pick [] rfl ?_
          exact hk105_29 0
        · refine gk_iconst hC (v := 1) dX7_wishTold_100 kc_i_1 (q := 101) rfl ?_
          refine gk_goto hC dX7_wishTold_101 (q := 105) rfl ?_
          refine gk_pick [] rfl ?_
          exact hk105_29 1
    · refine gk_iconst hC (v := (-1)) dX7_wishTold_106 kc_i_m1 (q := 107) rfl ?_
      exact gk_iret hC hR dX7_wishTold_107 rfl
def f_X7_lineTold (LN : Nat → Nat) (RF : Nat → Nat → Nat) (a0 : Nat) (a1 : Int32) (a2 : Int32) (M : gk_M) : Option (Int32) :=
  (f_X2_isLine LN RF (RF a0 0) a1 M).bind fun r22 =>
  if r22 = 0 then
    some (-1)
  else
  gk_sw a2 0 [gk_ald LN M (RF (RF a0 0) 2) a1 fun x25 =>
    some x25,
    gk_ald LN M (RF (RF a0 0) 3) a1 fun x28 =>
    some x28,
    gk_ald LN M (RF (RF a0 0) 4) a1 fun x31 =>
    some x31,
    (f_X2_isRinging LN RF (RF a0 0) a1 M).bind fun r33 =>
    gk_jn (fun y34 : Int32 =>
      some y34) fun k94_34 =>
    if r33 = 0 then
      k94_34 0
    else
    k94_34 1,
    (f_X6_countOn LN RF (RF (RF a0 0) 0) a1 M).bind fun r38 =>
    some r38]
  (gk_jn (fun y39 : Int32 =>
    some y39) fun k130_39 =>
  if 5 ≤ a2 then
    (f_X6_inOrder LN RF (RF (RF a0 0) 0) a1 (a2 - 5) M).bind fun r43 =>
    k130_39 r43
  else
  k130_39 (-1))
set_option maxHeartbeats 4000000 in
set_option maxRecDepth 100000 in
theorem m_X7_lineTold (l : Launch) {Y : gk_Y} (hY : gk_WF Y) (a0 : Nat) (a1 : Int32) (a2 : Int32) (M : gk_M) (t0 : gk_T Y 17 a0) : gk_MF l Y yX7_lineTold cX7_lineTold 3 (some .int) 3 [.ref a0, .int a1, .int a2] M (gk_rR M) (f_X7_lineTold (gk_ln Y) (gk_rf Y) a0 a1 a2 M) := by
  refine gk_met hY (plainFor_of_name (by decide)) (Nat.le_of_ble_eq_true rfl) fun Z hC hR => ?_
  show gk_K Z Y 3 (gk_rR M) 0 [(0, .ref a0), (1, .int a1), (2, .int a2)] [] M _
  unfold f_X7_lineTold
  refine gk_aload_n hC 0 dX7_lineTold_0 rfl (q := 1) rfl ?_
  refine gk_getR hC dX7_lineTold_1 fl_RX7_17 (by decide) t0 (q := 4) rfl (fun t21 => ?_)
  refine gk_iload_n hC 1 dX7_lineTold_4 rfl (q := 5) rfl ?_
  refine gk_callV (As := [.int a1]) (rest := []) hC (fun l => m_X2_isLine l hY ((gk_rf Y) a0 0) a1 M t21) ml_RX7_96 ok_X2_isLine dX7_lineTold_5 t21 ⟨by decide, rfl⟩ rfl (by decide) (Nat.le_of_ble_eq_true rfl) rfl (q := 8) rfl (fun r22 => ?_)
  show gk_K Z Y 3 (gk_rR M) 8 [(0, .ref a0), (1, .int a1), (2, .int a2)] [.int r22] M _
  refine gk_if_ne hC dX7_lineTold_8 (tg := 13) rfl (q := 11) rfl ?_ ?_
  · refine gk_iconst hC (v := (-1)) dX7_lineTold_11 kc_i_m1 (q := 12) rfl ?_
    exact gk_iret hC hR dX7_lineTold_12 rfl
  · refine gk_iload_n hC 2 dX7_lineTold_13 rfl (q := 14) rfl ?_
    refine gk_table hC (ts := [48, 58, 68, 78, 95]) (tg := 107) dX7_lineTold_14 (by decide) (by decide) rfl ⟨?_, ?_, ?_, ?_, ?_, trivial⟩ ?_
    · refine gk_aload_n hC 0 dX7_lineTold_48 rfl (q := 49) rfl ?_
      refine gk_getR hC dX7_lineTold_49 fl_RX7_17 (by decide) t0 (q := 52) rfl (fun t23 => ?_)
      refine gk_getR hC dX7_lineTold_52 fl_RX7_152 (by decide) t23 (q := 55) rfl (fun t24 => ?_)
      refine gk_iload_n hC 1 dX7_lineTold_55 rfl (q := 56) rfl ?_
      refine gk_iald hC dX7_lineTold_56 t24 (q := 57) rfl (fun x25 => ?_)
      exact gk_iret hC hR dX7_lineTold_57 rfl
    · refine gk_aload_n hC 0 dX7_lineTold_58 rfl (q := 59) rfl ?_
      refine gk_getR hC dX7_lineTold_59 fl_RX7_17 (by decide) t0 (q := 62) rfl (fun t26 => ?_)
      refine gk_getR hC dX7_lineTold_62 fl_RX7_155 (by decide) t26 (q := 65) rfl (fun t27 => ?_)
      refine gk_iload_n hC 1 dX7_lineTold_65 rfl (q := 66) rfl ?_
      refine gk_iald hC dX7_lineTold_66 t27 (q := 67) rfl (fun x28 => ?_)
      exact gk_iret hC hR dX7_lineTold_67 rfl
    · refine gk_aload_n hC 0 dX7_lineTold_68 rfl (q := 69) rfl ?_
      refine gk_getR hC dX7_lineTold_69 fl_RX7_17 (by decide) t0 (q := 72) rfl (fun t29 => ?_)
      refine gk_getR hC dX7_lineTold_72 fl_RX7_158 (by decide) t29 (q := 75) rfl (fun t30 => ?_)
      refine gk_iload_n hC 1 dX7_lineTold_75 rfl (q := 76) rfl ?_
      refine gk_iald hC dX7_lineTold_76 t30 (q := 77) rfl (fun x31 => ?_)
      exact gk_iret hC hR dX7_lineTold_77 rfl
    · refine gk_aload_n hC 0 dX7_lineTold_78 rfl (q := 79) rfl ?_
      refine gk_getR hC dX7_lineTold_79 fl_RX7_17 (by decide) t0 (q := 82) rfl (fun t32 => ?_)
      refine gk_iload_n hC 1 dX7_lineTold_82 rfl (q := 83) rfl ?_
      refine gk_callV (As := [.int a1]) (rest := []) hC (fun l => m_X2_isRinging l hY ((gk_rf Y) a0 0) a1 M t32) ml_RX7_109 ok_X2_isRinging dX7_lineTold_83 t32 ⟨by decide, rfl⟩ rfl (by decide) (Nat.le_of_ble_eq_true rfl) rfl (q := 86) rfl (fun r33 => ?_)
      show gk_K Z Y 3 (gk_rR M) 86 [(0, .ref a0), (1, .int a1), (2, .int a2)] [.int r33] M _
      refine gk_jnR (fun k94_34 => ∀ z35 : Int32, gk_K Z Y 3 (gk_rR M) 94 [] [.int z35] M (k94_34 z35)) (fun y34 => ?_) (fun k94_34 hk94_34 => ?_)
      · show gk_K Z Y 3 (gk_rR M) 94 [] [.int y34] M _
        exact gk_iret hC hR dX7_lineTold_94 rfl
      · refine gk_if_eq hC dX7_lineTold_86 (tg := 93) rfl (q := 89) rfl ?_ ?_
        · refine gk_iconst hC (v := 0) dX7_lineTold_93 kc_i_0 (q := 94) rfl ?_
          refine gk_pick [] rfl ?_
          exact hk94_34 0
        · refine gk_iconst hC (v := 1) dX7_lineTold_89 kc_i_1 (q := 90) rfl ?_
          refine gk_goto hC dX7_lineTold_90 (q := 94) rfl ?_
          refine gk_pick [] rfl ?_
          exact hk94_34 1
    · refine gk_aload_n hC 0 dX7_lineTold_95 rfl (q := 96) rfl ?_
      refine gk_getR hC dX7_lineTold_96 fl_RX7_17 (by decide) t0 (q := 99) rfl (fun t36 => ?_)
      refine gk_getR hC dX7_lineTold_99 fl_RX7_64 (by decide) t36 (q := 102) rfl (fun t37 => ?_)
      refine gk_iload_n hC 1 dX7_lineTold_102 rfl (q := 103) rfl ?_
      refine gk_callV (As := [.int a1]) (rest := []) hC (fun l => m_X6_countOn l hY ((gk_rf Y) ((gk_rf Y) a0 0) 0) a1 M t37) ml_RX7_161 ok_X6_countOn dX7_lineTold_103 t37 ⟨by decide, rfl⟩ rfl (by decide) (Nat.le_of_ble_eq_true rfl) rfl (q := 106) rfl (fun r38 => ?_)
      show gk_K Z Y 3 (gk_rR M) 106 [(0, .ref a0), (1, .int a1), (2, .int a2)] [.int r38] M _
      exact gk_iret hC hR dX7_lineTold_106 rfl
    · refine gk_iload_n hC 2 dX7_lineTold_107 rfl (q := 108) rfl ?_
      refine gk_iconst hC (v := 5) dX7_lineTold_108 kc_i_5 (q := 109) rfl ?_
      refine gk_jnR (fun k130_39 => ∀ z40 : Int32, gk_K Z Y 3 (gk_rR M) 130 [] [.int z40] M (k130_39 z40)) (fun y39 => ?_) (fun k130_39 hk130_39 => ?_)
      · show gk_K Z Y 3 (gk_rR M) 130 [] [.int y39] M _
        exact gk_iret hC hR dX7_lineTold_130 rfl
      · refine gk_icmp_ge hC dX7_lineTold_109 (tg := 116) rfl (q := 112) rfl ?_ ?_
        · refine gk_aload_n hC 0 dX7_lineTold_116 rfl (q := 117) rfl ?_
          refine gk_getR hC dX7_lineTold_117 fl_RX7_17 (by decide) t0 (q := 120) rfl (fun t41 => ?_)
          refine gk_getR hC dX7_lineTold_120 fl_RX7_64 (by decide) t41 (q := 123) rfl (fun t42 => ?_)
          refine gk_iload_n hC 1 dX7_lineTold_123 rfl (q := 124) rfl ?_
          refine gk_iload_n hC 2 dX7_lineTold_124 rfl (q := 125) rfl ?_
          refine gk_iconst hC (v := 5) dX7_lineTold_125 kc_i_5 (q := 126) rfl ?_
          refine gk_isub hC dX7_lineTold_126 (q := 127) rfl ?_
          refine gk_callV (As := [.int a1, .int (a2 - 5)]) (rest := []) hC (fun l => m_X6_inOrder l hY ((gk_rf Y) ((gk_rf Y) a0 0) 0) a1 (a2 - 5) M t42) ml_RX7_164 ok_X6_inOrder dX7_lineTold_127 t42 ⟨by decide, rfl⟩ rfl (by decide) (Nat.le_of_ble_eq_true rfl) rfl (q := 130) rfl (fun r43 => ?_)
          show gk_K Z Y 3 (gk_rR M) 130 [(0, .ref a0), (1, .int a1), (2, .int a2)] [.int r43] M _
          refine gk_pick [] rfl ?_
          exact hk130_39 r43
        · refine gk_iconst hC (v := (-1)) dX7_lineTold_112 kc_i_m1 (q := 113) rfl ?_
          refine gk_goto hC dX7_lineTold_113 (q := 130) rfl ?_
          refine gk_pick [] rfl ?_
          exact hk130_39 (-1)
end
