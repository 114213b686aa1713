noncomputable section
def f_X2_canHangUp (LN : Nat → Nat) (RF : Nat → Nat → Nat) (a0 : Nat) (a1 : Int32) (M : gk_M) : Option (Int32) :=
  (f_X2_isFree LN RF a0 a1 M).bind fun r21 =>
  gk_jn (fun y22 : Int32 =>
    gk_zz y22 (some y22)) fun k21_22 =>
  gk_jn (fun y24 : Unit =>
    k21_22 0) fun k20_24 =>
  if r21 = 0 then
    (f_X2_isRinging LN RF a0 a1 M).bind fun r26 =>
    if r26 = 0 then
      k21_22 1
    else
    k20_24 ()
  else
  k20_24 ()
set_option maxHeartbeats 4000000 in
set_option maxRecDepth 100000 in
theorem m_X2_canHangUp (l : Launch) {Y : gk_Y} (hY : gk_WF Y) (a0 : Nat) (a1 : Int32) (M : gk_M) (t0 : gk_T Y 12 a0) : gk_MF l Y yX2_canHangUp cX2_canHangUp 2 (some .boolean) 2 [.ref a0, .int a1] M (gk_rR M) (f_X2_canHangUp (gk_ln Y) (gk_rf Y) a0 a1 M) := by
  refine gk_met hY (plainFor_of_name (by decide)) (Nat.le_of_ble_eq_true rfl) fun Z hC hR => ?_
  show gk_K Z Y 2 (gk_rR M) 0 [(0, .ref a0), (1, .int a1)] [] M _
  unfold f_X2_canHangUp
  refine gk_aload_n hC 0 dX2_canHangUp_0 rfl (q := 1) rfl ?_
  refine gk_iload_n hC 1 dX2_canHangUp_1 rfl (q := 2) rfl ?_
  refine gk_callV (As := [.int a1]) (rest := []) hC (fun l => m_X2_isFree l hY a0 a1 M t0) ml_RX2_61 ok_X2_isFree dX2_canHangUp_2 t0 ⟨by decide, rfl⟩ rfl (by decide) (Nat.le_of_ble_eq_true rfl) rfl (q := 5) rfl (fun r21 => ?_)
  show gk_K Z Y 2 (gk_rR M) 5 [(0, .ref a0), (1, .int a1)] [.int r21] M _
  refine gk_jnR (fun k21_22 => ∀ z23 : Int32, gk_K Z Y 2 (gk_rR M) 21 [] [.int z23] M (k21_22 z23)) (fun y22 => ?_) (fun k21_22 hk21_22 => ?_)
  · show gk_K Z Y 2 (gk_rR M) 21 [] [.int y22] M _
    exact gk_zzR (fun hv => gk_zret hC hR dX2_canHangUp_21 hv rfl)
  · refine gk_jnR (fun k20_24 => ∀ z25 : Unit, gk_K Z Y 2 (gk_rR M) 20 [] [] M (k20_24 z25)) (fun y24 => ?_) (fun k20_24 hk20_24 => ?_)
    · show gk_K Z Y 2 (gk_rR M) 20 [] [] M _
      refine gk_iconst hC (v := 0) dX2_canHangUp_20 kc_i_0 (q := 21) rfl ?_
      exact hk21_22 0
    · refine gk_if_ne hC dX2_canHangUp_5 (tg := 20) rfl (q := 8) rfl ?_ ?_
      · refine gk_aload_n hC 0 dX2_canHangUp_8 rfl (q := 9) rfl ?_
        refine gk_iload_n hC 1 dX2_canHangUp_9 rfl (q := 10) rfl ?_
        refine gk_callV (As := [.int a1]) (rest := []) hC (fun l => m_X2_isRinging l hY a0 a1 M t0) ml_RX2_68 ok_X2_isRinging dX2_canHangUp_10 t0 ⟨by decide, rfl⟩ rfl (by decide) (Nat.le_of_ble_eq_true rfl) rfl (q := 13) rfl (fun r26 => ?_)
        show gk_K Z Y 2 (gk_rR M) 13 [(0, .ref a0), (1, .int a1)] [.int r26] M _
        refine gk_if_ne hC dX2_canHangUp_13 (tg := 20) rfl (q := 16) rfl ?_ ?_
        · refine gk_iconst hC (v := 1) dX2_canHangUp_16 kc_i_1 (q := 17) rfl ?_
          refine gk_goto hC dX2_canHangUp_17 (q := 21) rfl ?_
          refine gk_pick [] rfl ?_
          exact hk21_22 1
        · refine gk_pick [] rfl ?_
          exact hk20_24 ()
      · refine gk_pick [] rfl ?_
        exact hk20_24 ()
def f_X5_isOnFor (LN : Nat → Nat) (RF : Nat → Nat → Nat) (a0 : Nat) (a1 : Int32) (M : gk_M) : Option (Int32) :=
  gk_jn (fun y21 : Int32 =>
    gk_zz y21 (some y21)) fun k20_21 =>
  gk_jn (fun y23 : Unit =>
    k20_21 0) fun k19_23 =>
  if (M.1 a0 5) = 0 then
    k19_23 ()
  else
  if (M.1 a0 0) = a1 then
    k20_21 1
  else
  k19_23 ()
set_option maxHeartbeats 4000000 in
set_option maxRecDepth 100000 in
theorem m_X5_isOnFor (l : Launch) {Y : gk_Y} (hY : gk_WF Y) (a0 : Nat) (a1 : Int32) (M : gk_M) (t0 : gk_T Y 15 a0) : gk_MF l Y yX5_isOnFor cX5_isOnFor 2 (some .boolean) 0 [.ref a0, .int a1] M (gk_rR M) (f_X5_isOnFor (gk_ln Y) (gk_rf Y) a0 a1 M) := by
  refine gk_met hY (plainFor_of_name (by decide)) (Nat.le_of_ble_eq_true rfl) fun Z hC hR => ?_
  show gk_K Z Y 2 (gk_rR M) 0 [(0, .ref a0), (1, .int a1)] [] M _
  unfold f_X5_isOnFor
  refine gk_aload_n hC 0 dX5_isOnFor_0 rfl (q := 1) rfl ?_
  refine gk_getZ hC dX5_isOnFor_1 fl_RX5_27 t0 (q := 4) rfl ?_
  refine gk_jnR (fun k20_21 => ∀ z22 : Int32, gk_K Z Y 2 (gk_rR M) 20 [] [.int z22] M (k20_21 z22)) (fun y21 => ?_) (fun k20_21 hk20_21 => ?_)
  · show gk_K Z Y 2 (gk_rR M) 20 [] [.int y21] M _
    exact gk_zzR (fun hv => gk_zret hC hR dX5_isOnFor_20 hv rfl)
  · refine gk_jnR (fun k19_23 => ∀ z24 : Unit, gk_K Z Y 2 (gk_rR M) 19 [] [] M (k19_23 z24)) (fun y23 => ?_) (fun k19_23 hk19_23 => ?_)
    · show gk_K Z Y 2 (gk_rR M) 19 [] [] M _
      refine gk_iconst hC (v := 0) dX5_isOnFor_19 kc_i_0 (q := 20) rfl ?_
      exact hk20_21 0
    · refine gk_if_eq hC dX5_isOnFor_4 (tg := 19) rfl (q := 7) rfl ?_ ?_
      · refine gk_pick [] rfl ?_
        exact hk19_23 ()
      · refine gk_aload_n hC 0 dX5_isOnFor_7 rfl (q := 8) rfl ?_
        refine gk_getI hC dX5_isOnFor_8 fl_RX5_9 t0 (q := 11) rfl ?_
        refine gk_iload_n hC 1 dX5_isOnFor_11 rfl (q := 12) rfl ?_
        refine gk_icmp_ne hC dX5_isOnFor_12 (tg := 19) rfl (q := 15) rfl ?_ ?_
        · refine gk_iconst hC (v := 1) dX5_isOnFor_15 kc_i_1 (q := 16) rfl ?_
          refine gk_goto hC dX5_isOnFor_16 (q := 20) rfl ?_
          refine gk_pick [] rfl ?_
          exact hk20_21 1
        · refine gk_pick [] rfl ?_
          exact hk19_23 ()
def lp_X6_hides_2 (LN : Nat → Nat) (RF : Nat → Nat → Nat) (v0 : Nat) (v1 : Int32) (v2 : Int32) (M : gk_M) (k53 : Unit → Option (Int32)) : Nat → Int32 → Option (Int32)
  | 0, _ => none
  | n + 1, x =>
    if (M.1 v0 1) ≤ x then
      k53 ()
    else
    gk_aldr LN RF (RF v0 0) x fun o2 =>
    gk_jn (fun y4 : Unit =>
      lp_X6_hides_2 LN RF v0 v1 v2 M k53 n (x + 1)) fun k47_4 =>
    if (M.1 o2 1) = 3 then
      (f_X5_isOnFor LN RF o2 v1 M).bind fun r6 =>
      if r6 = 0 then
        k47_4 ()
      else
      if (M.1 o2 3) = v2 then
        k47_4 ()
      else
      some 1
    else
    k47_4 ()
def f_X6_hides (LN : Nat → Nat) (RF : Nat → Nat → Nat) (a0 : Nat) (a1 : Int32) (a2 : Int32) (M : gk_M) : Option (Int32) :=
  gk_jn (fun y21 : Unit =>
    some 0) fun k53_21 =>
  lp_X6_hides_2 LN RF a0 a1 a2 M k53_21 gk_fuel 0
set_option maxHeartbeats 4000000 in
set_option maxRecDepth 100000 in
theorem lk_X6_hides_2 {Z : gk_Z} {Y : gk_Y} (hY : gk_WF Y) (hC : gk_C Z Y cX6_hides 5 RX6 1) (hR : gk_R Z Y (some .boolean)) (v0 : Nat) (v1 : Int32) (v2 : Int32) (M : gk_M) (tv0 : gk_T Y 16 v0) (k53 : Unit → Option (Int32)) (hk53 : ∀ z23 : Unit, gk_K Z Y 5 (gk_rR M) 53 [] [] M (k53 z23)) : ∀ (n : Nat) (x : Int32), gk_K Z Y 5 (gk_rR M) 2 [(0, .ref v0), (1, .int v1), (2, .int v2), (3, .int x)] [] M (lp_X6_hides_2 (gk_ln Y) (gk_rf Y) v0 v1 v2 M k53 n x) := by
  intro n
  induction n with
  | zero => intro x; exact gk_none
  | succ n ih =>
    intro x
    rw [lp_X6_hides_2]
    refine gk_iload_n hC 3 dX6_hides_2 rfl (q := 3) rfl ?_
    refine gk_aload_n hC 0 dX6_hides_3 rfl (q := 4) rfl ?_
    refine gk_getI hC dX6_hides_4 fl_RX6_18 tv0 (q := 7) rfl ?_
    refine gk_icmp_ge hC dX6_hides_7 (tg := 53) rfl (q := 10) rfl ?_ ?_
    · refine gk_pick [] rfl ?_
      exact hk53 ()
    · refine gk_aload_n hC 0 dX6_hides_10 rfl (q := 11) rfl ?_
      refine gk_getR hC dX6_hides_11 fl_RX6_11 (by decide) tv0 (q := 14) rfl (fun t1 => ?_)
      refine gk_iload_n hC 3 dX6_hides_14 rfl (q := 15) rfl ?_
      refine gk_aald hC dX6_hides_15 (Or.inr (Or.inl rfl)) t1 (q := 16) rfl (fun o2 t3 => ?_)
      refine gk_astore hC (lv' := [(0, .ref v0), (1, .int v1), (2, .int v2), (3, .int x), (4, .ref o2)]) [1, 2, 3, 4, 0] dX6_hides_16 (by decide) rfl (q := 18) rfl ?_
      refine gk_aload hC 4 dX6_hides_18 rfl (q := 20) rfl ?_
      refine gk_getI hC dX6_hides_20 fl_RX6_33 t3 (q := 23) rfl ?_
      refine gk_iconst hC (v := 3) dX6_hides_23 kc_i_3 (q := 24) rfl ?_
      refine gk_jnR (fun k47_4 => ∀ z5 : Unit, gk_K Z Y 5 (gk_rR M) 47 [(0, .ref v0), (1, .int v1), (2, .int v2), (3, .int x)] [] M (k47_4 z5)) (fun y4 => ?_) (fun k47_4 hk47_4 => ?_)
      · show gk_K Z Y 5 (gk_rR M) 47 [(0, .ref v0), (1, .int v1), (2, .int v2), (3, .int x)] [] M _
        refine gk_iinc hC (v := 1) 3 (lv' := [(0, .ref v0), (1, .int v1), (2, .int v2), (3, .int (x + 1))]) [1, 2, 3, 0] dX6_hides_47 rfl kc_i_1 (by decide) rfl (q := 50) rfl ?_
        refine gk_goto hC dX6_hides_50 (q := 2) rfl ?_
        exact ih (x + 1)
      · refine gk_icmp_ne hC dX6_hides_24 (tg := 47) rfl (q := 27) rfl ?_ ?_
        · refine gk_aload hC 4 dX6_hides_27 rfl (q := 29) rfl ?_
          refine gk_iload_n hC 1 dX6_hides_29 rfl (q := 30) rfl ?_
          refine gk_callV (As := [.int v1]) (rest := []) hC (fun l => m_X5_isOnFor l hY o2 v1 M t3) ml_RX6_49 ok_X5_isOnFor dX6_hides_30 t3 ⟨by decide, rfl⟩ rfl (by decide) (Nat.le_of_ble_eq_true rfl) rfl (q := 33) rfl (fun r6 => ?_)
          show gk_K Z Y 5 (gk_rR M) 33 [(0, .ref v0), (1, .int v1), (2, .int v2), (3, .int x), (4, .ref o2)] [.int r6] M _
          refine gk_if_eq hC dX6_hides_33 (tg := 47) rfl (q := 36) rfl ?_ ?_
          · refine gk_pick [0, 1, 2, 3] rfl ?_
            exact hk47_4 ()
          · refine gk_aload hC 4 dX6_hides_36 rfl (q := 38) rfl ?_
            refine gk_getI hC dX6_hides_38 fl_RX6_39 t3 (q := 41) rfl ?_
            refine gk_iload_n hC 2 dX6_hides_41 rfl (q := 42) rfl ?_
            refine gk_icmp_eq hC dX6_hides_42 (tg := 47) rfl (q := 45) rfl ?_ ?_
            · refine gk_pick [0, 1, 2, 3] rfl ?_
              exact hk47_4 ()
            · refine gk_iconst hC (v := 1) dX6_hides_45 kc_i_1 (q := 46) rfl ?_
              exact gk_zret hC hR dX6_hides_46 (Or.inr rfl) rfl
        · refine gk_pick [0, 1, 2, 3] rfl ?_
          exact hk47_4 ()
set_option maxHeartbeats 4000000 in
set_option maxRecDepth 100000 in
theorem m_X6_hides (l : Launch) {Y : gk_Y} (hY : gk_WF Y) (a0 : Nat) (a1 : Int32) (a2 : Int32) (M : gk_M) (t0 : gk_T Y 16 a0) : gk_MF l Y yX6_hides cX6_hides 5 (some .boolean) 1 [.ref a0, .int a1, .int a2] M (gk_rR M) (f_X6_hides (gk_ln Y) (gk_rf Y) a0 a1 a2 M) := by
  refine gk_met hY (plainFor_of_name (by decide)) (Nat.le_of_ble_eq_true rfl) fun Z hC hR => ?_
  show gk_K Z Y 5 (gk_rR M) 0 [(0, .ref a0), (1, .int a1), (2, .int a2)] [] M _
  unfold f_X6_hides
  refine gk_iconst hC (v := 0) dX6_hides_0 kc_i_0 (q := 1) rfl ?_
  refine gk_istore_n hC (lv' := [(0, .ref a0), (1, .int a1), (2, .int a2), (3, .int 0)]) [1, 2, 3, 0] dX6_hides_1 (by decide) rfl (q := 2) rfl ?_
  refine gk_jnR (fun k53_21 => ∀ z22 : Unit, gk_K Z Y 5 (gk_rR M) 53 [] [] M (k53_21 z22)) (fun y21 => ?_) (fun k53_21 hk53_21 => ?_)
  · show gk_K Z Y 5 (gk_rR M) 53 [] [] M _
    refine gk_iconst hC (v := 0) dX6_hides_53 kc_i_0 (q := 54) rfl ?_
    exact gk_zret hC hR dX6_hides_54 (Or.inl rfl) rfl
  · exact lk_X6_hides_2 hY hC hR a0 a1 a2 M t0 k53_21 hk53_21 gk_fuel 0
def f_X2_isTold (LN : Nat → Nat) (RF : Nat → Nat → Nat) (a0 : Nat) (a1 : Nat) (a2 : Int32) (M : gk_M) : Option (Int32) :=
  gk_jn (fun y21 : Int32 =>
    gk_jn (fun y23 : Int32 =>
      gk_zz y23 (some y23)) fun k57_23 =>
    gk_jn (fun y25 : Unit =>
      k57_23 0) fun k56_25 =>
    if y21 = 0 then
      k56_25 ()
    else
    (f_X6_hides LN RF (RF a0 0) (M.1 a1 0) a2 M).bind fun r28 =>
    if r28 = 0 then
      k57_23 1
    else
    k56_25 ()) fun k32_21 =>
  gk_jn (fun y29 : Unit =>
    k32_21 1) fun k27_29 =>
  if (((M.1 a1 4) >>> (a2 &&& 31)) &&& 1) = 0 then
    gk_jn (fun y31 : Unit =>
      k32_21 0) fun k31_31 =>
    if (M.1 a1 1) = 2 then
      if (M.1 a1 5) = a2 then
        k27_29 ()
      else
      k31_31 ()
    else
    k31_31 ()
  else
  k27_29 ()
set_option maxHeartbeats 4000000 in
set_option maxRecDepth 100000 in
theorem m_X2_isTold (l : Launch) {Y : gk_Y} (hY : gk_WF Y) (a0 : Nat) (a1 : Nat) (a2 : Int32) (M : gk_M) (t0 : gk_T Y 12 a0) (ta1 : gk_T Y 11 a1) : gk_MF l Y yX2_isTold cX2_isTold 4 (some .boolean) 2 [.ref a0, .ref a1, .int a2] M (gk_rR M) (f_X2_isTold (gk_ln Y) (gk_rf Y) a0 a1 a2 M) := by
  refine gk_met hY (plainFor_of_name (by decide)) (Nat.le_of_ble_eq_true rfl) fun Z hC hR => ?_
  show gk_K Z Y 4 (gk_rR M) 0 [(0, .ref a0), (1, .ref a1), (2, .int a2)] [] M _
  unfold f_X2_isTold
  refine gk_aload_n hC 1 dX2_isTold_0 rfl (q := 1) rfl ?_
  refine gk_getI hC dX2_isTold_1 fl_RX2_65 ta1 (q := 4) rfl ?_
  refine gk_iload_n hC 2 dX2_isTold_4 rfl (q := 5) rfl ?_
  refine gk_ishr hC dX2_isTold_5 (q := 6) rfl ?_
  refine gk_iconst hC (v := 1) dX2_isTold_6 kc_i_1 (q := 7) rfl ?_
  refine gk_iand hC dX2_isTold_7 (q := 8) rfl ?_
  refine gk_jnR (fun k32_21 => ∀ z22 : Int32, gk_K Z Y 4 (gk_rR M) 32 [(0, .ref a0), (1, .ref a1), (2, .int a2)] [.int z22] M (k32_21 z22)) (fun y21 => ?_) (fun k32_21 hk32_21 => ?_)
  · show gk_K Z Y 4 (gk_rR M) 32 [(0, .ref a0), (1, .ref a1), (2, .int a2)] [.int y21] M _
    refine gk_istore_n hC (lv' := [(0, .ref a0), (1, .ref a1), (2, .int a2), (3, .int y21)]) [1, 2, 3, 0] dX2_isTold_32 (by decide) rfl (q := 33) rfl ?_
    refine gk_iload_n hC 3 dX2_isTold_33 rfl (q := 34) rfl ?_
    refine gk_jnR (fun k57_23 => ∀ z24 : Int32, gk_K Z Y 4 (gk_rR M) 57 [] [.int z24] M (k57_23 z24)) (fun y23 => ?_) (fun k57_23 hk57_23 => ?_)
    · show gk_K Z Y 4 (gk_rR M) 57 [] [.int y23] M _
      exact gk_zzR (fun hv => gk_zret hC hR dX2_isTold_57 hv rfl)
    · refine gk_jnR (fun k56_25 => ∀ z26 : Unit, gk_K Z Y 4 (gk_rR M) 56 [] [] M (k56_25 z26)) (fun y25 => ?_) (fun k56_25 hk56_25 => ?_)
      · show gk_K Z Y 4 (gk_rR M) 56 [] [] M _
        refine gk_iconst hC (v := 0) dX2_isTold_56 kc_i_0 (q := 57) rfl ?_
        exact hk57_23 0
      · refine gk_if_eq hC dX2_isTold_34 (tg := 56) rfl (q := 37) rfl ?_ ?_
        · refine gk_pick [] rfl ?_
          exact hk56_25 ()
        · refine gk_aload_n hC 0 dX2_isTold_37 rfl (q := 38) rfl ?_
          refine gk_getR hC dX2_isTold_38 fl_RX2_27 (by decide) t0 (q := 41) rfl (fun t27 => ?_)
          refine gk_aload_n hC 1 dX2_isTold_41 rfl (q := 42) rfl ?_
          refine gk_getI hC dX2_isTold_42 fl_RX2_77 ta1 (q := 45) rfl ?_
          refine gk_iload_n hC 2 dX2_isTold_45 rfl (q := 46) rfl ?_
          refine gk_callV (As := [.int (M.1 a1 0), .int a2]) (rest := []) hC (fun l => m_X6_hides l hY ((gk_rf Y) a0 0) (M.1 a1 0) a2 M t27) ml_RX2_80 ok_X6_hides dX2_isTold_46 t27 ⟨by decide, rfl⟩ rfl (by decide) (Nat.le_of_ble_eq_true rfl) rfl (q := 49) rfl (fun r28 => ?_)
          show gk_K Z Y 4 (gk_rR M) 49 [(0, .ref a0), (1, .ref a1), (2, .int a2), (3, .int y21)] [.int r28] M _
          refine gk_if_ne hC dX2_isTold_49 (tg := 56) rfl (q := 52) rfl ?_ ?_
          · refine gk_iconst hC (v := 1) dX2_isTold_52 kc_i_1 (q := 53) rfl ?_
            refine gk_goto hC dX2_isTold_53 (q := 57) rfl ?_
            refine gk_pick [] rfl ?_
            exact hk57_23 1
          · refine gk_pick [] rfl ?_
            exact hk56_25 ()
  · refine gk_jnR (fun k27_29 => ∀ z30 : Unit, gk_K Z Y 4 (gk_rR M) 27 [(0, .ref a0), (1, .ref a1), (2, .int a2)] [] M (k27_29 z30)) (fun y29 => ?_) (fun k27_29 hk27_29 => ?_)
    · show gk_K Z Y 4 (gk_rR M) 27 [(0, .ref a0), (1, .ref a1), (2, .int a2)] [] M _
      refine gk_iconst hC (v := 1) dX2_isTold_27 kc_i_1 (q := 28) rfl ?_
      refine gk_goto hC dX2_isTold_28 (q := 32) rfl ?_
      exact hk32_21 1
    · refine gk_if_ne hC dX2_isTold_8 (tg := 27) rfl (q := 11) rfl ?_ ?_
      · refine gk_aload_n hC 1 dX2_isTold_11 rfl (q := 12) rfl ?_
        refine gk_getI hC dX2_isTold_12 fl_RX2_71 ta1 (q := 15) rfl ?_
        refine gk_iconst hC (v := 2) dX2_isTold_15 kc_i_2 (q := 16) rfl ?_
        refine gk_jnR (fun k31_31 => ∀ z32 : Unit, gk_K Z Y 4 (gk_rR M) 31 [(0, .ref a0), (1, .ref a1), (2, .int a2)] [] M (k31_31 z32)) (fun y31 => ?_) (fun k31_31 hk31_31 => ?_)
        · show gk_K Z Y 4 (gk_rR M) 31 [(0, .ref a0), (1, .ref a1), (2, .int a2)] [] M _
          refine gk_iconst hC (v := 0) dX2_isTold_31 kc_i_0 (q := 32) rfl ?_
          exact hk32_21 0
        · refine gk_icmp_ne hC dX2_isTold_16 (tg := 31) rfl (q := 19) rfl ?_ ?_
          · refine gk_aload_n hC 1 dX2_isTold_19 rfl (q := 20) rfl ?_
            refine gk_getI hC dX2_isTold_20 fl_RX2_74 ta1 (q := 23) rfl ?_
            refine gk_iload_n hC 2 dX2_isTold_23 rfl (q := 24) rfl ?_
            refine gk_icmp_ne hC dX2_isTold_24 (tg := 31) rfl (q := 27) rfl ?_ ?_
            · exact hk27_29 ()
            · exact hk31_31 ()
          · exact hk31_31 ()
      · exact hk27_29 ()
def lp_X2_countOpen_4 (LN : Nat → Nat) (RF : Nat → Nat → Nat) (v0 : Nat) (M : gk_M) (k34 : Int32 → Option (Int32)) : Nat → (Int32 × Int32) → Option (Int32)
  | 0, _ => none
  | n + 1, x =>
    if (M.1 v0 8) ≤ x.2 then
      k34 x.1
    else
    gk_aldr LN RF (RF v0 1) x.2 fun o2 =>
    gk_jn (fun y4 : Int32 =>
      lp_X2_countOpen_4 LN RF v0 M k34 n (y4, (x.2 + 1))) fun k28_4 =>
    if (M.1 o2 1) = 3 then
      k28_4 x.1
    else
    k28_4 (x.1 + 1)
def f_X2_countOpen (LN : Nat → Nat) (RF : Nat → Nat → Nat) (a0 : Nat) (M : gk_M) : Option (Int32) :=
  gk_jn (fun y21 : Int32 =>
    some y21) fun k34_21 =>
  lp_X2_countOpen_4 LN RF a0 M k34_21 gk_fuel (0, 0)
set_option maxHeartbeats 4000000 in
set_option maxRecDepth 100000 in
theorem lk_X2_countOpen_4 {Z : gk_Z} {Y : gk_Y} (hY : gk_WF Y) (hC : gk_C Z Y cX2_countOpen 3 RX2 0) (hR : gk_R Z Y (some .int)) (v0 : Nat) (M : gk_M) (tv0 : gk_T Y 12 v0) (k34 : Int32 → Option (Int32)) (hk34 : ∀ z23 : Int32, gk_K Z Y 3 (gk_rR M) 34 [(1, .int z23)] [] M (k34 z23)) : ∀ (n : Nat) (x : Int32 × Int32), gk_K Z Y 3 (gk_rR M) 4 [(0, .ref v0), (1, .int x.1), (2, .int x.2)] [] M (lp_X2_countOpen_4 (gk_ln Y) (gk_rf Y) v0 M k34 n x) := by
  intro n
  induction n with
  | zero => intro x; exact gk_none
  | succ n ih =>
    intro x
    rw [lp_X2_countOpen_4]
    refine gk_iload_n hC 2 dX2_countOpen_4 rfl (q := 5) rfl ?_
    refine gk_aload_n hC 0 dX2_countOpen_5 rfl (q := 6) rfl ?_
    refine gk_getI hC dX2_countOpen_6 fl_RX2_42 tv0 (q := 9) rfl ?_
    refine gk_icmp_ge hC dX2_countOpen_9 (tg := 34) rfl (q := 12) rfl ?_ ?_
    · refine gk_pick [1] rfl ?_
      exact hk34 x.1
    · refine gk_aload_n hC 0 dX2_countOpen_12 rfl (q := 13) rfl ?_
      refine gk_getR hC dX2_countOpen_13 fl_RX2_33 (by decide) tv0 (q := 16) rfl (fun t1 => ?_)
      refine gk_iload_n hC 2 dX2_countOpen_16 rfl (q := 17) rfl ?_
      refine gk_aald hC dX2_countOpen_17 (Or.inl rfl) t1 (q := 18) rfl (fun o2 t3 => ?_)
      refine gk_getI hC dX2_countOpen_18 fl_RX2_71 t3 (q := 21) rfl ?_
      refine gk_iconst hC (v := 3) dX2_countOpen_21 kc_i_3 (q := 22) rfl ?_
      refine gk_jnR (fun k28_4 => ∀ z5 : Int32, gk_K Z Y 3 (gk_rR M) 28 [(0, .ref v0), (1, .int z5), (2, .int x.2)] [] M (k28_4 z5)) (fun y4 => ?_) (fun k28_4 hk28_4 => ?_)
      · show gk_K Z Y 3 (gk_rR M) 28 [(0, .ref v0), (1, .int y4), (2, .int x.2)] [] M _
        refine gk_iinc hC (v := 1) 2 (lv' := [(0, .ref v0), (1, .int y4), (2, .int (x.2 + 1))]) [1, 2, 0] dX2_countOpen_28 rfl kc_i_1 (by decide) rfl (q := 31) rfl ?_
        refine gk_goto hC dX2_countOpen_31 (q := 4) rfl ?_
        exact ih (y4, (x.2 + 1))
      · refine gk_icmp_eq hC dX2_countOpen_22 (tg := 28) rfl (q := 25) rfl ?_ ?_
        · exact hk28_4 x.1
        · refine gk_iinc hC (v := 1) 1 (lv' := [(0, .ref v0), (1, .int (x.1 + 1)), (2, .int x.2)]) [1, 0, 2] dX2_countOpen_25 rfl kc_i_1 (by decide) rfl (q := 28) rfl ?_
          exact hk28_4 (x.1 + 1)
set_option maxHeartbeats 4000000 in
set_option maxRecDepth 100000 in
theorem m_X2_countOpen (l : Launch) {Y : gk_Y} (hY : gk_WF Y) (a0 : Nat) (M : gk_M) (t0 : gk_T Y 12 a0) : gk_MF l Y yX2_countOpen cX2_countOpen 3 (some .int) 0 [.ref a0] M (gk_rR M) (f_X2_countOpen (gk_ln Y) (gk_rf Y) a0 M) := by
  refine gk_met hY (plainFor_of_name (by decide)) (Nat.le_of_ble_eq_true rfl) fun Z hC hR => ?_
  show gk_K Z Y 3 (gk_rR M) 0 [(0, .ref a0)] [] M _
  unfold f_X2_countOpen
  refine gk_iconst hC (v := 0) dX2_countOpen_0 kc_i_0 (q := 1) rfl ?_
  refine gk_istore_n hC (lv' := [(0, .ref a0), (1, .int 0)]) [1, 0] dX2_countOpen_1 (by decide) rfl (q := 2) rfl ?_
  refine gk_iconst hC (v := 0) dX2_countOpen_2 kc_i_0 (q := 3) rfl ?_
  refine gk_istore_n hC (lv' := [(0, .ref a0), (1, .int 0), (2, .int 0)]) [1, 2, 0] dX2_countOpen_3 (by decide) rfl (q := 4) rfl ?_
  refine gk_jnR (fun k34_21 => ∀ z22 : Int32, gk_K Z Y 3 (gk_rR M) 34 [(1, .int z22)] [] M (k34_21 z22)) (fun y21 => ?_) (fun k34_21 hk34_21 => ?_)
  · show gk_K Z Y 3 (gk_rR M) 34 [(1, .int y21)] [] M _
    refine gk_iload_n hC 0 dX2_countOpen_34 rfl (q := 35) rfl ?_
    exact gk_iret hC hR dX2_countOpen_35 rfl
  · exact lk_X2_countOpen_4 hY hC hR a0 M t0 k34_21 hk34_21 gk_fuel (0, 0)
def f_X2_opened (LN : Nat → Nat) (RF : Nat → Nat → Nat) (a0 : Nat) (a1 : Int32) (M : gk_M) : Option (Int32 × gk_M) :=
  (f_X2_hasRoom LN RF a0 M).bind fun r21 =>
  if r21 = 0 then
    some ((-1), M)
  else
  gk_aldr LN RF (RF a0 1) (M.1 a0 8) fun o23 =>
  (f_X1_open LN RF o23 a1 M).bind fun r25 =>
  gk_ast LN r25 (RF a0 2) a1 (r25.1 a0 8) fun M27 =>
  gk_put M27 a0 8 ((M27.1 a0 8) + 1) fun M28 =>
  some (((M28.1 a0 8) - 1), M28)
set_option maxHeartbeats 4000000 in
set_option maxRecDepth 100000 in
theorem m_X2_opened (l : Launch) {Y : gk_Y} (hY : gk_WF Y) (a0 : Nat) (a1 : Int32) (M : gk_M) (t0 : gk_T Y 12 a0) : gk_MF l Y yX2_opened cX2_opened 2 (some .int) 1 [.ref a0, .int a1] M gk_rI (f_X2_opened (gk_ln Y) (gk_rf Y) a0 a1 M) := by
  refine gk_met hY (plainFor_of_name (by decide)) (Nat.le_of_ble_eq_true rfl) fun Z hC hR => ?_
  show gk_K Z Y 2 gk_rI 0 [(0, .ref a0), (1, .int a1)] [] M _
  unfold f_X2_opened
  refine gk_aload_n hC 0 dX2_opened_0 rfl (q := 1) rfl ?_
  refine gk_callV (As := []) (rest := []) hC (fun l => m_X2_hasRoom l hY a0 M t0) ml_RX2_132 ok_X2_hasRoom dX2_opened_1 t0 ⟨by decide, rfl⟩ rfl (by decide) (Nat.le_of_ble_eq_true rfl) rfl (q := 4) rfl (fun r21 => ?_)
  show gk_K Z Y 2 gk_rI 4 [(0, .ref a0), (1, .int a1)] [.int r21] M _
  refine gk_if_ne hC dX2_opened_4 (tg := 9) rfl (q := 7) rfl ?_ ?_
  · refine gk_iconst hC (v := (-1)) dX2_opened_7 kc_i_m1 (q := 8) rfl ?_
    exact gk_iret hC hR dX2_opened_8 rfl
  · refine gk_aload_n hC 0 dX2_opened_9 rfl (q := 10) rfl ?_
    refine gk_getR hC dX2_opened_10 fl_RX2_33 (by decide) t0 (q := 13) rfl (fun t22 => ?_)
    refine gk_aload_n hC 0 dX2_opened_13 rfl (q := 14) rfl ?_
    refine gk_getI hC dX2_opened_14 fl_RX2_42 t0 (q := 17) rfl ?_
    refine gk_aald hC dX2_opened_17 (Or.inl rfl) t22 (q := 18) rfl (fun o23 t24 => ?_)
    refine gk_iload_n hC 1 dX2_opened_18 rfl (q := 19) rfl ?_
    refine gk_callV (As := [.int a1]) (rest := []) hC (fun l => m_X1_open l hY o23 a1 M t24) ml_RX2_158 ok_X1_open dX2_opened_19 t24 ⟨by decide, rfl⟩ rfl (by decide) (Nat.le_of_ble_eq_true rfl) rfl (q := 22) rfl (fun r25 => ?_)
    show gk_K Z Y 2 gk_rI 22 [(0, .ref a0), (1, .int a1)] [] r25 _
    refine gk_aload_n hC 0 dX2_opened_22 rfl (q := 23) rfl ?_
    refine gk_getR hC dX2_opened_23 fl_RX2_9 (by decide) t0 (q := 26) rfl (fun t26 => ?_)
    refine gk_iload_n hC 1 dX2_opened_26 rfl (q := 27) rfl ?_
    refine gk_aload_n hC 0 dX2_opened_27 rfl (q := 28) rfl ?_
    refine gk_getI hC dX2_opened_28 fl_RX2_42 t0 (q := 31) rfl ?_
    refine gk_iast hC dX2_opened_31 t26 (q := 32) rfl (fun M27 => ?_)
    refine gk_aload_n hC 0 dX2_opened_32 rfl (q := 33) rfl ?_
    refine gk_dup hC dX2_opened_33 rfl (q := 34) rfl ?_
    refine gk_getI hC dX2_opened_34 fl_RX2_42 t0 (q := 37) rfl ?_
    refine gk_iconst hC (v := 1) dX2_opened_37 kc_i_1 (q := 38) rfl ?_
    refine gk_iadd hC dX2_opened_38 (q := 39) rfl ?_
    refine gk_putI hC dX2_opened_39 fp_RX2_42 t0 (q := 42) rfl (fun M28 => ?_)
    refine gk_aload_n hC 0 dX2_opened_42 rfl (q := 43) rfl ?_
    refine gk_getI hC dX2_opened_43 fl_RX2_42 t0 (q := 46) rfl ?_
    refine gk_iconst hC (v := 1) dX2_opened_46 kc_i_1 (q := 47) rfl ?_
    refine gk_isub hC dX2_opened_47 (q := 48) rfl ?_
    exact gk_iret hC hR dX2_opened_48 rfl
def f_X2_close (LN : Nat → Nat) (RF : Nat → Nat → Nat) (a0 : Nat) (a1 : Nat) (a2 : Int32) (M : gk_M) : Option (gk_M) :=
  gk_ast LN M (RF a0 2) (M.1 a1 0) (-1) fun M22 =>
  gk_jn (fun y23 : gk_M =>
    gk_jn (fun y25 : gk_M =>
      gk_put y25 a1 5 (-1) fun M27 =>
      gk_put M27 a1 1 3 fun M28 =>
      gk_put M28 a1 2 a2 fun M29 =>
      some M29) fun k46_25 =>
    if (y23.1 a1 1) = 2 then
      gk_ast LN y23 (RF a0 3) (y23.1 a1 5) (-1) fun M31 =>
      k46_25 M31
    else
    k46_25 y23) fun k28_23 =>
  if (M22.1 a1 1) = 1 then
    gk_ast LN M22 (RF a0 2) (M22.1 a1 5) (-1) fun M33 =>
    k28_23 M33
  else
  k28_23 M22
set_option maxHeartbeats 4000000 in
set_option maxRecDepth 100000 in
theorem m_X2_close (l : Launch) {Y : gk_Y} (hY : gk_WF Y) (a0 : Nat) (a1 : Nat) (a2 : Int32) (M : gk_M) (t0 : gk_T Y 12 a0) (ta1 : gk_T Y 11 a1) : gk_MF l Y yX2_close cX2_close 3 none 0 [.ref a0, .ref a1, .int a2] M gk_rV (f_X2_close (gk_ln Y) (gk_rf Y) a0 a1 a2 M) := by
  refine gk_met hY (plainFor_of_name (by decide)) (Nat.le_of_ble_eq_true rfl) fun Z hC hR => ?_
  show gk_K Z Y 3 gk_rV 0 [(0, .ref a0), (1, .ref a1), (2, .int a2)] [] M _
  unfold f_X2_close
  refine gk_aload_n hC 0 dX2_close_0 rfl (q := 1) rfl ?_
  refine gk_getR hC dX2_close_1 fl_RX2_9 (by decide) t0 (q := 4) rfl (fun t21 => ?_)
  refine gk_aload_n hC 1 dX2_close_4 rfl (q := 5) rfl ?_
  refine gk_getI hC dX2_close_5 fl_RX2_77 ta1 (q := 8) rfl ?_
  refine gk_iconst hC (v := (-1)) dX2_close_8 kc_i_m1 (q := 9) rfl ?_
  refine gk_iast hC dX2_close_9 t21 (q := 10) rfl (fun M22 => ?_)
  refine gk_aload_n hC 1 dX2_close_10 rfl (q := 11) rfl ?_
  refine gk_getI hC dX2_close_11 fl_RX2_71 ta1 (q := 14) rfl ?_
  refine gk_iconst hC (v := 1) dX2_close_14 kc_i_1 (q := 15) rfl ?_
  refine gk_jnR (fun k28_23 => ∀ z24 : gk_M, gk_K Z Y 3 gk_rV 28 [(0, .ref a0), (1, .ref a1), (2, .int a2)] [] z24 (k28_23 z24)) (fun y23 => ?_) (fun k28_23 hk28_23 => ?_)
  · show gk_K Z Y 3 gk_rV 28 [(0, .ref a0), (1, .ref a1), (2, .int a2)] [] y23 _
    refine gk_aload_n hC 1 dX2_close_28 rfl (q := 29) rfl ?_
    refine gk_getI hC dX2_close_29 fl_RX2_71 ta1 (q := 32) rfl ?_
    refine gk_iconst hC (v := 2) dX2_close_32 kc_i_2 (q := 33) rfl ?_
    refine gk_jnR (fun k46_25 => ∀ z26 : gk_M, gk_K Z Y 3 gk_rV 46 [(1, .ref a1), (2, .int a2)] [] z26 (k46_25 z26)) (fun y25 => ?_) (fun k46_25 hk46_25 => ?_)
    · show gk_K Z Y 3 gk_rV 46 [(1, .ref a1), (2, .int a2)] [] y25 _
      refine gk_aload_n hC 0 dX2_close_46 rfl (q := 47) rfl ?_
      refine gk_iconst hC (v := (-1)) dX2_close_47 kc_i_m1 (q := 48) rfl ?_
      refine gk_putI hC dX2_close_48 fp_RX2_74 ta1 (q := 51) rfl (fun M27 => ?_)
      refine gk_aload_n hC 0 dX2_close_51 rfl (q := 52) rfl ?_
      refine gk_iconst hC (v := 3) dX2_close_52 kc_i_3 (q := 53) rfl ?_
      refine gk_putI hC dX2_close_53 fp_RX2_71 ta1 (q := 56) rfl (fun M28 => ?_)
      refine gk_aload_n hC 0 dX2_close_56 rfl (q := 57) rfl ?_
      refine gk_iload_n hC 1 dX2_close_57 rfl (q := 58) rfl ?_
      refine gk_putI hC dX2_close_58 fp_RX2_207 ta1 (q := 61) rfl (fun M29 => ?_)
      exact gk_vret hC hR dX2_close_61 rfl
    · refine gk_icmp_ne hC dX2_close_33 (tg := 46) rfl (q := 36) rfl ?_ ?_
      · refine gk_aload_n hC 0 dX2_close_36 rfl (q := 37) rfl ?_
        refine gk_getR hC dX2_close_37 fl_RX2_15 (by decide) t0 (q := 40) rfl (fun t30 => ?_)
        refine gk_aload_n hC 1 dX2_close_40 rfl (q := 41) rfl ?_
        refine gk_getI hC dX2_close_41 fl_RX2_74 ta1 (q := 44) rfl ?_
        refine gk_iconst hC (v := (-1)) dX2_close_44 kc_i_m1 (q := 45) rfl ?_
        refine gk_iast hC dX2_close_45 t30 (q := 46) rfl (fun M31 => ?_)
        refine gk_pick [1, 2] rfl ?_
        exact hk46_25 M31
      · refine gk_pick [1, 2] rfl ?_
        exact hk46_25 y23
  · refine gk_icmp_ne hC dX2_close_15 (tg := 28) rfl (q := 18) rfl ?_ ?_
    · refine gk_aload_n hC 0 dX2_close_18 rfl (q := 19) rfl ?_
      refine gk_getR hC dX2_close_19 fl_RX2_9 (by decide) t0 (q := 22) rfl (fun t32 => ?_)
      refine gk_aload_n hC 1 dX2_close_22 rfl (q := 23) rfl ?_
      refine gk_getI hC dX2_close_23 fl_RX2_74 ta1 (q := 26) rfl ?_
      refine gk_iconst hC (v := (-1)) dX2_close_26 kc_i_m1 (q := 27) rfl ?_
      refine gk_iast hC dX2_close_27 t32 (q := 28) rfl (fun M33 => ?_)
      exact hk28_23 M33
    · exact hk28_23 M22
def lp_X6_has_2 (LN : Nat → Nat) (RF : Nat → Nat → Nat) (v0 : Nat) (v1 : Int32) (v2 : Int32) (M : gk_M) (k52 : Unit → Option (Int32)) : Nat → Int32 → Option (Int32)
  | 0, _ => none
  | n + 1, x =>
    if (M.1 v0 1) ≤ x then
      k52 ()
    else
    gk_aldr LN RF (RF v0 0) x fun o2 =>
    gk_jn (fun y4 : Unit =>
      lp_X6_has_2 LN RF v0 v1 v2 M k52 n (x + 1)) fun k46_4 =>
    if (M.1 o2 5) = 0 then
      k46_4 ()
    else
    if (M.1 o2 0) = v1 then
      if (M.1 o2 1) = v2 then
        some 1
      else
      k46_4 ()
    else
    k46_4 ()
def f_X6_has (LN : Nat → Nat) (RF : Nat → Nat → Nat) (a0 : Nat) (a1 : Int32) (a2 : Int32) (M : gk_M) : Option (Int32) :=
  gk_jn (fun y21 : Unit =>
    some 0) fun k52_21 =>
  lp_X6_has_2 LN RF a0 a1 a2 M k52_21 gk_fuel 0
set_option maxHeartbeats 4000000 in
set_option maxRecDepth 100000 in
theorem lk_X6_has_2 {Z : gk_Z} {Y : gk_Y} (hY : gk_WF Y) (hC : gk_C Z Y cX6_has 5 RX6 0) (hR : gk_R Z Y (some .boolean)) (v0 : Nat) (v1 : Int32) (v2 : Int32) (M : gk_M) (tv0 : gk_T Y 16 v0) (k52 : Unit → Option (Int32)) (hk52 : ∀ z23 : Unit, gk_K Z Y 5 (gk_rR M) 52 [] [] M (k52 z23)) : ∀ (n : Nat) (x : Int32), gk_K Z Y 5 (gk_rR M) 2 [(0, .ref v0), (1, .int v1), (2, .int v2), (3, .int x)] [] M (lp_X6_has_2 (gk_ln Y) (gk_rf Y) v0 v1 v2 M k52 n x) := by
  intro n
  induction n with
  | zero => intro x; exact gk_none
  | succ n ih =>
    intro x
    rw [lp_X6_has_2]
    refine gk_iload_n hC 3 dX6_has_2 rfl (q := 3) rfl ?_
    refine gk_aload_n hC 0 dX6_has_3 rfl (q := 4) rfl ?_
    refine gk_getI hC dX6_has_4 fl_RX6_18 tv0 (q := 7) rfl ?_
    refine gk_icmp_ge hC dX6_has_7 (tg := 52) rfl (q := 10) rfl ?_ ?_
    · refine gk_pick [] rfl ?_
      exact hk52 ()
    · refine gk_aload_n hC 0 dX6_has_10 rfl (q := 11) rfl ?_
      refine gk_getR hC dX6_has_11 fl_RX6_11 (by decide) tv0 (q := 14) rfl (fun t1 => ?_)
      refine gk_iload_n hC 3 dX6_has_14 rfl (q := 15) rfl ?_
      refine gk_aald hC dX6_has_15 (Or.inr (Or.inl rfl)) t1 (q := 16) rfl (fun o2 t3 => ?_)
      refine gk_astore hC (lv' := [(0, .ref v0), (1, .int v1), (2, .int v2), (3, .int x), (4, .ref o2)]) [1, 2, 3, 4, 0] dX6_has_16 (by decide) rfl (q := 18) rfl ?_
      refine gk_aload hC 4 dX6_has_18 rfl (q := 20) rfl ?_
      refine gk_getZ hC dX6_has_20 fl_RX6_45 t3 (q := 23) rfl ?_
      refine gk_jnR (fun k46_4 => ∀ z5 : Unit, gk_K Z Y 5 (gk_rR M) 46 [(0, .ref v0), (1, .int v1), (2, .int v2), (3, .int x)] [] M (k46_4 z5)) (fun y4 => ?_) (fun k46_4 hk46_4 => ?_)
      · show gk_K Z Y 5 (gk_rR M) 46 [(0, .ref v0), (1, .int v1), (2, .int v2), (3, .int x)] [] M _
        refine gk_iinc hC (v := 1) 3 (lv' := [(0, .ref v0), (1, .int v1), (2, .int v2), (3, .int (x + 1))]) [1, 2, 3, 0] dX6_has_46 rfl kc_i_1 (by decide) rfl (q := 49) rfl ?_
        refine gk_goto hC dX6_has_49 (q := 2) rfl ?_
        exact ih (x + 1)
      · refine gk_if_eq hC dX6_has_23 (tg := 46) rfl (q := 26) rfl ?_ ?_
        · refine gk_pick [0, 1, 2, 3] rfl ?_
          exact hk46_4 ()
        · refine gk_aload hC 4 dX6_has_26 rfl (q := 28) rfl ?_
          refine gk_getI hC dX6_has_28 fl_RX6_30 t3 (q := 31) rfl ?_
          refine gk_iload_n hC 1 dX6_has_31 rfl (q := 32) rfl ?_
          refine gk_icmp_ne hC dX6_has_32 (tg := 46) rfl (q := 35) rfl ?_ ?_
          · refine gk_aload hC 4 dX6_has_35 rfl (q := 37) rfl ?_
            refine gk_getI hC dX6_has_37 fl_RX6_33 t3 (q := 40) rfl ?_
            refine gk_iload_n hC 2 dX6_has_40 rfl (q := 41) rfl ?_
            refine gk_icmp_ne hC dX6_has_41 (tg := 46) rfl (q := 44) rfl ?_ ?_
            · refine gk_iconst hC (v := 1) dX6_has_44 kc_i_1 (q := 45) rfl ?_
              exact gk_zret hC hR dX6_has_45 (Or.inr rfl) rfl
            · refine gk_pick [0, 1, 2, 3] rfl ?_
              exact hk46_4 ()
          · refine gk_pick [0, 1, 2, 3] rfl ?_
            exact hk46_4 ()
set_option maxHeartbeats 4000000 in
set_option maxRecDepth 100000 in
theorem m_X6_has (l : Launch) {Y : gk_Y} (hY : gk_WF Y) (a0 : Nat) (a1 : Int32) (a2 : Int32) (M : gk_M) (t0 : gk_T Y 16 a0) : gk_MF l Y yX6_has cX6_has 5 (some .boolean) 0 [.ref a0, .int a1, .int a2] M (gk_rR M) (f_X6_has (gk_ln Y) (gk_rf Y) a0 a1 a2 M) := by
  refine gk_met hY (plainFor_of_name (by decide)) (Nat.le_of_ble_eq_true rfl) fun Z hC hR => ?_
  show gk_K Z Y 5 (gk_rR M) 0 [(0, .ref a0), (1, .int a1), (2, .int a2)] [] M _
  unfold f_X6_has
  refine gk_iconst hC (v := 0) dX6_has_0 kc_i_0 (q := 1) rfl ?_
  refine gk_istore_n hC (lv' := [(0, .ref a0), (1, .int a1), (2, .int a2), (3, .int 0)]) [1, 2, 3, 0] dX6_has_1 (by decide) rfl (q := 2) rfl ?_
  refine gk_jnR (fun k52_21 => ∀ z22 : Unit, gk_K Z Y 5 (gk_rR M) 52 [] [] M (k52_21 z22)) (fun y21 => ?_) (fun k52_21 hk52_21 => ?_)
  · show gk_K Z Y 5 (gk_rR M) 52 [] [] M _
    refine gk_iconst hC (v := 0) dX6_has_52 kc_i_0 (q := 53) rfl ?_
    exact gk_zret hC hR dX6_has_53 (Or.inl rfl) rfl
  · exact lk_X6_has_2 hY hC hR a0 a1 a2 M t0 k52_21 hk52_21 gk_fuel 0
def f_X5_shutsOut (LN : Nat → Nat) (RF : Nat → Nat → Nat) (a0 : Nat) (a1 : Int32) (a2 : Int32) (a3 : Int32) (M : gk_M) : Option (Int32) :=
  gk_jn (fun y21 : Int32 =>
    gk_jn (fun y23 : Int32 =>
      gk_jn (fun y25 : Int32 =>
        gk_zz y25 (some y25)) fun k73_25 =>
      gk_jn (fun y27 : Unit =>
        k73_25 0) fun k72_27 =>
      if (M.1 a0 1) = 2 then
        if y21 = 0 then
          k72_27 ()
        else
        if ((M.1 a0 4) &&& y23) = 0 then
          k72_27 ()
        else
        k73_25 1
      else
      k72_27 ()) fun k43_23 =>
    if 12 ≤ a3 then
      k43_23 2
    else
    k43_23 1) fun k30_21 =>
  gk_jn (fun y29 : Unit =>
    k30_21 1) fun k25_29 =>
  if (M.1 a0 3) = a1 then
    k25_29 ()
  else
  gk_jn (fun y31 : Unit =>
    k30_21 0) fun k29_31 =>
  if ((M.1 a0 4) &&& 4) = 0 then
    k29_31 ()
  else
  if (M.1 a0 3) = a2 then
    k25_29 ()
  else
  k29_31 ()
set_option maxHeartbeats 4000000 in
set_option maxRecDepth 100000 in
theorem m_X5_shutsOut (l : Launch) {Y : gk_Y} (hY : gk_WF Y) (a0 : Nat) (a1 : Int32) (a2 : Int32) (a3 : Int32) (M : gk_M) (t0 : gk_T Y 15 a0) : gk_MF l Y yX5_shutsOut cX5_shutsOut 6 (some .boolean) 0 [.ref a0, .int a1, .int a2, .int a3] M (gk_rR M) (f_X5_shutsOut (gk_ln Y) (gk_rf Y) a0 a1 a2 a3 M) := by
  refine gk_met hY (plainFor_of_name (by decide)) (Nat.le_of_ble_eq_true rfl) fun Z hC hR => ?_
  show gk_K Z Y 6 (gk_rR M) 0 [(0, .ref a0), (1, .int a1), (2, .int a2), (3, .int a3)] [] M _
  unfold f_X5_shutsOut
  refine gk_aload_n hC 0 dX5_shutsOut_0 rfl (q := 1) rfl ?_
  refine gk_getI hC dX5_shutsOut_1 fl_RX5_21 t0 (q := 4) rfl ?_
  refine gk_iload_n hC 1 dX5_shutsOut_4 rfl (q := 5) rfl ?_
  refine gk_jnR (fun k30_21 => ∀ z22 : Int32, gk_K Z Y 6 (gk_rR M) 30 [(0, .ref a0), (3, .int a3)] [.int z22] M (k30_21 z22)) (fun y21 => ?_) (fun k30_21 hk30_21 => ?_)
  · show gk_K Z Y 6 (gk_rR M) 30 [(0, .ref a0), (3, .int a3)] [.int y21] M _
    refine gk_istore hC (lv' := [(0, .ref a0), (3, .int a3), (4, .int y21)]) [1, 2, 0] dX5_shutsOut_30 (by decide) rfl (q := 32) rfl ?_
    refine gk_iload_n hC 1 dX5_shutsOut_32 rfl (q := 33) rfl ?_
    refine gk_bipush hC (v := 12) dX5_shutsOut_33 kc_b_12 (q := 35) rfl ?_
    refine gk_jnR (fun k43_23 => ∀ z24 : Int32, gk_K Z Y 6 (gk_rR M) 43 [(0, .ref a0), (4, .int y21)] [.int z24] M (k43_23 z24)) (fun y23 => ?_) (fun k43_23 hk43_23 => ?_)
    · show gk_K Z Y 6 (gk_rR M) 43 [(0, .ref a0), (4, .int y21)] [.int y23] M _
      refine gk_istore hC (lv' := [(0, .ref a0), (4, .int y21), (5, .int y23)]) [1, 2, 0] dX5_shutsOut_43 (by decide) rfl (q := 45) rfl ?_
      refine gk_aload_n hC 0 dX5_shutsOut_45 rfl (q := 46) rfl ?_
      refine gk_getI hC dX5_shutsOut_46 fl_RX5_15 t0 (q := 49) rfl ?_
      refine gk_iconst hC (v := 2) dX5_shutsOut_49 kc_i_2 (q := 50) rfl ?_
      refine gk_jnR (fun k73_25 => ∀ z26 : Int32, gk_K Z Y 6 (gk_rR M) 73 [] [.int z26] M (k73_25 z26)) (fun y25 => ?_) (fun k73_25 hk73_25 => ?_)
      · show gk_K Z Y 6 (gk_rR M) 73 [] [.int y25] M _
        exact gk_zzR (fun hv => gk_zret hC hR dX5_shutsOut_73 hv rfl)
      · refine gk_jnR (fun k72_27 => ∀ z28 : Unit, gk_K Z Y 6 (gk_rR M) 72 [] [] M (k72_27 z28)) (fun y27 => ?_) (fun k72_27 hk72_27 => ?_)
        · show gk_K Z Y 6 (gk_rR M) 72 [] [] M _
          refine gk_iconst hC (v := 0) dX5_shutsOut_72 kc_i_0 (q := 73) rfl ?_
          exact hk73_25 0
        · refine gk_icmp_ne hC dX5_shutsOut_50 (tg := 72) rfl (q := 53) rfl ?_ ?_
          · refine gk_iload hC 1 dX5_shutsOut_53 rfl (q := 55) rfl ?_
            refine gk_if_eq hC dX5_shutsOut_55 (tg := 72) rfl (q := 58) rfl ?_ ?_
            · refine gk_pick [] rfl ?_
              exact hk72_27 ()
            · refine gk_aload_n hC 0 dX5_shutsOut_58 rfl (q := 59) rfl ?_
              refine gk_getI hC dX5_shutsOut_59 fl_RX5_24 t0 (q := 62) rfl ?_
              refine gk_iload hC 2 dX5_shutsOut_62 rfl (q := 64) rfl ?_
              refine gk_iand hC dX5_shutsOut_64 (q := 65) rfl ?_
              refine gk_if_eq hC dX5_shutsOut_65 (tg := 72) rfl (q := 68) rfl ?_ ?_
              · refine gk_pick [] rfl ?_
                exact hk72_27 ()
              · refine gk_iconst hC (v := 1) dX5_shutsOut_68 kc_i_1 (q := 69) rfl ?_
                refine gk_goto hC dX5_shutsOut_69 (q := 73) rfl ?_
                refine gk_pick [] rfl ?_
                exact hk73_25 1
          · refine gk_pick [] rfl ?_
            exact hk72_27 ()
    · refine gk_icmp_ge hC dX5_shutsOut_35 (tg := 42) rfl (q := 38) rfl ?_ ?_
      · refine gk_iconst hC (v := 2) dX5_shutsOut_42 kc_i_2 (q := 43) rfl ?_
        refine gk_pick [0, 2] rfl ?_
        exact hk43_23 2
      · refine gk_iconst hC (v := 1) dX5_shutsOut_38 kc_i_1 (q := 39) rfl ?_
        refine gk_goto hC dX5_shutsOut_39 (q := 43) rfl ?_
        refine gk_pick [0, 2] rfl ?_
        exact hk43_23 1
  · refine gk_jnR (fun k25_29 => ∀ z30 : Unit, gk_K Z Y 6 (gk_rR M) 25 [(0, .ref a0), (3, .int a3)] [] M (k25_29 z30)) (fun y29 => ?_) (fun k25_29 hk25_29 => ?_)
    · show gk_K Z Y 6 (gk_rR M) 25 [(0, .ref a0), (3, .int a3)] [] M _
      refine gk_iconst hC (v := 1) dX5_shutsOut_25 kc_i_1 (q := 26) rfl ?_
      refine gk_goto hC dX5_shutsOut_26 (q := 30) rfl ?_
      exact hk30_21 1
    · refine gk_icmp_eq hC dX5_shutsOut_5 (tg := 25) rfl (q := 8) rfl ?_ ?_
      · refine gk_pick [0, 3] rfl ?_
        exact hk25_29 ()
      · refine gk_aload_n hC 0 dX5_shutsOut_8 rfl (q := 9) rfl ?_
        refine gk_getI hC dX5_shutsOut_9 fl_RX5_24 t0 (q := 12) rfl ?_
        refine gk_iconst hC (v := 4) dX5_shutsOut_12 kc_i_4 (q := 13) rfl ?_
        refine gk_iand hC dX5_shutsOut_13 (q := 14) rfl ?_
        refine gk_jnR (fun k29_31 => ∀ z32 : Unit, gk_K Z Y 6 (gk_rR M) 29 [(0, .ref a0), (3, .int a3)] [] M (k29_31 z32)) (fun y31 => ?_) (fun k29_31 hk29_31 => ?_)
        · show gk_K Z Y 6 (gk_rR M) 29 [(0, .ref a0), (3, .int a3)] [] M _
          refine gk_iconst hC (v := 0) dX5_shutsOut_29 kc_i_0 (q := 30) rfl ?_
          exact hk30_21 0
        · refine gk_if_eq hC dX5_shutsOut_14 (tg := 29) rfl (q := 17) rfl ?_ ?_
          · refine gk_pick [0, 3] rfl ?_
            exact hk29_31 ()
          · refine gk_aload_n hC 0 dX5_shutsOut_17 rfl (q := 18) rfl ?_
            refine gk_getI hC dX5_shutsOut_18 fl_RX5_21 t0 (q := 21) rfl ?_
            refine gk_iload_n hC 2 dX5_shutsOut_21 rfl (q := 22) rfl ?_
            refine gk_icmp_ne hC dX5_shutsOut_22 (tg := 29) rfl (q := 25) rfl ?_ ?_
            · refine gk_pick [0, 3] rfl ?_
              exact hk25_29 ()
            · refine gk_pick [0, 3] rfl ?_
              exact hk29_31 ()
def f_X5_sendsOn (LN : Nat → Nat) (RF : Nat → Nat → Nat) (a0 : Nat) (a1 : Int32) (M : gk_M) : Option (Int32) :=
  gk_jn (fun y21 : Int32 =>
    gk_zz y21 (some y21)) fun k32_21 =>
  gk_jn (fun y23 : Unit =>
    k32_21 0) fun k31_23 =>
  if (M.1 a0 1) = 1 then
    gk_jn (fun y25 : Unit =>
      k32_21 1) fun k27_25 =>
    if (M.1 a0 4) = 0 then
      k27_25 ()
    else
    if (M.1 a0 4) = 1 then
      if a1 = 0 then
        k31_23 ()
      else
      k27_25 ()
    else
    k31_23 ()
  else
  k31_23 ()
set_option maxHeartbeats 4000000 in
set_option maxRecDepth 100000 in
theorem m_X5_sendsOn (l : Launch) {Y : gk_Y} (hY : gk_WF Y) (a0 : Nat) (a1 : Int32) (M : gk_M) (t0 : gk_T Y 15 a0) : gk_MF l Y yX5_sendsOn cX5_sendsOn 2 (some .boolean) 0 [.ref a0, .int a1] M (gk_rR M) (f_X5_sendsOn (gk_ln Y) (gk_rf Y) a0 a1 M) := by
  refine gk_met hY (plainFor_of_name (by decide)) (Nat.le_of_ble_eq_true rfl) fun Z hC hR => ?_
  show gk_K Z Y 2 (gk_rR M) 0 [(0, .ref a0), (1, .int a1)] [] M _
  unfold f_X5_sendsOn
  refine gk_aload_n hC 0 dX5_sendsOn_0 rfl (q := 1) rfl ?_
  refine gk_getI hC dX5_sendsOn_1 fl_RX5_15 t0 (q := 4) rfl ?_
  refine gk_iconst hC (v := 1) dX5_sendsOn_4 kc_i_1 (q := 5) rfl ?_
  refine gk_jnR (fun k32_21 => ∀ z22 : Int32, gk_K Z Y 2 (gk_rR M) 32 [] [.int z22] M (k32_21 z22)) (fun y21 => ?_) (fun k32_21 hk32_21 => ?_)
  · show gk_K Z Y 2 (gk_rR M) 32 [] [.int y21] M _
    exact gk_zzR (fun hv => gk_zret hC hR dX5_sendsOn_32 hv rfl)
  · refine gk_jnR (fun k31_23 => ∀ z24 : Unit, gk_K Z Y 2 (gk_rR M) 31 [] [] M (k31_23 z24)) (fun y23 => ?_) (fun k31_23 hk31_23 => ?_)
    · show gk_K Z Y 2 (gk_rR M) 31 [] [] M _
      refine gk_iconst hC (v := 0) dX5_sendsOn_31 kc_i_0 (q := 32) rfl ?_
      exact hk32_21 0
    · refine gk_icmp_ne hC dX5_sendsOn_5 (tg := 31) rfl (q := 8) rfl ?_ ?_
      · refine gk_aload_n hC 0 dX5_sendsOn_8 rfl (q := 9) rfl ?_
        refine gk_getI hC dX5_sendsOn_9 fl_RX5_24 t0 (q := 12) rfl ?_
        refine gk_jnR (fun k27_25 => ∀ z26 : Unit, gk_K Z Y 2 (gk_rR M) 27 [] [] M (k27_25 z26)) (fun y25 => ?_) (fun k27_25 hk27_25 => ?_)
        · show gk_K Z Y 2 (gk_rR M) 27 [] [] M _
          refine gk_iconst hC (v := 1) dX5_sendsOn_27 kc_i_1 (q := 28) rfl ?_
          refine gk_goto hC dX5_sendsOn_28 (q := 32) rfl ?_
          exact hk32_21 1
        · refine gk_if_eq hC dX5_sendsOn_12 (tg := 27) rfl (q := 15) rfl ?_ ?_
          · refine gk_pick [] rfl ?_
            exact hk27_25 ()
          · refine gk_aload_n hC 0 dX5_sendsOn_15 rfl (q := 16) rfl ?_
            refine gk_getI hC dX5_sendsOn_16 fl_RX5_24 t0 (q := 19) rfl ?_
            refine gk_iconst hC (v := 1) dX5_sendsOn_19 kc_i_1 (q := 20) rfl ?_
            refine gk_icmp_ne hC dX5_sendsOn_20 (tg := 31) rfl (q := 23) rfl ?_ ?_
            · refine gk_iload_n hC 1 dX5_sendsOn_23 rfl (q := 24) rfl ?_
              refine gk_if_eq hC dX5_sendsOn_24 (tg := 31) rfl (q := 27) rfl ?_ ?_
              · refine gk_pick [] rfl ?_
                exact hk31_23 ()
              · refine gk_pick [] rfl ?_
                exact hk27_25 ()
            · refine gk_pick [] rfl ?_
              exact hk31_23 ()
      · refine gk_pick [] rfl ?_
        exact hk31_23 ()
def lp_X2_firstThatActs_57 (LN : Nat → Nat) (RF : Nat → Nat → Nat) (v0 : Nat) (v1 : Int32) (v2 : Int32) (v3 : Int32) (v4 : Int32) (v5 : Int32) (v6 : Int32) (M : gk_M) (k175 : Int32 → Option (Int32)) : Nat → (Int32 × Int32) → Option (Int32)
  | 0, _ => none
  | n + 1, x =>
    if (M.1 (RF v0 0) 1) ≤ x.2 then
      k175 x.1
    else
    gk_aldr LN RF (RF (RF v0 0) 0) x.2 fun o4 =>
    (f_X5_isOnFor LN RF o4 v3 M).bind fun r6 =>
    gk_jn (fun y7 : Int32 =>
      gk_jn (fun y9 : Int32 =>
        lp_X2_firstThatActs_57 LN RF v0 v1 v2 v3 v4 v5 v6 M k175 n (y9, (x.2 + 1))) fun k169_9 =>
      if y7 = 0 then
        k169_9 x.1
      else
      gk_jn (fun y11 : Unit =>
        k169_9 x.2) fun k165_11 =>
      if x.1 = (-1) then
        k165_11 ()
      else
      gk_aldr LN RF (RF (RF v0 0) 0) x.1 fun o15 =>
      if (M.1 o15 2) ≤ (M.1 o4 2) then
        k169_9 x.1
      else
      k165_11 ()) fun k131_7 =>
    gk_jn (fun y17 : Unit =>
      k131_7 0) fun k130_17 =>
    if r6 = 0 then
      k130_17 ()
    else
    (f_X5_shutsOut LN RF o4 v1 v2 v6 M).bind fun r19 =>
    gk_jn (fun y20 : Unit =>
      k131_7 1) fun k126_20 =>
    if r19 = 0 then
      (f_X5_sendsOn LN RF o4 v4 M).bind fun r22 =>
      if r22 = 0 then
        if (M.1 o4 1) = 4 then
          if v5 = 0 then
            k130_17 ()
          else
          k126_20 ()
        else
        k130_17 ()
      else
      k126_20 ()
    else
    k126_20 ()
def f_X2_firstThatActs (LN : Nat → Nat) (RF : Nat → Nat → Nat) (a0 : Nat) (a1 : Int32) (a2 : Int32) (a3 : Int32) (M : gk_M) : Option (Int32) :=
  (f_X2_isFree LN RF a0 a3 M).bind fun r21 =>
  gk_jn (fun y22 : Int32 =>
    gk_jn (fun y24 : Int32 =>
      gk_jn (fun y26 : Int32 =>
        some y26) fun k175_26 =>
      lp_X2_firstThatActs_57 LN RF a0 a1 a2 a3 y22 y24 ((M.1 a0 10) - (M.1 a0 10) / 24 * 24) M k175_26 gk_fuel ((-1), 0)) fun k40_24 =>
    gk_jn (fun y29 : Unit =>
      k40_24 0) fun k39_29 =>
    if y22 = 0 then
      k39_29 ()
    else
    if a3 = a1 then
      k39_29 ()
    else
    gk_ald LN M (RF a0 3) a3 fun x32 =>
    if x32 = (-1) then
      k40_24 1
    else
    k39_29 ()) fun k13_22 =>
  if r21 = 0 then
    k13_22 1
  else
  k13_22 0
set_option maxHeartbeats 4000000 in
set_option maxRecDepth 100000 in
theorem lk_X2_firstThatActs_57 {Z : gk_Z} {Y : gk_Y} (hY : gk_WF Y) (hC : gk_C Z Y cX2_firstThatActs 11 RX2 1) (hR : gk_R Z Y (some .int)) (v0 : Nat) (v1 : Int32) (v2 : Int32) (v3 : Int32) (v4 : Int32) (v5 : Int32) (v6 : Int32) (M : gk_M) (tv0 : gk_T Y 12 v0) (k175 : Int32 → Option (Int32)) (hk175 : ∀ z28 : Int32, gk_K Z Y 11 (gk_rR M) 175 [(7, .int z28)] [] M (k175 z28)) : ∀ (n : Nat) (x : Int32 × Int32), gk_K Z Y 11 (gk_rR M) 57 [(0, .ref v0), (1, .int v1), (2, .int v2), (3, .int v3), (4, .int v4), (5, .int v5), (6, .int v6), (7, .int x.1), (8, .int x.2)] [] M (lp_X2_firstThatActs_57 (gk_ln Y) (gk_rf Y) v0 v1 v2 v3 v4 v5 v6 M k175 n x) := by
  intro n
  induction n with
  | zero => intro x; exact gk_none
  | succ n ih =>
    intro x
    rw [lp_X2_firstThatActs_57]
    refine gk_iload hC 8 dX2_firstThatActs_57 rfl (q := 59) rfl ?_
    refine gk_aload_n hC 0 dX2_firstThatActs_59 rfl (q := 60) rfl ?_
    refine gk_getR hC dX2_firstThatActs_60 fl_RX2_27 (by decide) tv0 (q := 63) rfl (fun t1 => ?_)
    refine gk_getI hC dX2_firstThatActs_63 fl_RX2_184 t1 (q := 66) rfl ?_
    refine gk_icmp_ge hC dX2_firstThatActs_66 (tg := 175) rfl (q := 69) rfl ?_ ?_
    · refine gk_pick [7] rfl ?_
      exact hk175 x.1
    · refine gk_aload_n hC 0 dX2_firstThatActs_69 rfl (q := 70) rfl ?_
      refine gk_getR hC dX2_firstThatActs_70 fl_RX2_27 (by decide) tv0 (q := 73) rfl (fun t2 => ?_)
      refine gk_getR hC dX2_firstThatActs_73 fl_RX2_123 (by decide) t2 (q := 76) rfl (fun t3 => ?_)
      refine gk_iload hC 8 dX2_firstThatActs_76 rfl (q := 78) rfl ?_
      refine gk_aald hC dX2_firstThatActs_78 (Or.inr (Or.inl rfl)) t3 (q := 79) rfl (fun o4 t5 => ?_)
      refine gk_astore hC (lv' := [(0, .ref v0), (1, .int v1), (2, .int v2), (3, .int v3), (4, .int v4), (5, .int v5), (6, .int v6), (7, .int x.1), (8, .int x.2), (9, .ref o4)]) [1, 2, 3, 4, 5, 6, 7, 8, 9, 0] dX2_firstThatActs_79 (by decide) rfl (q := 81) rfl ?_
      refine gk_aload hC 9 dX2_firstThatActs_81 rfl (q := 83) rfl ?_
      refine gk_iload_n hC 3 dX2_firstThatActs_83 rfl (q := 84) rfl ?_
      refine gk_callV (As := [.int v3]) (rest := []) hC (fun l => m_X5_isOnFor l hY o4 v3 M t5) ml_RX2_187 ok_X5_isOnFor dX2_firstThatActs_84 t5 ⟨by decide, rfl⟩ rfl (by decide) (Nat.le_of_ble_eq_true rfl) rfl (q := 87) rfl (fun r6 => ?_)
      show gk_K Z Y 11 (gk_rR M) 87 [(0, .ref v0), (1, .int v1), (2, .int v2), (3, .int v3), (4, .int v4), (5, .int v5), (6, .int v6), (7, .int x.1), (8, .int x.2), (9, .ref o4)] [.int r6] M _
      refine gk_jnR (fun k131_7 => ∀ z8 : Int32, gk_K Z Y 11 (gk_rR M) 131 [(0, .ref v0), (1, .int v1), (2, .int v2), (3, .int v3), (4, .int v4), (5, .int v5), (6, .int v6), (7, .int x.1), (8, .int x.2), (9, .ref o4)] [.int z8] M (k131_7 z8)) (fun y7 => ?_) (fun k131_7 hk131_7 => ?_)
      · show gk_K Z Y 11 (gk_rR M) 131 [(0, .ref v0), (1, .int v1), (2, .int v2), (3, .int v3), (4, .int v4), (5, .int v5), (6, .int v6), (7, .int x.1), (8, .int x.2), (9, .ref o4)] [.int y7] M _
        refine gk_istore hC (lv' := [(0, .ref v0), (1, .int v1), (2, .int v2), (3, .int v3), (4, .int v4), (5, .int v5), (6, .int v6), (7, .int x.1), (8, .int x.2), (9, .ref o4), (10, .int y7)]) [1, 2, 3, 4, 5, 6, 7, 8, 9, 10, 0] dX2_firstThatActs_131 (by decide) rfl (q := 133) rfl ?_
        refine gk_iload hC 10 dX2_firstThatActs_133 rfl (q := 135) rfl ?_
        refine gk_jnR (fun k169_9 => ∀ z10 : Int32, gk_K Z Y 11 (gk_rR M) 169 [(0, .ref v0), (1, .int v1), (2, .int v2), (3, .int v3), (4, .int v4), (5, .int v5), (6, .int v6), (7, .int z10), (8, .int x.2)] [] M (k169_9 z10)) (fun y9 => ?_) (fun k169_9 hk169_9 => ?_)
        · show gk_K Z Y 11 (gk_rR M) 169 [(0, .ref v0), (1, .int v1), (2, .int v2), (3, .int v3), (4, .int v4), (5, .int v5), (6, .int v6), (7, .int y9), (8, .int x.2)] [] M _
          refine gk_iinc hC (v := 1) 8 (lv' := [(0, .ref v0), (1, .int v1), (2, .int v2), (3, .int v3), (4, .int v4), (5, .int v5), (6, .int v6), (7, .int y9), (8, .int (x.2 + 1))]) [1, 2, 3, 4, 5, 6, 7, 8, 0] dX2_firstThatActs_169 rfl kc_i_1 (by decide) rfl (q := 172) rfl ?_
          refine gk_goto hC dX2_firstThatActs_172 (q := 57) rfl ?_
          exact ih (y9, (x.2 + 1))
        · refine gk_if_eq hC dX2_firstThatActs_135 (tg := 169) rfl (q := 138) rfl ?_ ?_
          · refine gk_pick [0, 1, 2, 3, 4, 5, 6, 7, 8] rfl ?_
            exact hk169_9 x.1
          · refine gk_iload hC 7 dX2_firstThatActs_138 rfl (q := 140) rfl ?_
            refine gk_iconst hC (v := (-1)) dX2_firstThatActs_140 kc_i_m1 (q := 141) rfl ?_
            refine gk_jnR (fun k165_11 => ∀ z12 : Unit, gk_K Z Y 11 (gk_rR M) 165 [(0, .ref v0), (1, .int v1), (2, .int v2), (3, .int v3), (4, .int v4), (5, .int v5), (6, .int v6), (8, .int x.2)] [] M (k165_11 z12)) (fun y11 => ?_) (fun k165_11 hk165_11 => ?_)
            · show gk_K Z Y 11 (gk_rR M) 165 [(0, .ref v0), (1, .int v1), (2, .int v2), (3, .int v3), (4, .int v4), (5, .int v5), (6, .int v6), (8, .int x.2)] [] M _
              refine gk_iload hC 7 dX2_firstThatActs_165 rfl (q := 167) rfl ?_
              refine gk_istore hC (lv' := [(0, .ref v0), (1, .int v1), (2, .int v2), (3, .int v3), (4, .int v4), (5, .int v5), (6, .int v6), (7, .int x.2), (8, .int x.2)]) [1, 2, 3, 4, 5, 6, 7, 0, 8] dX2_firstThatActs_167 (by decide) rfl (q := 169) rfl ?_
              exact hk169_9 x.2
            · refine gk_icmp_eq hC dX2_firstThatActs_141 (tg := 165) rfl (q := 144) rfl ?_ ?_
              · refine gk_pick [0, 1, 2, 3, 4, 5, 6, 8] rfl ?_
                exact hk165_11 ()
              · refine gk_aload hC 9 dX2_firstThatActs_144 rfl (q := 146) rfl ?_
                refine gk_getI hC dX2_firstThatActs_146 fl_RX2_198 t5 (q := 149) rfl ?_
                refine gk_aload_n hC 0 dX2_firstThatActs_149 rfl (q := 150) rfl ?_
                refine gk_getR hC dX2_firstThatActs_150 fl_RX2_27 (by decide) tv0 (q := 153) rfl (fun t13 => ?_)
                refine gk_getR hC dX2_firstThatActs_153 fl_RX2_123 (by decide) t13 (q := 156) rfl (fun t14 => ?_)
                refine gk_iload hC 7 dX2_firstThatActs_156 rfl (q := 158) rfl ?_
                refine gk_aald hC dX2_firstThatActs_158 (Or.inr (Or.inl rfl)) t14 (q := 159) rfl (fun o15 t16 => ?_)
                refine gk_getI hC dX2_firstThatActs_159 fl_RX2_198 t16 (q := 162) rfl ?_
                refine gk_icmp_ge hC dX2_firstThatActs_162 (tg := 169) rfl (q := 165) rfl ?_ ?_
                · refine gk_pick [0, 1, 2, 3, 4, 5, 6, 7, 8] rfl ?_
                  exact hk169_9 x.1
                · refine gk_pick [0, 1, 2, 3, 4, 5, 6, 8] rfl ?_
                  exact hk165_11 ()
      · refine gk_jnR (fun k130_17 => ∀ z18 : Unit, gk_K Z Y 11 (gk_rR M) 130 [(0, .ref v0), (1, .int v1), (2, .int v2), (3, .int v3), (4, .int v4), (5, .int v5), (6, .int v6), (7, .int x.1), (8, .int x.2), (9, .ref o4)] [] M (k130_17 z18)) (fun y17 => ?_) (fun k130_17 hk130_17 => ?_)
        · show gk_K Z Y 11 (gk_rR M) 130 [(0, .ref v0), (1, .int v1), (2, .int v2), (3, .int v3), (4, .int v4), (5, .int v5), (6, .int v6), (7, .int x.1), (8, .int x.2), (9, .ref o4)] [] M _
          refine gk_iconst hC (v := 0) dX2_firstThatActs_130 kc_i_0 (q := 131) rfl ?_
          exact hk131_7 0
        · refine gk_if_eq hC dX2_firstThatActs_87 (tg := 130) rfl (q := 90) rfl ?_ ?_
          · exact hk130_17 ()
          · refine gk_aload hC 9 dX2_firstThatActs_90 rfl (q := 92) rfl ?_
            refine gk_iload_n hC 1 dX2_firstThatActs_92 rfl (q := 93) rfl ?_
            refine gk_iload_n hC 2 dX2_firstThatActs_93 rfl (q := 94) rfl ?_
            refine gk_iload hC 6 dX2_firstThatActs_94 rfl (q := 96) rfl ?_
            refine gk_callV (As := [.int v1, .int v2, .int v6]) (rest := []) hC (fun l => m_X5_shutsOut l hY o4 v1 v2 v6 M t5) ml_RX2_190 ok_X5_shutsOut dX2_firstThatActs_96 t5 ⟨by decide, rfl⟩ rfl (by decide) (Nat.le_of_ble_eq_true rfl) rfl (q := 99) rfl (fun r19 => ?_)
            show gk_K Z Y 11 (gk_rR M) 99 [(0, .ref v0), (1, .int v1), (2, .int v2), (3, .int v3), (4, .int v4), (5, .int v5), (6, .int v6), (7, .int x.1), (8, .int x.2), (9, .ref o4)] [.int r19] M _
            refine gk_jnR (fun k126_20 => ∀ z21 : Unit, gk_K Z Y 11 (gk_rR M) 126 [(0, .ref v0), (1, .int v1), (2, .int v2), (3, .int v3), (4, .int v4), (5, .int v5), (6, .int v6), (7, .int x.1), (8, .int x.2), (9, .ref o4)] [] M (k126_20 z21)) (fun y20 => ?_) (fun k126_20 hk126_20 => ?_)
            · show gk_K Z Y 11 (gk_rR M) 126 [(0, .ref v0), (1, .int v1), (2, .int v2), (3, .int v3), (4, .int v4), (5, .int v5), (6, .int v6), (7, .int x.1), (8, .int x.2), (9, .ref o4)] [] M _
              refine gk_iconst hC (v := 1) dX2_firstThatActs_126 kc_i_1 (q := 127) rfl ?_
              refine gk_goto hC dX2_firstThatActs_127 (q := 131) rfl ?_
              exact hk131_7 1
            · refine gk_if_ne hC dX2_firstThatActs_99 (tg := 126) rfl (q := 102) rfl ?_ ?_
              · refine gk_aload hC 9 dX2_firstThatActs_102 rfl (q := 104) rfl ?_
                refine gk_iload hC 4 dX2_firstThatActs_104 rfl (q := 106) rfl ?_
                refine gk_callV (As := [.int v4]) (rest := []) hC (fun l => m_X5_sendsOn l hY o4 v4 M t5) ml_RX2_194 ok_X5_sendsOn dX2_firstThatActs_106 t5 ⟨by decide, rfl⟩ rfl (by decide) (Nat.le_of_ble_eq_true rfl) rfl (q := 109) rfl (fun r22 => ?_)
                show gk_K Z Y 11 (gk_rR M) 109 [(0, .ref v0), (1, .int v1), (2, .int v2), (3, .int v3), (4, .int v4), (5, .int v5), (6, .int v6), (7, .int x.1), (8, .int x.2), (9, .ref o4)] [.int r22] M _
                refine gk_if_ne hC dX2_firstThatActs_109 (tg := 126) rfl (q := 112) rfl ?_ ?_
                · refine gk_aload hC 9 dX2_firstThatActs_112 rfl (q := 114) rfl ?_
                  refine gk_getI hC dX2_firstThatActs_114 fl_RX2_181 t5 (q := 117) rfl ?_
                  refine gk_iconst hC (v := 4) dX2_firstThatActs_117 kc_i_4 (q := 118) rfl ?_
                  refine gk_icmp_ne hC dX2_firstThatActs_118 (tg := 130) rfl (q := 121) rfl ?_ ?_
                  · refine gk_iload hC 5 dX2_firstThatActs_121 rfl (q := 123) rfl ?_
                    refine gk_if_eq hC dX2_firstThatActs_123 (tg := 130) rfl (q := 126) rfl ?_ ?_
                    · exact hk130_17 ()
                    · exact hk126_20 ()
                  · exact hk130_17 ()
                · exact hk126_20 ()
              · exact hk126_20 ()
set_option maxHeartbeats 4000000 in
set_option maxRecDepth 100000 in
theorem m_X2_firstThatActs (l : Launch) {Y : gk_Y} (hY : gk_WF Y) (a0 : Nat) (a1 : Int32) (a2 : Int32) (a3 : Int32) (M : gk_M) (t0 : gk_T Y 12 a0) : gk_MF l Y yX2_firstThatActs cX2_firstThatActs 11 (some .int) 1 [.ref a0, .int a1, .int a2, .int a3] M (gk_rR M) (f_X2_firstThatActs (gk_ln Y) (gk_rf Y) a0 a1 a2 a3 M) := by
  refine gk_met hY (plainFor_of_name (by decide)) (Nat.le_of_ble_eq_true rfl) fun Z hC hR => ?_
  show gk_K Z Y 11 (gk_rR M) 0 [(0, .ref a0), (1, .int a1), (2, .int a2), (3, .int a3)] [] M _
  unfold f_X2_firstThatActs
  refine gk_aload_n hC 0 dX2_firstThatActs_0 rfl (q := 1) rfl ?_
  refine gk_iload_n hC 3 dX2_firstThatActs_1 rfl (q := 2) rfl ?_
  refine gk_callV (As := [.int a3]) (rest := []) hC (fun l => m_X2_isFree l hY a0 a3 M t0) ml_RX2_61 ok_X2_isFree dX2_firstThatActs_2 t0 ⟨by decide, rfl⟩ rfl (by decide) (Nat.le_of_ble_eq_true rfl) rfl (q := 5) rfl (fun r21 => ?_)
  show gk_K Z Y 11 (gk_rR M) 5 [(0, .ref a0), (1, .int a1), (2, .int a2), (3, .int a3)] [.int r21] M _
  refine gk_jnR (fun k13_22 => ∀ z23 : Int32, gk_K Z Y 11 (gk_rR M) 13 [(0, .ref a0), (1, .int a1), (2, .int a2), (3, .int a3)] [.int z23] M (k13_22 z23)) (fun y22 => ?_) (fun k13_22 hk13_22 => ?_)
  · show gk_K Z Y 11 (gk_rR M) 13 [(0, .ref a0), (1, .int a1), (2, .int a2), (3, .int a3)] [.int y22] M _
    refine gk_istore hC (lv' := [(0, .ref a0), (1, .int a1), (2, .int a2), (3, .int a3), (4, .int y22)]) [1, 2, 3, 4, 0] dX2_firstThatActs_13 (by decide) rfl (q := 15) rfl ?_
    refine gk_iload hC 4 dX2_firstThatActs_15 rfl (q := 17) rfl ?_
    refine gk_jnR (fun k40_24 => ∀ z25 : Int32, gk_K Z Y 11 (gk_rR M) 40 [(0, .ref a0), (1, .int a1), (2, .int a2), (3, .int a3), (4, .int y22)] [.int z25] M (k40_24 z25)) (fun y24 => ?_) (fun k40_24 hk40_24 => ?_)
    · show gk_K Z Y 11 (gk_rR M) 40 [(0, .ref a0), (1, .int a1), (2, .int a2), (3, .int a3), (4, .int y22)] [.int y24] M _
      refine gk_istore hC (lv' := [(0, .ref a0), (1, .int a1), (2, .int a2), (3, .int a3), (4, .int y22), (5, .int y24)]) [1, 2, 3, 4, 5, 0] dX2_firstThatActs_40 (by decide) rfl (q := 42) rfl ?_
      refine gk_aload_n hC 0 dX2_firstThatActs_42 rfl (q := 43) rfl ?_
      refine gk_getI hC dX2_firstThatActs_43 fl_RX2_54 t0 (q := 46) rfl ?_
      refine gk_bipush hC (v := 24) dX2_firstThatActs_46 kc_b_24 (q := 48) rfl ?_
      refine gk_irem hC dX2_firstThatActs_48 (by decide) (q := 49) rfl ?_
      refine gk_istore hC (lv' := [(0, .ref a0), (1, .int a1), (2, .int a2), (3, .int a3), (4, .int y22), (5, .int y24), (6, .int ((M.1 a0 10) - (M.1 a0 10) / 24 * 24))]) [1, 2, 3, 4, 5, 6, 0] dX2_firstThatActs_49 (by decide) rfl (q := 51) rfl ?_
      refine gk_iconst hC (v := (-1)) dX2_firstThatActs_51 kc_i_m1 (q := 52) rfl ?_
      refine gk_istore hC (lv' := [(0, .ref a0), (1, .int a1), (2, .int a2), (3, .int a3), (4, .int y22), (5, .int y24), (6, .int ((M.1 a0 10) - (M.1 a0 10) / 24 * 24)), (7, .int (-1))]) [1, 2, 3, 4, 5, 6, 7, 0] dX2_firstThatActs_52 (by decide) rfl (q := 54) rfl ?_
      refine gk_iconst hC (v := 0) dX2_firstThatActs_54 kc_i_0 (q := 55) rfl ?_
      refine gk_istore hC (lv' := [(0, .ref a0), (1, .int a1), (2, .int a2), (3, .int a3), (4, .int y22), (5, .int y24), (6, .int ((M.1 a0 10) - (M.1 a0 10) / 24 * 24)), (7, .int (-1)), (8, .int 0)]) [1, 2, 3, 4, 5, 6, 7, 8, 0] dX2_firstThatActs_55 (by decide) rfl (q := 57) rfl ?_
      refine gk_jnR (fun k175_26 => ∀ z27 : Int32, gk_K Z Y 11 (gk_rR M) 175 [(7, .int z27)] [] M (k175_26 z27)) (fun y26 => ?_) (fun k175_26 hk175_26 => ?_)
      · show gk_K Z Y 11 (gk_rR M) 175 [(7, .int y26)] [] M _
        refine gk_iload hC 0 dX2_firstThatActs_175 rfl (q := 177) rfl ?_
        exact gk_iret hC hR dX2_firstThatActs_177 rfl
      · exact lk_X2_firstThatActs_57 hY hC hR a0 a1 a2 a3 y22 y24 ((M.1 a0 10) - (M.1 a0 10) / 24 * 24) M t0 k175_26 hk175_26 gk_fuel ((-1), 0)
    · refine gk_jnR (fun k39_29 => ∀ z30 : Unit, gk_K Z Y 11 (gk_rR M) 39 [(0, .ref a0), (1, .int a1), (2, .int a2), (3, .int a3), (4, .int y22)] [] M (k39_29 z30)) (fun y29 => ?_) (fun k39_29 hk39_29 => ?_)
      · show gk_K Z Y 11 (gk_rR M) 39 [(0, .ref a0), (1, .int a1), (2, .int a2), (3, .int a3), (4, .int y22)] [] M _
        refine gk_iconst hC (v := 0) dX2_firstThatActs_39 kc_i_0 (q := 40) rfl ?_
        exact hk40_24 0
      · refine gk_if_eq hC dX2_firstThatActs_17 (tg := 39) rfl (q := 20) rfl ?_ ?_
        · exact hk39_29 ()
        · refine gk_iload_n hC 3 dX2_firstThatActs_20 rfl (q := 21) rfl ?_
          refine gk_iload_n hC 1 dX2_firstThatActs_21 rfl (q := 22) rfl ?_
          refine gk_icmp_eq hC dX2_firstThatActs_22 (tg := 39) rfl (q := 25) rfl ?_ ?_
          · exact hk39_29 ()
          · refine gk_aload_n hC 0 dX2_firstThatActs_25 rfl (q := 26) rfl ?_
            refine gk_getR hC dX2_firstThatActs_26 fl_RX2_15 (by decide) t0 (q := 29) rfl (fun t31 => ?_)
            refine gk_iload_n hC 3 dX2_firstThatActs_29 rfl (q := 30) rfl ?_
            refine gk_iald hC dX2_firstThatActs_30 t31 (q := 31) rfl (fun x32 => ?_)
            refine gk_iconst hC (v := (-1)) dX2_firstThatActs_31 kc_i_m1 (q := 32) rfl ?_
            refine gk_icmp_ne hC dX2_firstThatActs_32 (tg := 39) rfl (q := 35) rfl ?_ ?_
            · refine gk_iconst hC (v := 1) dX2_firstThatActs_35 kc_i_1 (q := 36) rfl ?_
              refine gk_goto hC dX2_firstThatActs_36 (q := 40) rfl ?_
              exact hk40_24 1
            · exact hk39_29 ()
  · refine gk_if_ne hC dX2_firstThatActs_5 (tg := 12) rfl (q := 8) rfl ?_ ?_
    · refine gk_iconst hC (v := 1) dX2_firstThatActs_8 kc_i_1 (q := 9) rfl ?_
      refine gk_goto hC dX2_firstThatActs_9 (q := 13) rfl ?_
      exact hk13_22 1
    · refine gk_iconst hC (v := 0) dX2_firstThatActs_12 kc_i_0 (q := 13) rfl ?_
      exact hk13_22 0
def lp_X2_addBack_2 (LN : Nat → Nat) (RF : Nat → Nat → Nat) (v0 : Nat) (v1 : Int32) (v2 : Int32) (M : gk_M) (k37 : Unit → Option (gk_M)) : Nat → Int32 → Option (gk_M)
  | 0, _ => none
  | n + 1, x =>
    if (M.1 v0 9) ≤ x then
      k37 ()
    else
    gk_ald LN M (RF v0 5) x fun x2 =>
    gk_jn (fun y3 : Unit =>
      lp_X2_addBack_2 LN RF v0 v1 v2 M k37 n (x + 1)) fun k31_3 =>
    if x2 = v1 then
      gk_ald LN M (RF v0 6) x fun x6 =>
      if x6 = v2 then
        some M
      else
      k31_3 ()
    else
    k31_3 ()
def f_X2_addBack (LN : Nat → Nat) (RF : Nat → Nat → Nat) (a0 : Nat) (a1 : Int32) (a2 : Int32) (M : gk_M) : Option (gk_M) :=
  gk_jn (fun y21 : Unit =>
    gk_jn (fun y23 : gk_M =>
      some y23) fun k76_23 =>
    if 8 ≤ (M.1 a0 9) then
      k76_23 M
    else
    gk_ast LN M (RF a0 5) (M.1 a0 9) a1 fun M26 =>
    gk_ast LN M26 (RF a0 6) (M26.1 a0 9) a2 fun M28 =>
    gk_put M28 a0 9 ((M28.1 a0 9) + 1) fun M29 =>
    k76_23 M29) fun k37_21 =>
  lp_X2_addBack_2 LN RF a0 a1 a2 M k37_21 gk_fuel 0
set_option maxHeartbeats 4000000 in
set_option maxRecDepth 100000 in
theorem lk_X2_addBack_2 {Z : gk_Z} {Y : gk_Y} (hY : gk_WF Y) (hC : gk_C Z Y cX2_addBack 4 RX2 0) (hR : gk_R Z Y none) (v0 : Nat) (v1 : Int32) (v2 : Int32) (M : gk_M) (tv0 : gk_T Y 12 v0) (k37 : Unit → Option (gk_M)) (hk37 : ∀ z30 : Unit, gk_K Z Y 4 gk_rV 37 [(0, .ref v0), (1, .int v1), (2, .int v2)] [] M (k37 z30)) : ∀ (n : Nat) (x : Int32), gk_K Z Y 4 gk_rV 2 [(0, .ref v0), (1, .int v1), (2, .int v2), (3, .int x)] [] M (lp_X2_addBack_2 (gk_ln Y) (gk_rf Y) v0 v1 v2 M k37 n x) := by
  intro n
  induction n with
  | zero => intro x; exact gk_none
  | succ n ih =>
    intro x
    rw [lp_X2_addBack_2]
    refine gk_iload_n hC 3 dX2_addBack_2 rfl (q := 3) rfl ?_
    refine gk_aload_n hC 0 dX2_addBack_3 rfl (q := 4) rfl ?_
    refine gk_getI hC dX2_addBack_4 fl_RX2_51 tv0 (q := 7) rfl ?_
    refine gk_icmp_ge hC dX2_addBack_7 (tg := 37) rfl (q := 10) rfl ?_ ?_
    · refine gk_pick [0, 1, 2] rfl ?_
      exact hk37 ()
    · refine gk_aload_n hC 0 dX2_addBack_10 rfl (q := 11) rfl ?_
      refine gk_getR hC dX2_addBack_11 fl_RX2_21 (by decide) tv0 (q := 14) rfl (fun t1 => ?_)
      refine gk_iload_n hC 3 dX2_addBack_14 rfl (q := 15) rfl ?_
      refine gk_iald hC dX2_addBack_15 t1 (q := 16) rfl (fun x2 => ?_)
      refine gk_iload_n hC 1 dX2_addBack_16 rfl (q := 17) rfl ?_
      refine gk_jnR (fun k31_3 => ∀ z4 : Unit, gk_K Z Y 4 gk_rV 31 [(0, .ref v0), (1, .int v1), (2, .int v2), (3, .int x)] [] M (k31_3 z4)) (fun y3 => ?_) (fun k31_3 hk31_3 => ?_)
      · show gk_K Z Y 4 gk_rV 31 [(0, .ref v0), (1, .int v1), (2, .int v2), (3, .int x)] [] M _
        refine gk_iinc hC (v := 1) 3 (lv' := [(0, .ref v0), (1, .int v1), (2, .int v2), (3, .int (x + 1))]) [1, 2, 3, 0] dX2_addBack_31 rfl kc_i_1 (by decide) rfl (q := 34) rfl ?_
        refine gk_goto hC dX2_addBack_34 (q := 2) rfl ?_
        exact ih (x + 1)
      · refine gk_icmp_ne hC dX2_addBack_17 (tg := 31) rfl (q := 20) rfl ?_ ?_
        · refine gk_aload_n hC 0 dX2_addBack_20 rfl (q := 21) rfl ?_
          refine gk_getR hC dX2_addBack_21 fl_RX2_24 (by decide) tv0 (q := 24) rfl (fun t5 => ?_)
          refine gk_iload_n hC 3 dX2_addBack_24 rfl (q := 25) rfl ?_
          refine gk_iald hC dX2_addBack_25 t5 (q := 26) rfl (fun x6 => ?_)
          refine gk_iload_n hC 2 dX2_addBack_26 rfl (q := 27) rfl ?_
          refine gk_icmp_ne hC dX2_addBack_27 (tg := 31) rfl (q := 30) rfl ?_ ?_
          · exact gk_vret hC hR dX2_addBack_30 rfl
          · exact hk31_3 ()
        · exact hk31_3 ()
set_option maxHeartbeats 4000000 in
set_option maxRecDepth 100000 in
theorem m_X2_addBack (l : Launch) {Y : gk_Y} (hY : gk_WF Y) (a0 : Nat) (a1 : Int32) (a2 : Int32) (M : gk_M) (t0 : gk_T Y 12 a0) : gk_MF l Y yX2_addBack cX2_addBack 4 none 0 [.ref a0, .int a1, .int a2] M gk_rV (f_X2_addBack (gk_ln Y) (gk_rf Y) a0 a1 a2 M) := by
  refine gk_met hY (plainFor_of_name (by decide)) (Nat.le_of_ble_eq_true rfl) fun Z hC hR => ?_
  show gk_K Z Y 4 gk_rV 0 [(0, .ref a0), (1, .int a1), (2, .int a2)] [] M _
  unfold f_X2_addBack
  refine gk_iconst hC (v := 0) dX2_addBack_0 kc_i_0 (q := 1) rfl ?_
  refine gk_istore_n hC (lv' := [(0, .ref a0), (1, .int a1), (2, .int a2), (3, .int 0)]) [1, 2, 3, 0] dX2_addBack_1 (by decide) rfl (q := 2) rfl ?_
  refine gk_jnR (fun k37_21 => ∀ z22 : Unit, gk_K Z Y 4 gk_rV 37 [(0, .ref a0), (1, .int a1), (2, .int a2)] [] M (k37_21 z22)) (fun y21 => ?_) (fun k37_21 hk37_21 => ?_)
  · show gk_K Z Y 4 gk_rV 37 [(0, .ref a0), (1, .int a1), (2, .int a2)] [] M _
    refine gk_aload_n hC 0 dX2_addBack_37 rfl (q := 38) rfl ?_
    refine gk_getI hC dX2_addBack_38 fl_RX2_51 t0 (q := 41) rfl ?_
    refine gk_bipush hC (v := 8) dX2_addBack_41 kc_b_8 (q := 43) rfl ?_
    refine gk_jnR (fun k76_23 => ∀ z24 : gk_M, gk_K Z Y 4 gk_rV 76 [] [] z24 (k76_23 z24)) (fun y23 => ?_) (fun k76_23 hk76_23 => ?_)
    · show gk_K Z Y 4 gk_rV 76 [] [] y23 _
      exact gk_vret hC hR dX2_addBack_76 rfl
    · refine gk_icmp_ge hC dX2_addBack_43 (tg := 76) rfl (q := 46) rfl ?_ ?_
      · refine gk_pick [] rfl ?_
        exact hk76_23 M
      · refine gk_aload_n hC 0 dX2_addBack_46 rfl (q := 47) rfl ?_
        refine gk_getR hC dX2_addBack_47 fl_RX2_21 (by decide) t0 (q := 50) rfl (fun t25 => ?_)
        refine gk_aload_n hC 0 dX2_addBack_50 rfl (q := 51) rfl ?_
        refine gk_getI hC dX2_addBack_51 fl_RX2_51 t0 (q := 54) rfl ?_
        refine gk_iload_n hC 1 dX2_addBack_54 rfl (q := 55) rfl ?_
        refine gk_iast hC dX2_addBack_55 t25 (q := 56) rfl (fun M26 => ?_)
        refine gk_aload_n hC 0 dX2_addBack_56 rfl (q := 57) rfl ?_
        refine gk_getR hC dX2_addBack_57 fl_RX2_24 (by decide) t0 (q := 60) rfl (fun t27 => ?_)
        refine gk_aload_n hC 0 dX2_addBack_60 rfl (q := 61) rfl ?_
        refine gk_getI hC dX2_addBack_61 fl_RX2_51 t0 (q := 64) rfl ?_
        refine gk_iload_n hC 2 dX2_addBack_64 rfl (q := 65) rfl ?_
        refine gk_iast hC dX2_addBack_65 t27 (q := 66) rfl (fun M28 => ?_)
        refine gk_aload_n hC 0 dX2_addBack_66 rfl (q := 67) rfl ?_
        refine gk_dup hC dX2_addBack_67 rfl (q := 68) rfl ?_
        refine gk_getI hC dX2_addBack_68 fl_RX2_51 t0 (q := 71) rfl ?_
        refine gk_iconst hC (v := 1) dX2_addBack_71 kc_i_1 (q := 72) rfl ?_
        refine gk_iadd hC dX2_addBack_72 (q := 73) rfl ?_
        refine gk_putI hC dX2_addBack_73 fp_RX2_51 t0 (q := 76) rfl (fun M29 => ?_)
        refine gk_pick [] rfl ?_
        exact hk76_23 M29
  · exact lk_X2_addBack_2 hY hC hR a0 a1 a2 M t0 k37_21 hk37_21 gk_fuel 0
def lp_X2_ringAt_30 (LN : Nat → Nat) (RF : Nat → Nat → Nat) (v0 : Nat) (v1 : Int32) (v2 : Int32) (k60 : gk_M → Option (gk_M)) : Nat → (Int32 × gk_M) → Option (gk_M)
  | 0, _ => none
  | n + 1, x =>
    if 8 ≤ x.1 then
      k60 x.2
    else
    gk_jn (fun y1 : gk_M =>
      lp_X2_ringAt_30 LN RF v0 v1 v2 k60 n ((x.1 + 1), y1)) fun k54_1 =>
    if ((v2 >>> (x.1 &&& 31)) &&& 1) = 0 then
      k54_1 x.2
    else
    gk_ast LN x.2 (RF v0 2) x.1 v1 fun M4 =>
    k54_1 M4
def f_X2_ringAt (LN : Nat → Nat) (RF : Nat → Nat → Nat) (a0 : Nat) (a1 : Int32) (a2 : Int32) (M : gk_M) : Option (gk_M) :=
  gk_aldr LN RF (RF a0 1) a1 fun o22 =>
  gk_put M o22 1 0 fun M24 =>
  gk_put M24 o22 4 a2 fun M25 =>
  gk_put M25 o22 5 (-1) fun M26 =>
  gk_put M26 o22 6 0 fun M27 =>
  gk_jn (fun y28 : gk_M =>
    some y28) fun k60_28 =>
  lp_X2_ringAt_30 LN RF a0 a1 a2 k60_28 gk_fuel (0, M27)
set_option maxHeartbeats 4000000 in
set_option maxRecDepth 100000 in
theorem lk_X2_ringAt_30 {Z : gk_Z} {Y : gk_Y} (hY : gk_WF Y) (hC : gk_C Z Y cX2_ringAt 5 RX2 0) (hR : gk_R Z Y none) (v0 : Nat) (v1 : Int32) (v2 : Int32) (tv0 : gk_T Y 12 v0) (k60 : gk_M → Option (gk_M)) (hk60 : ∀ z30 : gk_M, gk_K Z Y 5 gk_rV 60 [] [] z30 (k60 z30)) : ∀ (n : Nat) (x : Int32 × gk_M), gk_K Z Y 5 gk_rV 30 [(0, .ref v0), (1, .int v1), (2, .int v2), (4, .int x.1)] [] x.2 (lp_X2_ringAt_30 (gk_ln Y) (gk_rf Y) v0 v1 v2 k60 n x) := by
  intro n
  induction n with
  | zero => intro x; exact gk_none
  | succ n ih =>
    intro x
    rw [lp_X2_ringAt_30]
    refine gk_iload hC 3 dX2_ringAt_30 rfl (q := 32) rfl ?_
    refine gk_bipush hC (v := 8) dX2_ringAt_32 kc_b_8 (q := 34) rfl ?_
    refine gk_icmp_ge hC dX2_ringAt_34 (tg := 60) rfl (q := 37) rfl ?_ ?_
    · refine gk_pick [] rfl ?_
      exact hk60 x.2
    · refine gk_iload_n hC 2 dX2_ringAt_37 rfl (q := 38) rfl ?_
      refine gk_iload hC 3 dX2_ringAt_38 rfl (q := 40) rfl ?_
      refine gk_ishr hC dX2_ringAt_40 (q := 41) rfl ?_
      refine gk_iconst hC (v := 1) dX2_ringAt_41 kc_i_1 (q := 42) rfl ?_
      refine gk_iand hC dX2_ringAt_42 (q := 43) rfl ?_
      refine gk_jnR (fun k54_1 => ∀ z2 : gk_M, gk_K Z Y 5 gk_rV 54 [(0, .ref v0), (1, .int v1), (2, .int v2), (4, .int x.1)] [] z2 (k54_1 z2)) (fun y1 => ?_) (fun k54_1 hk54_1 => ?_)
      · show gk_K Z Y 5 gk_rV 54 [(0, .ref v0), (1, .int v1), (2, .int v2), (4, .int x.1)] [] y1 _
        refine gk_iinc hC (v := 1) 3 (lv' := [(0, .ref v0), (1, .int v1), (2, .int v2), (4, .int (x.1 + 1))]) [1, 2, 3, 0] dX2_ringAt_54 rfl kc_i_1 (by decide) rfl (q := 57) rfl ?_
        refine gk_goto hC dX2_ringAt_57 (q := 30) rfl ?_
        exact ih ((x.1 + 1), y1)
      · refine gk_if_eq hC dX2_ringAt_43 (tg := 54) rfl (q := 46) rfl ?_ ?_
        · exact hk54_1 x.2
        · refine gk_aload_n hC 0 dX2_ringAt_46 rfl (q := 47) rfl ?_
          refine gk_getR hC dX2_ringAt_47 fl_RX2_9 (by decide) tv0 (q := 50) rfl (fun t3 => ?_)
          refine gk_iload hC 3 dX2_ringAt_50 rfl (q := 52) rfl ?_
          refine gk_iload_n hC 1 dX2_ringAt_52 rfl (q := 53) rfl ?_
          refine gk_iast hC dX2_ringAt_53 t3 (q := 54) rfl (fun M4 => ?_)
          exact hk54_1 M4
set_option maxHeartbeats 4000000 in
set_option maxRecDepth 100000 in
theorem m_X2_ringAt (l : Launch) {Y : gk_Y} (hY : gk_WF Y) (a0 : Nat) (a1 : Int32) (a2 : Int32) (M : gk_M) (t0 : gk_T Y 12 a0) : gk_MF l Y yX2_ringAt cX2_ringAt 5 none 0 [.ref a0, .int a1, .int a2] M gk_rV (f_X2_ringAt (gk_ln Y) (gk_rf Y) a0 a1 a2 M) := by
  refine gk_met hY (plainFor_of_name (by decide)) (Nat.le_of_ble_eq_true rfl) fun Z hC hR => ?_
  show gk_K Z Y 5 gk_rV 0 [(0, .ref a0), (1, .int a1), (2, .int a2)] [] M _
  unfold f_X2_ringAt
  refine gk_aload_n hC 0 dX2_ringAt_0 rfl (q := 1) rfl ?_
  refine gk_getR hC dX2_ringAt_1 fl_RX2_33 (by decide) t0 (q := 4) rfl (fun t21 => ?_)
  refine gk_iload_n hC 1 dX2_ringAt_4 rfl (q := 5) rfl ?_
  refine gk_aald hC dX2_ringAt_5 (Or.inl rfl) t21 (q := 6) rfl (fun o22 t23 => ?_)
  refine gk_astore_n hC (lv' := [(0, .ref a0), (1, .int a1), (2, .int a2), (3, .ref o22)]) [1, 2, 3, 0] dX2_ringAt_6 (by decide) rfl (q := 7) rfl ?_
  refine gk_aload_n hC 3 dX2_ringAt_7 rfl (q := 8) rfl ?_
  refine gk_iconst hC (v := 0) dX2_ringAt_8 kc_i_0 (q := 9) rfl ?_
  refine gk_putI hC dX2_ringAt_9 fp_RX2_71 t23 (q := 12) rfl (fun M24 => ?_)
  refine gk_aload_n hC 3 dX2_ringAt_12 rfl (q := 13) rfl ?_
  refine gk_iload_n hC 2 dX2_ringAt_13 rfl (q := 14) rfl ?_
  refine gk_putI hC dX2_ringAt_14 fp_RX2_65 t23 (q := 17) rfl (fun M25 => ?_)
  refine gk_aload_n hC 3 dX2_ringAt_17 rfl (q := 18) rfl ?_
  refine gk_iconst hC (v := (-1)) dX2_ringAt_18 kc_i_m1 (q := 19) rfl ?_
  refine gk_putI hC dX2_ringAt_19 fp_RX2_74 t23 (q := 22) rfl (fun M26 => ?_)
  refine gk_aload_n hC 3 dX2_ringAt_22 rfl (q := 23) rfl ?_
  refine gk_iconst hC (v := 0) dX2_ringAt_23 kc_i_0 (q := 24) rfl ?_
  refine gk_putI hC dX2_ringAt_24 fp_RX2_107 t23 (q := 27) rfl (fun M27 => ?_)
  refine gk_iconst hC (v := 0) dX2_ringAt_27 kc_i_0 (q := 28) rfl ?_
  refine gk_istore hC (lv' := [(0, .ref a0), (1, .int a1), (2, .int a2), (4, .int 0)]) [1, 2, 3, 0] dX2_ringAt_28 (by decide) rfl (q := 30) rfl ?_
  refine gk_jnR (fun k60_28 => ∀ z29 : gk_M, gk_K Z Y 5 gk_rV 60 [] [] z29 (k60_28 z29)) (fun y28 => ?_) (fun k60_28 hk60_28 => ?_)
  · show gk_K Z Y 5 gk_rV 60 [] [] y28 _
    exact gk_vret hC hR dX2_ringAt_60 rfl
  · exact lk_X2_ringAt_30 hY hC hR a0 a1 a2 t0 k60_28 hk60_28 gk_fuel (0, M27)
def lp_X2_arrive_54 (LN : Nat → Nat) (RF : Nat → Nat → Nat) (v0 : Nat) (v1 : Int32) (v2 : Int32) (M : gk_M) (k127 : Int32 → Option (gk_M)) : Nat → (Int32 × Int32) → Option (gk_M)
  | 0, _ => none
  | n + 1, x =>
    if (M.1 (RF v0 0) 1) ≤ x.2 then
      k127 x.1
    else
    gk_aldr LN RF (RF (RF v0 0) 0) x.2 fun o4 =>
    gk_jn (fun y6 : Int32 =>
      lp_X2_arrive_54 LN RF v0 v1 v2 M k127 n (y6, (x.2 + 1))) fun k121_6 =>
    if (M.1 o4 1) = 6 then
      (f_X5_isOnFor LN RF o4 v2 M).bind fun r8 =>
      if r8 = 0 then
        k121_6 x.1
      else
      (f_X2_isFree LN RF v0 (M.1 o4 3) M).bind fun r9 =>
      if r9 = 0 then
        k121_6 x.1
      else
      k121_6 (x.1 ||| (1 <<< ((M.1 o4 3) &&& 31)))
    else
    k121_6 x.1
def f_X2_arrive (LN : Nat → Nat) (RF : Nat → Nat → Nat) (a0 : Nat) (a1 : Int32) (a2 : Int32) (M : gk_M) : Option (gk_M) :=
  gk_aldr LN RF (RF a0 1) a1 fun o22 =>
  (f_X2_isFree LN RF a0 a2 M).bind fun r24 =>
  if r24 = 0 then
    (f_X2_close LN RF a0 o22 3 M).bind fun r25 =>
    (f_X6_has LN RF (RF a0 0) (r25.1 o22 0) 5 r25).bind fun r27 =>
    gk_jn (fun y28 : gk_M =>
      some y28) fun k45_28 =>
    if r27 = 0 then
      k45_28 r25
    else
    (f_X2_addBack LN RF a0 (r25.1 o22 0) a2 r25).bind fun r30 =>
    k45_28 r30
  else
  gk_jn (fun y31 : Int32 =>
    (f_X2_ringAt LN RF a0 a1 y31 M).bind fun r33 =>
    some r33) fun k127_31 =>
  lp_X2_arrive_54 LN RF a0 a1 a2 M k127_31 gk_fuel ((1 <<< (a2 &&& 31)), 0)
set_option maxHeartbeats 4000000 in
set_option maxRecDepth 100000 in
theorem lk_X2_arrive_54 {Z : gk_Z} {Y : gk_Y} (hY : gk_WF Y) (hC : gk_C Z Y cX2_arrive 7 RX2 1) (hR : gk_R Z Y none) (v0 : Nat) (v1 : Int32) (v2 : Int32) (M : gk_M) (tv0 : gk_T Y 12 v0) (k127 : Int32 → Option (gk_M)) (hk127 : ∀ z34 : Int32, gk_K Z Y 7 gk_rV 127 [(0, .ref v0), (1, .int v1), (4, .int z34)] [] M (k127 z34)) : ∀ (n : Nat) (x : Int32 × Int32), gk_K Z Y 7 gk_rV 54 [(0, .ref v0), (1, .int v1), (2, .int v2), (4, .int x.1), (5, .int x.2)] [] M (lp_X2_arrive_54 (gk_ln Y) (gk_rf Y) v0 v1 v2 M k127 n x) := by
  intro n
  induction n with
  | zero => intro x; exact gk_none
  | succ n ih =>
    intro x
    rw [lp_X2_arrive_54]
    refine gk_iload hC 4 dX2_arrive_54 rfl (q := 56) rfl ?_
    refine gk_aload_n hC 0 dX2_arrive_56 rfl (q := 57) rfl ?_
    refine gk_getR hC dX2_arrive_57 fl_RX2_27 (by decide) tv0 (q := 60) rfl (fun t1 => ?_)
    refine gk_getI hC dX2_arrive_60 fl_RX2_184 t1 (q := 63) rfl ?_
    refine gk_icmp_ge hC dX2_arrive_63 (tg := 127) rfl (q := 66) rfl ?_ ?_
    · refine gk_pick [0, 1, 3] rfl ?_
      exact hk127 x.1
    · refine gk_aload_n hC 0 dX2_arrive_66 rfl (q := 67) rfl ?_
      refine gk_getR hC dX2_arrive_67 fl_RX2_27 (by decide) tv0 (q := 70) rfl (fun t2 => ?_)
      refine gk_getR hC dX2_arrive_70 fl_RX2_123 (by decide) t2 (q := 73) rfl (fun t3 => ?_)
      refine gk_iload hC 4 dX2_arrive_73 rfl (q := 75) rfl ?_
      refine gk_aald hC dX2_arrive_75 (Or.inr (Or.inl rfl)) t3 (q := 76) rfl (fun o4 t5 => ?_)
      refine gk_astore hC (lv' := [(0, .ref v0), (1, .int v1), (2, .int v2), (4, .int x.1), (5, .int x.2), (6, .ref o4)]) [1, 2, 3, 4, 5, 0] dX2_arrive_76 (by decide) rfl (q := 78) rfl ?_
      refine gk_aload hC 5 dX2_arrive_78 rfl (q := 80) rfl ?_
      refine gk_getI hC dX2_arrive_80 fl_RX2_181 t5 (q := 83) rfl ?_
      refine gk_bipush hC (v := 6) dX2_arrive_83 kc_b_6 (q := 85) rfl ?_
      refine gk_jnR (fun k121_6 => ∀ z7 : Int32, gk_K Z Y 7 gk_rV 121 [(0, .ref v0), (1, .int v1), (2, .int v2), (4, .int z7), (5, .int x.2)] [] M (k121_6 z7)) (fun y6 => ?_) (fun k121_6 hk121_6 => ?_)
      · show gk_K Z Y 7 gk_rV 121 [(0, .ref v0), (1, .int v1), (2, .int v2), (4, .int y6), (5, .int x.2)] [] M _
        refine gk_iinc hC (v := 1) 4 (lv' := [(0, .ref v0), (1, .int v1), (2, .int v2), (4, .int y6), (5, .int (x.2 + 1))]) [1, 2, 3, 4, 0] dX2_arrive_121 rfl kc_i_1 (by decide) rfl (q := 124) rfl ?_
        refine gk_goto hC dX2_arrive_124 (q := 54) rfl ?_
        exact ih (y6, (x.2 + 1))
      · refine gk_icmp_ne hC dX2_arrive_85 (tg := 121) rfl (q := 88) rfl ?_ ?_
        · refine gk_aload hC 5 dX2_arrive_88 rfl (q := 90) rfl ?_
          refine gk_iload_n hC 2 dX2_arrive_90 rfl (q := 91) rfl ?_
          refine gk_callV (As := [.int v2]) (rest := []) hC (fun l => m_X5_isOnFor l hY o4 v2 M t5) ml_RX2_187 ok_X5_isOnFor dX2_arrive_91 t5 ⟨by decide, rfl⟩ rfl (by decide) (Nat.le_of_ble_eq_true rfl) rfl (q := 94) rfl (fun r8 => ?_)
          show gk_K Z Y 7 gk_rV 94 [(0, .ref v0), (1, .int v1), (2, .int v2), (4, .int x.1), (5, .int x.2), (6, .ref o4)] [.int r8] M _
          refine gk_if_eq hC dX2_arrive_94 (tg := 121) rfl (q := 97) rfl ?_ ?_
          · refine gk_pick [0, 1, 2, 3, 4] rfl ?_
            exact hk121_6 x.1
          · refine gk_aload_n hC 0 dX2_arrive_97 rfl (q := 98) rfl ?_
            refine gk_aload hC 5 dX2_arrive_98 rfl (q := 100) rfl ?_
            refine gk_getI hC dX2_arrive_100 fl_RX2_127 t5 (q := 103) rfl ?_
            refine gk_callV (As := [.int (M.1 o4 3)]) (rest := []) hC (fun l => m_X2_isFree l hY v0 (M.1 o4 3) M tv0) ml_RX2_61 ok_X2_isFree dX2_arrive_103 tv0 ⟨by decide, rfl⟩ rfl (by decide) (Nat.le_of_ble_eq_true rfl) rfl (q := 106) rfl (fun r9 => ?_)
            show gk_K Z Y 7 gk_rV 106 [(0, .ref v0), (1, .int v1), (2, .int v2), (4, .int x.1), (5, .int x.2), (6, .ref o4)] [.int r9] M _
            refine gk_if_eq hC dX2_arrive_106 (tg := 121) rfl (q := 109) rfl ?_ ?_
            · refine gk_pick [0, 1, 2, 3, 4] rfl ?_
              exact hk121_6 x.1
            · refine gk_iload hC 3 dX2_arrive_109 rfl (q := 111) rfl ?_
              refine gk_iconst hC (v := 1) dX2_arrive_111 kc_i_1 (q := 112) rfl ?_
              refine gk_aload hC 5 dX2_arrive_112 rfl (q := 114) rfl ?_
              refine gk_getI hC dX2_arrive_114 fl_RX2_127 t5 (q := 117) rfl ?_
              refine gk_ishl hC dX2_arrive_117 (q := 118) rfl ?_
              refine gk_ior hC dX2_arrive_118 (q := 119) rfl ?_
              refine gk_istore hC (lv' := [(0, .ref v0), (1, .int v1), (2, .int v2), (4, .int (x.1 ||| (1 <<< ((M.1 o4 3) &&& 31)))), (5, .int x.2)]) [1, 2, 3, 0, 4] dX2_arrive_119 (by decide) rfl (q := 121) rfl ?_
              exact hk121_6 (x.1 ||| (1 <<< ((M.1 o4 3) &&& 31)))
        · refine gk_pick [0, 1, 2, 3, 4] rfl ?_
          exact hk121_6 x.1
set_option maxHeartbeats 4000000 in
set_option maxRecDepth 100000 in
theorem m_X2_arrive (l : Launch) {Y : gk_Y} (hY : gk_WF Y) (a0 : Nat) (a1 : Int32) (a2 : Int32) (M : gk_M) (t0 : gk_T Y 12 a0) : gk_MF l Y yX2_arrive cX2_arrive 7 none 1 [.ref a0, .int a1, .int a2] M gk_rV (f_X2_arrive (gk_ln Y) (gk_rf Y) a0 a1 a2 M) := by
  refine gk_met hY (plainFor_of_name (by decide)) (Nat.le_of_ble_eq_true rfl) fun Z hC hR => ?_
  show gk_K Z Y 7 gk_rV 0 [(0, .ref a0), (1, .int a1), (2, .int a2)] [] M _
  unfold f_X2_arrive
  refine gk_aload_n hC 0 dX2_arrive_0 rfl (q := 1) rfl ?_
  refine gk_getR hC dX2_arrive_1 fl_RX2_33 (by decide) t0 (q := 4) rfl (fun t21 => ?_)
  refine gk_iload_n hC 1 dX2_arrive_4 rfl (q := 5) rfl ?_
  refine gk_aald hC dX2_arrive_5 (Or.inl rfl) t21 (q := 6) rfl (fun o22 t23 => ?_)
  refine gk_astore_n hC (lv' := [(0, .ref a0), (1, .int a1), (2, .int a2), (3, .ref o22)]) [1, 2, 3, 0] dX2_arrive_6 (by decide) rfl (q := 7) rfl ?_
  refine gk_aload_n hC 0 dX2_arrive_7 rfl (q := 8) rfl ?_
  refine gk_iload_n hC 2 dX2_arrive_8 rfl (q := 9) rfl ?_
  refine gk_callV (As := [.int a2]) (rest := []) hC (fun l => m_X2_isFree l hY a0 a2 M t0) ml_RX2_61 ok_X2_isFree dX2_arrive_9 t0 ⟨by decide, rfl⟩ rfl (by decide) (Nat.le_of_ble_eq_true rfl) rfl (q := 12) rfl (fun r24 => ?_)
  show gk_K Z Y 7 gk_rV 12 [(0, .ref a0), (1, .int a1), (2, .int a2), (3, .ref o22)] [.int r24] M _
  refine gk_if_ne hC dX2_arrive_12 (tg := 46) rfl (q := 15) rfl ?_ ?_
  · refine gk_aload_n hC 0 dX2_arrive_15 rfl (q := 16) rfl ?_
    refine gk_aload_n hC 3 dX2_arrive_16 rfl (q := 17) rfl ?_
    refine gk_iconst hC (v := 3) dX2_arrive_17 kc_i_3 (q := 18) rfl ?_
    refine gk_callV (As := [.ref o22, .int 3]) (rest := []) hC (fun l => m_X2_close l hY a0 o22 3 M t0 t23) ml_RX2_100 ok_X2_close dX2_arrive_18 t0 ⟨by decide, rfl⟩ rfl (by decide) (Nat.le_of_ble_eq_true rfl) rfl (q := 21) rfl (fun r25 => ?_)
    show gk_K Z Y 7 gk_rV 21 [(0, .ref a0), (1, .int a1), (2, .int a2), (3, .ref o22)] [] r25 _
    refine gk_aload_n hC 0 dX2_arrive_21 rfl (q := 22) rfl ?_
    refine gk_getR hC dX2_arrive_22 fl_RX2_27 (by decide) t0 (q := 25) rfl (fun t26 => ?_)
    refine gk_aload_n hC 3 dX2_arrive_25 rfl (q := 26) rfl ?_
    refine gk_getI hC dX2_arrive_26 fl_RX2_77 t23 (q := 29) rfl ?_
    refine gk_iconst hC (v := 5) dX2_arrive_29 kc_i_5 (q := 30) rfl ?_
    refine gk_callV (As := [.int (r25.1 o22 0), .int 5]) (rest := []) hC (fun l => m_X6_has l hY ((gk_rf Y) a0 0) (r25.1 o22 0) 5 r25 t26) ml_RX2_167 ok_X6_has dX2_arrive_30 t26 ⟨by decide, rfl⟩ rfl (by decide) (Nat.le_of_ble_eq_true rfl) rfl (q := 33) rfl (fun r27 => ?_)
    show gk_K Z Y 7 gk_rV 33 [(0, .ref a0), (1, .int a1), (2, .int a2), (3, .ref o22)] [.int r27] r25 _
    refine gk_jnR (fun k45_28 => ∀ z29 : gk_M, gk_K Z Y 7 gk_rV 45 [] [] z29 (k45_28 z29)) (fun y28 => ?_) (fun k45_28 hk45_28 => ?_)
    · show gk_K Z Y 7 gk_rV 45 [] [] y28 _
      exact gk_vret hC hR dX2_arrive_45 rfl
    · refine gk_if_eq hC dX2_arrive_33 (tg := 45) rfl (q := 36) rfl ?_ ?_
      · refine gk_pick [] rfl ?_
        exact hk45_28 r25
      · refine gk_aload_n hC 0 dX2_arrive_36 rfl (q := 37) rfl ?_
        refine gk_aload_n hC 3 dX2_arrive_37 rfl (q := 38) rfl ?_
        refine gk_getI hC dX2_arrive_38 fl_RX2_77 t23 (q := 41) rfl ?_
        refine gk_iload_n hC 2 dX2_arrive_41 rfl (q := 42) rfl ?_
        refine gk_callV (As := [.int (r25.1 o22 0), .int a2]) (rest := []) hC (fun l => m_X2_addBack l hY a0 (r25.1 o22 0) a2 r25 t0) ml_RX2_201 ok_X2_addBack dX2_arrive_42 t0 ⟨by decide, rfl⟩ rfl (by decide) (Nat.le_of_ble_eq_true rfl) rfl (q := 45) rfl (fun r30 => ?_)
        show gk_K Z Y 7 gk_rV 45 [(0, .ref a0), (1, .int a1), (2, .int a2), (3, .ref o22)] [] r30 _
        refine gk_pick [] rfl ?_
        exact hk45_28 r30
  · refine gk_iconst hC (v := 1) dX2_arrive_46 kc_i_1 (q := 47) rfl ?_
    refine gk_iload_n hC 2 dX2_arrive_47 rfl (q := 48) rfl ?_
    refine gk_ishl hC dX2_arrive_48 (q := 49) rfl ?_
    refine gk_istore hC (lv' := [(0, .ref a0), (1, .int a1), (2, .int a2), (4, .int (1 <<< (a2 &&& 31)))]) [1, 2, 3, 0] dX2_arrive_49 (by decide) rfl (q := 51) rfl ?_
    refine gk_iconst hC (v := 0) dX2_arrive_51 kc_i_0 (q := 52) rfl ?_
    refine gk_istore hC (lv' := [(0, .ref a0), (1, .int a1), (2, .int a2), (4, .int (1 <<< (a2 &&& 31))), (5, .int 0)]) [1, 2, 3, 4, 0] dX2_arrive_52 (by decide) rfl (q := 54) rfl ?_
    refine gk_jnR (fun k127_31 => ∀ z32 : Int32, gk_K Z Y 7 gk_rV 127 [(0, .ref a0), (1, .int a1), (4, .int z32)] [] M (k127_31 z32)) (fun y31 => ?_) (fun k127_31 hk127_31 => ?_)
    · show gk_K Z Y 7 gk_rV 127 [(0, .ref a0), (1, .int a1), (4, .int y31)] [] M _
      refine gk_aload_n hC 0 dX2_arrive_127 rfl (q := 128) rfl ?_
      refine gk_iload_n hC 1 dX2_arrive_128 rfl (q := 129) rfl ?_
      refine gk_iload hC 2 dX2_arrive_129 rfl (q := 131) rfl ?_
      refine gk_callV (As := [.int a1, .int y31]) (rest := []) hC (fun l => m_X2_ringAt l hY a0 a1 y31 M t0) ml_RX2_204 ok_X2_ringAt dX2_arrive_131 t0 ⟨by decide, rfl⟩ rfl (by decide) (Nat.le_of_ble_eq_true rfl) rfl (q := 134) rfl (fun r33 => ?_)
      show gk_K Z Y 7 gk_rV 134 [(0, .ref a0), (1, .int a1), (4, .int y31)] [] r33 _
      exact gk_vret hC hR dX2_arrive_134 rfl
    · exact lk_X2_arrive_54 hY hC hR a0 a1 a2 M t0 k127_31 hk127_31 gk_fuel ((1 <<< (a2 &&& 31)), 0)
end
