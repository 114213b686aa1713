noncomputable section
def f_X2_breaks (LN : Nat → Nat) (RF : Nat → Nat → Nat) (a0 : Nat) (a1 : Int32) (a2 : Int32) (a3 : Int32) (M : gk_M) : Option (Int32) :=
  if a1 = 1 then
    gk_ald LN M (RF a0 4) a2 fun x22 =>
    gk_jn (fun y23 : Int32 =>
      gk_zz y23 (some y23)) fun k19_23 =>
    if x22 ≤ 0 then
      k19_23 0
    else
    k19_23 1
  else
  (f_X2_isFree LN RF a0 a2 M).bind fun r25 =>
  if r25 = 0 then
    gk_ald LN M (RF a0 2) a2 fun x28 =>
    gk_aldr LN RF (RF a0 1) x28 fun o29 =>
    if a1 = 0 then
      gk_jn (fun y31 : Int32 =>
        gk_zz y31 (some y31)) fun k81_31 =>
      gk_jn (fun y33 : Unit =>
        k81_31 0) fun k80_33 =>
      if a2 = a3 then
        k80_33 ()
      else
      if (M.1 o29 1) = 1 then
        gk_ald LN M (RF a0 2) a3 fun x36 =>
        gk_ald LN M (RF a0 2) a2 fun x38 =>
        if x36 = x38 then
          k81_31 1
        else
        k80_33 ()
      else
      k80_33 ()
    else
    gk_jn (fun y39 : Int32 =>
      gk_zz y39 (some y39)) fun k106_39 =>
    gk_jn (fun y41 : Unit =>
      k106_39 0) fun k105_41 =>
    if (M.1 o29 0) = a2 then
      (f_X2_isTold LN RF a0 o29 a3 M).bind fun r43 =>
      if r43 = 0 then
        k105_41 ()
      else
      k106_39 1
    else
    k105_41 ()
  else
  some 0
set_option maxHeartbeats 4000000 in
set_option maxRecDepth 100000 in
theorem m_X2_breaks (l : Launch) {Y : gk_Y} (hY : gk_WF Y) (a0 : Nat) (a1 : Int32) (a2 : Int32) (a3 : Int32) (M : gk_M) (t0 : gk_T Y 12 a0) : gk_MF l Y yX2_breaks cX2_breaks 5 (some .boolean) 3 [.ref a0, .int a1, .int a2, .int a3] M (gk_rR M) (f_X2_breaks (gk_ln Y) (gk_rf Y) a0 a1 a2 a3 M) := by
  refine gk_met hY (plainFor_of_name (by decide)) (Nat.le_of_ble_eq_true rfl) fun Z hC hR => ?_
  show gk_K Z Y 5 (gk_rR M) 0 [(0, .ref a0), (1, .int a1), (2, .int a2), (3, .int a3)] [] M _
  unfold f_X2_breaks
  refine gk_iload_n hC 1 dX2_breaks_0 rfl (q := 1) rfl ?_
  refine gk_iconst hC (v := 1) dX2_breaks_1 kc_i_1 (q := 2) rfl ?_
  refine gk_icmp_ne hC dX2_breaks_2 (tg := 20) rfl (q := 5) rfl ?_ ?_
  · refine gk_aload_n hC 0 dX2_breaks_5 rfl (q := 6) rfl ?_
    refine gk_getR hC dX2_breaks_6 fl_RX2_18 (by decide) t0 (q := 9) rfl (fun t21 => ?_)
    refine gk_iload_n hC 2 dX2_breaks_9 rfl (q := 10) rfl ?_
    refine gk_iald hC dX2_breaks_10 t21 (q := 11) rfl (fun x22 => ?_)
    refine gk_jnR (fun k19_23 => ∀ z24 : Int32, gk_K Z Y 5 (gk_rR M) 19 [] [.int z24] M (k19_23 z24)) (fun y23 => ?_) (fun k19_23 hk19_23 => ?_)
    · show gk_K Z Y 5 (gk_rR M) 19 [] [.int y23] M _
      exact gk_zzR (fun hv => gk_zret hC hR dX2_breaks_19 hv rfl)
    · refine gk_if_le hC dX2_breaks_11 (tg := 18) rfl (q := 14) rfl ?_ ?_
      · refine gk_iconst hC (v := 0) dX2_breaks_18 kc_i_0 (q := 19) rfl ?_
        refine gk_pick [] rfl ?_
        exact hk19_23 0
      · refine gk_iconst hC (v := 1) dX2_breaks_14 kc_i_1 (q := 15) rfl ?_
        refine gk_goto hC dX2_breaks_15 (q := 19) rfl ?_
        refine gk_pick [] rfl ?_
        exact hk19_23 1
  · refine gk_aload_n hC 0 dX2_breaks_20 rfl (q := 21) rfl ?_
    refine gk_iload_n hC 2 dX2_breaks_21 rfl (q := 22) rfl ?_
    refine gk_callV (As := [.int a2]) (rest := []) hC (fun l => m_X2_isFree l hY a0 a2 M t0) ml_RX2_61 ok_X2_isFree dX2_breaks_22 t0 ⟨by decide, rfl⟩ rfl (by decide) (Nat.le_of_ble_eq_true rfl) rfl (q := 25) rfl (fun r25 => ?_)
    show gk_K Z Y 5 (gk_rR M) 25 [(0, .ref a0), (1, .int a1), (2, .int a2), (3, .int a3)] [.int r25] M _
    refine gk_if_eq hC dX2_breaks_25 (tg := 30) rfl (q := 28) rfl ?_ ?_
    · refine gk_aload_n hC 0 dX2_breaks_30 rfl (q := 31) rfl ?_
      refine gk_getR hC dX2_breaks_31 fl_RX2_33 (by decide) t0 (q := 34) rfl (fun t26 => ?_)
      refine gk_aload_n hC 0 dX2_breaks_34 rfl (q := 35) rfl ?_
      refine gk_getR hC dX2_breaks_35 fl_RX2_9 (by decide) t0 (q := 38) rfl (fun t27 => ?_)
      refine gk_iload_n hC 2 dX2_breaks_38 rfl (q := 39) rfl ?_
      refine gk_iald hC dX2_breaks_39 t27 (q := 40) rfl (fun x28 => ?_)
      refine gk_aald hC dX2_breaks_40 (Or.inl rfl) t26 (q := 41) rfl (fun o29 t30 => ?_)
      refine gk_astore hC (lv' := [(0, .ref a0), (1, .int a1), (2, .int a2), (3, .int a3), (4, .ref o29)]) [1, 2, 3, 4, 0] dX2_breaks_41 (by decide) rfl (q := 43) rfl ?_
      refine gk_iload_n hC 1 dX2_breaks_43 rfl (q := 44) rfl ?_
      refine gk_if_ne hC dX2_breaks_44 (tg := 82) rfl (q := 47) rfl ?_ ?_
      · refine gk_iload_n hC 2 dX2_breaks_47 rfl (q := 48) rfl ?_
        refine gk_iload_n hC 3 dX2_breaks_48 rfl (q := 49) rfl ?_
        refine gk_jnR (fun k81_31 => ∀ z32 : Int32, gk_K Z Y 5 (gk_rR M) 81 [] [.int z32] M (k81_31 z32)) (fun y31 => ?_) (fun k81_31 hk81_31 => ?_)
        · show gk_K Z Y 5 (gk_rR M) 81 [] [.int y31] M _
          exact gk_zzR (fun hv => gk_zret hC hR dX2_breaks_81 hv rfl)
        · refine gk_jnR (fun k80_33 => ∀ z34 : Unit, gk_K Z Y 5 (gk_rR M) 80 [] [] M (k80_33 z34)) (fun y33 => ?_) (fun k80_33 hk80_33 => ?_)
          · show gk_K Z Y 5 (gk_rR M) 80 [] [] M _
            refine gk_iconst hC (v := 0) dX2_breaks_80 kc_i_0 (q := 81) rfl ?_
            exact hk81_31 0
          · refine gk_icmp_eq hC dX2_breaks_49 (tg := 80) rfl (q := 52) rfl ?_ ?_
            · refine gk_pick [] rfl ?_
              exact hk80_33 ()
            · refine gk_aload hC 4 dX2_breaks_52 rfl (q := 54) rfl ?_
              refine gk_getI hC dX2_breaks_54 fl_RX2_71 t30 (q := 57) rfl ?_
              refine gk_iconst hC (v := 1) dX2_breaks_57 kc_i_1 (q := 58) rfl ?_
              refine gk_icmp_ne hC dX2_breaks_58 (tg := 80) rfl (q := 61) rfl ?_ ?_
              · refine gk_aload_n hC 0 dX2_breaks_61 rfl (q := 62) rfl ?_
                refine gk_getR hC dX2_breaks_62 fl_RX2_9 (by decide) t0 (q := 65) rfl (fun t35 => ?_)
                refine gk_iload_n hC 3 dX2_breaks_65 rfl (q := 66) rfl ?_
                refine gk_iald hC dX2_breaks_66 t35 (q := 67) rfl (fun x36 => ?_)
                refine gk_aload_n hC 0 dX2_breaks_67 rfl (q := 68) rfl ?_
                refine gk_getR hC dX2_breaks_68 fl_RX2_9 (by decide) t0 (q := 71) rfl (fun t37 => ?_)
                refine gk_iload_n hC 2 dX2_breaks_71 rfl (q := 72) rfl ?_
                refine gk_iald hC dX2_breaks_72 t37 (q := 73) rfl (fun x38 => ?_)
                refine gk_icmp_ne hC dX2_breaks_73 (tg := 80) rfl (q := 76) rfl ?_ ?_
                · refine gk_iconst hC (v := 1) dX2_breaks_76 kc_i_1 (q := 77) rfl ?_
                  refine gk_goto hC dX2_breaks_77 (q := 81) rfl ?_
                  refine gk_pick [] rfl ?_
                  exact hk81_31 1
                · refine gk_pick [] rfl ?_
                  exact hk80_33 ()
              · refine gk_pick [] rfl ?_
                exact hk80_33 ()
      · refine gk_aload hC 4 dX2_breaks_82 rfl (q := 84) rfl ?_
        refine gk_getI hC dX2_breaks_84 fl_RX2_77 t30 (q := 87) rfl ?_
        refine gk_iload_n hC 2 dX2_breaks_87 rfl (q := 88) rfl ?_
        refine gk_jnR (fun k106_39 => ∀ z40 : Int32, gk_K Z Y 5 (gk_rR M) 106 [] [.int z40] M (k106_39 z40)) (fun y39 => ?_) (fun k106_39 hk106_39 => ?_)
        · show gk_K Z Y 5 (gk_rR M) 106 [] [.int y39] M _
          exact gk_zzR (fun hv => gk_zret hC hR dX2_breaks_106 hv rfl)
        · refine gk_jnR (fun k105_41 => ∀ z42 : Unit, gk_K Z Y 5 (gk_rR M) 105 [] [] M (k105_41 z42)) (fun y41 => ?_) (fun k105_41 hk105_41 => ?_)
          · show gk_K Z Y 5 (gk_rR M) 105 [] [] M _
            refine gk_iconst hC (v := 0) dX2_breaks_105 kc_i_0 (q := 106) rfl ?_
            exact hk106_39 0
          · refine gk_icmp_ne hC dX2_breaks_88 (tg := 105) rfl (q := 91) rfl ?_ ?_
            · refine gk_aload_n hC 0 dX2_breaks_91 rfl (q := 92) rfl ?_
              refine gk_aload hC 4 dX2_breaks_92 rfl (q := 94) rfl ?_
              refine gk_iload_n hC 3 dX2_breaks_94 rfl (q := 95) rfl ?_
              refine gk_callV (As := [.ref o29, .int a3]) (rest := []) hC (fun l => m_X2_isTold l hY a0 o29 a3 M t0 t30) ml_RX2_154 ok_X2_isTold dX2_breaks_95 t0 ⟨by decide, rfl⟩ rfl (by decide) (Nat.le_of_ble_eq_true rfl) rfl (q := 98) rfl (fun r43 => ?_)
              show gk_K Z Y 5 (gk_rR M) 98 [(0, .ref a0), (1, .int a1), (2, .int a2), (3, .int a3), (4, .ref o29)] [.int r43] M _
              refine gk_if_eq hC dX2_breaks_98 (tg := 105) rfl (q := 101) rfl ?_ ?_
              · refine gk_pick [] rfl ?_
                exact hk105_41 ()
              · refine gk_iconst hC (v := 1) dX2_breaks_101 kc_i_1 (q := 102) rfl ?_
                refine gk_goto hC dX2_breaks_102 (q := 106) rfl ?_
                refine gk_pick [] rfl ?_
                exact hk106_39 1
            · refine gk_pick [] rfl ?_
              exact hk105_41 ()
    · refine gk_iconst hC (v := 0) dX2_breaks_28 kc_i_0 (q := 29) rfl ?_
      exact gk_zret hC hR dX2_breaks_29 (Or.inl rfl) rfl
def f_X5_copyFrom (LN : Nat → Nat) (RF : Nat → Nat → Nat) (a0 : Nat) (a1 : Nat) (M : gk_M) : Option (gk_M) :=
  gk_put M a0 0 (M.1 a1 0) fun M21 =>
  gk_put M21 a0 1 (M21.1 a1 1) fun M22 =>
  gk_put M22 a0 2 (M22.1 a1 2) fun M23 =>
  gk_put M23 a0 3 (M23.1 a1 3) fun M24 =>
  gk_put M24 a0 4 (M24.1 a1 4) fun M25 =>
  gk_putz M25 a0 5 (M25.1 a1 5) fun M26 =>
  some M26
set_option maxHeartbeats 4000000 in
set_option maxRecDepth 100000 in
theorem m_X5_copyFrom (l : Launch) {Y : gk_Y} (hY : gk_WF Y) (a0 : Nat) (a1 : Nat) (M : gk_M) (t0 : gk_T Y 15 a0) (ta1 : gk_T Y 15 a1) : gk_MF l Y yX5_copyFrom cX5_copyFrom 2 none 0 [.ref a0, .ref a1] M gk_rV (f_X5_copyFrom (gk_ln Y) (gk_rf Y) a0 a1 M) := by
  refine gk_met hY (plainFor_of_name (by decide)) (Nat.le_of_ble_eq_true rfl) fun Z hC hR => ?_
  show gk_K Z Y 2 gk_rV 0 [(0, .ref a0), (1, .ref a1)] [] M _
  unfold f_X5_copyFrom
  refine gk_aload_n hC 0 dX5_copyFrom_0 rfl (q := 1) rfl ?_
  refine gk_aload_n hC 1 dX5_copyFrom_1 rfl (q := 2) rfl ?_
  refine gk_getI hC dX5_copyFrom_2 fl_RX5_9 ta1 (q := 5) rfl ?_
  refine gk_putI hC dX5_copyFrom_5 fp_RX5_9 t0 (q := 8) rfl (fun M21 => ?_)
  refine gk_aload_n hC 0 dX5_copyFrom_8 rfl (q := 9) rfl ?_
  refine gk_aload_n hC 1 dX5_copyFrom_9 rfl (q := 10) rfl ?_
  refine gk_getI hC dX5_copyFrom_10 fl_RX5_15 ta1 (q := 13) rfl ?_
  refine gk_putI hC dX5_copyFrom_13 fp_RX5_15 t0 (q := 16) rfl (fun M22 => ?_)
  refine gk_aload_n hC 0 dX5_copyFrom_16 rfl (q := 17) rfl ?_
  refine gk_aload_n hC 1 dX5_copyFrom_17 rfl (q := 18) rfl ?_
  refine gk_getI hC dX5_copyFrom_18 fl_RX5_18 ta1 (q := 21) rfl ?_
  refine gk_putI hC dX5_copyFrom_21 fp_RX5_18 t0 (q := 24) rfl (fun M23 => ?_)
  refine gk_aload_n hC 0 dX5_copyFrom_24 rfl (q := 25) rfl ?_
  refine gk_aload_n hC 1 dX5_copyFrom_25 rfl (q := 26) rfl ?_
  refine gk_getI hC dX5_copyFrom_26 fl_RX5_21 ta1 (q := 29) rfl ?_
  refine gk_putI hC dX5_copyFrom_29 fp_RX5_21 t0 (q := 32) rfl (fun M24 => ?_)
  refine gk_aload_n hC 0 dX5_copyFrom_32 rfl (q := 33) rfl ?_
  refine gk_aload_n hC 1 dX5_copyFrom_33 rfl (q := 34) rfl ?_
  refine gk_getI hC dX5_copyFrom_34 fl_RX5_24 ta1 (q := 37) rfl ?_
  refine gk_putI hC dX5_copyFrom_37 fp_RX5_24 t0 (q := 40) rfl (fun M25 => ?_)
  refine gk_aload_n hC 0 dX5_copyFrom_40 rfl (q := 41) rfl ?_
  refine gk_aload_n hC 1 dX5_copyFrom_41 rfl (q := 42) rfl ?_
  refine gk_getZ hC dX5_copyFrom_42 fl_RX5_27 ta1 (q := 45) rfl ?_
  refine gk_putZ hC dX5_copyFrom_45 fp_RX5_27 t0 (q := 48) rfl (fun M26 => ?_)
  exact gk_vret hC hR dX5_copyFrom_48 rfl
def lp_X6_copyFrom_10 (LN : Nat → Nat) (RF : Nat → Nat → Nat) (v0 : Nat) (v1 : Nat) (k39 : gk_M → Option (gk_M)) : Nat → (Int32 × gk_M) → Option (gk_M)
  | 0, _ => none
  | n + 1, x =>
    if (x.2.1 v0 1) ≤ x.1 then
      k39 x.2
    else
    gk_aldr LN RF (RF v0 0) x.1 fun o2 =>
    gk_aldr LN RF (RF v1 0) x.1 fun o5 =>
    (f_X5_copyFrom LN RF o2 o5 x.2).bind fun r7 =>
    lp_X6_copyFrom_10 LN RF v0 v1 k39 n ((x.1 + 1), r7)
def f_X6_copyFrom (LN : Nat → Nat) (RF : Nat → Nat → Nat) (a0 : Nat) (a1 : Nat) (M : gk_M) : Option (gk_M) :=
  gk_put M a0 1 (M.1 a1 1) fun M21 =>
  gk_jn (fun y22 : gk_M =>
    some y22) fun k39_22 =>
  lp_X6_copyFrom_10 LN RF a0 a1 k39_22 gk_fuel (0, M21)
set_option maxHeartbeats 4000000 in
set_option maxRecDepth 100000 in
theorem lk_X6_copyFrom_10 {Z : gk_Z} {Y : gk_Y} (hY : gk_WF Y) (hC : gk_C Z Y cX6_copyFrom 3 RX6 1) (hR : gk_R Z Y none) (v0 : Nat) (v1 : Nat) (tv0 : gk_T Y 16 v0) (tv1 : gk_T Y 16 v1) (k39 : gk_M → Option (gk_M)) (hk39 : ∀ z24 : gk_M, gk_K Z Y 3 gk_rV 39 [] [] z24 (k39 z24)) : ∀ (n : Nat) (x : Int32 × gk_M), gk_K Z Y 3 gk_rV 10 [(0, .ref v0), (1, .ref v1), (2, .int x.1)] [] x.2 (lp_X6_copyFrom_10 (gk_ln Y) (gk_rf Y) v0 v1 k39 n x) := by
  intro n
  induction n with
  | zero => intro x; exact gk_none
  | succ n ih =>
    intro x
    rw [lp_X6_copyFrom_10]
    refine gk_iload_n hC 2 dX6_copyFrom_10 rfl (q := 11) rfl ?_
    refine gk_aload_n hC 0 dX6_copyFrom_11 rfl (q := 12) rfl ?_
    refine gk_getI hC dX6_copyFrom_12 fl_RX6_18 tv0 (q := 15) rfl ?_
    refine gk_icmp_ge hC dX6_copyFrom_15 (tg := 39) rfl (q := 18) rfl ?_ ?_
    · refine gk_pick [] rfl ?_
      exact hk39 x.2
    · refine gk_aload_n hC 0 dX6_copyFrom_18 rfl (q := 19) rfl ?_
      refine gk_getR hC dX6_copyFrom_19 fl_RX6_11 (by decide) tv0 (q := 22) rfl (fun t1 => ?_)
      refine gk_iload_n hC 2 dX6_copyFrom_22 rfl (q := 23) rfl ?_
      refine gk_aald hC dX6_copyFrom_23 (Or.inr (Or.inl rfl)) t1 (q := 24) rfl (fun o2 t3 => ?_)
      refine gk_aload_n hC 1 dX6_copyFrom_24 rfl (q := 25) rfl ?_
      refine gk_getR hC dX6_copyFrom_25 fl_RX6_11 (by decide) tv1 (q := 28) rfl (fun t4 => ?_)
      refine gk_iload_n hC 2 dX6_copyFrom_28 rfl (q := 29) rfl ?_
      refine gk_aald hC dX6_copyFrom_29 (Or.inr (Or.inl rfl)) t4 (q := 30) rfl (fun o5 t6 => ?_)
      refine gk_callV (As := [.ref o5]) (rest := []) hC (fun l => m_X5_copyFrom l hY o2 o5 x.2 t3 t6) ml_RX6_22 ok_X5_copyFrom dX6_copyFrom_30 t3 ⟨by decide, rfl⟩ rfl (by decide) (Nat.le_of_ble_eq_true rfl) rfl (q := 33) rfl (fun r7 => ?_)
      show gk_K Z Y 3 gk_rV 33 [(0, .ref v0), (1, .ref v1), (2, .int x.1)] [] r7 _
      refine gk_iinc hC (v := 1) 2 (lv' := [(0, .ref v0), (1, .ref v1), (2, .int (x.1 + 1))]) [1, 2, 0] dX6_copyFrom_33 rfl kc_i_1 (by decide) rfl (q := 36) rfl ?_
      refine gk_goto hC dX6_copyFrom_36 (q := 10) rfl ?_
      exact ih ((x.1 + 1), r7)
set_option maxHeartbeats 4000000 in
set_option maxRecDepth 100000 in
theorem m_X6_copyFrom (l : Launch) {Y : gk_Y} (hY : gk_WF Y) (a0 : Nat) (a1 : Nat) (M : gk_M) (t0 : gk_T Y 16 a0) (ta1 : gk_T Y 16 a1) : gk_MF l Y yX6_copyFrom cX6_copyFrom 3 none 1 [.ref a0, .ref a1] M gk_rV (f_X6_copyFrom (gk_ln Y) (gk_rf Y) a0 a1 M) := by
  refine gk_met hY (plainFor_of_name (by decide)) (Nat.le_of_ble_eq_true rfl) fun Z hC hR => ?_
  show gk_K Z Y 3 gk_rV 0 [(0, .ref a0), (1, .ref a1)] [] M _
  unfold f_X6_copyFrom
  refine gk_aload_n hC 0 dX6_copyFrom_0 rfl (q := 1) rfl ?_
  refine gk_aload_n hC 1 dX6_copyFrom_1 rfl (q := 2) rfl ?_
  refine gk_getI hC dX6_copyFrom_2 fl_RX6_18 ta1 (q := 5) rfl ?_
  refine gk_putI hC dX6_copyFrom_5 fp_RX6_18 t0 (q := 8) rfl (fun M21 => ?_)
  refine gk_iconst hC (v := 0) dX6_copyFrom_8 kc_i_0 (q := 9) rfl ?_
  refine gk_istore_n hC (lv' := [(0, .ref a0), (1, .ref a1), (2, .int 0)]) [1, 2, 0] dX6_copyFrom_9 (by decide) rfl (q := 10) rfl ?_
  refine gk_jnR (fun k39_22 => ∀ z23 : gk_M, gk_K Z Y 3 gk_rV 39 [] [] z23 (k39_22 z23)) (fun y22 => ?_) (fun k39_22 hk39_22 => ?_)
  · show gk_K Z Y 3 gk_rV 39 [] [] y22 _
    exact gk_vret hC hR dX6_copyFrom_39 rfl
  · exact lk_X6_copyFrom_10 hY hC hR a0 a1 t0 ta1 k39_22 hk39_22 gk_fuel (0, M21)
def f_X3_list (LN : Nat → Nat) (RF : Nat → Nat → Nat) (a0 : Nat) (a1 : Int32) (M : gk_M) : Option (gk_M) :=
  gk_jn (fun y21 : gk_M =>
    some y21) fun k29_21 =>
  if 13 ≤ (M.1 a0 4) then
    k29_21 M
  else
  gk_ast LN M (RF a0 2) (M.1 a0 4) a1 fun M24 =>
  gk_put M24 a0 4 ((M24.1 a0 4) + 1) fun M25 =>
  k29_21 M25
set_option maxHeartbeats 4000000 in
set_option maxRecDepth 100000 in
theorem m_X3_list (l : Launch) {Y : gk_Y} (hY : gk_WF Y) (a0 : Nat) (a1 : Int32) (M : gk_M) (t0 : gk_T Y 13 a0) : gk_MF l Y yX3_list cX3_list 2 none 0 [.ref a0, .int a1] M gk_rV (f_X3_list (gk_ln Y) (gk_rf Y) a0 a1 M) := by
  refine gk_met hY (plainFor_of_name (by decide)) (Nat.le_of_ble_eq_true rfl) fun Z hC hR => ?_
  show gk_K Z Y 2 gk_rV 0 [(0, .ref a0), (1, .int a1)] [] M _
  unfold f_X3_list
  refine gk_aload_n hC 0 dX3_list_0 rfl (q := 1) rfl ?_
  refine gk_getI hC dX3_list_1 fl_RX3_52 t0 (q := 4) rfl ?_
  refine gk_bipush hC (v := 13) dX3_list_4 kc_b_13 (q := 6) rfl ?_
  refine gk_jnR (fun k29_21 => ∀ z22 : gk_M, gk_K Z Y 2 gk_rV 29 [] [] z22 (k29_21 z22)) (fun y21 => ?_) (fun k29_21 hk29_21 => ?_)
  · show gk_K Z Y 2 gk_rV 29 [] [] y21 _
    exact gk_vret hC hR dX3_list_29 rfl
  · refine gk_icmp_ge hC dX3_list_6 (tg := 29) rfl (q := 9) rfl ?_ ?_
    · refine gk_pick [] rfl ?_
      exact hk29_21 M
    · refine gk_aload_n hC 0 dX3_list_9 rfl (q := 10) rfl ?_
      refine gk_getR hC dX3_list_10 fl_RX3_24 (by decide) t0 (q := 13) rfl (fun t23 => ?_)
      refine gk_aload_n hC 0 dX3_list_13 rfl (q := 14) rfl ?_
      refine gk_getI hC dX3_list_14 fl_RX3_52 t0 (q := 17) rfl ?_
      refine gk_iload_n hC 1 dX3_list_17 rfl (q := 18) rfl ?_
      refine gk_iast hC dX3_list_18 t23 (q := 19) rfl (fun M24 => ?_)
      refine gk_aload_n hC 0 dX3_list_19 rfl (q := 20) rfl ?_
      refine gk_dup hC dX3_list_20 rfl (q := 21) rfl ?_
      refine gk_getI hC dX3_list_21 fl_RX3_52 t0 (q := 24) rfl ?_
      refine gk_iconst hC (v := 1) dX3_list_24 kc_i_1 (q := 25) rfl ?_
      refine gk_iadd hC dX3_list_25 (q := 26) rfl ?_
      refine gk_putI hC dX3_list_26 fp_RX3_52 t0 (q := 29) rfl (fun M25 => ?_)
      refine gk_pick [] rfl ?_
      exact hk29_21 M25
def lp_X3_listOfEach_2 (LN : Nat → Nat) (RF : Nat → Nat → Nat) (v0 : Nat) (v1 : Int32) (v2 : Int32) (k32 : gk_M → Option (gk_M)) : Nat → (Int32 × gk_M) → Option (gk_M)
  | 0, _ => none
  | n + 1, x =>
    if 8 ≤ x.1 then
      k32 x.2
    else
    gk_jn (fun y1 : gk_M =>
      lp_X3_listOfEach_2 LN RF v0 v1 v2 k32 n ((x.1 + 1), y1)) fun k26_1 =>
    if ((v2 >>> (x.1 &&& 31)) &&& 1) = 0 then
      k26_1 x.2
    else
    (f_X3_list LN RF v0 (v1 + (10 * x.1)) x.2).bind fun r3 =>
    k26_1 r3
def f_X3_listOfEach (LN : Nat → Nat) (RF : Nat → Nat → Nat) (a0 : Nat) (a1 : Int32) (a2 : Int32) (M : gk_M) : Option (gk_M) :=
  gk_jn (fun y21 : gk_M =>
    some y21) fun k32_21 =>
  lp_X3_listOfEach_2 LN RF a0 a1 a2 k32_21 gk_fuel (0, M)
set_option maxHeartbeats 4000000 in
set_option maxRecDepth 100000 in
theorem lk_X3_listOfEach_2 {Z : gk_Z} {Y : gk_Y} (hY : gk_WF Y) (hC : gk_C Z Y cX3_listOfEach 4 RX3 1) (hR : gk_R Z Y none) (v0 : Nat) (v1 : Int32) (v2 : Int32) (tv0 : gk_T Y 13 v0) (k32 : gk_M → Option (gk_M)) (hk32 : ∀ z23 : gk_M, gk_K Z Y 4 gk_rV 32 [] [] z23 (k32 z23)) : ∀ (n : Nat) (x : Int32 × gk_M), gk_K Z Y 4 gk_rV 2 [(0, .ref v0), (1, .int v1), (2, .int v2), (3, .int x.1)] [] x.2 (lp_X3_listOfEach_2 (gk_ln Y) (gk_rf Y) v0 v1 v2 k32 n x) := by
  intro n
  induction n with
  | zero => intro x; exact gk_none
  | succ n ih =>
    intro x
    rw [lp_X3_listOfEach_2]
    refine gk_iload_n hC 3 dX3_listOfEach_2 rfl (q := 3) rfl ?_
    refine gk_bipush hC (v := 8) dX3_listOfEach_3 kc_b_8 (q := 5) rfl ?_
    refine gk_icmp_ge hC dX3_listOfEach_5 (tg := 32) rfl (q := 8) rfl ?_ ?_
    · refine gk_pick [] rfl ?_
      exact hk32 x.2
    · refine gk_iload_n hC 2 dX3_listOfEach_8 rfl (q := 9) rfl ?_
      refine gk_iload_n hC 3 dX3_listOfEach_9 rfl (q := 10) rfl ?_
      refine gk_ishr hC dX3_listOfEach_10 (q := 11) rfl ?_
      refine gk_iconst hC (v := 1) dX3_listOfEach_11 kc_i_1 (q := 12) rfl ?_
      refine gk_iand hC dX3_listOfEach_12 (q := 13) rfl ?_
      refine gk_jnR (fun k26_1 => ∀ z2 : gk_M, gk_K Z Y 4 gk_rV 26 [(0, .ref v0), (1, .int v1), (2, .int v2), (3, .int x.1)] [] z2 (k26_1 z2)) (fun y1 => ?_) (fun k26_1 hk26_1 => ?_)
      · show gk_K Z Y 4 gk_rV 26 [(0, .ref v0), (1, .int v1), (2, .int v2), (3, .int x.1)] [] y1 _
        refine gk_iinc hC (v := 1) 3 (lv' := [(0, .ref v0), (1, .int v1), (2, .int v2), (3, .int (x.1 + 1))]) [1, 2, 3, 0] dX3_listOfEach_26 rfl kc_i_1 (by decide) rfl (q := 29) rfl ?_
        refine gk_goto hC dX3_listOfEach_29 (q := 2) rfl ?_
        exact ih ((x.1 + 1), y1)
      · refine gk_if_eq hC dX3_listOfEach_13 (tg := 26) rfl (q := 16) rfl ?_ ?_
        · exact hk26_1 x.2
        · refine gk_aload_n hC 0 dX3_listOfEach_16 rfl (q := 17) rfl ?_
          refine gk_iload_n hC 1 dX3_listOfEach_17 rfl (q := 18) rfl ?_
          refine gk_bipush hC (v := 10) dX3_listOfEach_18 kc_b_10 (q := 20) rfl ?_
          refine gk_iload_n hC 3 dX3_listOfEach_20 rfl (q := 21) rfl ?_
          refine gk_imul hC dX3_listOfEach_21 (q := 22) rfl ?_
          refine gk_iadd hC dX3_listOfEach_22 (q := 23) rfl ?_
          refine gk_callV (As := [.int (v1 + (10 * x.1))]) (rest := []) hC (fun l => m_X3_list l hY v0 (v1 + (10 * x.1)) x.2 tv0) ml_RX3_55 ok_X3_list dX3_listOfEach_23 tv0 ⟨by decide, rfl⟩ rfl (by decide) (Nat.le_of_ble_eq_true rfl) rfl (q := 26) rfl (fun r3 => ?_)
          show gk_K Z Y 4 gk_rV 26 [(0, .ref v0), (1, .int v1), (2, .int v2), (3, .int x.1)] [] r3 _
          exact hk26_1 r3
set_option maxHeartbeats 4000000 in
set_option maxRecDepth 100000 in
theorem m_X3_listOfEach (l : Launch) {Y : gk_Y} (hY : gk_WF Y) (a0 : Nat) (a1 : Int32) (a2 : Int32) (M : gk_M) (t0 : gk_T Y 13 a0) : gk_MF l Y yX3_listOfEach cX3_listOfEach 4 none 1 [.ref a0, .int a1, .int a2] M gk_rV (f_X3_listOfEach (gk_ln Y) (gk_rf Y) a0 a1 a2 M) := by
  refine gk_met hY (plainFor_of_name (by decide)) (Nat.le_of_ble_eq_true rfl) fun Z hC hR => ?_
  show gk_K Z Y 4 gk_rV 0 [(0, .ref a0), (1, .int a1), (2, .int a2)] [] M _
  unfold f_X3_listOfEach
  refine gk_iconst hC (v := 0) dX3_listOfEach_0 kc_i_0 (q := 1) rfl ?_
  refine gk_istore_n hC (lv' := [(0, .ref a0), (1, .int a1), (2, .int a2), (3, .int 0)]) [1, 2, 3, 0] dX3_listOfEach_1 (by decide) rfl (q := 2) rfl ?_
  refine gk_jnR (fun k32_21 => ∀ z22 : gk_M, gk_K Z Y 4 gk_rV 32 [] [] z22 (k32_21 z22)) (fun y21 => ?_) (fun k32_21 hk32_21 => ?_)
  · show gk_K Z Y 4 gk_rV 32 [] [] y21 _
    exact gk_vret hC hR dX3_listOfEach_32 rfl
  · exact lk_X3_listOfEach_2 hY hC hR a0 a1 a2 t0 k32_21 hk32_21 gk_fuel (0, M)
def lp_X3_open_58 (LN : Nat → Nat) (RF : Nat → Nat → Nat) (v0 : Nat) (v5 : Int32) (v6 : Int32) (k114 : gk_M → Option (gk_M)) : Nat → (Int32 × gk_M) → Option (gk_M)
  | 0, _ => none
  | n + 1, x =>
    if 8 ≤ x.1 then
      k114 x.2
    else
    gk_jn (fun y1 : gk_M =>
      lp_X3_open_58 LN RF v0 v5 v6 k114 n ((x.1 + 1), y1)) fun k108_1 =>
    if v6 = x.1 then
      k108_1 x.2
    else
    if ((v5 >>> (v6 &&& 31)) &&& 1) = 0 then
      k108_1 x.2
    else
    if ((v5 >>> (x.1 &&& 31)) &&& 1) = 0 then
      k108_1 x.2
    else
    (f_X3_list LN RF v0 ((1000 + (10 * v6)) + x.1) x.2).bind fun r3 =>
    k108_1 r3
def lp_X3_open_48 (LN : Nat → Nat) (RF : Nat → Nat → Nat) (v0 : Nat) (v5 : Int32) (k120 : gk_M → Option (gk_M)) : Nat → (Int32 × gk_M) → Option (gk_M)
  | 0, _ => none
  | n + 1, x =>
    if 8 ≤ x.1 then
      k120 x.2
    else
    gk_jn (fun y1 : gk_M =>
      lp_X3_open_48 LN RF v0 v5 k120 n ((x.1 + 1), y1)) fun k114_1 =>
    lp_X3_open_58 LN RF v0 v5 x.1 k114_1 gk_fuel (0, x.2)
def f_X3_open (LN : Nat → Nat) (RF : Nat → Nat → Nat) (a0 : Nat) (a1 : Nat) (a2 : Int32) (a3 : Int32) (a4 : Int32) (a5 : Int32) (M : gk_M) : Option (gk_M) :=
  (f_X6_copyFrom LN RF (RF a0 0) (RF a1 0) M).bind fun r23 =>
  gk_aldr LN RF (RF a0 1) 0 fun o25 =>
  gk_put r23 o25 7 (r23.1 a1 7) fun M27 =>
  gk_put M27 a0 5 a2 fun M28 =>
  gk_put M28 a0 6 a3 fun M29 =>
  gk_put M29 a0 7 a4 fun M30 =>
  gk_put M30 a0 4 0 fun M31 =>
  gk_jn (fun y32 : gk_M =>
    (f_X3_listOfEach LN RF a0 2000 a5 y32).bind fun r34 =>
    (f_X3_listOfEach LN RF a0 3000 a5 r34).bind fun r35 =>
    (f_X3_list LN RF a0 4000 r35).bind fun r36 =>
    some r36) fun k120_32 =>
  lp_X3_open_48 LN RF a0 a5 k120_32 gk_fuel (0, M31)
set_option maxHeartbeats 4000000 in
set_option maxRecDepth 100000 in
theorem lk_X3_open_58 {Z : gk_Z} {Y : gk_Y} (hY : gk_WF Y) (hC : gk_C Z Y cX3_open 8 RX3 2) (hR : gk_R Z Y none) (v0 : Nat) (v5 : Int32) (v6 : Int32) (tv0 : gk_T Y 13 v0) (k114 : gk_M → Option (gk_M)) (hk114 : ∀ z4 : gk_M, gk_K Z Y 8 gk_rV 114 [(0, .ref v0), (5, .int v5), (6, .int v6)] [] z4 (k114 z4)) : ∀ (n : Nat) (x : Int32 × gk_M), gk_K Z Y 8 gk_rV 58 [(0, .ref v0), (5, .int v5), (6, .int v6), (7, .int x.1)] [] x.2 (lp_X3_open_58 (gk_ln Y) (gk_rf Y) v0 v5 v6 k114 n x) := by
  intro n
  induction n with
  | zero => intro x; exact gk_none
  | succ n ih =>
    intro x
    rw [lp_X3_open_58]
    refine gk_iload hC 3 dX3_open_58 rfl (q := 60) rfl ?_
    refine gk_bipush hC (v := 8) dX3_open_60 kc_b_8 (q := 62) rfl ?_
    refine gk_icmp_ge hC dX3_open_62 (tg := 114) rfl (q := 65) rfl ?_ ?_
    · refine gk_pick [0, 1, 2] rfl ?_
      exact hk114 x.2
    · refine gk_iload hC 2 dX3_open_65 rfl (q := 67) rfl ?_
      refine gk_iload hC 3 dX3_open_67 rfl (q := 69) rfl ?_
      refine gk_jnR (fun k108_1 => ∀ z2 : gk_M, gk_K Z Y 8 gk_rV 108 [(0, .ref v0), (5, .int v5), (6, .int v6), (7, .int x.1)] [] z2 (k108_1 z2)) (fun y1 => ?_) (fun k108_1 hk108_1 => ?_)
      · show gk_K Z Y 8 gk_rV 108 [(0, .ref v0), (5, .int v5), (6, .int v6), (7, .int x.1)] [] y1 _
        refine gk_iinc hC (v := 1) 3 (lv' := [(0, .ref v0), (5, .int v5), (6, .int v6), (7, .int (x.1 + 1))]) [1, 2, 3, 0] dX3_open_108 rfl kc_i_1 (by decide) rfl (q := 111) rfl ?_
        refine gk_goto hC dX3_open_111 (q := 58) rfl ?_
        exact ih ((x.1 + 1), y1)
      · refine gk_icmp_eq hC dX3_open_69 (tg := 108) rfl (q := 72) rfl ?_ ?_
        · exact hk108_1 x.2
        · refine gk_iload hC 1 dX3_open_72 rfl (q := 74) rfl ?_
          refine gk_iload hC 2 dX3_open_74 rfl (q := 76) rfl ?_
          refine gk_ishr hC dX3_open_76 (q := 77) rfl ?_
          refine gk_iconst hC (v := 1) dX3_open_77 kc_i_1 (q := 78) rfl ?_
          refine gk_iand hC dX3_open_78 (q := 79) rfl ?_
          refine gk_if_eq hC dX3_open_79 (tg := 108) rfl (q := 82) rfl ?_ ?_
          · exact hk108_1 x.2
          · refine gk_iload hC 1 dX3_open_82 rfl (q := 84) rfl ?_
            refine gk_iload hC 3 dX3_open_84 rfl (q := 86) rfl ?_
            refine gk_ishr hC dX3_open_86 (q := 87) rfl ?_
            refine gk_iconst hC (v := 1) dX3_open_87 kc_i_1 (q := 88) rfl ?_
            refine gk_iand hC dX3_open_88 (q := 89) rfl ?_
            refine gk_if_eq hC dX3_open_89 (tg := 108) rfl (q := 92) rfl ?_ ?_
            · exact hk108_1 x.2
            · refine gk_aload_n hC 0 dX3_open_92 rfl (q := 93) rfl ?_
              refine gk_sipush hC (v := 1000) dX3_open_93 kc_s_1000 (q := 96) rfl ?_
              refine gk_bipush hC (v := 10) dX3_open_96 kc_b_10 (q := 98) rfl ?_
              refine gk_iload hC 2 dX3_open_98 rfl (q := 100) rfl ?_
              refine gk_imul hC dX3_open_100 (q := 101) rfl ?_
              refine gk_iadd hC dX3_open_101 (q := 102) rfl ?_
              refine gk_iload hC 3 dX3_open_102 rfl (q := 104) rfl ?_
              refine gk_iadd hC dX3_open_104 (q := 105) rfl ?_
              refine gk_callV (As := [.int ((1000 + (10 * v6)) + x.1)]) (rest := []) hC (fun l => m_X3_list l hY v0 ((1000 + (10 * v6)) + x.1) x.2 tv0) ml_RX3_55 ok_X3_list dX3_open_105 tv0 ⟨by decide, rfl⟩ rfl (by decide) (Nat.le_of_ble_eq_true rfl) rfl (q := 108) rfl (fun r3 => ?_)
              show gk_K Z Y 8 gk_rV 108 [(0, .ref v0), (5, .int v5), (6, .int v6), (7, .int x.1)] [] r3 _
              exact hk108_1 r3
set_option maxHeartbeats 4000000 in
set_option maxRecDepth 100000 in
theorem lk_X3_open_48 {Z : gk_Z} {Y : gk_Y} (hY : gk_WF Y) (hC : gk_C Z Y cX3_open 8 RX3 2) (hR : gk_R Z Y none) (v0 : Nat) (v5 : Int32) (tv0 : gk_T Y 13 v0) (k120 : gk_M → Option (gk_M)) (hk120 : ∀ z37 : gk_M, gk_K Z Y 8 gk_rV 120 [(0, .ref v0), (5, .int v5)] [] z37 (k120 z37)) : ∀ (n : Nat) (x : Int32 × gk_M), gk_K Z Y 8 gk_rV 48 [(0, .ref v0), (5, .int v5), (6, .int x.1)] [] x.2 (lp_X3_open_48 (gk_ln Y) (gk_rf Y) v0 v5 k120 n x) := by
  intro n
  induction n with
  | zero => intro x; exact gk_none
  | succ n ih =>
    intro x
    rw [lp_X3_open_48]
    refine gk_iload hC 2 dX3_open_48 rfl (q := 50) rfl ?_
    refine gk_bipush hC (v := 8) dX3_open_50 kc_b_8 (q := 52) rfl ?_
    refine gk_icmp_ge hC dX3_open_52 (tg := 120) rfl (q := 55) rfl ?_ ?_
    · refine gk_pick [0, 1] rfl ?_
      exact hk120 x.2
    · refine gk_iconst hC (v := 0) dX3_open_55 kc_i_0 (q := 56) rfl ?_
      refine gk_istore hC (lv' := [(0, .ref v0), (5, .int v5), (6, .int x.1), (7, .int 0)]) [1, 2, 3, 0] dX3_open_56 (by decide) rfl (q := 58) rfl ?_
      refine gk_jnR (fun k114_1 => ∀ z2 : gk_M, gk_K Z Y 8 gk_rV 114 [(0, .ref v0), (5, .int v5), (6, .int x.1)] [] z2 (k114_1 z2)) (fun y1 => ?_) (fun k114_1 hk114_1 => ?_)
      · show gk_K Z Y 8 gk_rV 114 [(0, .ref v0), (5, .int v5), (6, .int x.1)] [] y1 _
        refine gk_iinc hC (v := 1) 2 (lv' := [(0, .ref v0), (5, .int v5), (6, .int (x.1 + 1))]) [1, 2, 0] dX3_open_114 rfl kc_i_1 (by decide) rfl (q := 117) rfl ?_
        refine gk_goto hC dX3_open_117 (q := 48) rfl ?_
        exact ih ((x.1 + 1), y1)
      · exact lk_X3_open_58 hY hC hR v0 v5 x.1 tv0 k114_1 hk114_1 gk_fuel (0, x.2)
set_option maxHeartbeats 4000000 in
set_option maxRecDepth 100000 in
theorem m_X3_open (l : Launch) {Y : gk_Y} (hY : gk_WF Y) (a0 : Nat) (a1 : Nat) (a2 : Int32) (a3 : Int32) (a4 : Int32) (a5 : Int32) (M : gk_M) (t0 : gk_T Y 13 a0) (ta1 : gk_T Y 12 a1) : gk_MF l Y yX3_open cX3_open 8 none 2 [.ref a0, .ref a1, .int a2, .int a3, .int a4, .int a5] M gk_rV (f_X3_open (gk_ln Y) (gk_rf Y) a0 a1 a2 a3 a4 a5 M) := by
  refine gk_met hY (plainFor_of_name (by decide)) (Nat.le_of_ble_eq_true rfl) fun Z hC hR => ?_
  show gk_K Z Y 8 gk_rV 0 [(0, .ref a0), (1, .ref a1), (2, .int a2), (3, .int a3), (4, .int a4), (5, .int a5)] [] M _
  unfold f_X3_open
  refine gk_aload_n hC 0 dX3_open_0 rfl (q := 1) rfl ?_
  refine gk_getR hC dX3_open_1 fl_RX3_12 (by decide) t0 (q := 4) rfl (fun t21 => ?_)
  refine gk_aload_n hC 1 dX3_open_4 rfl (q := 5) rfl ?_
  refine gk_getR hC dX3_open_5 fl_RX3_34 (by decide) ta1 (q := 8) rfl (fun t22 => ?_)
  refine gk_callV (As := [.ref ((gk_rf Y) a1 0)]) (rest := []) hC (fun l => m_X6_copyFrom l hY ((gk_rf Y) a0 0) ((gk_rf Y) a1 0) M t21 t22) ml_RX3_35 ok_X6_copyFrom dX3_open_8 t21 ⟨by decide, rfl⟩ rfl (by decide) (Nat.le_of_ble_eq_true rfl) rfl (q := 11) rfl (fun r23 => ?_)
  show gk_K Z Y 8 gk_rV 11 [(0, .ref a0), (1, .ref a1), (2, .int a2), (3, .int a3), (4, .int a4), (5, .int a5)] [] r23 _
  refine gk_aload_n hC 0 dX3_open_11 rfl (q := 12) rfl ?_
  refine gk_getR hC dX3_open_12 fl_RX3_20 (by decide) t0 (q := 15) rfl (fun t24 => ?_)
  refine gk_iconst hC (v := 0) dX3_open_15 kc_i_0 (q := 16) rfl ?_
  refine gk_aald hC dX3_open_16 (Or.inr (Or.inr rfl)) t24 (q := 17) rfl (fun o25 t26 => ?_)
  refine gk_aload_n hC 1 dX3_open_17 rfl (q := 18) rfl ?_
  refine gk_getI hC dX3_open_18 fl_RX3_39 ta1 (q := 21) rfl ?_
  refine gk_putI hC dX3_open_21 fp_RX3_39 t26 (q := 24) rfl (fun M27 => ?_)
  refine gk_aload_n hC 0 dX3_open_24 rfl (q := 25) rfl ?_
  refine gk_iload_n hC 2 dX3_open_25 rfl (q := 26) rfl ?_
  refine gk_putI hC dX3_open_26 fp_RX3_43 t0 (q := 29) rfl (fun M28 => ?_)
  refine gk_aload_n hC 0 dX3_open_29 rfl (q := 30) rfl ?_
  refine gk_iload_n hC 3 dX3_open_30 rfl (q := 31) rfl ?_
  refine gk_putI hC dX3_open_31 fp_RX3_46 t0 (q := 34) rfl (fun M29 => ?_)
  refine gk_aload_n hC 0 dX3_open_34 rfl (q := 35) rfl ?_
  refine gk_iload hC 4 dX3_open_35 rfl (q := 37) rfl ?_
  refine gk_putI hC dX3_open_37 fp_RX3_49 t0 (q := 40) rfl (fun M30 => ?_)
  refine gk_aload_n hC 0 dX3_open_40 rfl (q := 41) rfl ?_
  refine gk_iconst hC (v := 0) dX3_open_41 kc_i_0 (q := 42) rfl ?_
  refine gk_putI hC dX3_open_42 fp_RX3_52 t0 (q := 45) rfl (fun M31 => ?_)
  refine gk_iconst hC (v := 0) dX3_open_45 kc_i_0 (q := 46) rfl ?_
  refine gk_istore hC (lv' := [(0, .ref a0), (5, .int a5), (6, .int 0)]) [1, 6, 0] dX3_open_46 (by decide) rfl (q := 48) rfl ?_
  refine gk_jnR (fun k120_32 => ∀ z33 : gk_M, gk_K Z Y 8 gk_rV 120 [(0, .ref a0), (5, .int a5)] [] z33 (k120_32 z33)) (fun y32 => ?_) (fun k120_32 hk120_32 => ?_)
  · show gk_K Z Y 8 gk_rV 120 [(0, .ref a0), (5, .int a5)] [] y32 _
    refine gk_aload_n hC 0 dX3_open_120 rfl (q := 121) rfl ?_
    refine gk_sipush hC (v := 2000) dX3_open_121 kc_s_2000 (q := 124) rfl ?_
    refine gk_iload hC 1 dX3_open_124 rfl (q := 126) rfl ?_
    refine gk_callV (As := [.int 2000, .int a5]) (rest := []) hC (fun l => m_X3_listOfEach l hY a0 2000 a5 y32 t0) ml_RX3_59 ok_X3_listOfEach dX3_open_126 t0 ⟨by decide, rfl⟩ rfl (by decide) (Nat.le_of_ble_eq_true rfl) rfl (q := 129) rfl (fun r34 => ?_)
    show gk_K Z Y 8 gk_rV 129 [(0, .ref a0), (5, .int a5)] [] r34 _
    refine gk_aload_n hC 0 dX3_open_129 rfl (q := 130) rfl ?_
    refine gk_sipush hC (v := 3000) dX3_open_130 kc_s_3000 (q := 133) rfl ?_
    refine gk_iload hC 1 dX3_open_133 rfl (q := 135) rfl ?_
    refine gk_callV (As := [.int 3000, .int a5]) (rest := []) hC (fun l => m_X3_listOfEach l hY a0 3000 a5 r34 t0) ml_RX3_59 ok_X3_listOfEach dX3_open_135 t0 ⟨by decide, rfl⟩ rfl (by decide) (Nat.le_of_ble_eq_true rfl) rfl (q := 138) rfl (fun r35 => ?_)
    show gk_K Z Y 8 gk_rV 138 [(0, .ref a0), (5, .int a5)] [] r35 _
    refine gk_aload_n hC 0 dX3_open_138 rfl (q := 139) rfl ?_
    refine gk_sipush hC (v := 4000) dX3_open_139 kc_s_4000 (q := 142) rfl ?_
    refine gk_callV (As := [.int 4000]) (rest := []) hC (fun l => m_X3_list l hY a0 4000 r35 t0) ml_RX3_55 ok_X3_list dX3_open_142 t0 ⟨by decide, rfl⟩ rfl (by decide) (Nat.le_of_ble_eq_true rfl) rfl (q := 145) rfl (fun r36 => ?_)
    show gk_K Z Y 8 gk_rV 145 [(0, .ref a0), (5, .int a5)] [] r36 _
    exact gk_vret hC hR dX3_open_145 rfl
  · exact lk_X3_open_48 hY hC hR a0 a5 t0 k120_32 hk120_32 gk_fuel (0, M31)
def lp_X3_search_32 (LN : Nat → Nat) (RF : Nat → Nat → Nat) (rec0 : Nat → Int32 → Int32 → gk_M → Option (Int32 × gk_M)) (v0 : Nat) (v1 : Int32) (v2 : Int32) (v3 : Nat) (v4 : Nat) (k130 : gk_M → Option (Int32 × gk_M)) : Nat → (Int32 × gk_M) → Option (Int32 × gk_M)
  | 0, _ => none
  | n + 1, x =>
    if (x.2.1 v0 4) ≤ x.1 then
      k130 x.2
    else
    gk_ald LN x.2 (RF v0 2) x.1 fun x2 =>
    (f_X2_allows LN RF v3 x2 x.2).bind fun r3 =>
    gk_jn (fun y4 : gk_M =>
      lp_X3_search_32 LN RF rec0 v0 v1 v2 v3 v4 k130 n ((x.1 + 1), y4)) fun k124_4 =>
    if r3 = 0 then
      k124_4 x.2
    else
    gk_ast LN x.2 (RF v0 3) v1 x2 fun M7 =>
    (f_X2_copyFrom LN RF v4 v3 M7).bind fun r8 =>
    (f_X2_perform LN RF v4 x2 r8).bind fun r9 =>
    gk_jn (fun y10 : Int32 × gk_M =>
      if y10.1 = 0 then
        k124_4 y10.2
      else
      some (1, y10.2)) fun k115_10 =>
    if (v1 + 1) = v2 then
      (f_X2_breaks LN RF v4 (r9.1 v0 5) (r9.1 v0 6) (r9.1 v0 7) r9).bind fun r12 =>
      k115_10 (r12, r9)
    else
    (rec0 v0 (v1 + 1) v2 r9).bind fun r13 =>
    k115_10 (r13.1, r13.2)
def f_X3_search (LN : Nat → Nat) (RF : Nat → Nat → Nat) (rec0 : Nat → Int32 → Int32 → gk_M → Option (Int32 × gk_M)) (a0 : Nat) (a1 : Int32) (a2 : Int32) (M : gk_M) : Option (Int32 × gk_M) :=
  gk_jn (fun y21 : Unit =>
    some (0, M)) fun k10_21 =>
  if a2 ≤ a1 then
    k10_21 ()
  else
  if a1 < 3 then
    gk_aldr LN RF (RF a0 1) a1 fun o24 =>
    gk_aldr LN RF (RF a0 1) (a1 + 1) fun o27 =>
    gk_jn (fun y29 : gk_M =>
      some (0, y29)) fun k130_29 =>
    lp_X3_search_32 LN RF rec0 a0 a1 a2 o24 o27 k130_29 gk_fuel (0, M)
  else
  k10_21 ()
set_option maxHeartbeats 4000000 in
set_option maxRecDepth 100000 in
theorem lk_X3_search_32 {Z : gk_Z} {Y : gk_Y} {d dn : Nat} (hdn : dn + 1 ≤ d) (hdb : 5 ≤ d) (hY : gk_WF Y) (hC : gk_C Z Y cX3_search 8 RX3 d) (hR : gk_R Z Y (some .boolean)) (rec0 : Nat → Int32 → Int32 → gk_M → Option (Int32 × gk_M)) (hrec0 : ∀ (l : Launch) (b0 : Nat) (b1 b2 : Int32) (M : gk_M), gk_T Y 13 b0 → gk_MF l Y yX3_search cX3_search 8 (some .boolean) dn [.ref b0, .int b1, .int b2] M gk_rI (rec0 b0 b1 b2 M)) (v0 : Nat) (v1 : Int32) (v2 : Int32) (v3 : Nat) (v4 : Nat) (tv0 : gk_T Y 13 v0) (tv3 : gk_T Y 12 v3) (tv4 : gk_T Y 12 v4) (k130 : gk_M → Option (Int32 × gk_M)) (hk130 : ∀ z31 : gk_M, gk_K Z Y 8 gk_rI 130 [] [] z31 (k130 z31)) : ∀ (n : Nat) (x : Int32 × gk_M), gk_K Z Y 8 gk_rI 32 [(0, .ref v0), (1, .int v1), (2, .int v2), (3, .ref v3), (4, .ref v4), (5, .int x.1)] [] x.2 (lp_X3_search_32 (gk_ln Y) (gk_rf Y) rec0 v0 v1 v2 v3 v4 k130 n x) := by
  intro n
  induction n with
  | zero => intro x; exact gk_none
  | succ n ih =>
    intro x
    rw [lp_X3_search_32]
    refine gk_iload hC 5 dX3_search_32 rfl (q := 34) rfl ?_
    refine gk_aload_n hC 0 dX3_search_34 rfl (q := 35) rfl ?_
    refine gk_getI hC dX3_search_35 fl_RX3_52 tv0 (q := 38) rfl ?_
    refine gk_icmp_ge hC dX3_search_38 (tg := 130) rfl (q := 41) rfl ?_ ?_
    · refine gk_pick [] rfl ?_
      exact hk130 x.2
    · refine gk_aload_n hC 0 dX3_search_41 rfl (q := 42) rfl ?_
      refine gk_getR hC dX3_search_42 fl_RX3_24 (by decide) tv0 (q := 45) rfl (fun t1 => ?_)
      refine gk_iload hC 5 dX3_search_45 rfl (q := 47) rfl ?_
      refine gk_iald hC dX3_search_47 t1 (q := 48) rfl (fun x2 => ?_)
      refine gk_istore hC (lv' := [(0, .ref v0), (1, .int v1), (2, .int v2), (3, .ref v3), (4, .ref v4), (5, .int x.1), (6, .int x2)]) [1, 2, 3, 4, 5, 6, 0] dX3_search_48 (by decide) rfl (q := 50) rfl ?_
      refine gk_aload_n hC 3 dX3_search_50 rfl (q := 51) rfl ?_
      refine gk_iload hC 6 dX3_search_51 rfl (q := 53) rfl ?_
      refine gk_callV (As := [.int x2]) (rest := []) hC (fun l => m_X2_allows l hY v3 x2 x.2 tv3) ml_RX3_67 ok_X2_allows dX3_search_53 tv3 ⟨by decide, rfl⟩ rfl (Nat.le_trans (by decide) hdb) (Nat.le_of_ble_eq_true rfl) rfl (q := 56) rfl (fun r3 => ?_)
      show gk_K Z Y 8 gk_rI 56 [(0, .ref v0), (1, .int v1), (2, .int v2), (3, .ref v3), (4, .ref v4), (5, .int x.1), (6, .int x2)] [.int r3] x.2 _
      refine gk_jnR (fun k124_4 => ∀ z5 : gk_M, gk_K Z Y 8 gk_rI 124 [(0, .ref v0), (1, .int v1), (2, .int v2), (3, .ref v3), (4, .ref v4), (5, .int x.1)] [] z5 (k124_4 z5)) (fun y4 => ?_) (fun k124_4 hk124_4 => ?_)
      · show gk_K Z Y 8 gk_rI 124 [(0, .ref v0), (1, .int v1), (2, .int v2), (3, .ref v3), (4, .ref v4), (5, .int x.1)] [] y4 _
        refine gk_iinc hC (v := 1) 5 (lv' := [(0, .ref v0), (1, .int v1), (2, .int v2), (3, .ref v3), (4, .ref v4), (5, .int (x.1 + 1))]) [1, 2, 3, 4, 5, 0] dX3_search_124 rfl kc_i_1 (by decide) rfl (q := 127) rfl ?_
        refine gk_goto hC dX3_search_127 (q := 32) rfl ?_
        exact ih ((x.1 + 1), y4)
      · refine gk_if_eq hC dX3_search_56 (tg := 124) rfl (q := 59) rfl ?_ ?_
        · refine gk_pick [0, 1, 2, 3, 4, 5] rfl ?_
          exact hk124_4 x.2
        · refine gk_aload_n hC 0 dX3_search_59 rfl (q := 60) rfl ?_
          refine gk_getR hC dX3_search_60 fl_RX3_28 (by decide) tv0 (q := 63) rfl (fun t6 => ?_)
          refine gk_iload_n hC 1 dX3_search_63 rfl (q := 64) rfl ?_
          refine gk_iload hC 6 dX3_search_64 rfl (q := 66) rfl ?_
          refine gk_iast hC dX3_search_66 t6 (q := 67) rfl (fun M7 => ?_)
          refine gk_aload hC 4 dX3_search_67 rfl (q := 69) rfl ?_
          refine gk_aload_n hC 3 dX3_search_69 rfl (q := 70) rfl ?_
          refine gk_callV (As := [.ref v3]) (rest := []) hC (fun l => m_X2_copyFrom l hY v4 v3 M7 tv4 tv3) ml_RX3_71 ok_X2_copyFrom dX3_search_70 tv4 ⟨by decide, rfl⟩ rfl (Nat.le_trans (by decide) hdb) (Nat.le_of_ble_eq_true rfl) rfl (q := 73) rfl (fun r8 => ?_)
          show gk_K Z Y 8 gk_rI 73 [(0, .ref v0), (1, .int v1), (2, .int v2), (3, .ref v3), (4, .ref v4), (5, .int x.1), (6, .int x2)] [] r8 _
          refine gk_aload hC 4 dX3_search_73 rfl (q := 75) rfl ?_
          refine gk_iload hC 6 dX3_search_75 rfl (q := 77) rfl ?_
          refine gk_callV (As := [.int x2]) (rest := []) hC (fun l => m_X2_perform l hY v4 x2 r8 tv4) ml_RX3_74 ok_X2_perform dX3_search_77 tv4 ⟨by decide, rfl⟩ rfl (Nat.le_trans (by decide) hdb) (Nat.le_of_ble_eq_true rfl) rfl (q := 80) rfl (fun r9 => ?_)
          show gk_K Z Y 8 gk_rI 80 [(0, .ref v0), (1, .int v1), (2, .int v2), (3, .ref v3), (4, .ref v4), (5, .int x.1), (6, .int x2)] [] r9 _
          refine gk_iload_n hC 1 dX3_search_80 rfl (q := 81) rfl ?_
          refine gk_iconst hC (v := 1) dX3_search_81 kc_i_1 (q := 82) rfl ?_
          refine gk_iadd hC dX3_search_82 (q := 83) rfl ?_
          refine gk_iload_n hC 2 dX3_search_83 rfl (q := 84) rfl ?_
          refine gk_jnR (fun k115_10 => ∀ z11 : Int32 × gk_M, gk_K Z Y 8 gk_rI 115 [(0, .ref v0), (1, .int v1), (2, .int v2), (3, .ref v3), (4, .ref v4), (5, .int x.1)] [.int z11.1] z11.2 (k115_10 z11)) (fun y10 => ?_) (fun k115_10 hk115_10 => ?_)
          · show gk_K Z Y 8 gk_rI 115 [(0, .ref v0), (1, .int v1), (2, .int v2), (3, .ref v3), (4, .ref v4), (5, .int x.1)] [.int y10.1] y10.2 _
            refine gk_istore hC (lv' := [(0, .ref v0), (1, .int v1), (2, .int v2), (3, .ref v3), (4, .ref v4), (5, .int x.1), (7, .int y10.1)]) [1, 2, 3, 4, 5, 6, 0] dX3_search_115 (by decide) rfl (q := 117) rfl ?_
            refine gk_iload hC 6 dX3_search_117 rfl (q := 119) rfl ?_
            refine gk_if_eq hC dX3_search_119 (tg := 124) rfl (q := 122) rfl ?_ ?_
            · refine gk_pick [0, 1, 2, 3, 4, 5] rfl ?_
              exact hk124_4 y10.2
            · refine gk_iconst hC (v := 1) dX3_search_122 kc_i_1 (q := 123) rfl ?_
              exact gk_zret hC hR dX3_search_123 (Or.inr rfl) rfl
          · refine gk_icmp_ne hC dX3_search_84 (tg := 107) rfl (q := 87) rfl ?_ ?_
            · refine gk_aload hC 4 dX3_search_87 rfl (q := 89) rfl ?_
              refine gk_aload_n hC 0 dX3_search_89 rfl (q := 90) rfl ?_
              refine gk_getI hC dX3_search_90 fl_RX3_43 tv0 (q := 93) rfl ?_
              refine gk_aload_n hC 0 dX3_search_93 rfl (q := 94) rfl ?_
              refine gk_getI hC dX3_search_94 fl_RX3_46 tv0 (q := 97) rfl ?_
              refine gk_aload_n hC 0 dX3_search_97 rfl (q := 98) rfl ?_
              refine gk_getI hC dX3_search_98 fl_RX3_49 tv0 (q := 101) rfl ?_
              refine gk_callV (As := [.int (r9.1 v0 5), .int (r9.1 v0 6), .int (r9.1 v0 7)]) (rest := []) hC (fun l => m_X2_breaks l hY v4 (r9.1 v0 5) (r9.1 v0 6) (r9.1 v0 7) r9 tv4) ml_RX3_77 ok_X2_breaks dX3_search_101 tv4 ⟨by decide, rfl⟩ rfl (Nat.le_trans (by decide) hdb) (Nat.le_of_ble_eq_true rfl) rfl (q := 104) rfl (fun r12 => ?_)
              show gk_K Z Y 8 gk_rI 104 [(0, .ref v0), (1, .int v1), (2, .int v2), (3, .ref v3), (4, .ref v4), (5, .int x.1), (6, .int x2)] [.int r12] r9 _
              refine gk_goto hC dX3_search_104 (q := 115) rfl ?_
              refine gk_pick [0, 1, 2, 3, 4, 5] rfl ?_
              exact hk115_10 (r12, r9)
            · refine gk_aload_n hC 0 dX3_search_107 rfl (q := 108) rfl ?_
              refine gk_iload_n hC 1 dX3_search_108 rfl (q := 109) rfl ?_
              refine gk_iconst hC (v := 1) dX3_search_109 kc_i_1 (q := 110) rfl ?_
              refine gk_iadd hC dX3_search_110 (q := 111) rfl ?_
              refine gk_iload_n hC 2 dX3_search_111 rfl (q := 112) rfl ?_
              refine gk_callV (As := [.int (v1 + 1), .int v2]) (rest := []) hC (fun l => hrec0 l v0 (v1 + 1) v2 r9 tv0) ml_RX3_63 ok_X3_search dX3_search_112 tv0 ⟨by decide, rfl⟩ rfl hdn (Nat.le_of_ble_eq_true rfl) rfl (q := 115) rfl (fun r13 => ?_)
              show gk_K Z Y 8 gk_rI 115 [(0, .ref v0), (1, .int v1), (2, .int v2), (3, .ref v3), (4, .ref v4), (5, .int x.1), (6, .int x2)] [.int r13.1] r13.2 _
              refine gk_pick [0, 1, 2, 3, 4, 5] rfl ?_
              exact hk115_10 (r13.1, r13.2)
set_option maxHeartbeats 4000000 in
set_option maxRecDepth 100000 in
theorem m_X3_search (l : Launch) {Y : gk_Y} {d dn : Nat} (hdn : dn + 1 ≤ d) (hdb : 5 ≤ d) (hY : gk_WF Y) (rec0 : Nat → Int32 → Int32 → gk_M → Option (Int32 × gk_M)) (hrec0 : ∀ (l : Launch) (b0 : Nat) (b1 b2 : Int32) (M : gk_M), gk_T Y 13 b0 → gk_MF l Y yX3_search cX3_search 8 (some .boolean) dn [.ref b0, .int b1, .int b2] M gk_rI (rec0 b0 b1 b2 M)) (a0 : Nat) (a1 : Int32) (a2 : Int32) (M : gk_M) (t0 : gk_T Y 13 a0) : gk_MF l Y yX3_search cX3_search 8 (some .boolean) d [.ref a0, .int a1, .int a2] M gk_rI (f_X3_search (gk_ln Y) (gk_rf Y) rec0 a0 a1 a2 M) := by
  refine gk_met hY (plainFor_of_name (by decide)) (Nat.le_of_ble_eq_true rfl) fun Z hC hR => ?_
  show gk_K Z Y 8 gk_rI 0 [(0, .ref a0), (1, .int a1), (2, .int a2)] [] M _
  unfold f_X3_search
  refine gk_iload_n hC 1 dX3_search_0 rfl (q := 1) rfl ?_
  refine gk_iload_n hC 2 dX3_search_1 rfl (q := 2) rfl ?_
  refine gk_jnR (fun k10_21 => ∀ z22 : Unit, gk_K Z Y 8 gk_rI 10 [] [] M (k10_21 z22)) (fun y21 => ?_) (fun k10_21 hk10_21 => ?_)
  · show gk_K Z Y 8 gk_rI 10 [] [] M _
    refine gk_iconst hC (v := 0) dX3_search_10 kc_i_0 (q := 11) rfl ?_
    exact gk_zret hC hR dX3_search_11 (Or.inl rfl) rfl
  · refine gk_icmp_ge hC dX3_search_2 (tg := 10) rfl (q := 5) rfl ?_ ?_
    · refine gk_pick [] rfl ?_
      exact hk10_21 ()
    · refine gk_iload_n hC 1 dX3_search_5 rfl (q := 6) rfl ?_
      refine gk_iconst hC (v := 3) dX3_search_6 kc_i_3 (q := 7) rfl ?_
      refine gk_icmp_lt hC dX3_search_7 (tg := 12) rfl (q := 10) rfl ?_ ?_
      · refine gk_aload_n hC 0 dX3_search_12 rfl (q := 13) rfl ?_
        refine gk_getR hC dX3_search_13 fl_RX3_20 (by decide) t0 (q := 16) rfl (fun t23 => ?_)
        refine gk_iload_n hC 1 dX3_search_16 rfl (q := 17) rfl ?_
        refine gk_aald hC dX3_search_17 (Or.inr (Or.inr rfl)) t23 (q := 18) rfl (fun o24 t25 => ?_)
        refine gk_astore_n hC (lv' := [(0, .ref a0), (1, .int a1), (2, .int a2), (3, .ref o24)]) [1, 2, 3, 0] dX3_search_18 (by decide) rfl (q := 19) rfl ?_
        refine gk_aload_n hC 0 dX3_search_19 rfl (q := 20) rfl ?_
        refine gk_getR hC dX3_search_20 fl_RX3_20 (by decide) t0 (q := 23) rfl (fun t26 => ?_)
        refine gk_iload_n hC 1 dX3_search_23 rfl (q := 24) rfl ?_
        refine gk_iconst hC (v := 1) dX3_search_24 kc_i_1 (q := 25) rfl ?_
        refine gk_iadd hC dX3_search_25 (q := 26) rfl ?_
        refine gk_aald hC dX3_search_26 (Or.inr (Or.inr rfl)) t26 (q := 27) rfl (fun o27 t28 => ?_)
        refine gk_astore hC (lv' := [(0, .ref a0), (1, .int a1), (2, .int a2), (3, .ref o24), (4, .ref o27)]) [1, 2, 3, 4, 0] dX3_search_27 (by decide) rfl (q := 29) rfl ?_
        refine gk_iconst hC (v := 0) dX3_search_29 kc_i_0 (q := 30) rfl ?_
        refine gk_istore hC (lv' := [(0, .ref a0), (1, .int a1), (2, .int a2), (3, .ref o24), (4, .ref o27), (5, .int 0)]) [1, 2, 3, 4, 5, 0] dX3_search_30 (by decide) rfl (q := 32) rfl ?_
        refine gk_jnR (fun k130_29 => ∀ z30 : gk_M, gk_K Z Y 8 gk_rI 130 [] [] z30 (k130_29 z30)) (fun y29 => ?_) (fun k130_29 hk130_29 => ?_)
        · show gk_K Z Y 8 gk_rI 130 [] [] y29 _
          refine gk_iconst hC (v := 0) dX3_search_130 kc_i_0 (q := 131) rfl ?_
          exact gk_zret hC hR dX3_search_131 (Or.inl rfl) rfl
        · exact lk_X3_search_32 hdn hdb hY hC hR rec0 hrec0 a0 a1 a2 o24 o27 t0 t25 t28 k130_29 hk130_29 gk_fuel (0, M)
      · refine gk_pick [] rfl ?_
        exact hk10_21 ()
def rc_S (LN : Nat → Nat) (RF : Nat → Nat → Nat) : Nat → Nat → Nat → Int32 → Int32 → gk_M → Option (Int32 × gk_M)
  | 0, _, _, _, _, _ => none
  | n + 1, w, b0, b1, b2, M => f_X3_search LN RF (rc_S LN RF n 0) b0 b1 b2 M
set_option maxRecDepth 100000 in
theorem rm_S {Y : gk_Y} (hY : gk_WF Y) : ∀ n : Nat, (∀ (l : Launch) (b0 : Nat) (b1 b2 : Int32) (M : gk_M), gk_T Y 13 b0 → gk_MF l Y yX3_search cX3_search 8 (some .boolean) (5 + n) [.ref b0, .int b1, .int b2] M gk_rI (rc_S (gk_ln Y) (gk_rf Y) n 0 b0 b1 b2 M)) := by
  intro n
  induction n with
  | zero => exact (fun l b0 b1 b2 M t0 x h => by cases h)
  | succ n ih =>
    have h0 := ih
    exact (fun l b0 b1 b2 M t0 => m_X3_search l (dn := 5 + n) (by omega) (by omega) hY _ h0 b0 b1 b2 M t0)
theorem mr_S_0 (l : Launch) {Y : gk_Y} (hY : gk_WF Y) (b0 : Nat) (b1 b2 : Int32) (M : gk_M) (t0 : gk_T Y 13 b0) : gk_MF l Y yX3_search cX3_search 8 (some .boolean) 9 [.ref b0, .int b1, .int b2] M gk_rI (rc_S (gk_ln Y) (gk_rf Y) 4 0 b0 b1 b2 M) := (rm_S hY 4) l b0 b1 b2 M t0
def lp_X3_find_2 (LN : Nat → Nat) (RF : Nat → Nat → Nat) (v0 : Nat) (v1 : Int32) (k24 : gk_M → Option (Int32 × gk_M)) : Nat → (Int32 × gk_M) → Option (Int32 × gk_M)
  | 0, _ => none
  | n + 1, x =>
    if v1 < x.1 then
      k24 x.2
    else
    (rc_S LN RF 4 0 v0 0 x.1 x.2).bind fun r1 =>
    if r1.1 = 0 then
      lp_X3_find_2 LN RF v0 v1 k24 n ((x.1 + 1), r1.2)
    else
    some (x.1, r1.2)
def f_X3_find (LN : Nat → Nat) (RF : Nat → Nat → Nat) (a0 : Nat) (a1 : Int32) (M : gk_M) : Option (Int32 × gk_M) :=
  gk_jn (fun y21 : gk_M =>
    some (0, y21)) fun k24_21 =>
  lp_X3_find_2 LN RF a0 a1 k24_21 gk_fuel (1, M)
set_option maxHeartbeats 4000000 in
set_option maxRecDepth 100000 in
theorem lk_X3_find_2 {Z : gk_Z} {Y : gk_Y} (hY : gk_WF Y) (hC : gk_C Z Y cX3_find 3 RX3 10) (hR : gk_R Z Y (some .int)) (v0 : Nat) (v1 : Int32) (tv0 : gk_T Y 13 v0) (k24 : gk_M → Option (Int32 × gk_M)) (hk24 : ∀ z23 : gk_M, gk_K Z Y 3 gk_rI 24 [] [] z23 (k24 z23)) : ∀ (n : Nat) (x : Int32 × gk_M), gk_K Z Y 3 gk_rI 2 [(0, .ref v0), (1, .int v1), (2, .int x.1)] [] x.2 (lp_X3_find_2 (gk_ln Y) (gk_rf Y) v0 v1 k24 n x) := by
  intro n
  induction n with
  | zero => intro x; exact gk_none
  | succ n ih =>
    intro x
    rw [lp_X3_find_2]
    refine gk_iload_n hC 2 dX3_find_2 rfl (q := 3) rfl ?_
    refine gk_iload_n hC 1 dX3_find_3 rfl (q := 4) rfl ?_
    refine gk_icmp_gt hC dX3_find_4 (tg := 24) rfl (q := 7) rfl ?_ ?_
    · refine gk_pick [] rfl ?_
      exact hk24 x.2
    · refine gk_aload_n hC 0 dX3_find_7 rfl (q := 8) rfl ?_
      refine gk_iconst hC (v := 0) dX3_find_8 kc_i_0 (q := 9) rfl ?_
      refine gk_iload_n hC 2 dX3_find_9 rfl (q := 10) rfl ?_
      refine gk_callV (As := [.int 0, .int x.1]) (rest := []) hC (fun l => mr_S_0 l hY v0 0 x.1 x.2 tv0) ml_RX3_63 ok_X3_search dX3_find_10 tv0 ⟨by decide, rfl⟩ rfl (by decide) (Nat.le_of_ble_eq_true rfl) rfl (q := 13) rfl (fun r1 => ?_)
      show gk_K Z Y 3 gk_rI 13 [(0, .ref v0), (1, .int v1), (2, .int x.1)] [.int r1.1] r1.2 _
      refine gk_if_eq hC dX3_find_13 (tg := 18) rfl (q := 16) rfl ?_ ?_
      · refine gk_iinc hC (v := 1) 2 (lv' := [(0, .ref v0), (1, .int v1), (2, .int (x.1 + 1))]) [1, 2, 0] dX3_find_18 rfl kc_i_1 (by decide) rfl (q := 21) rfl ?_
        refine gk_goto hC dX3_find_21 (q := 2) rfl ?_
        exact ih ((x.1 + 1), r1.2)
      · refine gk_iload_n hC 2 dX3_find_16 rfl (q := 17) rfl ?_
        exact gk_iret hC hR dX3_find_17 rfl
set_option maxHeartbeats 4000000 in
set_option maxRecDepth 100000 in
theorem m_X3_find (l : Launch) {Y : gk_Y} (hY : gk_WF Y) (a0 : Nat) (a1 : Int32) (M : gk_M) (t0 : gk_T Y 13 a0) : gk_MF l Y yX3_find cX3_find 3 (some .int) 10 [.ref a0, .int a1] M gk_rI (f_X3_find (gk_ln Y) (gk_rf Y) a0 a1 M) := by
  refine gk_met hY (plainFor_of_name (by decide)) (Nat.le_of_ble_eq_true rfl) fun Z hC hR => ?_
  show gk_K Z Y 3 gk_rI 0 [(0, .ref a0), (1, .int a1)] [] M _
  unfold f_X3_find
  refine gk_iconst hC (v := 1) dX3_find_0 kc_i_1 (q := 1) rfl ?_
  refine gk_istore_n hC (lv' := [(0, .ref a0), (1, .int a1), (2, .int 1)]) [1, 2, 0] dX3_find_1 (by decide) rfl (q := 2) rfl ?_
  refine gk_jnR (fun k24_21 => ∀ z22 : gk_M, gk_K Z Y 3 gk_rI 24 [] [] z22 (k24_21 z22)) (fun y21 => ?_) (fun k24_21 hk24_21 => ?_)
  · show gk_K Z Y 3 gk_rI 24 [] [] y21 _
    refine gk_iconst hC (v := 0) dX3_find_24 kc_i_0 (q := 25) rfl ?_
    exact gk_iret hC hR dX3_find_25 rfl
  · exact lk_X3_find_2 hY hC hR a0 a1 t0 k24_21 hk24_21 gk_fuel (1, M)
def f_X4_isSheet (LN : Nat → Nat) (RF : Nat → Nat → Nat) (a0 : Int32) (M : gk_M) : Option (Int32) :=
  gk_jn (fun y21 : Int32 =>
    gk_zz y21 (some y21)) fun k14_21 =>
  gk_jn (fun y23 : Unit =>
    k14_21 0) fun k13_23 =>
  if a0 < 0 then
    k13_23 ()
  else
  if 4 ≤ a0 then
    k13_23 ()
  else
  k14_21 1
set_option maxHeartbeats 4000000 in
set_option maxRecDepth 100000 in
theorem m_X4_isSheet (l : Launch) {Y : gk_Y} (hY : gk_WF Y) (a0 : Int32) (M : gk_M)  : gk_MF l Y yX4_isSheet cX4_isSheet 1 (some .boolean) 0 [.int a0] M (gk_rR M) (f_X4_isSheet (gk_ln Y) (gk_rf Y) a0 M) := by
  refine gk_met hY (plainFor_of_name (by decide)) (Nat.le_of_ble_eq_true rfl) fun Z hC hR => ?_
  show gk_K Z Y 1 (gk_rR M) 0 [(0, .int a0)] [] M _
  unfold f_X4_isSheet
  refine gk_iload_n hC 0 dX4_isSheet_0 rfl (q := 1) rfl ?_
  refine gk_jnR (fun k14_21 => ∀ z22 : Int32, gk_K Z Y 1 (gk_rR M) 14 [] [.int z22] M (k14_21 z22)) (fun y21 => ?_) (fun k14_21 hk14_21 => ?_)
  · show gk_K Z Y 1 (gk_rR M) 14 [] [.int y21] M _
    exact gk_zzR (fun hv => gk_zret hC hR dX4_isSheet_14 hv rfl)
  · refine gk_jnR (fun k13_23 => ∀ z24 : Unit, gk_K Z Y 1 (gk_rR M) 13 [] [] M (k13_23 z24)) (fun y23 => ?_) (fun k13_23 hk13_23 => ?_)
    · show gk_K Z Y 1 (gk_rR M) 13 [] [] M _
      refine gk_iconst hC (v := 0) dX4_isSheet_13 kc_i_0 (q := 14) rfl ?_
      exact hk14_21 0
    · refine gk_if_lt hC dX4_isSheet_1 (tg := 13) rfl (q := 4) rfl ?_ ?_
      · refine gk_pick [] rfl ?_
        exact hk13_23 ()
      · refine gk_iload_n hC 0 dX4_isSheet_4 rfl (q := 5) rfl ?_
        refine gk_iconst hC (v := 4) dX4_isSheet_5 kc_i_4 (q := 6) rfl ?_
        refine gk_icmp_ge hC dX4_isSheet_6 (tg := 13) rfl (q := 9) rfl ?_ ?_
        · refine gk_pick [] rfl ?_
          exact hk13_23 ()
        · refine gk_iconst hC (v := 1) dX4_isSheet_9 kc_i_1 (q := 10) rfl ?_
          refine gk_goto hC dX4_isSheet_10 (q := 14) rfl ?_
          refine gk_pick [] rfl ?_
          exact hk14_21 1
def f_X4_isSort (LN : Nat → Nat) (RF : Nat → Nat → Nat) (a0 : Int32) (M : gk_M) : Option (Int32) :=
  gk_jn (fun y21 : Int32 =>
    gk_zz y21 (some y21)) fun k14_21 =>
  gk_jn (fun y23 : Unit =>
    k14_21 0) fun k13_23 =>
  if a0 < 0 then
    k13_23 ()
  else
  if 2 < a0 then
    k13_23 ()
  else
  k14_21 1
set_option maxHeartbeats 4000000 in
set_option maxRecDepth 100000 in
theorem m_X4_isSort (l : Launch) {Y : gk_Y} (hY : gk_WF Y) (a0 : Int32) (M : gk_M)  : gk_MF l Y yX4_isSort cX4_isSort 1 (some .boolean) 0 [.int a0] M (gk_rR M) (f_X4_isSort (gk_ln Y) (gk_rf Y) a0 M) := by
  refine gk_met hY (plainFor_of_name (by decide)) (Nat.le_of_ble_eq_true rfl) fun Z hC hR => ?_
  show gk_K Z Y 1 (gk_rR M) 0 [(0, .int a0)] [] M _
  unfold f_X4_isSort
  refine gk_iload_n hC 0 dX4_isSort_0 rfl (q := 1) rfl ?_
  refine gk_jnR (fun k14_21 => ∀ z22 : Int32, gk_K Z Y 1 (gk_rR M) 14 [] [.int z22] M (k14_21 z22)) (fun y21 => ?_) (fun k14_21 hk14_21 => ?_)
  · show gk_K Z Y 1 (gk_rR M) 14 [] [.int y21] M _
    exact gk_zzR (fun hv => gk_zret hC hR dX4_isSort_14 hv rfl)
  · refine gk_jnR (fun k13_23 => ∀ z24 : Unit, gk_K Z Y 1 (gk_rR M) 13 [] [] M (k13_23 z24)) (fun y23 => ?_) (fun k13_23 hk13_23 => ?_)
    · show gk_K Z Y 1 (gk_rR M) 13 [] [] M _
      refine gk_iconst hC (v := 0) dX4_isSort_13 kc_i_0 (q := 14) rfl ?_
      exact hk14_21 0
    · refine gk_if_lt hC dX4_isSort_1 (tg := 13) rfl (q := 4) rfl ?_ ?_
      · refine gk_pick [] rfl ?_
        exact hk13_23 ()
      · refine gk_iload_n hC 0 dX4_isSort_4 rfl (q := 5) rfl ?_
        refine gk_iconst hC (v := 2) dX4_isSort_5 kc_i_2 (q := 6) rfl ?_
        refine gk_icmp_gt hC dX4_isSort_6 (tg := 13) rfl (q := 9) rfl ?_ ?_
        · refine gk_pick [] rfl ?_
          exact hk13_23 ()
        · refine gk_iconst hC (v := 1) dX4_isSort_9 kc_i_1 (q := 10) rfl ?_
          refine gk_goto hC dX4_isSort_10 (q := 14) rfl ?_
          refine gk_pick [] rfl ?_
          exact hk14_21 1
def f_X4_isMissing (LN : Nat → Nat) (RF : Nat → Nat → Nat) (a0 : Nat) (a1 : Int32) (M : gk_M) : Option (Int32) :=
  gk_ald LN M (RF a0 0) a1 fun x22 =>
  gk_jn (fun y23 : Int32 =>
    gk_zz y23 (some y23)) fun k15_23 =>
  if x22 = (-1) then
    k15_23 1
  else
  k15_23 0
set_option maxHeartbeats 4000000 in
set_option maxRecDepth 100000 in
theorem m_X4_isMissing (l : Launch) {Y : gk_Y} (hY : gk_WF Y) (a0 : Nat) (a1 : Int32) (M : gk_M) (t0 : gk_T Y 14 a0) : gk_MF l Y yX4_isMissing cX4_isMissing 2 (some .boolean) 0 [.ref a0, .int a1] M (gk_rR M) (f_X4_isMissing (gk_ln Y) (gk_rf Y) a0 a1 M) := by
  refine gk_met hY (plainFor_of_name (by decide)) (Nat.le_of_ble_eq_true rfl) fun Z hC hR => ?_
  show gk_K Z Y 2 (gk_rR M) 0 [(0, .ref a0), (1, .int a1)] [] M _
  unfold f_X4_isMissing
  refine gk_aload_n hC 0 dX4_isMissing_0 rfl (q := 1) rfl ?_
  refine gk_getR hC dX4_isMissing_1 fl_RX4_9 (by decide) t0 (q := 4) rfl (fun t21 => ?_)
  refine gk_iload_n hC 1 dX4_isMissing_4 rfl (q := 5) rfl ?_
  refine gk_iald hC dX4_isMissing_5 t21 (q := 6) rfl (fun x22 => ?_)
  refine gk_iconst hC (v := (-1)) dX4_isMissing_6 kc_i_m1 (q := 7) rfl ?_
  refine gk_jnR (fun k15_23 => ∀ z24 : Int32, gk_K Z Y 2 (gk_rR M) 15 [] [.int z24] M (k15_23 z24)) (fun y23 => ?_) (fun k15_23 hk15_23 => ?_)
  · show gk_K Z Y 2 (gk_rR M) 15 [] [.int y23] M _
    exact gk_zzR (fun hv => gk_zret hC hR dX4_isMissing_15 hv rfl)
  · refine gk_icmp_ne hC dX4_isMissing_7 (tg := 14) rfl (q := 10) rfl ?_ ?_
    · refine gk_iconst hC (v := 1) dX4_isMissing_10 kc_i_1 (q := 11) rfl ?_
      refine gk_goto hC dX4_isMissing_11 (q := 15) rfl ?_
      refine gk_pick [] rfl ?_
      exact hk15_23 1
    · refine gk_iconst hC (v := 0) dX4_isMissing_14 kc_i_0 (q := 15) rfl ?_
      refine gk_pick [] rfl ?_
      exact hk15_23 0
def lp_X4_lay_26 (LN : Nat → Nat) (RF : Nat → Nat → Nat) (v0 : Nat) (v1 : Int32) (k52 : gk_M → Option (gk_M)) : Nat → (Int32 × gk_M) → Option (gk_M)
  | 0, _ => none
  | n + 1, x =>
    if 40 ≤ x.1 then
      k52 x.2
    else
    gk_ast LN x.2 (RF v0 2) ((v1 * 40) + x.1) 0 fun M2 =>
    lp_X4_lay_26 LN RF v0 v1 k52 n ((x.1 + 1), M2)
def f_X4_lay (LN : Nat → Nat) (RF : Nat → Nat → Nat) (a0 : Nat) (a1 : Int32) (a2 : Int32) (a3 : Int32) (M : gk_M) : Option (gk_M) :=
  gk_ast LN M (RF a0 0) a1 a2 fun M22 =>
  gk_jn (fun y24 : Int32 =>
    gk_ast LN M22 (RF a0 1) a1 y24 fun M26 =>
    gk_jn (fun y27 : gk_M =>
      some y27) fun k52_27 =>
    lp_X4_lay_26 LN RF a0 a1 k52_27 gk_fuel (0, M26)) fun k22_24 =>
  if a2 = (-1) then
    k22_24 0
  else
  k22_24 a3
set_option maxHeartbeats 4000000 in
set_option maxRecDepth 100000 in
theorem lk_X4_lay_26 {Z : gk_Z} {Y : gk_Y} (hY : gk_WF Y) (hC : gk_C Z Y cX4_lay 5 RX4 0) (hR : gk_R Z Y none) (v0 : Nat) (v1 : Int32) (tv0 : gk_T Y 14 v0) (k52 : gk_M → Option (gk_M)) (hk52 : ∀ z29 : gk_M, gk_K Z Y 5 gk_rV 52 [] [] z29 (k52 z29)) : ∀ (n : Nat) (x : Int32 × gk_M), gk_K Z Y 5 gk_rV 26 [(0, .ref v0), (1, .int v1), (4, .int x.1)] [] x.2 (lp_X4_lay_26 (gk_ln Y) (gk_rf Y) v0 v1 k52 n x) := by
  intro n
  induction n with
  | zero => intro x; exact gk_none
  | succ n ih =>
    intro x
    rw [lp_X4_lay_26]
    refine gk_iload hC 2 dX4_lay_26 rfl (q := 28) rfl ?_
    refine gk_bipush hC (v := 40) dX4_lay_28 kc_b_40 (q := 30) rfl ?_
    refine gk_icmp_ge hC dX4_lay_30 (tg := 52) rfl (q := 33) rfl ?_ ?_
    · refine gk_pick [] rfl ?_
      exact hk52 x.2
    · refine gk_aload_n hC 0 dX4_lay_33 rfl (q := 34) rfl ?_
      refine gk_getR hC dX4_lay_34 fl_RX4_18 (by decide) tv0 (q := 37) rfl (fun t1 => ?_)
      refine gk_iload_n hC 1 dX4_lay_37 rfl (q := 38) rfl ?_
      refine gk_bipush hC (v := 40) dX4_lay_38 kc_b_40 (q := 40) rfl ?_
      refine gk_imul hC dX4_lay_40 (q := 41) rfl ?_
      refine gk_iload hC 2 dX4_lay_41 rfl (q := 43) rfl ?_
      refine gk_iadd hC dX4_lay_43 (q := 44) rfl ?_
      refine gk_iconst hC (v := 0) dX4_lay_44 kc_i_0 (q := 45) rfl ?_
      refine gk_iast hC dX4_lay_45 t1 (q := 46) rfl (fun M2 => ?_)
      refine gk_iinc hC (v := 1) 2 (lv' := [(0, .ref v0), (1, .int v1), (4, .int (x.1 + 1))]) [1, 2, 0] dX4_lay_46 rfl kc_i_1 (by decide) rfl (q := 49) rfl ?_
      refine gk_goto hC dX4_lay_49 (q := 26) rfl ?_
      exact ih ((x.1 + 1), M2)
set_option maxHeartbeats 4000000 in
set_option maxRecDepth 100000 in
theorem m_X4_lay (l : Launch) {Y : gk_Y} (hY : gk_WF Y) (a0 : Nat) (a1 : Int32) (a2 : Int32) (a3 : Int32) (M : gk_M) (t0 : gk_T Y 14 a0) : gk_MF l Y yX4_lay cX4_lay 5 none 0 [.ref a0, .int a1, .int a2, .int a3] M gk_rV (f_X4_lay (gk_ln Y) (gk_rf Y) a0 a1 a2 a3 M) := by
  refine gk_met hY (plainFor_of_name (by decide)) (Nat.le_of_ble_eq_true rfl) fun Z hC hR => ?_
  show gk_K Z Y 5 gk_rV 0 [(0, .ref a0), (1, .int a1), (2, .int a2), (3, .int a3)] [] M _
  unfold f_X4_lay
  refine gk_aload_n hC 0 dX4_lay_0 rfl (q := 1) rfl ?_
  refine gk_getR hC dX4_lay_1 fl_RX4_9 (by decide) t0 (q := 4) rfl (fun t21 => ?_)
  refine gk_iload_n hC 1 dX4_lay_4 rfl (q := 5) rfl ?_
  refine gk_iload_n hC 2 dX4_lay_5 rfl (q := 6) rfl ?_
  refine gk_iast hC dX4_lay_6 t21 (q := 7) rfl (fun M22 => ?_)
  refine gk_aload_n hC 0 dX4_lay_7 rfl (q := 8) rfl ?_
  refine gk_getR hC dX4_lay_8 fl_RX4_15 (by decide) t0 (q := 11) rfl (fun t23 => ?_)
  refine gk_iload_n hC 1 dX4_lay_11 rfl (q := 12) rfl ?_
  refine gk_iload_n hC 2 dX4_lay_12 rfl (q := 13) rfl ?_
  refine gk_iconst hC (v := (-1)) dX4_lay_13 kc_i_m1 (q := 14) rfl ?_
  refine gk_jnR (fun k22_24 => ∀ z25 : Int32, gk_K Z Y 5 gk_rV 22 [(0, .ref a0), (1, .int a1)] [.int z25, .int a1, .ref ((gk_rf Y) a0 1)] M22 (k22_24 z25)) (fun y24 => ?_) (fun k22_24 hk22_24 => ?_)
  · show gk_K Z Y 5 gk_rV 22 [(0, .ref a0), (1, .int a1)] [.int y24, .int a1, .ref ((gk_rf Y) a0 1)] M22 _
    refine gk_iast hC dX4_lay_22 t23 (q := 23) rfl (fun M26 => ?_)
    refine gk_iconst hC (v := 0) dX4_lay_23 kc_i_0 (q := 24) rfl ?_
    refine gk_istore hC (lv' := [(0, .ref a0), (1, .int a1), (4, .int 0)]) [1, 2, 0] dX4_lay_24 (by decide) rfl (q := 26) rfl ?_
    refine gk_jnR (fun k52_27 => ∀ z28 : gk_M, gk_K Z Y 5 gk_rV 52 [] [] z28 (k52_27 z28)) (fun y27 => ?_) (fun k52_27 hk52_27 => ?_)
    · show gk_K Z Y 5 gk_rV 52 [] [] y27 _
      exact gk_vret hC hR dX4_lay_52 rfl
    · exact lk_X4_lay_26 hY hC hR a0 a1 t0 k52_27 hk52_27 gk_fuel (0, M26)
  · refine gk_icmp_ne hC dX4_lay_14 (tg := 21) rfl (q := 17) rfl ?_ ?_
    · refine gk_iconst hC (v := 0) dX4_lay_17 kc_i_0 (q := 18) rfl ?_
      refine gk_goto hC dX4_lay_18 (q := 22) rfl ?_
      refine gk_pick [0, 1] rfl ?_
      exact hk22_24 0
    · refine gk_iload_n hC 3 dX4_lay_21 rfl (q := 22) rfl ?_
      refine gk_pick [0, 1] rfl ?_
      exact hk22_24 a3
def f_X4_hasPlaces (LN : Nat → Nat) (RF : Nat → Nat → Nat) (a0 : Nat) (a1 : Int32) (a2 : Int32) (a3 : Int32) (M : gk_M) : Option (Int32) :=
  gk_jn (fun y21 : Int32 =>
    gk_zz y21 (some y21)) fun k25_21 =>
  gk_jn (fun y23 : Unit =>
    k25_21 0) fun k24_23 =>
  if a2 < 0 then
    k24_23 ()
  else
  if a3 < 0 then
    k24_23 ()
  else
  gk_ald LN M (RF a0 1) a1 fun x26 =>
  if (x26 - a3) < a2 then
    k24_23 ()
  else
  k25_21 1
set_option maxHeartbeats 4000000 in
set_option maxRecDepth 100000 in
theorem m_X4_hasPlaces (l : Launch) {Y : gk_Y} (hY : gk_WF Y) (a0 : Nat) (a1 : Int32) (a2 : Int32) (a3 : Int32) (M : gk_M) (t0 : gk_T Y 14 a0) : gk_MF l Y yX4_hasPlaces cX4_hasPlaces 4 (some .boolean) 0 [.ref a0, .int a1, .int a2, .int a3] M (gk_rR M) (f_X4_hasPlaces (gk_ln Y) (gk_rf Y) a0 a1 a2 a3 M) := by
  refine gk_met hY (plainFor_of_name (by decide)) (Nat.le_of_ble_eq_true rfl) fun Z hC hR => ?_
  show gk_K Z Y 4 (gk_rR M) 0 [(0, .ref a0), (1, .int a1), (2, .int a2), (3, .int a3)] [] M _
  unfold f_X4_hasPlaces
  refine gk_iload_n hC 2 dX4_hasPlaces_0 rfl (q := 1) rfl ?_
  refine gk_jnR (fun k25_21 => ∀ z22 : Int32, gk_K Z Y 4 (gk_rR M) 25 [] [.int z22] M (k25_21 z22)) (fun y21 => ?_) (fun k25_21 hk25_21 => ?_)
  · show gk_K Z Y 4 (gk_rR M) 25 [] [.int y21] M _
    exact gk_zzR (fun hv => gk_zret hC hR dX4_hasPlaces_25 hv rfl)
  · refine gk_jnR (fun k24_23 => ∀ z24 : Unit, gk_K Z Y 4 (gk_rR M) 24 [] [] M (k24_23 z24)) (fun y23 => ?_) (fun k24_23 hk24_23 => ?_)
    · show gk_K Z Y 4 (gk_rR M) 24 [] [] M _
      refine gk_iconst hC (v := 0) dX4_hasPlaces_24 kc_i_0 (q := 25) rfl ?_
      exact hk25_21 0
    · refine gk_if_lt hC dX4_hasPlaces_1 (tg := 24) rfl (q := 4) rfl ?_ ?_
      · refine gk_pick [] rfl ?_
        exact hk24_23 ()
      · refine gk_iload_n hC 3 dX4_hasPlaces_4 rfl (q := 5) rfl ?_
        refine gk_if_lt hC dX4_hasPlaces_5 (tg := 24) rfl (q := 8) rfl ?_ ?_
        · refine gk_pick [] rfl ?_
          exact hk24_23 ()
        · refine gk_iload_n hC 2 dX4_hasPlaces_8 rfl (q := 9) rfl ?_
          refine gk_aload_n hC 0 dX4_hasPlaces_9 rfl (q := 10) rfl ?_
          refine gk_getR hC dX4_hasPlaces_10 fl_RX4_15 (by decide) t0 (q := 13) rfl (fun t25 => ?_)
          refine gk_iload_n hC 1 dX4_hasPlaces_13 rfl (q := 14) rfl ?_
          refine gk_iald hC dX4_hasPlaces_14 t25 (q := 15) rfl (fun x26 => ?_)
          refine gk_iload_n hC 3 dX4_hasPlaces_15 rfl (q := 16) rfl ?_
          refine gk_isub hC dX4_hasPlaces_16 (q := 17) rfl ?_
          refine gk_icmp_gt hC dX4_hasPlaces_17 (tg := 24) rfl (q := 20) rfl ?_ ?_
          · refine gk_pick [] rfl ?_
            exact hk24_23 ()
          · refine gk_iconst hC (v := 1) dX4_hasPlaces_20 kc_i_1 (q := 21) rfl ?_
            refine gk_goto hC dX4_hasPlaces_21 (q := 25) rfl ?_
            refine gk_pick [] rfl ?_
            exact hk25_21 1
def f_X4_read (LN : Nat → Nat) (RF : Nat → Nat → Nat) (a0 : Nat) (a1 : Int32) (a2 : Int32) (M : gk_M) : Option (Int32) :=
  gk_ald LN M (RF a0 2) ((a1 * 40) + a2) fun x22 =>
  some x22
set_option maxHeartbeats 4000000 in
set_option maxRecDepth 100000 in
theorem m_X4_read (l : Launch) {Y : gk_Y} (hY : gk_WF Y) (a0 : Nat) (a1 : Int32) (a2 : Int32) (M : gk_M) (t0 : gk_T Y 14 a0) : gk_MF l Y yX4_read cX4_read 3 (some .int) 0 [.ref a0, .int a1, .int a2] M (gk_rR M) (f_X4_read (gk_ln Y) (gk_rf Y) a0 a1 a2 M) := by
  refine gk_met hY (plainFor_of_name (by decide)) (Nat.le_of_ble_eq_true rfl) fun Z hC hR => ?_
  show gk_K Z Y 3 (gk_rR M) 0 [(0, .ref a0), (1, .int a1), (2, .int a2)] [] M _
  unfold f_X4_read
  refine gk_aload_n hC 0 dX4_read_0 rfl (q := 1) rfl ?_
  refine gk_getR hC dX4_read_1 fl_RX4_18 (by decide) t0 (q := 4) rfl (fun t21 => ?_)
  refine gk_iload_n hC 1 dX4_read_4 rfl (q := 5) rfl ?_
  refine gk_bipush hC (v := 40) dX4_read_5 kc_b_40 (q := 7) rfl ?_
  refine gk_imul hC dX4_read_7 (q := 8) rfl ?_
  refine gk_iload_n hC 2 dX4_read_8 rfl (q := 9) rfl ?_
  refine gk_iadd hC dX4_read_9 (q := 10) rfl ?_
  refine gk_iald hC dX4_read_10 t21 (q := 11) rfl (fun x22 => ?_)
  exact gk_iret hC hR dX4_read_11 rfl
def f_X4_write (LN : Nat → Nat) (RF : Nat → Nat → Nat) (a0 : Nat) (a1 : Int32) (a2 : Int32) (a3 : Int32) (M : gk_M) : Option (gk_M) :=
  gk_ald LN M (RF a0 0) a1 fun x23 =>
  gk_jn (fun y24 : Int32 =>
    gk_ast LN M (RF a0 2) ((a1 * 40) + a2) y24 fun M26 =>
    some M26) fun k25_24 =>
  if x23 = 0 then
    k25_24 ((Int32.toInt8 a3).toInt32)
  else
  k25_24 a3
set_option maxHeartbeats 4000000 in
set_option maxRecDepth 100000 in
theorem m_X4_write (l : Launch) {Y : gk_Y} (hY : gk_WF Y) (a0 : Nat) (a1 : Int32) (a2 : Int32) (a3 : Int32) (M : gk_M) (t0 : gk_T Y 14 a0) : gk_MF l Y yX4_write cX4_write 4 none 0 [.ref a0, .int a1, .int a2, .int a3] M gk_rV (f_X4_write (gk_ln Y) (gk_rf Y) a0 a1 a2 a3 M) := by
  refine gk_met hY (plainFor_of_name (by decide)) (Nat.le_of_ble_eq_true rfl) fun Z hC hR => ?_
  show gk_K Z Y 4 gk_rV 0 [(0, .ref a0), (1, .int a1), (2, .int a2), (3, .int a3)] [] M _
  unfold f_X4_write
  refine gk_aload_n hC 0 dX4_write_0 rfl (q := 1) rfl ?_
  refine gk_getR hC dX4_write_1 fl_RX4_18 (by decide) t0 (q := 4) rfl (fun t21 => ?_)
  refine gk_iload_n hC 1 dX4_write_4 rfl (q := 5) rfl ?_
  refine gk_bipush hC (v := 40) dX4_write_5 kc_b_40 (q := 7) rfl ?_
  refine gk_imul hC dX4_write_7 (q := 8) rfl ?_
  refine gk_iload_n hC 2 dX4_write_8 rfl (q := 9) rfl ?_
  refine gk_iadd hC dX4_write_9 (q := 10) rfl ?_
  refine gk_aload_n hC 0 dX4_write_10 rfl (q := 11) rfl ?_
  refine gk_getR hC dX4_write_11 fl_RX4_9 (by decide) t0 (q := 14) rfl (fun t22 => ?_)
  refine gk_iload_n hC 1 dX4_write_14 rfl (q := 15) rfl ?_
  refine gk_iald hC dX4_write_15 t22 (q := 16) rfl (fun x23 => ?_)
  refine gk_jnR (fun k25_24 => ∀ z25 : Int32, gk_K Z Y 4 gk_rV 25 [] [.int z25, .int ((a1 * 40) + a2), .ref ((gk_rf Y) a0 2)] M (k25_24 z25)) (fun y24 => ?_) (fun k25_24 hk25_24 => ?_)
  · show gk_K Z Y 4 gk_rV 25 [] [.int y24, .int ((a1 * 40) + a2), .ref ((gk_rf Y) a0 2)] M _
    refine gk_iast hC dX4_write_25 t21 (q := 26) rfl (fun M26 => ?_)
    exact gk_vret hC hR dX4_write_26 rfl
  · refine gk_if_ne hC dX4_write_16 (tg := 24) rfl (q := 19) rfl ?_ ?_
    · refine gk_iload_n hC 3 dX4_write_19 rfl (q := 20) rfl ?_
      refine gk_i2b hC dX4_write_20 (q := 21) rfl ?_
      refine gk_goto hC dX4_write_21 (q := 25) rfl ?_
      refine gk_pick [] rfl ?_
      exact hk25_24 ((Int32.toInt8 a3).toInt32)
    · refine gk_iload_n hC 3 dX4_write_24 rfl (q := 25) rfl ?_
      refine gk_pick [] rfl ?_
      exact hk25_24 a3
def f_X5_isOfThoseThatAct (LN : Nat → Nat) (RF : Nat → Nat → Nat) (a0 : Nat) (M : gk_M) : Option (Int32) :=
  gk_jn (fun y21 : Int32 =>
    gk_zz y21 (some y21)) fun k29_21 =>
  gk_jn (fun y23 : Unit =>
    k29_21 1) fun k24_23 =>
  if (M.1 a0 1) = 1 then
    k24_23 ()
  else
  if (M.1 a0 1) = 2 then
    k24_23 ()
  else
  if (M.1 a0 1) = 4 then
    k24_23 ()
  else
  k29_21 0
set_option maxHeartbeats 4000000 in
set_option maxRecDepth 100000 in
theorem m_X5_isOfThoseThatAct (l : Launch) {Y : gk_Y} (hY : gk_WF Y) (a0 : Nat) (M : gk_M) (t0 : gk_T Y 15 a0) : gk_MF l Y yX5_isOfThoseThatAct cX5_isOfThoseThatAct 1 (some .boolean) 0 [.ref a0] M (gk_rR M) (f_X5_isOfThoseThatAct (gk_ln Y) (gk_rf Y) a0 M) := by
  refine gk_met hY (plainFor_of_name (by decide)) (Nat.le_of_ble_eq_true rfl) fun Z hC hR => ?_
  show gk_K Z Y 1 (gk_rR M) 0 [(0, .ref a0)] [] M _
  unfold f_X5_isOfThoseThatAct
  refine gk_aload_n hC 0 dX5_isOfThoseThatAct_0 rfl (q := 1) rfl ?_
  refine gk_getI hC dX5_isOfThoseThatAct_1 fl_RX5_15 t0 (q := 4) rfl ?_
  refine gk_iconst hC (v := 1) dX5_isOfThoseThatAct_4 kc_i_1 (q := 5) rfl ?_
  refine gk_jnR (fun k29_21 => ∀ z22 : Int32, gk_K Z Y 1 (gk_rR M) 29 [] [.int z22] M (k29_21 z22)) (fun y21 => ?_) (fun k29_21 hk29_21 => ?_)
  · show gk_K Z Y 1 (gk_rR M) 29 [] [.int y21] M _
    exact gk_zzR (fun hv => gk_zret hC hR dX5_isOfThoseThatAct_29 hv rfl)
  · refine gk_jnR (fun k24_23 => ∀ z24 : Unit, gk_K Z Y 1 (gk_rR M) 24 [] [] M (k24_23 z24)) (fun y23 => ?_) (fun k24_23 hk24_23 => ?_)
    · show gk_K Z Y 1 (gk_rR M) 24 [] [] M _
      refine gk_iconst hC (v := 1) dX5_isOfThoseThatAct_24 kc_i_1 (q := 25) rfl ?_
      refine gk_goto hC dX5_isOfThoseThatAct_25 (q := 29) rfl ?_
      exact hk29_21 1
    · refine gk_icmp_eq hC dX5_isOfThoseThatAct_5 (tg := 24) rfl (q := 8) rfl ?_ ?_
      · refine gk_pick [] rfl ?_
        exact hk24_23 ()
      · refine gk_aload_n hC 0 dX5_isOfThoseThatAct_8 rfl (q := 9) rfl ?_
        refine gk_getI hC dX5_isOfThoseThatAct_9 fl_RX5_15 t0 (q := 12) rfl ?_
        refine gk_iconst hC (v := 2) dX5_isOfThoseThatAct_12 kc_i_2 (q := 13) rfl ?_
        refine gk_icmp_eq hC dX5_isOfThoseThatAct_13 (tg := 24) rfl (q := 16) rfl ?_ ?_
        · refine gk_pick [] rfl ?_
          exact hk24_23 ()
        · refine gk_aload_n hC 0 dX5_isOfThoseThatAct_16 rfl (q := 17) rfl ?_
          refine gk_getI hC dX5_isOfThoseThatAct_17 fl_RX5_15 t0 (q := 20) rfl ?_
          refine gk_iconst hC (v := 4) dX5_isOfThoseThatAct_20 kc_i_4 (q := 21) rfl ?_
          refine gk_icmp_ne hC dX5_isOfThoseThatAct_21 (tg := 28) rfl (q := 24) rfl ?_ ?_
          · refine gk_pick [] rfl ?_
            exact hk24_23 ()
          · refine gk_iconst hC (v := 0) dX5_isOfThoseThatAct_28 kc_i_0 (q := 29) rfl ?_
            refine gk_pick [] rfl ?_
            exact hk29_21 0
def f_X6_holds (LN : Nat → Nat) (RF : Nat → Nat → Nat) (a0 : Nat) (a1 : Int32) (M : gk_M) : Option (Int32) :=
  gk_jn (fun y21 : Int32 =>
    gk_zz y21 (some y21)) fun k17_21 =>
  gk_jn (fun y23 : Unit =>
    k17_21 0) fun k16_23 =>
  if a1 < 0 then
    k16_23 ()
  else
  if (M.1 a0 1) ≤ a1 then
    k16_23 ()
  else
  k17_21 1
set_option maxHeartbeats 4000000 in
set_option maxRecDepth 100000 in
theorem m_X6_holds (l : Launch) {Y : gk_Y} (hY : gk_WF Y) (a0 : Nat) (a1 : Int32) (M : gk_M) (t0 : gk_T Y 16 a0) : gk_MF l Y yX6_holds cX6_holds 2 (some .boolean) 0 [.ref a0, .int a1] M (gk_rR M) (f_X6_holds (gk_ln Y) (gk_rf Y) a0 a1 M) := by
  refine gk_met hY (plainFor_of_name (by decide)) (Nat.le_of_ble_eq_true rfl) fun Z hC hR => ?_
  show gk_K Z Y 2 (gk_rR M) 0 [(0, .ref a0), (1, .int a1)] [] M _
  unfold f_X6_holds
  refine gk_iload_n hC 1 dX6_holds_0 rfl (q := 1) rfl ?_
  refine gk_jnR (fun k17_21 => ∀ z22 : Int32, gk_K Z Y 2 (gk_rR M) 17 [] [.int z22] M (k17_21 z22)) (fun y21 => ?_) (fun k17_21 hk17_21 => ?_)
  · show gk_K Z Y 2 (gk_rR M) 17 [] [.int y21] M _
    exact gk_zzR (fun hv => gk_zret hC hR dX6_holds_17 hv rfl)
  · refine gk_jnR (fun k16_23 => ∀ z24 : Unit, gk_K Z Y 2 (gk_rR M) 16 [] [] M (k16_23 z24)) (fun y23 => ?_) (fun k16_23 hk16_23 => ?_)
    · show gk_K Z Y 2 (gk_rR M) 16 [] [] M _
      refine gk_iconst hC (v := 0) dX6_holds_16 kc_i_0 (q := 17) rfl ?_
      exact hk17_21 0
    · refine gk_if_lt hC dX6_holds_1 (tg := 16) rfl (q := 4) rfl ?_ ?_
      · refine gk_pick [] rfl ?_
        exact hk16_23 ()
      · refine gk_iload_n hC 1 dX6_holds_4 rfl (q := 5) rfl ?_
        refine gk_aload_n hC 0 dX6_holds_5 rfl (q := 6) rfl ?_
        refine gk_getI hC dX6_holds_6 fl_RX6_18 t0 (q := 9) rfl ?_
        refine gk_icmp_ge hC dX6_holds_9 (tg := 16) rfl (q := 12) rfl ?_ ?_
        · refine gk_pick [] rfl ?_
          exact hk16_23 ()
        · refine gk_iconst hC (v := 1) dX6_holds_12 kc_i_1 (q := 13) rfl ?_
          refine gk_goto hC dX6_holds_13 (q := 17) rfl ?_
          refine gk_pick [] rfl ?_
          exact hk17_21 1
def f_X6_isFull (LN : Nat → Nat) (RF : Nat → Nat → Nat) (a0 : Nat) (M : gk_M) : Option (Int32) :=
  gk_jn (fun y21 : Int32 =>
    gk_zz y21 (some y21)) fun k14_21 =>
  if (M.1 a0 1) < 24 then
    k14_21 0
  else
  k14_21 1
set_option maxHeartbeats 4000000 in
set_option maxRecDepth 100000 in
theorem m_X6_isFull (l : Launch) {Y : gk_Y} (hY : gk_WF Y) (a0 : Nat) (M : gk_M) (t0 : gk_T Y 16 a0) : gk_MF l Y yX6_isFull cX6_isFull 1 (some .boolean) 0 [.ref a0] M (gk_rR M) (f_X6_isFull (gk_ln Y) (gk_rf Y) a0 M) := by
  refine gk_met hY (plainFor_of_name (by decide)) (Nat.le_of_ble_eq_true rfl) fun Z hC hR => ?_
  show gk_K Z Y 1 (gk_rR M) 0 [(0, .ref a0)] [] M _
  unfold f_X6_isFull
  refine gk_aload_n hC 0 dX6_isFull_0 rfl (q := 1) rfl ?_
  refine gk_getI hC dX6_isFull_1 fl_RX6_18 t0 (q := 4) rfl ?_
  refine gk_bipush hC (v := 24) dX6_isFull_4 kc_b_24 (q := 6) rfl ?_
  refine gk_jnR (fun k14_21 => ∀ z22 : Int32, gk_K Z Y 1 (gk_rR M) 14 [] [.int z22] M (k14_21 z22)) (fun y21 => ?_) (fun k14_21 hk14_21 => ?_)
  · show gk_K Z Y 1 (gk_rR M) 14 [] [.int y21] M _
    exact gk_zzR (fun hv => gk_zret hC hR dX6_isFull_14 hv rfl)
  · refine gk_icmp_lt hC dX6_isFull_6 (tg := 13) rfl (q := 9) rfl ?_ ?_
    · refine gk_iconst hC (v := 0) dX6_isFull_13 kc_i_0 (q := 14) rfl ?_
      refine gk_pick [] rfl ?_
      exact hk14_21 0
    · refine gk_iconst hC (v := 1) dX6_isFull_9 kc_i_1 (q := 10) rfl ?_
      refine gk_goto hC dX6_isFull_10 (q := 14) rfl ?_
      refine gk_pick [] rfl ?_
      exact hk14_21 1
def f_X6_added (LN : Nat → Nat) (RF : Nat → Nat → Nat) (a0 : Nat) (a1 : Int32) (a2 : Int32) (a3 : Int32) (a4 : Int32) (a5 : Int32) (M : gk_M) : Option (Int32 × gk_M) :=
  (f_X6_isFull LN RF a0 M).bind fun r21 =>
  if r21 = 0 then
    gk_aldr LN RF (RF a0 0) (M.1 a0 1) fun o23 =>
    gk_put M o23 0 a1 fun M25 =>
    gk_put M25 o23 1 a2 fun M26 =>
    gk_put M26 o23 2 a3 fun M27 =>
    gk_put M27 o23 3 a4 fun M28 =>
    gk_put M28 o23 4 a5 fun M29 =>
    gk_putz M29 o23 5 1 fun M30 =>
    gk_put M30 a0 1 ((M30.1 a0 1) + 1) fun M31 =>
    some (((M31.1 a0 1) - 1), M31)
  else
  some ((-1), M)
set_option maxHeartbeats 4000000 in
set_option maxRecDepth 100000 in
theorem m_X6_added (l : Launch) {Y : gk_Y} (hY : gk_WF Y) (a0 : Nat) (a1 : Int32) (a2 : Int32) (a3 : Int32) (a4 : Int32) (a5 : Int32) (M : gk_M) (t0 : gk_T Y 16 a0) : gk_MF l Y yX6_added cX6_added 7 (some .int) 1 [.ref a0, .int a1, .int a2, .int a3, .int a4, .int a5] M gk_rI (f_X6_added (gk_ln Y) (gk_rf Y) a0 a1 a2 a3 a4 a5 M) := by
  refine gk_met hY (plainFor_of_name (by decide)) (Nat.le_of_ble_eq_true rfl) fun Z hC hR => ?_
  show gk_K Z Y 7 gk_rI 0 [(0, .ref a0), (1, .int a1), (2, .int a2), (3, .int a3), (4, .int a4), (5, .int a5)] [] M _
  unfold f_X6_added
  refine gk_aload_n hC 0 dX6_added_0 rfl (q := 1) rfl ?_
  refine gk_callV (As := []) (rest := []) hC (fun l => m_X6_isFull l hY a0 M t0) ml_RX6_26 ok_X6_isFull dX6_added_1 t0 ⟨by decide, rfl⟩ rfl (by decide) (Nat.le_of_ble_eq_true rfl) rfl (q := 4) rfl (fun r21 => ?_)
  show gk_K Z Y 7 gk_rI 4 [(0, .ref a0), (1, .int a1), (2, .int a2), (3, .int a3), (4, .int a4), (5, .int a5)] [.int r21] M _
  refine gk_if_eq hC dX6_added_4 (tg := 9) rfl (q := 7) rfl ?_ ?_
  · refine gk_aload_n hC 0 dX6_added_9 rfl (q := 10) rfl ?_
    refine gk_getR hC dX6_added_10 fl_RX6_11 (by decide) t0 (q := 13) rfl (fun t22 => ?_)
    refine gk_aload_n hC 0 dX6_added_13 rfl (q := 14) rfl ?_
    refine gk_getI hC dX6_added_14 fl_RX6_18 t0 (q := 17) rfl ?_
    refine gk_aald hC dX6_added_17 (Or.inr (Or.inl rfl)) t22 (q := 18) rfl (fun o23 t24 => ?_)
    refine gk_astore hC (lv' := [(0, .ref a0), (1, .int a1), (2, .int a2), (3, .int a3), (4, .int a4), (5, .int a5), (6, .ref o23)]) [1, 2, 3, 4, 5, 6, 0] dX6_added_18 (by decide) rfl (q := 20) rfl ?_
    refine gk_aload hC 6 dX6_added_20 rfl (q := 22) rfl ?_
    refine gk_iload_n hC 1 dX6_added_22 rfl (q := 23) rfl ?_
    refine gk_putI hC dX6_added_23 fp_RX6_30 t24 (q := 26) rfl (fun M25 => ?_)
    refine gk_aload hC 6 dX6_added_26 rfl (q := 28) rfl ?_
    refine gk_iload_n hC 2 dX6_added_28 rfl (q := 29) rfl ?_
    refine gk_putI hC dX6_added_29 fp_RX6_33 t24 (q := 32) rfl (fun M26 => ?_)
    refine gk_aload hC 6 dX6_added_32 rfl (q := 34) rfl ?_
    refine gk_iload_n hC 3 dX6_added_34 rfl (q := 35) rfl ?_
    refine gk_putI hC dX6_added_35 fp_RX6_36 t24 (q := 38) rfl (fun M27 => ?_)
    refine gk_aload hC 6 dX6_added_38 rfl (q := 40) rfl ?_
    refine gk_iload hC 4 dX6_added_40 rfl (q := 42) rfl ?_
    refine gk_putI hC dX6_added_42 fp_RX6_39 t24 (q := 45) rfl (fun M28 => ?_)
    refine gk_aload hC 6 dX6_added_45 rfl (q := 47) rfl ?_
    refine gk_iload hC 5 dX6_added_47 rfl (q := 49) rfl ?_
    refine gk_putI hC dX6_added_49 fp_RX6_42 t24 (q := 52) rfl (fun M29 => ?_)
    refine gk_aload hC 6 dX6_added_52 rfl (q := 54) rfl ?_
    refine gk_iconst hC (v := 1) dX6_added_54 kc_i_1 (q := 55) rfl ?_
    refine gk_putZ hC dX6_added_55 fp_RX6_45 t24 (q := 58) rfl (fun M30 => ?_)
    refine gk_aload_n hC 0 dX6_added_58 rfl (q := 59) rfl ?_
    refine gk_dup hC dX6_added_59 rfl (q := 60) rfl ?_
    refine gk_getI hC dX6_added_60 fl_RX6_18 t0 (q := 63) rfl ?_
    refine gk_iconst hC (v := 1) dX6_added_63 kc_i_1 (q := 64) rfl ?_
    refine gk_iadd hC dX6_added_64 (q := 65) rfl ?_
    refine gk_putI hC dX6_added_65 fp_RX6_18 t0 (q := 68) rfl (fun M31 => ?_)
    refine gk_aload_n hC 0 dX6_added_68 rfl (q := 69) rfl ?_
    refine gk_getI hC dX6_added_69 fl_RX6_18 t0 (q := 72) rfl ?_
    refine gk_iconst hC (v := 1) dX6_added_72 kc_i_1 (q := 73) rfl ?_
    refine gk_isub hC dX6_added_73 (q := 74) rfl ?_
    exact gk_iret hC hR dX6_added_74 rfl
  · refine gk_iconst hC (v := (-1)) dX6_added_7 kc_i_m1 (q := 8) rfl ?_
    exact gk_iret hC hR dX6_added_8 rfl
def lp_X6_countOn_4 (LN : Nat → Nat) (RF : Nat → Nat → Nat) (v0 : Nat) (v1 : Int32) (M : gk_M) (k34 : Int32 → Option (Int32)) : Nat → (Int32 × Int32) → Option (Int32)
  | 0, _ => none
  | n + 1, x =>
    if (M.1 v0 1) ≤ x.2 then
      k34 x.1
    else
    gk_aldr LN RF (RF v0 0) x.2 fun o2 =>
    (f_X5_isOnFor LN RF o2 v1 M).bind fun r4 =>
    gk_jn (fun y5 : Int32 =>
      lp_X6_countOn_4 LN RF v0 v1 M k34 n (y5, (x.2 + 1))) fun k28_5 =>
    if r4 = 0 then
      k28_5 x.1
    else
    k28_5 (x.1 + 1)
def f_X6_countOn (LN : Nat → Nat) (RF : Nat → Nat → Nat) (a0 : Nat) (a1 : Int32) (M : gk_M) : Option (Int32) :=
  gk_jn (fun y21 : Int32 =>
    some y21) fun k34_21 =>
  lp_X6_countOn_4 LN RF a0 a1 M k34_21 gk_fuel (0, 0)
set_option maxHeartbeats 4000000 in
set_option maxRecDepth 100000 in
theorem lk_X6_countOn_4 {Z : gk_Z} {Y : gk_Y} (hY : gk_WF Y) (hC : gk_C Z Y cX6_countOn 4 RX6 1) (hR : gk_R Z Y (some .int)) (v0 : Nat) (v1 : Int32) (M : gk_M) (tv0 : gk_T Y 16 v0) (k34 : Int32 → Option (Int32)) (hk34 : ∀ z23 : Int32, gk_K Z Y 4 (gk_rR M) 34 [(2, .int z23)] [] M (k34 z23)) : ∀ (n : Nat) (x : Int32 × Int32), gk_K Z Y 4 (gk_rR M) 4 [(0, .ref v0), (1, .int v1), (2, .int x.1), (3, .int x.2)] [] M (lp_X6_countOn_4 (gk_ln Y) (gk_rf Y) v0 v1 M k34 n x) := by
  intro n
  induction n with
  | zero => intro x; exact gk_none
  | succ n ih =>
    intro x
    rw [lp_X6_countOn_4]
    refine gk_iload_n hC 3 dX6_countOn_4 rfl (q := 5) rfl ?_
    refine gk_aload_n hC 0 dX6_countOn_5 rfl (q := 6) rfl ?_
    refine gk_getI hC dX6_countOn_6 fl_RX6_18 tv0 (q := 9) rfl ?_
    refine gk_icmp_ge hC dX6_countOn_9 (tg := 34) rfl (q := 12) rfl ?_ ?_
    · refine gk_pick [2] rfl ?_
      exact hk34 x.1
    · refine gk_aload_n hC 0 dX6_countOn_12 rfl (q := 13) rfl ?_
      refine gk_getR hC dX6_countOn_13 fl_RX6_11 (by decide) tv0 (q := 16) rfl (fun t1 => ?_)
      refine gk_iload_n hC 3 dX6_countOn_16 rfl (q := 17) rfl ?_
      refine gk_aald hC dX6_countOn_17 (Or.inr (Or.inl rfl)) t1 (q := 18) rfl (fun o2 t3 => ?_)
      refine gk_iload_n hC 1 dX6_countOn_18 rfl (q := 19) rfl ?_
      refine gk_callV (As := [.int v1]) (rest := []) hC (fun l => m_X5_isOnFor l hY o2 v1 M t3) ml_RX6_49 ok_X5_isOnFor dX6_countOn_19 t3 ⟨by decide, rfl⟩ rfl (by decide) (Nat.le_of_ble_eq_true rfl) rfl (q := 22) rfl (fun r4 => ?_)
      show gk_K Z Y 4 (gk_rR M) 22 [(0, .ref v0), (1, .int v1), (2, .int x.1), (3, .int x.2)] [.int r4] M _
      refine gk_jnR (fun k28_5 => ∀ z6 : Int32, gk_K Z Y 4 (gk_rR M) 28 [(0, .ref v0), (1, .int v1), (2, .int z6), (3, .int x.2)] [] M (k28_5 z6)) (fun y5 => ?_) (fun k28_5 hk28_5 => ?_)
      · show gk_K Z Y 4 (gk_rR M) 28 [(0, .ref v0), (1, .int v1), (2, .int y5), (3, .int x.2)] [] M _
        refine gk_iinc hC (v := 1) 3 (lv' := [(0, .ref v0), (1, .int v1), (2, .int y5), (3, .int (x.2 + 1))]) [1, 2, 3, 0] dX6_countOn_28 rfl kc_i_1 (by decide) rfl (q := 31) rfl ?_
        refine gk_goto hC dX6_countOn_31 (q := 4) rfl ?_
        exact ih (y5, (x.2 + 1))
      · refine gk_if_eq hC dX6_countOn_22 (tg := 28) rfl (q := 25) rfl ?_ ?_
        · exact hk28_5 x.1
        · refine gk_iinc hC (v := 1) 2 (lv' := [(0, .ref v0), (1, .int v1), (2, .int (x.1 + 1)), (3, .int x.2)]) [1, 2, 0, 3] dX6_countOn_25 rfl kc_i_1 (by decide) rfl (q := 28) rfl ?_
          exact hk28_5 (x.1 + 1)
set_option maxHeartbeats 4000000 in
set_option maxRecDepth 100000 in
theorem m_X6_countOn (l : Launch) {Y : gk_Y} (hY : gk_WF Y) (a0 : Nat) (a1 : Int32) (M : gk_M) (t0 : gk_T Y 16 a0) : gk_MF l Y yX6_countOn cX6_countOn 4 (some .int) 1 [.ref a0, .int a1] M (gk_rR M) (f_X6_countOn (gk_ln Y) (gk_rf Y) a0 a1 M) := by
  refine gk_met hY (plainFor_of_name (by decide)) (Nat.le_of_ble_eq_true rfl) fun Z hC hR => ?_
  show gk_K Z Y 4 (gk_rR M) 0 [(0, .ref a0), (1, .int a1)] [] M _
  unfold f_X6_countOn
  refine gk_iconst hC (v := 0) dX6_countOn_0 kc_i_0 (q := 1) rfl ?_
  refine gk_istore_n hC (lv' := [(0, .ref a0), (1, .int a1), (2, .int 0)]) [1, 2, 0] dX6_countOn_1 (by decide) rfl (q := 2) rfl ?_
  refine gk_iconst hC (v := 0) dX6_countOn_2 kc_i_0 (q := 3) rfl ?_
  refine gk_istore_n hC (lv' := [(0, .ref a0), (1, .int a1), (2, .int 0), (3, .int 0)]) [1, 2, 3, 0] dX6_countOn_3 (by decide) rfl (q := 4) rfl ?_
  refine gk_jnR (fun k34_21 => ∀ z22 : Int32, gk_K Z Y 4 (gk_rR M) 34 [(2, .int z22)] [] M (k34_21 z22)) (fun y21 => ?_) (fun k34_21 hk34_21 => ?_)
  · show gk_K Z Y 4 (gk_rR M) 34 [(2, .int y21)] [] M _
    refine gk_iload_n hC 0 dX6_countOn_34 rfl (q := 35) rfl ?_
    exact gk_iret hC hR dX6_countOn_35 rfl
  · exact lk_X6_countOn_4 hY hC hR a0 a1 M t0 k34_21 hk34_21 gk_fuel (0, 0)
end
