noncomputable section
def lp_X8_isBroken_24 (LN : Nat → Nat) (RF : Nat → Nat → Nat) (v0 : Nat) (v1 : Int32) (v2 : Int32) (v3 : Int32) (M : gk_M) (k150 : Int32 → Option (Int32)) : Nat → (Int32 × Int32) → Option (Int32)
  | 0, _ => none
  | n + 1, x =>
    gk_ald LN M (RF v0 20) 2 fun x2 =>
    if x2 ≤ x.2 then
      k150 x.1
    else
    gk_ald LN M (RF v0 7) x.2 fun x4 =>
    gk_jn (fun y5 : Int32 =>
      gk_jn (fun y7 : Int32 =>
        lp_X8_isBroken_24 LN RF v0 v1 v2 v3 M k150 n (y7, (x.2 + 1))) fun k142_7 =>
      gk_jn (fun y9 : Unit =>
        k142_7 1) fun k137_9 =>
      if x.1 = 0 then
        gk_jn (fun y11 : Unit =>
          gk_jn (fun y13 : Unit =>
            k142_7 0) fun k141_13 =>
          if v1 = 2 then
            gk_ald LN M (RF v0 6) x.2 fun x16 =>
            if x16 = v2 then
              (f_X8_isTold LN RF v0 x.2 v3 M).bind fun r17 =>
              if r17 = 0 then
                k141_13 ()
              else
              k137_9 ()
            else
            k141_13 ()
          else
          k141_13 ()) fun k111_11 =>
        if v1 = 0 then
          if y5 = 0 then
            k111_11 ()
          else
          k137_9 ()
        else
        k111_11 ()
      else
      k137_9 ()) fun k95_5 =>
    gk_jn (fun y18 : Unit =>
      k95_5 0) fun k94_18 =>
    if x4 = 1 then
      gk_ald LN M (RF v0 6) x.2 fun x21 =>
      gk_jn (fun y22 : Unit =>
        k95_5 1) fun k90_22 =>
      gk_jn (fun y24 : Unit =>
        gk_ald LN M (RF v0 6) x.2 fun x27 =>
        if x27 = v3 then
          gk_ald LN M (RF v0 13) x.2 fun x29 =>
          if x29 = v2 then
            k90_22 ()
          else
          k94_18 ()
        else
        k94_18 ()) fun k68_24 =>
      if x21 = v2 then
        gk_ald LN M (RF v0 13) x.2 fun x31 =>
        if x31 = v3 then
          k90_22 ()
        else
        k68_24 ()
      else
      k68_24 ()
    else
    k94_18 ()
def f_X8_isBroken (LN : Nat → Nat) (RF : Nat → Nat → Nat) (a0 : Nat) (a1 : Int32) (a2 : Int32) (a3 : Int32) (M : gk_M) : Option (Int32) :=
  gk_jn (fun y21 : Int32 =>
    gk_jn (fun y23 : Int32 =>
      gk_zz y23 (some y23)) fun k150_23 =>
    lp_X8_isBroken_24 LN RF a0 a1 a2 a3 M k150_23 gk_fuel (y21, 0)) fun k19_21 =>
  gk_jn (fun y33 : Unit =>
    k19_21 0) fun k18_33 =>
  if a1 = 1 then
    gk_ald LN M (RF a0 19) a2 fun x36 =>
    if x36 ≤ 0 then
      k18_33 ()
    else
    k19_21 1
  else
  k18_33 ()
set_option maxHeartbeats 4000000 in
set_option maxRecDepth 100000 in
theorem lk_X8_isBroken_24 {Z : gk_Z} {Y : gk_Y} (hY : gk_WF Y) (hC : gk_C Z Y cX8_isBroken 7 RX8 1) (hR : gk_R Z Y (some .boolean)) (v0 : Nat) (v1 : Int32) (v2 : Int32) (v3 : Int32) (M : gk_M) (tv0 : gk_T Y 18 v0) (k150 : Int32 → Option (Int32)) (hk150 : ∀ z32 : Int32, gk_K Z Y 7 (gk_rR M) 150 [(4, .int z32)] [] M (k150 z32)) : ∀ (n : Nat) (x : Int32 × Int32), gk_K Z Y 7 (gk_rR M) 24 [(0, .ref v0), (1, .int v1), (2, .int v2), (3, .int v3), (4, .int x.1), (5, .int x.2)] [] M (lp_X8_isBroken_24 (gk_ln Y) (gk_rf Y) v0 v1 v2 v3 M k150 n x) := by
  intro n
  induction n with
  | zero => intro x; exact gk_none
  | succ n ih =>
    intro x
    rw [lp_X8_isBroken_24]
    refine gk_iload hC 5 dX8_isBroken_24 rfl (q := 26) rfl ?_
    refine gk_aload_n hC 0 dX8_isBroken_26 rfl (q := 27) rfl ?_
    refine gk_getR hC dX8_isBroken_27 fl_RX8_70 (by decide) tv0 (q := 30) rfl (fun t1 => ?_)
    refine gk_iconst hC (v := 2) dX8_isBroken_30 kc_i_2 (q := 31) rfl ?_
    refine gk_iald hC dX8_isBroken_31 t1 (q := 32) rfl (fun x2 => ?_)
    refine gk_icmp_ge hC dX8_isBroken_32 (tg := 150) rfl (q := 35) rfl ?_ ?_
    · refine gk_pick [4] rfl ?_
      exact hk150 x.1
    · refine gk_aload_n hC 0 dX8_isBroken_35 rfl (q := 36) rfl ?_
      refine gk_getR hC dX8_isBroken_36 fl_RX8_31 (by decide) tv0 (q := 39) rfl (fun t3 => ?_)
      refine gk_iload hC 5 dX8_isBroken_39 rfl (q := 41) rfl ?_
      refine gk_iald hC dX8_isBroken_41 t3 (q := 42) rfl (fun x4 => ?_)
      refine gk_iconst hC (v := 1) dX8_isBroken_42 kc_i_1 (q := 43) rfl ?_
      refine gk_jnR (fun k95_5 => ∀ z6 : Int32, gk_K Z Y 7 (gk_rR M) 95 [(0, .ref v0), (1, .int v1), (2, .int v2), (3, .int v3), (4, .int x.1), (5, .int x.2)] [.int z6] M (k95_5 z6)) (fun y5 => ?_) (fun k95_5 hk95_5 => ?_)
      · show gk_K Z Y 7 (gk_rR M) 95 [(0, .ref v0), (1, .int v1), (2, .int v2), (3, .int v3), (4, .int x.1), (5, .int x.2)] [.int y5] M _
        refine gk_istore hC (lv' := [(0, .ref v0), (1, .int v1), (2, .int v2), (3, .int v3), (4, .int x.1), (5, .int x.2), (6, .int y5)]) [1, 2, 3, 4, 5, 6, 0] dX8_isBroken_95 (by decide) rfl (q := 97) rfl ?_
        refine gk_iload hC 4 dX8_isBroken_97 rfl (q := 99) rfl ?_
        refine gk_jnR (fun k142_7 => ∀ z8 : Int32, gk_K Z Y 7 (gk_rR M) 142 [(0, .ref v0), (1, .int v1), (2, .int v2), (3, .int v3), (5, .int x.2)] [.int z8] M (k142_7 z8)) (fun y7 => ?_) (fun k142_7 hk142_7 => ?_)
        · show gk_K Z Y 7 (gk_rR M) 142 [(0, .ref v0), (1, .int v1), (2, .int v2), (3, .int v3), (5, .int x.2)] [.int y7] M _
          refine gk_istore hC (lv' := [(0, .ref v0), (1, .int v1), (2, .int v2), (3, .int v3), (4, .int y7), (5, .int x.2)]) [1, 2, 3, 4, 0, 5] dX8_isBroken_142 (by decide) rfl (q := 144) rfl ?_
          refine gk_iinc hC (v := 1) 5 (lv' := [(0, .ref v0), (1, .int v1), (2, .int v2), (3, .int v3), (4, .int y7), (5, .int (x.2 + 1))]) [1, 2, 3, 4, 5, 0] dX8_isBroken_144 rfl kc_i_1 (by decide) rfl (q := 147) rfl ?_
          refine gk_goto hC dX8_isBroken_147 (q := 24) rfl ?_
          exact ih (y7, (x.2 + 1))
        · refine gk_jnR (fun k137_9 => ∀ z10 : Unit, gk_K Z Y 7 (gk_rR M) 137 [(0, .ref v0), (1, .int v1), (2, .int v2), (3, .int v3), (5, .int x.2)] [] M (k137_9 z10)) (fun y9 => ?_) (fun k137_9 hk137_9 => ?_)
          · show gk_K Z Y 7 (gk_rR M) 137 [(0, .ref v0), (1, .int v1), (2, .int v2), (3, .int v3), (5, .int x.2)] [] M _
            refine gk_iconst hC (v := 1) dX8_isBroken_137 kc_i_1 (q := 138) rfl ?_
            refine gk_goto hC dX8_isBroken_138 (q := 142) rfl ?_
            exact hk142_7 1
          · refine gk_if_ne hC dX8_isBroken_99 (tg := 137) rfl (q := 102) rfl ?_ ?_
            · refine gk_iload_n hC 1 dX8_isBroken_102 rfl (q := 103) rfl ?_
              refine gk_jnR (fun k111_11 => ∀ z12 : Unit, gk_K Z Y 7 (gk_rR M) 111 [(0, .ref v0), (1, .int v1), (2, .int v2), (3, .int v3), (5, .int x.2)] [] M (k111_11 z12)) (fun y11 => ?_) (fun k111_11 hk111_11 => ?_)
              · show gk_K Z Y 7 (gk_rR M) 111 [(0, .ref v0), (1, .int v1), (2, .int v2), (3, .int v3), (5, .int x.2)] [] M _
                refine gk_iload_n hC 1 dX8_isBroken_111 rfl (q := 112) rfl ?_
                refine gk_iconst hC (v := 2) dX8_isBroken_112 kc_i_2 (q := 113) rfl ?_
                refine gk_jnR (fun k141_13 => ∀ z14 : Unit, gk_K Z Y 7 (gk_rR M) 141 [(0, .ref v0), (1, .int v1), (2, .int v2), (3, .int v3), (5, .int x.2)] [] M (k141_13 z14)) (fun y13 => ?_) (fun k141_13 hk141_13 => ?_)
                · show gk_K Z Y 7 (gk_rR M) 141 [(0, .ref v0), (1, .int v1), (2, .int v2), (3, .int v3), (5, .int x.2)] [] M _
                  refine gk_iconst hC (v := 0) dX8_isBroken_141 kc_i_0 (q := 142) rfl ?_
                  exact hk142_7 0
                · refine gk_icmp_ne hC dX8_isBroken_113 (tg := 141) rfl (q := 116) rfl ?_ ?_
                  · refine gk_aload_n hC 0 dX8_isBroken_116 rfl (q := 117) rfl ?_
                    refine gk_getR hC dX8_isBroken_117 fl_RX8_28 (by decide) tv0 (q := 120) rfl (fun t15 => ?_)
                    refine gk_iload hC 4 dX8_isBroken_120 rfl (q := 122) rfl ?_
                    refine gk_iald hC dX8_isBroken_122 t15 (q := 123) rfl (fun x16 => ?_)
                    refine gk_iload_n hC 2 dX8_isBroken_123 rfl (q := 124) rfl ?_
                    refine gk_icmp_ne hC dX8_isBroken_124 (tg := 141) rfl (q := 127) rfl ?_ ?_
                    · refine gk_aload_n hC 0 dX8_isBroken_127 rfl (q := 128) rfl ?_
                      refine gk_iload hC 4 dX8_isBroken_128 rfl (q := 130) rfl ?_
                      refine gk_iload_n hC 3 dX8_isBroken_130 rfl (q := 131) rfl ?_
                      refine gk_callV (As := [.int x.2, .int v3]) (rest := []) hC (fun l => m_X8_isTold l hY v0 x.2 v3 M tv0) ml_RX8_233 ok_X8_isTold dX8_isBroken_131 tv0 ⟨by decide, rfl⟩ rfl (by decide) (Nat.le_of_ble_eq_true rfl) rfl (q := 134) rfl (fun r17 => ?_)
                      show gk_K Z Y 7 (gk_rR M) 134 [(0, .ref v0), (1, .int v1), (2, .int v2), (3, .int v3), (5, .int x.2)] [.int r17] M _
                      refine gk_if_eq hC dX8_isBroken_134 (tg := 141) rfl (q := 137) rfl ?_ ?_
                      · exact hk141_13 ()
                      · exact hk137_9 ()
                    · exact hk141_13 ()
                  · exact hk141_13 ()
              · refine gk_if_ne hC dX8_isBroken_103 (tg := 111) rfl (q := 106) rfl ?_ ?_
                · refine gk_iload hC 6 dX8_isBroken_106 rfl (q := 108) rfl ?_
                  refine gk_if_ne hC dX8_isBroken_108 (tg := 137) rfl (q := 111) rfl ?_ ?_
                  · refine gk_pick [0, 1, 2, 3, 5] rfl ?_
                    exact hk111_11 ()
                  · refine gk_pick [0, 1, 2, 3, 5] rfl ?_
                    exact hk137_9 ()
                · refine gk_pick [0, 1, 2, 3, 5] rfl ?_
                  exact hk111_11 ()
            · refine gk_pick [0, 1, 2, 3, 5] rfl ?_
              exact hk137_9 ()
      · refine gk_jnR (fun k94_18 => ∀ z19 : Unit, gk_K Z Y 7 (gk_rR M) 94 [(0, .ref v0), (1, .int v1), (2, .int v2), (3, .int v3), (4, .int x.1), (5, .int x.2)] [] M (k94_18 z19)) (fun y18 => ?_) (fun k94_18 hk94_18 => ?_)
        · show gk_K Z Y 7 (gk_rR M) 94 [(0, .ref v0), (1, .int v1), (2, .int v2), (3, .int v3), (4, .int x.1), (5, .int x.2)] [] M _
          refine gk_iconst hC (v := 0) dX8_isBroken_94 kc_i_0 (q := 95) rfl ?_
          exact hk95_5 0
        · refine gk_icmp_ne hC dX8_isBroken_43 (tg := 94) rfl (q := 46) rfl ?_ ?_
          · refine gk_aload_n hC 0 dX8_isBroken_46 rfl (q := 47) rfl ?_
            refine gk_getR hC dX8_isBroken_47 fl_RX8_28 (by decide) tv0 (q := 50) rfl (fun t20 => ?_)
            refine gk_iload hC 5 dX8_isBroken_50 rfl (q := 52) rfl ?_
            refine gk_iald hC dX8_isBroken_52 t20 (q := 53) rfl (fun x21 => ?_)
            refine gk_iload_n hC 2 dX8_isBroken_53 rfl (q := 54) rfl ?_
            refine gk_jnR (fun k90_22 => ∀ z23 : Unit, gk_K Z Y 7 (gk_rR M) 90 [(0, .ref v0), (1, .int v1), (2, .int v2), (3, .int v3), (4, .int x.1), (5, .int x.2)] [] M (k90_22 z23)) (fun y22 => ?_) (fun k90_22 hk90_22 => ?_)
            · show gk_K Z Y 7 (gk_rR M) 90 [(0, .ref v0), (1, .int v1), (2, .int v2), (3, .int v3), (4, .int x.1), (5, .int x.2)] [] M _
              refine gk_iconst hC (v := 1) dX8_isBroken_90 kc_i_1 (q := 91) rfl ?_
              refine gk_goto hC dX8_isBroken_91 (q := 95) rfl ?_
              exact hk95_5 1
            · refine gk_jnR (fun k68_24 => ∀ z25 : Unit, gk_K Z Y 7 (gk_rR M) 68 [(0, .ref v0), (1, .int v1), (2, .int v2), (3, .int v3), (4, .int x.1), (5, .int x.2)] [] M (k68_24 z25)) (fun y24 => ?_) (fun k68_24 hk68_24 => ?_)
              · show gk_K Z Y 7 (gk_rR M) 68 [(0, .ref v0), (1, .int v1), (2, .int v2), (3, .int v3), (4, .int x.1), (5, .int x.2)] [] M _
                refine gk_aload_n hC 0 dX8_isBroken_68 rfl (q := 69) rfl ?_
                refine gk_getR hC dX8_isBroken_69 fl_RX8_28 (by decide) tv0 (q := 72) rfl (fun t26 => ?_)
                refine gk_iload hC 5 dX8_isBroken_72 rfl (q := 74) rfl ?_
                refine gk_iald hC dX8_isBroken_74 t26 (q := 75) rfl (fun x27 => ?_)
                refine gk_iload_n hC 3 dX8_isBroken_75 rfl (q := 76) rfl ?_
                refine gk_icmp_ne hC dX8_isBroken_76 (tg := 94) rfl (q := 79) rfl ?_ ?_
                · refine gk_aload_n hC 0 dX8_isBroken_79 rfl (q := 80) rfl ?_
                  refine gk_getR hC dX8_isBroken_80 fl_RX8_49 (by decide) tv0 (q := 83) rfl (fun t28 => ?_)
                  refine gk_iload hC 5 dX8_isBroken_83 rfl (q := 85) rfl ?_
                  refine gk_iald hC dX8_isBroken_85 t28 (q := 86) rfl (fun x29 => ?_)
                  refine gk_iload_n hC 2 dX8_isBroken_86 rfl (q := 87) rfl ?_
                  refine gk_icmp_ne hC dX8_isBroken_87 (tg := 94) rfl (q := 90) rfl ?_ ?_
                  · exact hk90_22 ()
                  · exact hk94_18 ()
                · exact hk94_18 ()
              · refine gk_icmp_ne hC dX8_isBroken_54 (tg := 68) rfl (q := 57) rfl ?_ ?_
                · refine gk_aload_n hC 0 dX8_isBroken_57 rfl (q := 58) rfl ?_
                  refine gk_getR hC dX8_isBroken_58 fl_RX8_49 (by decide) tv0 (q := 61) rfl (fun t30 => ?_)
                  refine gk_iload hC 5 dX8_isBroken_61 rfl (q := 63) rfl ?_
                  refine gk_iald hC dX8_isBroken_63 t30 (q := 64) rfl (fun x31 => ?_)
                  refine gk_iload_n hC 3 dX8_isBroken_64 rfl (q := 65) rfl ?_
                  refine gk_icmp_eq hC dX8_isBroken_65 (tg := 90) rfl (q := 68) rfl ?_ ?_
                  · exact hk90_22 ()
                  · exact hk68_24 ()
                · exact hk68_24 ()
          · exact hk94_18 ()
set_option maxHeartbeats 4000000 in
set_option maxRecDepth 100000 in
theorem m_X8_isBroken (l : Launch) {Y : gk_Y} (hY : gk_WF Y) (a0 : Nat) (a1 : Int32) (a2 : Int32) (a3 : Int32) (M : gk_M) (t0 : gk_T Y 18 a0) : gk_MF l Y yX8_isBroken cX8_isBroken 7 (some .boolean) 1 [.ref a0, .int a1, .int a2, .int a3] M (gk_rR M) (f_X8_isBroken (gk_ln Y) (gk_rf Y) a0 a1 a2 a3 M) := by
  refine gk_met hY (plainFor_of_name (by decide)) (Nat.le_of_ble_eq_true rfl) fun Z hC hR => ?_
  show gk_K Z Y 7 (gk_rR M) 0 [(0, .ref a0), (1, .int a1), (2, .int a2), (3, .int a3)] [] M _
  unfold f_X8_isBroken
  refine gk_iload_n hC 1 dX8_isBroken_0 rfl (q := 1) rfl ?_
  refine gk_iconst hC (v := 1) dX8_isBroken_1 kc_i_1 (q := 2) rfl ?_
  refine gk_jnR (fun k19_21 => ∀ z22 : Int32, gk_K Z Y 7 (gk_rR M) 19 [(0, .ref a0), (1, .int a1), (2, .int a2), (3, .int a3)] [.int z22] M (k19_21 z22)) (fun y21 => ?_) (fun k19_21 hk19_21 => ?_)
  · show gk_K Z Y 7 (gk_rR M) 19 [(0, .ref a0), (1, .int a1), (2, .int a2), (3, .int a3)] [.int y21] M _
    refine gk_istore hC (lv' := [(0, .ref a0), (1, .int a1), (2, .int a2), (3, .int a3), (4, .int y21)]) [1, 2, 3, 4, 0] dX8_isBroken_19 (by decide) rfl (q := 21) rfl ?_
    refine gk_iconst hC (v := 0) dX8_isBroken_21 kc_i_0 (q := 22) rfl ?_
    refine gk_istore hC (lv' := [(0, .ref a0), (1, .int a1), (2, .int a2), (3, .int a3), (4, .int y21), (5, .int 0)]) [1, 2, 3, 4, 5, 0] dX8_isBroken_22 (by decide) rfl (q := 24) rfl ?_
    refine gk_jnR (fun k150_23 => ∀ z24 : Int32, gk_K Z Y 7 (gk_rR M) 150 [(4, .int z24)] [] M (k150_23 z24)) (fun y23 => ?_) (fun k150_23 hk150_23 => ?_)
    · show gk_K Z Y 7 (gk_rR M) 150 [(4, .int y23)] [] M _
      refine gk_iload hC 0 dX8_isBroken_150 rfl (q := 152) rfl ?_
      exact gk_zzR (fun hv => gk_zret hC hR dX8_isBroken_152 hv rfl)
    · exact lk_X8_isBroken_24 hY hC hR a0 a1 a2 a3 M t0 k150_23 hk150_23 gk_fuel (y21, 0)
  · refine gk_jnR (fun k18_33 => ∀ z34 : Unit, gk_K Z Y 7 (gk_rR M) 18 [(0, .ref a0), (1, .int a1), (2, .int a2), (3, .int a3)] [] M (k18_33 z34)) (fun y33 => ?_) (fun k18_33 hk18_33 => ?_)
    · show gk_K Z Y 7 (gk_rR M) 18 [(0, .ref a0), (1, .int a1), (2, .int a2), (3, .int a3)] [] M _
      refine gk_iconst hC (v := 0) dX8_isBroken_18 kc_i_0 (q := 19) rfl ?_
      exact hk19_21 0
    · refine gk_icmp_ne hC dX8_isBroken_2 (tg := 18) rfl (q := 5) rfl ?_ ?_
      · refine gk_aload_n hC 0 dX8_isBroken_5 rfl (q := 6) rfl ?_
        refine gk_getR hC dX8_isBroken_6 fl_RX8_67 (by decide) t0 (q := 9) rfl (fun t35 => ?_)
        refine gk_iload_n hC 2 dX8_isBroken_9 rfl (q := 10) rfl ?_
        refine gk_iald hC dX8_isBroken_10 t35 (q := 11) rfl (fun x36 => ?_)
        refine gk_if_le hC dX8_isBroken_11 (tg := 18) rfl (q := 14) rfl ?_ ?_
        · exact hk18_33 ()
        · refine gk_iconst hC (v := 1) dX8_isBroken_14 kc_i_1 (q := 15) rfl ?_
          refine gk_goto hC dX8_isBroken_15 (q := 19) rfl ?_
          exact hk19_21 1
      · exact hk18_33 ()
def lp_X8_empties_23 (LN : Nat → Nat) (RF : Nat → Nat → Nat) (v0 : Nat) (k42 : gk_M → Option (gk_M)) : Nat → (Int32 × gk_M) → Option (gk_M)
  | 0, _ => none
  | n + 1, x =>
    if 8 ≤ x.1 then
      k42 x.2
    else
    gk_ast LN x.2 (RF v0 19) x.1 0 fun M2 =>
    lp_X8_empties_23 LN RF v0 k42 n ((x.1 + 1), M2)
def f_X8_empties (LN : Nat → Nat) (RF : Nat → Nat → Nat) (a0 : Nat) (M : gk_M) : Option (gk_M) :=
  gk_ast LN M (RF a0 20) 2 0 fun M22 =>
  gk_ast LN M22 (RF a0 20) 3 0 fun M24 =>
  gk_ast LN M24 (RF a0 20) 4 0 fun M26 =>
  gk_jn (fun y27 : gk_M =>
    some y27) fun k42_27 =>
  lp_X8_empties_23 LN RF a0 k42_27 gk_fuel (0, M26)
set_option maxHeartbeats 4000000 in
set_option maxRecDepth 100000 in
theorem lk_X8_empties_23 {Z : gk_Z} {Y : gk_Y} (hY : gk_WF Y) (hC : gk_C Z Y cX8_empties 2 RX8 0) (hR : gk_R Z Y none) (v0 : Nat) (tv0 : gk_T Y 18 v0) (k42 : gk_M → Option (gk_M)) (hk42 : ∀ z29 : gk_M, gk_K Z Y 2 gk_rV 42 [] [] z29 (k42 z29)) : ∀ (n : Nat) (x : Int32 × gk_M), gk_K Z Y 2 gk_rV 23 [(0, .ref v0), (1, .int x.1)] [] x.2 (lp_X8_empties_23 (gk_ln Y) (gk_rf Y) v0 k42 n x) := by
  intro n
  induction n with
  | zero => intro x; exact gk_none
  | succ n ih =>
    intro x
    rw [lp_X8_empties_23]
    refine gk_iload_n hC 1 dX8_empties_23 rfl (q := 24) rfl ?_
    refine gk_bipush hC (v := 8) dX8_empties_24 kc_b_8 (q := 26) rfl ?_
    refine gk_icmp_ge hC dX8_empties_26 (tg := 42) rfl (q := 29) rfl ?_ ?_
    · refine gk_pick [] rfl ?_
      exact hk42 x.2
    · refine gk_aload_n hC 0 dX8_empties_29 rfl (q := 30) rfl ?_
      refine gk_getR hC dX8_empties_30 fl_RX8_67 (by decide) tv0 (q := 33) rfl (fun t1 => ?_)
      refine gk_iload_n hC 1 dX8_empties_33 rfl (q := 34) rfl ?_
      refine gk_iconst hC (v := 0) dX8_empties_34 kc_i_0 (q := 35) rfl ?_
      refine gk_iast hC dX8_empties_35 t1 (q := 36) rfl (fun M2 => ?_)
      refine gk_iinc hC (v := 1) 1 (lv' := [(0, .ref v0), (1, .int (x.1 + 1))]) [1, 0] dX8_empties_36 rfl kc_i_1 (by decide) rfl (q := 39) rfl ?_
      refine gk_goto hC dX8_empties_39 (q := 23) rfl ?_
      exact ih ((x.1 + 1), M2)
set_option maxHeartbeats 4000000 in
set_option maxRecDepth 100000 in
theorem m_X8_empties (l : Launch) {Y : gk_Y} (hY : gk_WF Y) (a0 : Nat) (M : gk_M) (t0 : gk_T Y 18 a0) : gk_MF l Y yX8_empties cX8_empties 2 none 0 [.ref a0] M gk_rV (f_X8_empties (gk_ln Y) (gk_rf Y) a0 M) := by
  refine gk_met hY (plainFor_of_name (by decide)) (Nat.le_of_ble_eq_true rfl) fun Z hC hR => ?_
  show gk_K Z Y 2 gk_rV 0 [(0, .ref a0)] [] M _
  unfold f_X8_empties
  refine gk_aload_n hC 0 dX8_empties_0 rfl (q := 1) rfl ?_
  refine gk_getR hC dX8_empties_1 fl_RX8_70 (by decide) t0 (q := 4) rfl (fun t21 => ?_)
  refine gk_iconst hC (v := 2) dX8_empties_4 kc_i_2 (q := 5) rfl ?_
  refine gk_iconst hC (v := 0) dX8_empties_5 kc_i_0 (q := 6) rfl ?_
  refine gk_iast hC dX8_empties_6 t21 (q := 7) rfl (fun M22 => ?_)
  refine gk_aload_n hC 0 dX8_empties_7 rfl (q := 8) rfl ?_
  refine gk_getR hC dX8_empties_8 fl_RX8_70 (by decide) t0 (q := 11) rfl (fun t23 => ?_)
  refine gk_iconst hC (v := 3) dX8_empties_11 kc_i_3 (q := 12) rfl ?_
  refine gk_iconst hC (v := 0) dX8_empties_12 kc_i_0 (q := 13) rfl ?_
  refine gk_iast hC dX8_empties_13 t23 (q := 14) rfl (fun M24 => ?_)
  refine gk_aload_n hC 0 dX8_empties_14 rfl (q := 15) rfl ?_
  refine gk_getR hC dX8_empties_15 fl_RX8_70 (by decide) t0 (q := 18) rfl (fun t25 => ?_)
  refine gk_iconst hC (v := 4) dX8_empties_18 kc_i_4 (q := 19) rfl ?_
  refine gk_iconst hC (v := 0) dX8_empties_19 kc_i_0 (q := 20) rfl ?_
  refine gk_iast hC dX8_empties_20 t25 (q := 21) rfl (fun M26 => ?_)
  refine gk_iconst hC (v := 0) dX8_empties_21 kc_i_0 (q := 22) rfl ?_
  refine gk_istore_n hC (lv' := [(0, .ref a0), (1, .int 0)]) [1, 0] dX8_empties_22 (by decide) rfl (q := 23) rfl ?_
  refine gk_jnR (fun k42_27 => ∀ z28 : gk_M, gk_K Z Y 2 gk_rV 42 [] [] z28 (k42_27 z28)) (fun y27 => ?_) (fun k42_27 hk42_27 => ?_)
  · show gk_K Z Y 2 gk_rV 42 [] [] y27 _
    exact gk_vret hC hR dX8_empties_42 rfl
  · exact lk_X8_empties_23 hY hC hR a0 t0 k42_27 hk42_27 gk_fuel (0, M26)
def lp_X8_breaks_54 (LN : Nat → Nat) (RF : Nat → Nat → Nat) (v0 : Nat) (v2 : Int32) (v3 : Int32) (v4 : Int32) (v5 : Int32) (k82 : gk_M → Option (Int32 × gk_M)) : Nat → (Int32 × gk_M) → Option (Int32 × gk_M)
  | 0, _ => none
  | n + 1, x =>
    if v2 ≤ x.1 then
      k82 x.2
    else
    gk_ald LN x.2 (RF v0 30) x.1 fun x2 =>
    (f_X8_isDone LN RF v0 x2 x.2).bind fun r3 =>
    if r3.1 = 0 then
      some (0, r3.2)
    else
    lp_X8_breaks_54 LN RF v0 v2 v3 v4 v5 k82 n ((x.1 + 1), r3.2)
def lp_X8_breaks_12 (LN : Nat → Nat) (RF : Nat → Nat → Nat) (v0 : Nat) (v2 : Int32) (v3 : Int32) (v4 : Int32) (v5 : Int32) (k51 : gk_M → Option (Int32 × gk_M)) : Nat → (Int32 × Int32 × gk_M) → Option (Int32 × gk_M)
  | 0, _ => none
  | n + 1, x =>
    if x.2.1 < 0 then
      k51 x.2.2
    else
    if (x.2.2.1 v0 32) = 0 then none else
    gk_ald LN x.2.2 (RF v0 29) (x.1 - x.1 / (x.2.2.1 v0 32) * (x.2.2.1 v0 32)) fun x4 =>
    gk_ast LN x.2.2 (RF v0 30) x.2.1 x4 fun M5 =>
    if (M5.1 v0 32) = 0 then none else
    lp_X8_breaks_12 LN RF v0 v2 v3 v4 v5 k51 n ((x.1 / (M5.1 v0 32)), (x.2.1 + (-1)), M5)
def f_X8_breaks (LN : Nat → Nat) (RF : Nat → Nat → Nat) (a0 : Nat) (a1 : Int32) (a2 : Int32) (a3 : Int32) (a4 : Int32) (a5 : Int32) (M : gk_M) : Option (Int32 × gk_M) :=
  (f_X8_empties LN RF a0 M).bind fun r21 =>
  gk_jn (fun y22 : gk_M =>
    gk_jn (fun y24 : gk_M =>
      (f_X8_isBroken LN RF a0 a3 a4 a5 y24).bind fun r26 =>
      gk_zz r26 (some (r26, y24))) fun k82_24 =>
    lp_X8_breaks_54 LN RF a0 a2 a3 a4 a5 k82_24 gk_fuel (0, y22)) fun k51_22 =>
  lp_X8_breaks_12 LN RF a0 a2 a3 a4 a5 k51_22 gk_fuel (a1, (a2 - 1), r21)
set_option maxHeartbeats 4000000 in
set_option maxRecDepth 100000 in
theorem lk_X8_breaks_54 {Z : gk_Z} {Y : gk_Y} (hY : gk_WF Y) (hC : gk_C Z Y cX8_breaks 8 RX8 9) (hR : gk_R Z Y (some .boolean)) (v0 : Nat) (v2 : Int32) (v3 : Int32) (v4 : Int32) (v5 : Int32) (tv0 : gk_T Y 18 v0) (k82 : gk_M → Option (Int32 × gk_M)) (hk82 : ∀ z27 : gk_M, gk_K Z Y 8 gk_rI 82 [(0, .ref v0), (3, .int v3), (4, .int v4), (5, .int v5)] [] z27 (k82 z27)) : ∀ (n : Nat) (x : Int32 × gk_M), gk_K Z Y 8 gk_rI 54 [(0, .ref v0), (2, .int v2), (3, .int v3), (4, .int v4), (5, .int v5), (7, .int x.1)] [] x.2 (lp_X8_breaks_54 (gk_ln Y) (gk_rf Y) v0 v2 v3 v4 v5 k82 n x) := by
  intro n
  induction n with
  | zero => intro x; exact gk_none
  | succ n ih =>
    intro x
    rw [lp_X8_breaks_54]
    refine gk_iload hC 5 dX8_breaks_54 rfl (q := 56) rfl ?_
    refine gk_iload_n hC 1 dX8_breaks_56 rfl (q := 57) rfl ?_
    refine gk_icmp_ge hC dX8_breaks_57 (tg := 82) rfl (q := 60) rfl ?_ ?_
    · refine gk_pick [0, 2, 3, 4] rfl ?_
      exact hk82 x.2
    · refine gk_aload_n hC 0 dX8_breaks_60 rfl (q := 61) rfl ?_
      refine gk_aload_n hC 0 dX8_breaks_61 rfl (q := 62) rfl ?_
      refine gk_getR hC dX8_breaks_62 fl_RX8_88 (by decide) tv0 (q := 65) rfl (fun t1 => ?_)
      refine gk_iload hC 5 dX8_breaks_65 rfl (q := 67) rfl ?_
      refine gk_iald hC dX8_breaks_67 t1 (q := 68) rfl (fun x2 => ?_)
      refine gk_callV (As := [.int x2]) (rest := []) hC (fun l => m_X8_isDone l hY v0 x2 x.2 tv0) ml_RX8_255 ok_X8_isDone dX8_breaks_68 tv0 ⟨by decide, rfl⟩ rfl (by decide) (Nat.le_of_ble_eq_true rfl) rfl (q := 71) rfl (fun r3 => ?_)
      show gk_K Z Y 8 gk_rI 71 [(0, .ref v0), (2, .int v2), (3, .int v3), (4, .int v4), (5, .int v5), (7, .int x.1)] [.int r3.1] r3.2 _
      refine gk_if_ne hC dX8_breaks_71 (tg := 76) rfl (q := 74) rfl ?_ ?_
      · refine gk_iconst hC (v := 0) dX8_breaks_74 kc_i_0 (q := 75) rfl ?_
        exact gk_zret hC hR dX8_breaks_75 (Or.inl rfl) rfl
      · refine gk_iinc hC (v := 1) 5 (lv' := [(0, .ref v0), (2, .int v2), (3, .int v3), (4, .int v4), (5, .int v5), (7, .int (x.1 + 1))]) [1, 2, 3, 4, 5, 0] dX8_breaks_76 rfl kc_i_1 (by decide) rfl (q := 79) rfl ?_
        refine gk_goto hC dX8_breaks_79 (q := 54) rfl ?_
        exact ih ((x.1 + 1), r3.2)
set_option maxHeartbeats 4000000 in
set_option maxRecDepth 100000 in
theorem lk_X8_breaks_12 {Z : gk_Z} {Y : gk_Y} (hY : gk_WF Y) (hC : gk_C Z Y cX8_breaks 8 RX8 9) (hR : gk_R Z Y (some .boolean)) (v0 : Nat) (v2 : Int32) (v3 : Int32) (v4 : Int32) (v5 : Int32) (tv0 : gk_T Y 18 v0) (k51 : gk_M → Option (Int32 × gk_M)) (hk51 : ∀ z28 : gk_M, gk_K Z Y 8 gk_rI 51 [(0, .ref v0), (2, .int v2), (3, .int v3), (4, .int v4), (5, .int v5)] [] z28 (k51 z28)) : ∀ (n : Nat) (x : Int32 × Int32 × gk_M), gk_K Z Y 8 gk_rI 12 [(0, .ref v0), (2, .int v2), (3, .int v3), (4, .int v4), (5, .int v5), (6, .int x.1), (7, .int x.2.1)] [] x.2.2 (lp_X8_breaks_12 (gk_ln Y) (gk_rf Y) v0 v2 v3 v4 v5 k51 n x) := by
  intro n
  induction n with
  | zero => intro x; exact gk_none
  | succ n ih =>
    intro x
    rw [lp_X8_breaks_12]
    refine gk_iload hC 6 dX8_breaks_12 rfl (q := 14) rfl ?_
    refine gk_if_lt hC dX8_breaks_14 (tg := 51) rfl (q := 17) rfl ?_ ?_
    · refine gk_pick [0, 1, 2, 3, 4] rfl ?_
      exact hk51 x.2.2
    · refine gk_aload_n hC 0 dX8_breaks_17 rfl (q := 18) rfl ?_
      refine gk_getR hC dX8_breaks_18 fl_RX8_88 (by decide) tv0 (q := 21) rfl (fun t1 => ?_)
      refine gk_iload hC 6 dX8_breaks_21 rfl (q := 23) rfl ?_
      refine gk_aload_n hC 0 dX8_breaks_23 rfl (q := 24) rfl ?_
      refine gk_getR hC dX8_breaks_24 fl_RX8_85 (by decide) tv0 (q := 27) rfl (fun t2 => ?_)
      refine gk_iload hC 5 dX8_breaks_27 rfl (q := 29) rfl ?_
      refine gk_aload_n hC 0 dX8_breaks_29 rfl (q := 30) rfl ?_
      refine gk_getI hC dX8_breaks_30 fl_RX8_236 tv0 (q := 33) rfl ?_
      refine gk_nz (fun hz3 => ?_)
      refine gk_irem hC dX8_breaks_33 hz3 (q := 34) rfl ?_
      refine gk_iald hC dX8_breaks_34 t2 (q := 35) rfl (fun x4 => ?_)
      refine gk_iast hC dX8_breaks_35 t1 (q := 36) rfl (fun M5 => ?_)
      refine gk_iload hC 5 dX8_breaks_36 rfl (q := 38) rfl ?_
      refine gk_aload_n hC 0 dX8_breaks_38 rfl (q := 39) rfl ?_
      refine gk_getI hC dX8_breaks_39 fl_RX8_236 tv0 (q := 42) rfl ?_
      refine gk_nz (fun hz6 => ?_)
      refine gk_idiv hC dX8_breaks_42 hz6 (q := 43) rfl ?_
      refine gk_istore hC (lv' := [(0, .ref v0), (2, .int v2), (3, .int v3), (4, .int v4), (5, .int v5), (6, .int (x.1 / (M5.1 v0 32))), (7, .int x.2.1)]) [1, 2, 3, 4, 5, 0, 6] dX8_breaks_43 (by decide) rfl (q := 45) rfl ?_
      refine gk_iinc hC (v := (-1)) 6 (lv' := [(0, .ref v0), (2, .int v2), (3, .int v3), (4, .int v4), (5, .int v5), (6, .int (x.1 / (M5.1 v0 32))), (7, .int (x.2.1 + (-1)))]) [1, 2, 3, 4, 5, 6, 0] dX8_breaks_45 rfl kc_i_m1 (by decide) rfl (q := 48) rfl ?_
      refine gk_goto hC dX8_breaks_48 (q := 12) rfl ?_
      exact ih ((x.1 / (M5.1 v0 32)), (x.2.1 + (-1)), M5)
set_option maxHeartbeats 4000000 in
set_option maxRecDepth 100000 in
theorem m_X8_breaks (l : Launch) {Y : gk_Y} (hY : gk_WF Y) (a0 : Nat) (a1 : Int32) (a2 : Int32) (a3 : Int32) (a4 : Int32) (a5 : Int32) (M : gk_M) (t0 : gk_T Y 18 a0) : gk_MF l Y yX8_breaks cX8_breaks 8 (some .boolean) 9 [.ref a0, .int a1, .int a2, .int a3, .int a4, .int a5] M gk_rI (f_X8_breaks (gk_ln Y) (gk_rf Y) a0 a1 a2 a3 a4 a5 M) := by
  refine gk_met hY (plainFor_of_name (by decide)) (Nat.le_of_ble_eq_true rfl) fun Z hC hR => ?_
  show gk_K Z Y 8 gk_rI 0 [(0, .ref a0), (1, .int a1), (2, .int a2), (3, .int a3), (4, .int a4), (5, .int a5)] [] M _
  unfold f_X8_breaks
  refine gk_aload_n hC 0 dX8_breaks_0 rfl (q := 1) rfl ?_
  refine gk_callV (As := []) (rest := []) hC (fun l => m_X8_empties l hY a0 M t0) ml_RX8_252 ok_X8_empties dX8_breaks_1 t0 ⟨by decide, rfl⟩ rfl (by decide) (Nat.le_of_ble_eq_true rfl) rfl (q := 4) rfl (fun r21 => ?_)
  show gk_K Z Y 8 gk_rI 4 [(0, .ref a0), (1, .int a1), (2, .int a2), (3, .int a3), (4, .int a4), (5, .int a5)] [] r21 _
  refine gk_iload_n hC 1 dX8_breaks_4 rfl (q := 5) rfl ?_
  refine gk_istore hC (lv' := [(0, .ref a0), (2, .int a2), (3, .int a3), (4, .int a4), (5, .int a5), (6, .int a1)]) [1, 3, 4, 5, 6, 0] dX8_breaks_5 (by decide) rfl (q := 7) rfl ?_
  refine gk_iload_n hC 1 dX8_breaks_7 rfl (q := 8) rfl ?_
  refine gk_iconst hC (v := 1) dX8_breaks_8 kc_i_1 (q := 9) rfl ?_
  refine gk_isub hC dX8_breaks_9 (q := 10) rfl ?_
  refine gk_istore hC (lv' := [(0, .ref a0), (2, .int a2), (3, .int a3), (4, .int a4), (5, .int a5), (6, .int a1), (7, .int (a2 - 1))]) [1, 2, 3, 4, 5, 6, 0] dX8_breaks_10 (by decide) rfl (q := 12) rfl ?_
  refine gk_jnR (fun k51_22 => ∀ z23 : gk_M, gk_K Z Y 8 gk_rI 51 [(0, .ref a0), (2, .int a2), (3, .int a3), (4, .int a4), (5, .int a5)] [] z23 (k51_22 z23)) (fun y22 => ?_) (fun k51_22 hk51_22 => ?_)
  · show gk_K Z Y 8 gk_rI 51 [(0, .ref a0), (2, .int a2), (3, .int a3), (4, .int a4), (5, .int a5)] [] y22 _
    refine gk_iconst hC (v := 0) dX8_breaks_51 kc_i_0 (q := 52) rfl ?_
    refine gk_istore hC (lv' := [(0, .ref a0), (2, .int a2), (3, .int a3), (4, .int a4), (5, .int a5), (7, .int 0)]) [1, 2, 3, 4, 5, 0] dX8_breaks_52 (by decide) rfl (q := 54) rfl ?_
    refine gk_jnR (fun k82_24 => ∀ z25 : gk_M, gk_K Z Y 8 gk_rI 82 [(0, .ref a0), (3, .int a3), (4, .int a4), (5, .int a5)] [] z25 (k82_24 z25)) (fun y24 => ?_) (fun k82_24 hk82_24 => ?_)
    · show gk_K Z Y 8 gk_rI 82 [(0, .ref a0), (3, .int a3), (4, .int a4), (5, .int a5)] [] y24 _
      refine gk_aload_n hC 0 dX8_breaks_82 rfl (q := 83) rfl ?_
      refine gk_iload_n hC 1 dX8_breaks_83 rfl (q := 84) rfl ?_
      refine gk_iload hC 2 dX8_breaks_84 rfl (q := 86) rfl ?_
      refine gk_iload hC 3 dX8_breaks_86 rfl (q := 88) rfl ?_
      refine gk_callV (As := [.int a3, .int a4, .int a5]) (rest := []) hC (fun l => m_X8_isBroken l hY a0 a3 a4 a5 y24 t0) ml_RX8_258 ok_X8_isBroken dX8_breaks_88 t0 ⟨by decide, rfl⟩ rfl (by decide) (Nat.le_of_ble_eq_true rfl) rfl (q := 91) rfl (fun r26 => ?_)
      show gk_K Z Y 8 gk_rI 91 [(0, .ref a0), (3, .int a3), (4, .int a4), (5, .int a5)] [.int r26] y24 _
      exact gk_zzR (fun hv => gk_zret hC hR dX8_breaks_91 hv rfl)
    · exact lk_X8_breaks_54 hY hC hR a0 a2 a3 a4 a5 t0 k82_24 hk82_24 gk_fuel (0, y22)
  · exact lk_X8_breaks_12 hY hC hR a0 a2 a3 a4 a5 t0 k51_22 hk51_22 gk_fuel (a1, (a2 - 1), r21)
def lp_X8_search_54 (LN : Nat → Nat) (RF : Nat → Nat → Nat) (v0 : Nat) (v1 : Int32) (v2 : Int32) (v3 : Int32) (v5 : Int32) (v6 : Int32) (v8 : Int32) (v9 : Int32) (k90 : (Int32 × gk_M) → Option (Int32 × gk_M)) : Nat → (Int32 × Int32 × gk_M) → Option (Int32 × gk_M)
  | 0, _ => none
  | n + 1, x =>
    if v8 ≤ x.2.1 then
      k90 (x.1, x.2.2)
    else
    if x.1 = 0 then
      (f_X8_breaks LN RF v0 x.2.1 v9 v1 v2 v3 x.2.2).bind fun r1 =>
      gk_jn (fun y2 : Int32 =>
        lp_X8_search_54 LN RF v0 v1 v2 v3 v5 v6 v8 v9 k90 n (y2, (x.2.1 + 1), r1.2)) fun k84_2 =>
      if r1.1 = 0 then
        k84_2 x.1
      else
      k84_2 v9
    else
    k90 (x.1, x.2.2)
def lp_X8_search_30 (LN : Nat → Nat) (RF : Nat → Nat → Nat) (v0 : Nat) (v1 : Int32) (v2 : Int32) (v3 : Int32) (v5 : Int32) (v6 : Int32) (k96 : (Int32 × gk_M) → Option (Int32 × gk_M)) : Nat → (Int32 × Int32 × Int32 × gk_M) → Option (Int32 × gk_M)
  | 0, _ => none
  | n + 1, x =>
    if v5 < x.2.2.1 then
      k96 (x.1, x.2.2.2)
    else
    if x.1 = 0 then
      gk_jn (fun y1 : Int32 × gk_M =>
        lp_X8_search_30 LN RF v0 v1 v2 v3 v5 v6 k96 n (y1.1, (x.2.1 * (x.2.2.2.1 v0 32)), (x.2.2.1 + 1), y1.2)) fun k90_1 =>
      lp_X8_search_54 LN RF v0 v1 v2 v3 v5 v6 (x.2.1 * (x.2.2.2.1 v0 32)) x.2.2.1 k90_1 gk_fuel (x.1, 0, x.2.2.2)
    else
    k96 (x.1, x.2.2.2)
def f_X8_search (LN : Nat → Nat) (RF : Nat → Nat → Nat) (a0 : Nat) (a1 : Int32) (a2 : Int32) (a3 : Int32) (a4 : Int32) (a5 : Int32) (M : gk_M) : Option (Int32 × gk_M) :=
  (f_X8_keepsAll LN RF a0 (RF a0 22) 1 M).bind fun r22 =>
  (f_X8_findDeeds LN RF a0 a4 r22).bind fun r23 =>
  gk_jn (fun y24 : Int32 × gk_M =>
    (f_X8_keepsAll LN RF a0 (RF a0 22) 0 y24.2).bind fun r27 =>
    gk_put r27 a0 25 (M.1 a0 25) fun M28 =>
    some (y24.1, M28)) fun k96_24 =>
  lp_X8_search_30 LN RF a0 a1 a2 a3 a5 (M.1 a0 25) k96_24 gk_fuel (0, 1, 1, r23)
set_option maxHeartbeats 4000000 in
set_option maxRecDepth 100000 in
theorem lk_X8_search_54 {Z : gk_Z} {Y : gk_Y} (hY : gk_WF Y) (hC : gk_C Z Y cX8_search 11 RX8 10) (hR : gk_R Z Y (some .int)) (v0 : Nat) (v1 : Int32) (v2 : Int32) (v3 : Int32) (v5 : Int32) (v6 : Int32) (v8 : Int32) (v9 : Int32) (tv0 : gk_T Y 18 v0) (k90 : (Int32 × gk_M) → Option (Int32 × gk_M)) (hk90 : ∀ z4 : Int32 × gk_M, gk_K Z Y 11 gk_rI 90 [(0, .ref v0), (1, .int v1), (2, .int v2), (3, .int v3), (5, .int v5), (6, .int v6), (7, .int z4.1), (8, .int v8), (9, .int v9)] [] z4.2 (k90 z4)) : ∀ (n : Nat) (x : Int32 × Int32 × gk_M), gk_K Z Y 11 gk_rI 54 [(0, .ref v0), (1, .int v1), (2, .int v2), (3, .int v3), (5, .int v5), (6, .int v6), (7, .int x.1), (8, .int v8), (9, .int v9), (10, .int x.2.1)] [] x.2.2 (lp_X8_search_54 (gk_ln Y) (gk_rf Y) v0 v1 v2 v3 v5 v6 v8 v9 k90 n x) := by
  intro n
  induction n with
  | zero => intro x; exact gk_none
  | succ n ih =>
    intro x
    rw [lp_X8_search_54]
    refine gk_iload hC 9 dX8_search_54 rfl (q := 56) rfl ?_
    refine gk_iload hC 7 dX8_search_56 rfl (q := 58) rfl ?_
    refine gk_icmp_ge hC dX8_search_58 (tg := 90) rfl (q := 61) rfl ?_ ?_
    · refine gk_pick [0, 1, 2, 3, 4, 5, 6, 7, 8] rfl ?_
      exact hk90 (x.1, x.2.2)
    · refine gk_iload hC 6 dX8_search_61 rfl (q := 63) rfl ?_
      refine gk_if_ne hC dX8_search_63 (tg := 90) rfl (q := 66) rfl ?_ ?_
      · refine gk_aload_n hC 0 dX8_search_66 rfl (q := 67) rfl ?_
        refine gk_iload hC 9 dX8_search_67 rfl (q := 69) rfl ?_
        refine gk_iload hC 8 dX8_search_69 rfl (q := 71) rfl ?_
        refine gk_iload_n hC 1 dX8_search_71 rfl (q := 72) rfl ?_
        refine gk_iload_n hC 2 dX8_search_72 rfl (q := 73) rfl ?_
        refine gk_iload_n hC 3 dX8_search_73 rfl (q := 74) rfl ?_
        refine gk_callV (As := [.int x.2.1, .int v9, .int v1, .int v2, .int v3]) (rest := []) hC (fun l => m_X8_breaks l hY v0 x.2.1 v9 v1 v2 v3 x.2.2 tv0) ml_RX8_264 ok_X8_breaks dX8_search_74 tv0 ⟨by decide, rfl⟩ rfl (by decide) (Nat.le_of_ble_eq_true rfl) rfl (q := 77) rfl (fun r1 => ?_)
        show gk_K Z Y 11 gk_rI 77 [(0, .ref v0), (1, .int v1), (2, .int v2), (3, .int v3), (5, .int v5), (6, .int v6), (7, .int x.1), (8, .int v8), (9, .int v9), (10, .int x.2.1)] [.int r1.1] r1.2 _
        refine gk_jnR (fun k84_2 => ∀ z3 : Int32, gk_K Z Y 11 gk_rI 84 [(0, .ref v0), (1, .int v1), (2, .int v2), (3, .int v3), (5, .int v5), (6, .int v6), (7, .int z3), (8, .int v8), (9, .int v9), (10, .int x.2.1)] [] r1.2 (k84_2 z3)) (fun y2 => ?_) (fun k84_2 hk84_2 => ?_)
        · show gk_K Z Y 11 gk_rI 84 [(0, .ref v0), (1, .int v1), (2, .int v2), (3, .int v3), (5, .int v5), (6, .int v6), (7, .int y2), (8, .int v8), (9, .int v9), (10, .int x.2.1)] [] r1.2 _
          refine gk_iinc hC (v := 1) 9 (lv' := [(0, .ref v0), (1, .int v1), (2, .int v2), (3, .int v3), (5, .int v5), (6, .int v6), (7, .int y2), (8, .int v8), (9, .int v9), (10, .int (x.2.1 + 1))]) [1, 2, 3, 4, 5, 6, 7, 8, 9, 0] dX8_search_84 rfl kc_i_1 (by decide) rfl (q := 87) rfl ?_
          refine gk_goto hC dX8_search_87 (q := 54) rfl ?_
          exact ih (y2, (x.2.1 + 1), r1.2)
        · refine gk_if_eq hC dX8_search_77 (tg := 84) rfl (q := 80) rfl ?_ ?_
          · exact hk84_2 x.1
          · refine gk_iload hC 8 dX8_search_80 rfl (q := 82) rfl ?_
            refine gk_istore hC (lv' := [(0, .ref v0), (1, .int v1), (2, .int v2), (3, .int v3), (5, .int v5), (6, .int v6), (7, .int v9), (8, .int v8), (9, .int v9), (10, .int x.2.1)]) [1, 2, 3, 4, 5, 6, 0, 7, 8, 9] dX8_search_82 (by decide) rfl (q := 84) rfl ?_
            exact hk84_2 v9
      · refine gk_pick [0, 1, 2, 3, 4, 5, 6, 7, 8] rfl ?_
        exact hk90 (x.1, x.2.2)
set_option maxHeartbeats 4000000 in
set_option maxRecDepth 100000 in
theorem lk_X8_search_30 {Z : gk_Z} {Y : gk_Y} (hY : gk_WF Y) (hC : gk_C Z Y cX8_search 11 RX8 10) (hR : gk_R Z Y (some .int)) (v0 : Nat) (v1 : Int32) (v2 : Int32) (v3 : Int32) (v5 : Int32) (v6 : Int32) (tv0 : gk_T Y 18 v0) (k96 : (Int32 × gk_M) → Option (Int32 × gk_M)) (hk96 : ∀ z29 : Int32 × gk_M, gk_K Z Y 11 gk_rI 96 [(0, .ref v0), (6, .int v6), (7, .int z29.1)] [] z29.2 (k96 z29)) : ∀ (n : Nat) (x : Int32 × Int32 × Int32 × gk_M), gk_K Z Y 11 gk_rI 30 [(0, .ref v0), (1, .int v1), (2, .int v2), (3, .int v3), (5, .int v5), (6, .int v6), (7, .int x.1), (8, .int x.2.1), (9, .int x.2.2.1)] [] x.2.2.2 (lp_X8_search_30 (gk_ln Y) (gk_rf Y) v0 v1 v2 v3 v5 v6 k96 n x) := by
  intro n
  induction n with
  | zero => intro x; exact gk_none
  | succ n ih =>
    intro x
    rw [lp_X8_search_30]
    refine gk_iload hC 8 dX8_search_30 rfl (q := 32) rfl ?_
    refine gk_iload hC 4 dX8_search_32 rfl (q := 34) rfl ?_
    refine gk_icmp_gt hC dX8_search_34 (tg := 96) rfl (q := 37) rfl ?_ ?_
    · refine gk_pick [0, 5, 6] rfl ?_
      exact hk96 (x.1, x.2.2.2)
    · refine gk_iload hC 6 dX8_search_37 rfl (q := 39) rfl ?_
      refine gk_if_ne hC dX8_search_39 (tg := 96) rfl (q := 42) rfl ?_ ?_
      · refine gk_iload hC 7 dX8_search_42 rfl (q := 44) rfl ?_
        refine gk_aload_n hC 0 dX8_search_44 rfl (q := 45) rfl ?_
        refine gk_getI hC dX8_search_45 fl_RX8_236 tv0 (q := 48) rfl ?_
        refine gk_imul hC dX8_search_48 (q := 49) rfl ?_
        refine gk_istore hC (lv' := [(0, .ref v0), (1, .int v1), (2, .int v2), (3, .int v3), (5, .int v5), (6, .int v6), (7, .int x.1), (8, .int (x.2.1 * (x.2.2.2.1 v0 32))), (9, .int x.2.2.1)]) [1, 2, 3, 4, 5, 6, 7, 0, 8] dX8_search_49 (by decide) rfl (q := 51) rfl ?_
        refine gk_iconst hC (v := 0) dX8_search_51 kc_i_0 (q := 52) rfl ?_
        refine gk_istore hC (lv' := [(0, .ref v0), (1, .int v1), (2, .int v2), (3, .int v3), (5, .int v5), (6, .int v6), (7, .int x.1), (8, .int (x.2.1 * (x.2.2.2.1 v0 32))), (9, .int x.2.2.1), (10, .int 0)]) [1, 2, 3, 4, 5, 6, 7, 8, 9, 0] dX8_search_52 (by decide) rfl (q := 54) rfl ?_
        refine gk_jnR (fun k90_1 => ∀ z2 : Int32 × gk_M, gk_K Z Y 11 gk_rI 90 [(0, .ref v0), (1, .int v1), (2, .int v2), (3, .int v3), (5, .int v5), (6, .int v6), (7, .int z2.1), (8, .int (x.2.1 * (x.2.2.2.1 v0 32))), (9, .int x.2.2.1)] [] z2.2 (k90_1 z2)) (fun y1 => ?_) (fun k90_1 hk90_1 => ?_)
        · show gk_K Z Y 11 gk_rI 90 [(0, .ref v0), (1, .int v1), (2, .int v2), (3, .int v3), (5, .int v5), (6, .int v6), (7, .int y1.1), (8, .int (x.2.1 * (x.2.2.2.1 v0 32))), (9, .int x.2.2.1)] [] y1.2 _
          refine gk_iinc hC (v := 1) 8 (lv' := [(0, .ref v0), (1, .int v1), (2, .int v2), (3, .int v3), (5, .int v5), (6, .int v6), (7, .int y1.1), (8, .int (x.2.1 * (x.2.2.2.1 v0 32))), (9, .int (x.2.2.1 + 1))]) [1, 2, 3, 4, 5, 6, 7, 8, 0] dX8_search_90 rfl kc_i_1 (by decide) rfl (q := 93) rfl ?_
          refine gk_goto hC dX8_search_93 (q := 30) rfl ?_
          exact ih (y1.1, (x.2.1 * (x.2.2.2.1 v0 32)), (x.2.2.1 + 1), y1.2)
        · exact lk_X8_search_54 hY hC hR v0 v1 v2 v3 v5 v6 (x.2.1 * (x.2.2.2.1 v0 32)) x.2.2.1 tv0 k90_1 hk90_1 gk_fuel (x.1, 0, x.2.2.2)
      · refine gk_pick [0, 5, 6] rfl ?_
        exact hk96 (x.1, x.2.2.2)
set_option maxHeartbeats 4000000 in
set_option maxRecDepth 100000 in
theorem m_X8_search (l : Launch) {Y : gk_Y} (hY : gk_WF Y) (a0 : Nat) (a1 : Int32) (a2 : Int32) (a3 : Int32) (a4 : Int32) (a5 : Int32) (M : gk_M) (t0 : gk_T Y 18 a0) : gk_MF l Y yX8_search cX8_search 11 (some .int) 10 [.ref a0, .int a1, .int a2, .int a3, .int a4, .int a5] M gk_rI (f_X8_search (gk_ln Y) (gk_rf Y) a0 a1 a2 a3 a4 a5 M) := by
  refine gk_met hY (plainFor_of_name (by decide)) (Nat.le_of_ble_eq_true rfl) fun Z hC hR => ?_
  show gk_K Z Y 11 gk_rI 0 [(0, .ref a0), (1, .int a1), (2, .int a2), (3, .int a3), (4, .int a4), (5, .int a5)] [] M _
  unfold f_X8_search
  refine gk_aload_n hC 0 dX8_search_0 rfl (q := 1) rfl ?_
  refine gk_getI hC dX8_search_1 fl_RX8_109 t0 (q := 4) rfl ?_
  refine gk_istore hC (lv' := [(0, .ref a0), (1, .int a1), (2, .int a2), (3, .int a3), (4, .int a4), (5, .int a5), (6, .int (M.1 a0 25))]) [1, 2, 3, 4, 5, 6, 0] dX8_search_4 (by decide) rfl (q := 6) rfl ?_
  refine gk_aload_n hC 0 dX8_search_6 rfl (q := 7) rfl ?_
  refine gk_aload_n hC 0 dX8_search_7 rfl (q := 8) rfl ?_
  refine gk_getR hC dX8_search_8 fl_RX8_76 (by decide) t0 (q := 11) rfl (fun t21 => ?_)
  refine gk_iconst hC (v := 1) dX8_search_11 kc_i_1 (q := 12) rfl ?_
  refine gk_callV (As := [.ref ((gk_rf Y) a0 22), .int 1]) (rest := []) hC (fun l => m_X8_keepsAll l hY a0 ((gk_rf Y) a0 22) 1 M t0 t21) ml_RX8_219 ok_X8_keepsAll dX8_search_12 t0 ⟨by decide, rfl⟩ rfl (by decide) (Nat.le_of_ble_eq_true rfl) rfl (q := 15) rfl (fun r22 => ?_)
  show gk_K Z Y 11 gk_rI 15 [(0, .ref a0), (1, .int a1), (2, .int a2), (3, .int a3), (4, .int a4), (5, .int a5), (6, .int (M.1 a0 25))] [] r22 _
  refine gk_aload_n hC 0 dX8_search_15 rfl (q := 16) rfl ?_
  refine gk_iload hC 4 dX8_search_16 rfl (q := 18) rfl ?_
  refine gk_callV (As := [.int a4]) (rest := []) hC (fun l => m_X8_findDeeds l hY a0 a4 r22 t0) ml_RX8_261 ok_X8_findDeeds dX8_search_18 t0 ⟨by decide, rfl⟩ rfl (by decide) (Nat.le_of_ble_eq_true rfl) rfl (q := 21) rfl (fun r23 => ?_)
  show gk_K Z Y 11 gk_rI 21 [(0, .ref a0), (1, .int a1), (2, .int a2), (3, .int a3), (4, .int a4), (5, .int a5), (6, .int (M.1 a0 25))] [] r23 _
  refine gk_iconst hC (v := 0) dX8_search_21 kc_i_0 (q := 22) rfl ?_
  refine gk_istore hC (lv' := [(0, .ref a0), (1, .int a1), (2, .int a2), (3, .int a3), (5, .int a5), (6, .int (M.1 a0 25)), (7, .int 0)]) [1, 2, 3, 4, 6, 7, 0] dX8_search_22 (by decide) rfl (q := 24) rfl ?_
  refine gk_iconst hC (v := 1) dX8_search_24 kc_i_1 (q := 25) rfl ?_
  refine gk_istore hC (lv' := [(0, .ref a0), (1, .int a1), (2, .int a2), (3, .int a3), (5, .int a5), (6, .int (M.1 a0 25)), (7, .int 0), (8, .int 1)]) [1, 2, 3, 4, 5, 6, 7, 0] dX8_search_25 (by decide) rfl (q := 27) rfl ?_
  refine gk_iconst hC (v := 1) dX8_search_27 kc_i_1 (q := 28) rfl ?_
  refine gk_istore hC (lv' := [(0, .ref a0), (1, .int a1), (2, .int a2), (3, .int a3), (5, .int a5), (6, .int (M.1 a0 25)), (7, .int 0), (8, .int 1), (9, .int 1)]) [1, 2, 3, 4, 5, 6, 7, 8, 0] dX8_search_28 (by decide) rfl (q := 30) rfl ?_
  refine gk_jnR (fun k96_24 => ∀ z25 : Int32 × gk_M, gk_K Z Y 11 gk_rI 96 [(0, .ref a0), (6, .int (M.1 a0 25)), (7, .int z25.1)] [] z25.2 (k96_24 z25)) (fun y24 => ?_) (fun k96_24 hk96_24 => ?_)
  · show gk_K Z Y 11 gk_rI 96 [(0, .ref a0), (6, .int (M.1 a0 25)), (7, .int y24.1)] [] y24.2 _
    refine gk_aload_n hC 0 dX8_search_96 rfl (q := 97) rfl ?_
    refine gk_aload_n hC 0 dX8_search_97 rfl (q := 98) rfl ?_
    refine gk_getR hC dX8_search_98 fl_RX8_76 (by decide) t0 (q := 101) rfl (fun t26 => ?_)
    refine gk_iconst hC (v := 0) dX8_search_101 kc_i_0 (q := 102) rfl ?_
    refine gk_callV (As := [.ref ((gk_rf Y) a0 22), .int 0]) (rest := []) hC (fun l => m_X8_keepsAll l hY a0 ((gk_rf Y) a0 22) 0 y24.2 t0 t26) ml_RX8_219 ok_X8_keepsAll dX8_search_102 t0 ⟨by decide, rfl⟩ rfl (by decide) (Nat.le_of_ble_eq_true rfl) rfl (q := 105) rfl (fun r27 => ?_)
    show gk_K Z Y 11 gk_rI 105 [(0, .ref a0), (6, .int (M.1 a0 25)), (7, .int y24.1)] [] r27 _
    refine gk_aload_n hC 0 dX8_search_105 rfl (q := 106) rfl ?_
    refine gk_iload hC 1 dX8_search_106 rfl (q := 108) rfl ?_
    refine gk_putI hC dX8_search_108 fp_RX8_109 t0 (q := 111) rfl (fun M28 => ?_)
    refine gk_iload hC 2 dX8_search_111 rfl (q := 113) rfl ?_
    exact gk_iret hC hR dX8_search_113 rfl
  · exact lk_X8_search_30 hY hC hR a0 a1 a2 a3 a5 (M.1 a0 25) t0 k96_24 hk96_24 gk_fuel (0, 1, 1, r23)
def lp_X8_bits_4 (LN : Nat → Nat) (RF : Nat → Nat → Nat) (v0 : Int32) (M : gk_M) (k24 : Int32 → Option (Int32)) : Nat → (Int32 × Int32) → Option (Int32)
  | 0, _ => none
  | n + 1, x =>
    if 8 ≤ x.2 then
      k24 x.1
    else
    lp_X8_bits_4 LN RF v0 M k24 n ((x.1 + ((v0 >>> (x.2 &&& 31)) &&& 1)), (x.2 + 1))
def f_X8_bits (LN : Nat → Nat) (RF : Nat → Nat → Nat) (a0 : Int32) (M : gk_M) : Option (Int32) :=
  gk_jn (fun y21 : Int32 =>
    some y21) fun k24_21 =>
  lp_X8_bits_4 LN RF a0 M k24_21 gk_fuel (0, 0)
set_option maxHeartbeats 4000000 in
set_option maxRecDepth 100000 in
theorem lk_X8_bits_4 {Z : gk_Z} {Y : gk_Y} (hY : gk_WF Y) (hC : gk_C Z Y cX8_bits 3 RX8 0) (hR : gk_R Z Y (some .int)) (v0 : Int32) (M : gk_M) (k24 : Int32 → Option (Int32)) (hk24 : ∀ z23 : Int32, gk_K Z Y 3 (gk_rR M) 24 [(1, .int z23)] [] M (k24 z23)) : ∀ (n : Nat) (x : Int32 × Int32), gk_K Z Y 3 (gk_rR M) 4 [(0, .int v0), (1, .int x.1), (2, .int x.2)] [] M (lp_X8_bits_4 (gk_ln Y) (gk_rf Y) v0 M k24 n x) := by
  intro n
  induction n with
  | zero => intro x; exact gk_none
  | succ n ih =>
    intro x
    rw [lp_X8_bits_4]
    refine gk_iload_n hC 2 dX8_bits_4 rfl (q := 5) rfl ?_
    refine gk_bipush hC (v := 8) dX8_bits_5 kc_b_8 (q := 7) rfl ?_
    refine gk_icmp_ge hC dX8_bits_7 (tg := 24) rfl (q := 10) rfl ?_ ?_
    · refine gk_pick [1] rfl ?_
      exact hk24 x.1
    · refine gk_iload_n hC 1 dX8_bits_10 rfl (q := 11) rfl ?_
      refine gk_iload_n hC 0 dX8_bits_11 rfl (q := 12) rfl ?_
      refine gk_iload_n hC 2 dX8_bits_12 rfl (q := 13) rfl ?_
      refine gk_ishr hC dX8_bits_13 (q := 14) rfl ?_
      refine gk_iconst hC (v := 1) dX8_bits_14 kc_i_1 (q := 15) rfl ?_
      refine gk_iand hC dX8_bits_15 (q := 16) rfl ?_
      refine gk_iadd hC dX8_bits_16 (q := 17) rfl ?_
      refine gk_istore_n hC (lv' := [(0, .int v0), (1, .int (x.1 + ((v0 >>> (x.2 &&& 31)) &&& 1))), (2, .int x.2)]) [1, 0, 2] dX8_bits_17 (by decide) rfl (q := 18) rfl ?_
      refine gk_iinc hC (v := 1) 2 (lv' := [(0, .int v0), (1, .int (x.1 + ((v0 >>> (x.2 &&& 31)) &&& 1))), (2, .int (x.2 + 1))]) [1, 2, 0] dX8_bits_18 rfl kc_i_1 (by decide) rfl (q := 21) rfl ?_
      refine gk_goto hC dX8_bits_21 (q := 4) rfl ?_
      exact ih ((x.1 + ((v0 >>> (x.2 &&& 31)) &&& 1)), (x.2 + 1))
set_option maxHeartbeats 4000000 in
set_option maxRecDepth 100000 in
theorem m_X8_bits (l : Launch) {Y : gk_Y} (hY : gk_WF Y) (a0 : Int32) (M : gk_M)  : gk_MF l Y yX8_bits cX8_bits 3 (some .int) 0 [.int a0] M (gk_rR M) (f_X8_bits (gk_ln Y) (gk_rf Y) a0 M) := by
  refine gk_met hY (plainFor_of_name (by decide)) (Nat.le_of_ble_eq_true rfl) fun Z hC hR => ?_
  show gk_K Z Y 3 (gk_rR M) 0 [(0, .int a0)] [] M _
  unfold f_X8_bits
  refine gk_iconst hC (v := 0) dX8_bits_0 kc_i_0 (q := 1) rfl ?_
  refine gk_istore_n hC (lv' := [(0, .int a0), (1, .int 0)]) [1, 0] dX8_bits_1 (by decide) rfl (q := 2) rfl ?_
  refine gk_iconst hC (v := 0) dX8_bits_2 kc_i_0 (q := 3) rfl ?_
  refine gk_istore_n hC (lv' := [(0, .int a0), (1, .int 0), (2, .int 0)]) [1, 2, 0] dX8_bits_3 (by decide) rfl (q := 4) rfl ?_
  refine gk_jnR (fun k24_21 => ∀ z22 : Int32, gk_K Z Y 3 (gk_rR M) 24 [(1, .int z22)] [] M (k24_21 z22)) (fun y21 => ?_) (fun k24_21 hk24_21 => ?_)
  · show gk_K Z Y 3 (gk_rR M) 24 [(1, .int y21)] [] M _
    refine gk_iload_n hC 0 dX8_bits_24 rfl (q := 25) rfl ?_
    exact gk_iret hC hR dX8_bits_25 rfl
  · exact lk_X8_bits_4 hY hC hR a0 M k24_21 hk24_21 gk_fuel (0, 0)
def f_X8_isAsked (LN : Nat → Nat) (RF : Nat → Nat → Nat) (a0 : Nat) (a1 : Int32) (a2 : Int32) (a3 : Int32) (a4 : Int32) (a5 : Int32) (M : gk_M) : Option (Int32) :=
  (f_X8_isIn LN RF (Int32.toInt64 a1) 0 2 M).bind fun r21 =>
  gk_jn (fun y22 : Unit =>
    some 0) fun k33_22 =>
  if r21 = 0 then
    k33_22 ()
  else
  (f_X8_isLine LN RF a0 a2 M).bind fun r24 =>
  if r24 = 0 then
    k33_22 ()
  else
  gk_jn (fun y25 : Unit =>
    gk_jn (fun y27 : Int32 =>
      gk_zz y27 (some y27)) fun k80_27 =>
    gk_jn (fun y29 : Unit =>
      k80_27 0) fun k79_29 =>
    if a4 < 0 then
      k79_29 ()
    else
    gk_ald LN M (RF a0 20) 0 fun x32 =>
    if (1 <<< (x32 &&& 31)) ≤ a4 then
      k79_29 ()
    else
    (f_X8_bits LN RF a4 M).bind fun r33 =>
    if 3 < r33 then
      k79_29 ()
    else
    (f_X8_isIn LN RF (Int32.toInt64 a5) 1 3 M).bind fun r34 =>
    if r34 = 0 then
      k79_29 ()
    else
    k80_27 1) fun k35_25 =>
  if a1 = 1 then
    k35_25 ()
  else
  (f_X8_isLine LN RF a0 a3 M).bind fun r35 =>
  if r35 = 0 then
    k33_22 ()
  else
  k35_25 ()
set_option maxHeartbeats 4000000 in
set_option maxRecDepth 100000 in
theorem m_X8_isAsked (l : Launch) {Y : gk_Y} (hY : gk_WF Y) (a0 : Nat) (a1 : Int32) (a2 : Int32) (a3 : Int32) (a4 : Int32) (a5 : Int32) (M : gk_M) (t0 : gk_T Y 18 a0) : gk_MF l Y yX8_isAsked cX8_isAsked 6 (some .boolean) 1 [.ref a0, .int a1, .int a2, .int a3, .int a4, .int a5] M (gk_rR M) (f_X8_isAsked (gk_ln Y) (gk_rf Y) a0 a1 a2 a3 a4 a5 M) := by
  refine gk_met hY (plainFor_of_name (by decide)) (Nat.le_of_ble_eq_true rfl) fun Z hC hR => ?_
  show gk_K Z Y 6 (gk_rR M) 0 [(0, .ref a0), (1, .int a1), (2, .int a2), (3, .int a3), (4, .int a4), (5, .int a5)] [] M _
  unfold f_X8_isAsked
  refine gk_iload_n hC 1 dX8_isAsked_0 rfl (q := 1) rfl ?_
  refine gk_i2l hC dX8_isAsked_1 (q := 2) rfl ?_
  refine gk_lconst hC (v := 0) dX8_isAsked_2 kc_l_0 (q := 3) rfl ?_
  refine gk_ldc2 hC (v := 2) cl_RX8_267 dX8_isAsked_3 (q := 6) rfl ?_
  refine gk_callS (As := [.long (Int32.toInt64 a1), .long 0, .long 2]) (rest := []) hC (fun l => m_X8_isIn l hY (Int32.toInt64 a1) 0 2 M) ml_RX8_126 ok_X8_isIn dX8_isAsked_6 rfl (by decide) (Nat.le_of_ble_eq_true rfl) rfl (q := 9) rfl (fun r21 => ?_)
  show gk_K Z Y 6 (gk_rR M) 9 [(0, .ref a0), (1, .int a1), (2, .int a2), (3, .int a3), (4, .int a4), (5, .int a5)] [.int r21] M _
  refine gk_jnR (fun k33_22 => ∀ z23 : Unit, gk_K Z Y 6 (gk_rR M) 33 [] [] M (k33_22 z23)) (fun y22 => ?_) (fun k33_22 hk33_22 => ?_)
  · show gk_K Z Y 6 (gk_rR M) 33 [] [] M _
    refine gk_iconst hC (v := 0) dX8_isAsked_33 kc_i_0 (q := 34) rfl ?_
    exact gk_zret hC hR dX8_isAsked_34 (Or.inl rfl) rfl
  · refine gk_if_eq hC dX8_isAsked_9 (tg := 33) rfl (q := 12) rfl ?_ ?_
    · refine gk_pick [] rfl ?_
      exact hk33_22 ()
    · refine gk_aload_n hC 0 dX8_isAsked_12 rfl (q := 13) rfl ?_
      refine gk_iload_n hC 2 dX8_isAsked_13 rfl (q := 14) rfl ?_
      refine gk_callV (As := [.int a2]) (rest := []) hC (fun l => m_X8_isLine l hY a0 a2 M t0) ml_RX8_120 ok_X8_isLine dX8_isAsked_14 t0 ⟨by decide, rfl⟩ rfl (by decide) (Nat.le_of_ble_eq_true rfl) rfl (q := 17) rfl (fun r24 => ?_)
      show gk_K Z Y 6 (gk_rR M) 17 [(0, .ref a0), (1, .int a1), (2, .int a2), (3, .int a3), (4, .int a4), (5, .int a5)] [.int r24] M _
      refine gk_if_eq hC dX8_isAsked_17 (tg := 33) rfl (q := 20) rfl ?_ ?_
      · refine gk_pick [] rfl ?_
        exact hk33_22 ()
      · refine gk_iload_n hC 1 dX8_isAsked_20 rfl (q := 21) rfl ?_
        refine gk_iconst hC (v := 1) dX8_isAsked_21 kc_i_1 (q := 22) rfl ?_
        refine gk_jnR (fun k35_25 => ∀ z26 : Unit, gk_K Z Y 6 (gk_rR M) 35 [(0, .ref a0), (4, .int a4), (5, .int a5)] [] M (k35_25 z26)) (fun y25 => ?_) (fun k35_25 hk35_25 => ?_)
        · show gk_K Z Y 6 (gk_rR M) 35 [(0, .ref a0), (4, .int a4), (5, .int a5)] [] M _
          refine gk_iload hC 1 dX8_isAsked_35 rfl (q := 37) rfl ?_
          refine gk_jnR (fun k80_27 => ∀ z28 : Int32, gk_K Z Y 6 (gk_rR M) 80 [] [.int z28] M (k80_27 z28)) (fun y27 => ?_) (fun k80_27 hk80_27 => ?_)
          · show gk_K Z Y 6 (gk_rR M) 80 [] [.int y27] M _
            exact gk_zzR (fun hv => gk_zret hC hR dX8_isAsked_80 hv rfl)
          · refine gk_jnR (fun k79_29 => ∀ z30 : Unit, gk_K Z Y 6 (gk_rR M) 79 [] [] M (k79_29 z30)) (fun y29 => ?_) (fun k79_29 hk79_29 => ?_)
            · show gk_K Z Y 6 (gk_rR M) 79 [] [] M _
              refine gk_iconst hC (v := 0) dX8_isAsked_79 kc_i_0 (q := 80) rfl ?_
              exact hk80_27 0
            · refine gk_if_lt hC dX8_isAsked_37 (tg := 79) rfl (q := 40) rfl ?_ ?_
              · refine gk_pick [] rfl ?_
                exact hk79_29 ()
              · refine gk_iload hC 1 dX8_isAsked_40 rfl (q := 42) rfl ?_
                refine gk_iconst hC (v := 1) dX8_isAsked_42 kc_i_1 (q := 43) rfl ?_
                refine gk_aload_n hC 0 dX8_isAsked_43 rfl (q := 44) rfl ?_
                refine gk_getR hC dX8_isAsked_44 fl_RX8_70 (by decide) t0 (q := 47) rfl (fun t31 => ?_)
                refine gk_iconst hC (v := 0) dX8_isAsked_47 kc_i_0 (q := 48) rfl ?_
                refine gk_iald hC dX8_isAsked_48 t31 (q := 49) rfl (fun x32 => ?_)
                refine gk_ishl hC dX8_isAsked_49 (q := 50) rfl ?_
                refine gk_icmp_ge hC dX8_isAsked_50 (tg := 79) rfl (q := 53) rfl ?_ ?_
                · refine gk_pick [] rfl ?_
                  exact hk79_29 ()
                · refine gk_iload hC 1 dX8_isAsked_53 rfl (q := 55) rfl ?_
                  refine gk_callS (As := [.int a4]) (rest := []) hC (fun l => m_X8_bits l hY a4 M) ml_RX8_269 ok_X8_bits dX8_isAsked_55 rfl (by decide) (Nat.le_of_ble_eq_true rfl) rfl (q := 58) rfl (fun r33 => ?_)
                  show gk_K Z Y 6 (gk_rR M) 58 [(0, .ref a0), (4, .int a4), (5, .int a5)] [.int r33] M _
                  refine gk_iconst hC (v := 3) dX8_isAsked_58 kc_i_3 (q := 59) rfl ?_
                  refine gk_icmp_gt hC dX8_isAsked_59 (tg := 79) rfl (q := 62) rfl ?_ ?_
                  · refine gk_pick [] rfl ?_
                    exact hk79_29 ()
                  · refine gk_iload hC 2 dX8_isAsked_62 rfl (q := 64) rfl ?_
                    refine gk_i2l hC dX8_isAsked_64 (q := 65) rfl ?_
                    refine gk_lconst hC (v := 1) dX8_isAsked_65 kc_l_1 (q := 66) rfl ?_
                    refine gk_ldc2 hC (v := 3) cl_RX8_272 dX8_isAsked_66 (q := 69) rfl ?_
                    refine gk_callS (As := [.long (Int32.toInt64 a5), .long 1, .long 3]) (rest := []) hC (fun l => m_X8_isIn l hY (Int32.toInt64 a5) 1 3 M) ml_RX8_126 ok_X8_isIn dX8_isAsked_69 rfl (by decide) (Nat.le_of_ble_eq_true rfl) rfl (q := 72) rfl (fun r34 => ?_)
                    show gk_K Z Y 6 (gk_rR M) 72 [(0, .ref a0), (4, .int a4), (5, .int a5)] [.int r34] M _
                    refine gk_if_eq hC dX8_isAsked_72 (tg := 79) rfl (q := 75) rfl ?_ ?_
                    · refine gk_pick [] rfl ?_
                      exact hk79_29 ()
                    · refine gk_iconst hC (v := 1) dX8_isAsked_75 kc_i_1 (q := 76) rfl ?_
                      refine gk_goto hC dX8_isAsked_76 (q := 80) rfl ?_
                      refine gk_pick [] rfl ?_
                      exact hk80_27 1
        · refine gk_icmp_eq hC dX8_isAsked_22 (tg := 35) rfl (q := 25) rfl ?_ ?_
          · refine gk_pick [0, 4, 5] rfl ?_
            exact hk35_25 ()
          · refine gk_aload_n hC 0 dX8_isAsked_25 rfl (q := 26) rfl ?_
            refine gk_iload_n hC 3 dX8_isAsked_26 rfl (q := 27) rfl ?_
            refine gk_callV (As := [.int a3]) (rest := []) hC (fun l => m_X8_isLine l hY a0 a3 M t0) ml_RX8_120 ok_X8_isLine dX8_isAsked_27 t0 ⟨by decide, rfl⟩ rfl (by decide) (Nat.le_of_ble_eq_true rfl) rfl (q := 30) rfl (fun r35 => ?_)
            show gk_K Z Y 6 (gk_rR M) 30 [(0, .ref a0), (1, .int a1), (2, .int a2), (3, .int a3), (4, .int a4), (5, .int a5)] [.int r35] M _
            refine gk_if_ne hC dX8_isAsked_30 (tg := 35) rfl (q := 33) rfl ?_ ?_
            · refine gk_pick [] rfl ?_
              exact hk33_22 ()
            · refine gk_pick [0, 4, 5] rfl ?_
              exact hk35_25 ()
def lp_X8_judge_38 (LN : Nat → Nat) (RF : Nat → Nat → Nat) (v0 : Nat) (k67 : gk_M → Option (Int32 × gk_M)) : Nat → (Int32 × gk_M) → Option (Int32 × gk_M)
  | 0, _ => none
  | n + 1, x =>
    if (x.2.1 v0 33) ≤ x.1 then
      k67 x.2
    else
    gk_ald LN x.2 (RF v0 30) x.1 fun x3 =>
    gk_ast LN x.2 (RF v0 31) x.1 x3 fun M4 =>
    lp_X8_judge_38 LN RF v0 k67 n ((x.1 + 1), M4)
def f_X8_judge (LN : Nat → Nat) (RF : Nat → Nat → Nat) (a0 : Nat) (a1 : Int32) (a2 : Int32) (a3 : Int32) (a4 : Int32) (a5 : Int32) (M : gk_M) : Option (Int32 × gk_M) :=
  (f_X8_isAsked LN RF a0 a1 a2 a3 a4 a5 M).bind fun r21 =>
  if r21 = 0 then
    (f_X8_refused LN RF a0 1 M).bind fun r22 =>
    some (r22.1, r22.2)
  else
  (f_X8_search LN RF a0 a1 a2 a3 a4 a5 M).bind fun r23 =>
  gk_put r23.2 a0 33 r23.1 fun M24 =>
  gk_jn (fun y25 : gk_M =>
    (f_X8_done LN RF a0 (y25.1 a0 33) y25).bind fun r27 =>
    some (r27.1, r27.2)) fun k67_25 =>
  lp_X8_judge_38 LN RF a0 k67_25 gk_fuel (0, M24)
set_option maxHeartbeats 4000000 in
set_option maxRecDepth 100000 in
theorem lk_X8_judge_38 {Z : gk_Z} {Y : gk_Y} (hY : gk_WF Y) (hC : gk_C Z Y cX8_judge 7 RX8 11) (hR : gk_R Z Y (some .int)) (v0 : Nat) (tv0 : gk_T Y 18 v0) (k67 : gk_M → Option (Int32 × gk_M)) (hk67 : ∀ z28 : gk_M, gk_K Z Y 7 gk_rI 67 [(0, .ref v0)] [] z28 (k67 z28)) : ∀ (n : Nat) (x : Int32 × gk_M), gk_K Z Y 7 gk_rI 38 [(0, .ref v0), (6, .int x.1)] [] x.2 (lp_X8_judge_38 (gk_ln Y) (gk_rf Y) v0 k67 n x) := by
  intro n
  induction n with
  | zero => intro x; exact gk_none
  | succ n ih =>
    intro x
    rw [lp_X8_judge_38]
    refine gk_iload hC 1 dX8_judge_38 rfl (q := 40) rfl ?_
    refine gk_aload_n hC 0 dX8_judge_40 rfl (q := 41) rfl ?_
    refine gk_getI hC dX8_judge_41 fl_RX8_280 tv0 (q := 44) rfl ?_
    refine gk_icmp_ge hC dX8_judge_44 (tg := 67) rfl (q := 47) rfl ?_ ?_
    · refine gk_pick [0] rfl ?_
      exact hk67 x.2
    · refine gk_aload_n hC 0 dX8_judge_47 rfl (q := 48) rfl ?_
      refine gk_getR hC dX8_judge_48 fl_RX8_91 (by decide) tv0 (q := 51) rfl (fun t1 => ?_)
      refine gk_iload hC 1 dX8_judge_51 rfl (q := 53) rfl ?_
      refine gk_aload_n hC 0 dX8_judge_53 rfl (q := 54) rfl ?_
      refine gk_getR hC dX8_judge_54 fl_RX8_88 (by decide) tv0 (q := 57) rfl (fun t2 => ?_)
      refine gk_iload hC 1 dX8_judge_57 rfl (q := 59) rfl ?_
      refine gk_iald hC dX8_judge_59 t2 (q := 60) rfl (fun x3 => ?_)
      refine gk_iast hC dX8_judge_60 t1 (q := 61) rfl (fun M4 => ?_)
      refine gk_iinc hC (v := 1) 1 (lv' := [(0, .ref v0), (6, .int (x.1 + 1))]) [1, 0] dX8_judge_61 rfl kc_i_1 (by decide) rfl (q := 64) rfl ?_
      refine gk_goto hC dX8_judge_64 (q := 38) rfl ?_
      exact ih ((x.1 + 1), M4)
set_option maxHeartbeats 4000000 in
set_option maxRecDepth 100000 in
theorem m_X8_judge (l : Launch) {Y : gk_Y} (hY : gk_WF Y) (a0 : Nat) (a1 : Int32) (a2 : Int32) (a3 : Int32) (a4 : Int32) (a5 : Int32) (M : gk_M) (t0 : gk_T Y 18 a0) : gk_MF l Y yX8_judge cX8_judge 7 (some .int) 11 [.ref a0, .int a1, .int a2, .int a3, .int a4, .int a5] M gk_rI (f_X8_judge (gk_ln Y) (gk_rf Y) a0 a1 a2 a3 a4 a5 M) := by
  refine gk_met hY (plainFor_of_name (by decide)) (Nat.le_of_ble_eq_true rfl) fun Z hC hR => ?_
  show gk_K Z Y 7 gk_rI 0 [(0, .ref a0), (1, .int a1), (2, .int a2), (3, .int a3), (4, .int a4), (5, .int a5)] [] M _
  unfold f_X8_judge
  refine gk_aload_n hC 0 dX8_judge_0 rfl (q := 1) rfl ?_
  refine gk_iload_n hC 1 dX8_judge_1 rfl (q := 2) rfl ?_
  refine gk_iload_n hC 2 dX8_judge_2 rfl (q := 3) rfl ?_
  refine gk_iload_n hC 3 dX8_judge_3 rfl (q := 4) rfl ?_
  refine gk_iload hC 4 dX8_judge_4 rfl (q := 6) rfl ?_
  refine gk_iload hC 5 dX8_judge_6 rfl (q := 8) rfl ?_
  refine gk_callV (As := [.int a1, .int a2, .int a3, .int a4, .int a5]) (rest := []) hC (fun l => m_X8_isAsked l hY a0 a1 a2 a3 a4 a5 M t0) ml_RX8_274 ok_X8_isAsked dX8_judge_8 t0 ⟨by decide, rfl⟩ rfl (by decide) (Nat.le_of_ble_eq_true rfl) rfl (q := 11) rfl (fun r21 => ?_)
  show gk_K Z Y 7 gk_rI 11 [(0, .ref a0), (1, .int a1), (2, .int a2), (3, .int a3), (4, .int a4), (5, .int a5)] [.int r21] M _
  refine gk_if_ne hC dX8_judge_11 (tg := 20) rfl (q := 14) rfl ?_ ?_
  · refine gk_aload_n hC 0 dX8_judge_14 rfl (q := 15) rfl ?_
    refine gk_iconst hC (v := 1) dX8_judge_15 kc_i_1 (q := 16) rfl ?_
    refine gk_callV (As := [.int 1]) (rest := []) hC (fun l => m_X8_refused l hY a0 1 M t0) ml_RX8_113 ok_X8_refused dX8_judge_16 t0 ⟨by decide, rfl⟩ rfl (by decide) (Nat.le_of_ble_eq_true rfl) rfl (q := 19) rfl (fun r22 => ?_)
    show gk_K Z Y 7 gk_rI 19 [(0, .ref a0), (1, .int a1), (2, .int a2), (3, .int a3), (4, .int a4), (5, .int a5)] [.int r22.1] r22.2 _
    exact gk_iret hC hR dX8_judge_19 rfl
  · refine gk_aload_n hC 0 dX8_judge_20 rfl (q := 21) rfl ?_
    refine gk_aload_n hC 0 dX8_judge_21 rfl (q := 22) rfl ?_
    refine gk_iload_n hC 1 dX8_judge_22 rfl (q := 23) rfl ?_
    refine gk_iload_n hC 2 dX8_judge_23 rfl (q := 24) rfl ?_
    refine gk_iload_n hC 3 dX8_judge_24 rfl (q := 25) rfl ?_
    refine gk_iload hC 4 dX8_judge_25 rfl (q := 27) rfl ?_
    refine gk_iload hC 5 dX8_judge_27 rfl (q := 29) rfl ?_
    refine gk_callV (As := [.int a1, .int a2, .int a3, .int a4, .int a5]) (rest := [.ref a0]) hC (fun l => m_X8_search l hY a0 a1 a2 a3 a4 a5 M t0) ml_RX8_277 ok_X8_search dX8_judge_29 t0 ⟨by decide, rfl⟩ rfl (by decide) (Nat.le_of_ble_eq_true rfl) rfl (q := 32) rfl (fun r23 => ?_)
    show gk_K Z Y 7 gk_rI 32 [(0, .ref a0), (1, .int a1), (2, .int a2), (3, .int a3), (4, .int a4), (5, .int a5)] [.int r23.1, .ref a0] r23.2 _
    refine gk_putI hC dX8_judge_32 fp_RX8_280 t0 (q := 35) rfl (fun M24 => ?_)
    refine gk_iconst hC (v := 0) dX8_judge_35 kc_i_0 (q := 36) rfl ?_
    refine gk_istore hC (lv' := [(0, .ref a0), (6, .int 0)]) [1, 0] dX8_judge_36 (by decide) rfl (q := 38) rfl ?_
    refine gk_jnR (fun k67_25 => ∀ z26 : gk_M, gk_K Z Y 7 gk_rI 67 [(0, .ref a0)] [] z26 (k67_25 z26)) (fun y25 => ?_) (fun k67_25 hk67_25 => ?_)
    · show gk_K Z Y 7 gk_rI 67 [(0, .ref a0)] [] y25 _
      refine gk_aload_n hC 0 dX8_judge_67 rfl (q := 68) rfl ?_
      refine gk_aload_n hC 0 dX8_judge_68 rfl (q := 69) rfl ?_
      refine gk_getI hC dX8_judge_69 fl_RX8_280 t0 (q := 72) rfl ?_
      refine gk_callV (As := [.int (y25.1 a0 33)]) (rest := []) hC (fun l => m_X8_done l hY a0 (y25.1 a0 33) y25 t0) ml_RX8_117 ok_X8_done dX8_judge_72 t0 ⟨by decide, rfl⟩ rfl (by decide) (Nat.le_of_ble_eq_true rfl) rfl (q := 75) rfl (fun r27 => ?_)
      show gk_K Z Y 7 gk_rI 75 [(0, .ref a0)] [.int r27.1] r27.2 _
      exact gk_iret hC hR dX8_judge_75 rfl
    · exact lk_X8_judge_38 hY hC hR a0 t0 k67_25 hk67_25 gk_fuel (0, M24)
def f_X8_actOf (LN : Nat → Nat) (RF : Nat → Nat → Nat) (a0 : Nat) (a1 : Int32) (M : gk_M) : Option (Int32) :=
  (f_X8_isIn LN RF (Int32.toInt64 a1) 0 (Int32.toInt64 ((M.1 a0 33) - 1)) M).bind fun r21 =>
  gk_jn (fun y22 : Int32 =>
    some y22) fun k26_22 =>
  if r21 = 0 then
    k26_22 (-1)
  else
  gk_ald LN M (RF a0 31) a1 fun x25 =>
  k26_22 x25
set_option maxHeartbeats 4000000 in
set_option maxRecDepth 100000 in
theorem m_X8_actOf (l : Launch) {Y : gk_Y} (hY : gk_WF Y) (a0 : Nat) (a1 : Int32) (M : gk_M) (t0 : gk_T Y 18 a0) : gk_MF l Y yX8_actOf cX8_actOf 2 (some .int) 1 [.ref a0, .int a1] M (gk_rR M) (f_X8_actOf (gk_ln Y) (gk_rf Y) a0 a1 M) := by
  refine gk_met hY (plainFor_of_name (by decide)) (Nat.le_of_ble_eq_true rfl) fun Z hC hR => ?_
  show gk_K Z Y 2 (gk_rR M) 0 [(0, .ref a0), (1, .int a1)] [] M _
  unfold f_X8_actOf
  refine gk_iload_n hC 1 dX8_actOf_0 rfl (q := 1) rfl ?_
  refine gk_i2l hC dX8_actOf_1 (q := 2) rfl ?_
  refine gk_lconst hC (v := 0) dX8_actOf_2 kc_l_0 (q := 3) rfl ?_
  refine gk_aload_n hC 0 dX8_actOf_3 rfl (q := 4) rfl ?_
  refine gk_getI hC dX8_actOf_4 fl_RX8_280 t0 (q := 7) rfl ?_
  refine gk_iconst hC (v := 1) dX8_actOf_7 kc_i_1 (q := 8) rfl ?_
  refine gk_isub hC dX8_actOf_8 (q := 9) rfl ?_
  refine gk_i2l hC dX8_actOf_9 (q := 10) rfl ?_
  refine gk_callS (As := [.long (Int32.toInt64 a1), .long 0, .long (Int32.toInt64 ((M.1 a0 33) - 1))]) (rest := []) hC (fun l => m_X8_isIn l hY (Int32.toInt64 a1) 0 (Int32.toInt64 ((M.1 a0 33) - 1)) M) ml_RX8_126 ok_X8_isIn dX8_actOf_10 rfl (by decide) (Nat.le_of_ble_eq_true rfl) rfl (q := 13) rfl (fun r21 => ?_)
  show gk_K Z Y 2 (gk_rR M) 13 [(0, .ref a0), (1, .int a1)] [.int r21] M _
  refine gk_jnR (fun k26_22 => ∀ z23 : Int32, gk_K Z Y 2 (gk_rR M) 26 [] [.int z23] M (k26_22 z23)) (fun y22 => ?_) (fun k26_22 hk26_22 => ?_)
  · show gk_K Z Y 2 (gk_rR M) 26 [] [.int y22] M _
    exact gk_iret hC hR dX8_actOf_26 rfl
  · refine gk_if_eq hC dX8_actOf_13 (tg := 25) rfl (q := 16) rfl ?_ ?_
    · refine gk_iconst hC (v := (-1)) dX8_actOf_25 kc_i_m1 (q := 26) rfl ?_
      refine gk_pick [] rfl ?_
      exact hk26_22 (-1)
    · refine gk_aload_n hC 0 dX8_actOf_16 rfl (q := 17) rfl ?_
      refine gk_getR hC dX8_actOf_17 fl_RX8_91 (by decide) t0 (q := 20) rfl (fun t24 => ?_)
      refine gk_iload_n hC 1 dX8_actOf_20 rfl (q := 21) rfl ?_
      refine gk_iald hC dX8_actOf_21 t24 (q := 22) rfl (fun x25 => ?_)
      refine gk_goto hC dX8_actOf_22 (q := 26) rfl ?_
      refine gk_pick [] rfl ?_
      exact hk26_22 x25
def f_X8_isOfThese (LN : Nat → Nat) (RF : Nat → Nat → Nat) (a0 : Nat) (a1 : Int32) (M : gk_M) : Option (Int32) :=
  gk_ald LN M (RF a0 1) a1 fun x22 =>
  gk_jn (fun y23 : Int32 =>
    gk_zz y23 (some y23)) fun k35_23 =>
  gk_jn (fun y25 : Unit =>
    k35_23 1) fun k30_25 =>
  if x22 = 1 then
    k30_25 ()
  else
  gk_ald LN M (RF a0 1) a1 fun x28 =>
  if x28 = 2 then
    k30_25 ()
  else
  gk_ald LN M (RF a0 1) a1 fun x30 =>
  if x30 = 4 then
    k30_25 ()
  else
  k35_23 0
set_option maxHeartbeats 4000000 in
set_option maxRecDepth 100000 in
theorem m_X8_isOfThese (l : Launch) {Y : gk_Y} (hY : gk_WF Y) (a0 : Nat) (a1 : Int32) (M : gk_M) (t0 : gk_T Y 18 a0) : gk_MF l Y yX8_isOfThese cX8_isOfThese 2 (some .boolean) 0 [.ref a0, .int a1] M (gk_rR M) (f_X8_isOfThese (gk_ln Y) (gk_rf Y) a0 a1 M) := by
  refine gk_met hY (plainFor_of_name (by decide)) (Nat.le_of_ble_eq_true rfl) fun Z hC hR => ?_
  show gk_K Z Y 2 (gk_rR M) 0 [(0, .ref a0), (1, .int a1)] [] M _
  unfold f_X8_isOfThese
  refine gk_aload_n hC 0 dX8_isOfThese_0 rfl (q := 1) rfl ?_
  refine gk_getR hC dX8_isOfThese_1 fl_RX8_13 (by decide) t0 (q := 4) rfl (fun t21 => ?_)
  refine gk_iload_n hC 1 dX8_isOfThese_4 rfl (q := 5) rfl ?_
  refine gk_iald hC dX8_isOfThese_5 t21 (q := 6) rfl (fun x22 => ?_)
  refine gk_iconst hC (v := 1) dX8_isOfThese_6 kc_i_1 (q := 7) rfl ?_
  refine gk_jnR (fun k35_23 => ∀ z24 : Int32, gk_K Z Y 2 (gk_rR M) 35 [] [.int z24] M (k35_23 z24)) (fun y23 => ?_) (fun k35_23 hk35_23 => ?_)
  · show gk_K Z Y 2 (gk_rR M) 35 [] [.int y23] M _
    exact gk_zzR (fun hv => gk_zret hC hR dX8_isOfThese_35 hv rfl)
  · refine gk_jnR (fun k30_25 => ∀ z26 : Unit, gk_K Z Y 2 (gk_rR M) 30 [] [] M (k30_25 z26)) (fun y25 => ?_) (fun k30_25 hk30_25 => ?_)
    · show gk_K Z Y 2 (gk_rR M) 30 [] [] M _
      refine gk_iconst hC (v := 1) dX8_isOfThese_30 kc_i_1 (q := 31) rfl ?_
      refine gk_goto hC dX8_isOfThese_31 (q := 35) rfl ?_
      exact hk35_23 1
    · refine gk_icmp_eq hC dX8_isOfThese_7 (tg := 30) rfl (q := 10) rfl ?_ ?_
      · refine gk_pick [] rfl ?_
        exact hk30_25 ()
      · refine gk_aload_n hC 0 dX8_isOfThese_10 rfl (q := 11) rfl ?_
        refine gk_getR hC dX8_isOfThese_11 fl_RX8_13 (by decide) t0 (q := 14) rfl (fun t27 => ?_)
        refine gk_iload_n hC 1 dX8_isOfThese_14 rfl (q := 15) rfl ?_
        refine gk_iald hC dX8_isOfThese_15 t27 (q := 16) rfl (fun x28 => ?_)
        refine gk_iconst hC (v := 2) dX8_isOfThese_16 kc_i_2 (q := 17) rfl ?_
        refine gk_icmp_eq hC dX8_isOfThese_17 (tg := 30) rfl (q := 20) rfl ?_ ?_
        · refine gk_pick [] rfl ?_
          exact hk30_25 ()
        · refine gk_aload_n hC 0 dX8_isOfThese_20 rfl (q := 21) rfl ?_
          refine gk_getR hC dX8_isOfThese_21 fl_RX8_13 (by decide) t0 (q := 24) rfl (fun t29 => ?_)
          refine gk_iload_n hC 1 dX8_isOfThese_24 rfl (q := 25) rfl ?_
          refine gk_iald hC dX8_isOfThese_25 t29 (q := 26) rfl (fun x30 => ?_)
          refine gk_iconst hC (v := 4) dX8_isOfThese_26 kc_i_4 (q := 27) rfl ?_
          refine gk_icmp_ne hC dX8_isOfThese_27 (tg := 34) rfl (q := 30) rfl ?_ ?_
          · refine gk_pick [] rfl ?_
            exact hk30_25 ()
          · refine gk_iconst hC (v := 0) dX8_isOfThese_34 kc_i_0 (q := 35) rfl ?_
            refine gk_pick [] rfl ?_
            exact hk35_23 0
def lp_X8_alone_169 (LN : Nat → Nat) (RF : Nat → Nat → Nat) (v0 : Nat) (v6 : Int32) (k200 : gk_M → Option (Int32 × gk_M)) : Nat → (Int32 × gk_M) → Option (Int32 × gk_M)
  | 0, _ => none
  | n + 1, x =>
    gk_ald LN x.2 (RF v0 20) 1 fun x2 =>
    if x2 ≤ x.1 then
      k200 x.2
    else
    gk_ald LN x.2 (RF v0 34) x.1 fun x5 =>
    gk_ast LN x.2 (RF v0 5) x.1 x5 fun M6 =>
    lp_X8_alone_169 LN RF v0 v6 k200 n ((x.1 + 1), M6)
def lp_X8_alone_87 (LN : Nat → Nat) (RF : Nat → Nat → Nat) (v0 : Nat) (v1 : Int32) (v2 : Int32) (v3 : Int32) (v4 : Int32) (v5 : Int32) (v6 : Int32) (v7 : Int32) (k142 : gk_M → Option (Int32 × gk_M)) : Nat → (Int32 × gk_M) → Option (Int32 × gk_M)
  | 0, _ => none
  | n + 1, x =>
    gk_ald LN x.2 (RF v0 20) 1 fun x2 =>
    if x2 ≤ x.1 then
      k142 x.2
    else
    (f_X8_isOfThese LN RF v0 x.1 x.2).bind fun r4 =>
    gk_jn (fun y5 : Int32 =>
      gk_ast LN x.2 (RF v0 5) x.1 y5 fun M7 =>
      lp_X8_alone_87 LN RF v0 v1 v2 v3 v4 v5 v6 v7 k142 n ((x.1 + 1), M7)) fun k135_5 =>
    if r4 = 0 then
      gk_ald LN x.2 (RF v0 34) x.1 fun x9 =>
      k135_5 x9
    else
    if x.1 = v7 then
      k135_5 1
    else
    k135_5 0
def lp_X8_alone_56 (LN : Nat → Nat) (RF : Nat → Nat → Nat) (v0 : Nat) (v1 : Int32) (v2 : Int32) (v3 : Int32) (v4 : Int32) (v5 : Int32) (k166 : (Int32 × gk_M) → Option (Int32 × gk_M)) : Nat → (Int32 × Int32 × gk_M) → Option (Int32 × gk_M)
  | 0, _ => none
  | n + 1, x =>
    gk_ald LN x.2.2 (RF v0 20) 1 fun x2 =>
    if x2 ≤ x.2.1 then
      k166 (x.1, x.2.2)
    else
    if 0 ≤ x.1 then
      k166 (x.1, x.2.2)
    else
    (f_X8_isOfThese LN RF v0 x.2.1 x.2.2).bind fun r3 =>
    gk_jn (fun y4 : Int32 × gk_M =>
      lp_X8_alone_56 LN RF v0 v1 v2 v3 v4 v5 k166 n (y4.1, (x.2.1 + 1), y4.2)) fun k160_4 =>
    if r3 = 0 then
      k160_4 (x.1, x.2.2)
    else
    gk_jn (fun y6 : gk_M =>
      (f_X8_search LN RF v0 v1 v2 v3 v4 v5 y6).bind fun r8 =>
      if r8.1 ≤ 0 then
        k160_4 (x.1, r8.2)
      else
      k160_4 (x.2.1, r8.2)) fun k142_6 =>
    lp_X8_alone_87 LN RF v0 v1 v2 v3 v4 v5 x.1 x.2.1 k142_6 gk_fuel (0, x.2.2)
def lp_X8_alone_19 (LN : Nat → Nat) (RF : Nat → Nat → Nat) (v0 : Nat) (v1 : Int32) (v2 : Int32) (v3 : Int32) (v4 : Int32) (v5 : Int32) (k50 : gk_M → Option (Int32 × gk_M)) : Nat → (Int32 × gk_M) → Option (Int32 × gk_M)
  | 0, _ => none
  | n + 1, x =>
    gk_ald LN x.2 (RF v0 20) 1 fun x2 =>
    if x2 ≤ x.1 then
      k50 x.2
    else
    gk_ald LN x.2 (RF v0 5) x.1 fun x5 =>
    gk_ast LN x.2 (RF v0 34) x.1 x5 fun M6 =>
    lp_X8_alone_19 LN RF v0 v1 v2 v3 v4 v5 k50 n ((x.1 + 1), M6)
def f_X8_alone (LN : Nat → Nat) (RF : Nat → Nat → Nat) (a0 : Nat) (a1 : Int32) (a2 : Int32) (a3 : Int32) (a4 : Int32) (a5 : Int32) (M : gk_M) : Option (Int32 × gk_M) :=
  (f_X8_isAsked LN RF a0 a1 a2 a3 a4 a5 M).bind fun r21 =>
  if r21 = 0 then
    some ((-1), M)
  else
  gk_jn (fun y22 : gk_M =>
    gk_jn (fun y24 : Int32 × gk_M =>
      gk_jn (fun y26 : gk_M =>
        some (y24.1, y26)) fun k200_26 =>
      lp_X8_alone_169 LN RF a0 y24.1 k200_26 gk_fuel (0, y24.2)) fun k166_24 =>
    lp_X8_alone_56 LN RF a0 a1 a2 a3 a4 a5 k166_24 gk_fuel ((-1), 0, y22)) fun k50_22 =>
  lp_X8_alone_19 LN RF a0 a1 a2 a3 a4 a5 k50_22 gk_fuel (0, M)
set_option maxHeartbeats 4000000 in
set_option maxRecDepth 100000 in
theorem lk_X8_alone_169 {Z : gk_Z} {Y : gk_Y} (hY : gk_WF Y) (hC : gk_C Z Y cX8_alone 9 RX8 11) (hR : gk_R Z Y (some .int)) (v0 : Nat) (v6 : Int32) (tv0 : gk_T Y 18 v0) (k200 : gk_M → Option (Int32 × gk_M)) (hk200 : ∀ z28 : gk_M, gk_K Z Y 9 gk_rI 200 [(6, .int v6)] [] z28 (k200 z28)) : ∀ (n : Nat) (x : Int32 × gk_M), gk_K Z Y 9 gk_rI 169 [(0, .ref v0), (6, .int v6), (7, .int x.1)] [] x.2 (lp_X8_alone_169 (gk_ln Y) (gk_rf Y) v0 v6 k200 n x) := by
  intro n
  induction n with
  | zero => intro x; exact gk_none
  | succ n ih =>
    intro x
    rw [lp_X8_alone_169]
    refine gk_iload hC 2 dX8_alone_169 rfl (q := 171) rfl ?_
    refine gk_aload_n hC 0 dX8_alone_171 rfl (q := 172) rfl ?_
    refine gk_getR hC dX8_alone_172 fl_RX8_70 (by decide) tv0 (q := 175) rfl (fun t1 => ?_)
    refine gk_iconst hC (v := 1) dX8_alone_175 kc_i_1 (q := 176) rfl ?_
    refine gk_iald hC dX8_alone_176 t1 (q := 177) rfl (fun x2 => ?_)
    refine gk_icmp_ge hC dX8_alone_177 (tg := 200) rfl (q := 180) rfl ?_ ?_
    · refine gk_pick [1] rfl ?_
      exact hk200 x.2
    · refine gk_aload_n hC 0 dX8_alone_180 rfl (q := 181) rfl ?_
      refine gk_getR hC dX8_alone_181 fl_RX8_25 (by decide) tv0 (q := 184) rfl (fun t3 => ?_)
      refine gk_iload hC 2 dX8_alone_184 rfl (q := 186) rfl ?_
      refine gk_aload_n hC 0 dX8_alone_186 rfl (q := 187) rfl ?_
      refine gk_getR hC dX8_alone_187 fl_RX8_94 (by decide) tv0 (q := 190) rfl (fun t4 => ?_)
      refine gk_iload hC 2 dX8_alone_190 rfl (q := 192) rfl ?_
      refine gk_iald hC dX8_alone_192 t4 (q := 193) rfl (fun x5 => ?_)
      refine gk_iast hC dX8_alone_193 t3 (q := 194) rfl (fun M6 => ?_)
      refine gk_iinc hC (v := 1) 2 (lv' := [(0, .ref v0), (6, .int v6), (7, .int (x.1 + 1))]) [1, 2, 0] dX8_alone_194 rfl kc_i_1 (by decide) rfl (q := 197) rfl ?_
      refine gk_goto hC dX8_alone_197 (q := 169) rfl ?_
      exact ih ((x.1 + 1), M6)
set_option maxHeartbeats 4000000 in
set_option maxRecDepth 100000 in
theorem lk_X8_alone_87 {Z : gk_Z} {Y : gk_Y} (hY : gk_WF Y) (hC : gk_C Z Y cX8_alone 9 RX8 11) (hR : gk_R Z Y (some .int)) (v0 : Nat) (v1 : Int32) (v2 : Int32) (v3 : Int32) (v4 : Int32) (v5 : Int32) (v6 : Int32) (v7 : Int32) (tv0 : gk_T Y 18 v0) (k142 : gk_M → Option (Int32 × gk_M)) (hk142 : ∀ z10 : gk_M, gk_K Z Y 9 gk_rI 142 [(0, .ref v0), (1, .int v1), (2, .int v2), (3, .int v3), (4, .int v4), (5, .int v5), (6, .int v6), (7, .int v7)] [] z10 (k142 z10)) : ∀ (n : Nat) (x : Int32 × gk_M), gk_K Z Y 9 gk_rI 87 [(0, .ref v0), (1, .int v1), (2, .int v2), (3, .int v3), (4, .int v4), (5, .int v5), (6, .int v6), (7, .int v7), (8, .int x.1)] [] x.2 (lp_X8_alone_87 (gk_ln Y) (gk_rf Y) v0 v1 v2 v3 v4 v5 v6 v7 k142 n x) := by
  intro n
  induction n with
  | zero => intro x; exact gk_none
  | succ n ih =>
    intro x
    rw [lp_X8_alone_87]
    refine gk_iload hC 8 dX8_alone_87 rfl (q := 89) rfl ?_
    refine gk_aload_n hC 0 dX8_alone_89 rfl (q := 90) rfl ?_
    refine gk_getR hC dX8_alone_90 fl_RX8_70 (by decide) tv0 (q := 93) rfl (fun t1 => ?_)
    refine gk_iconst hC (v := 1) dX8_alone_93 kc_i_1 (q := 94) rfl ?_
    refine gk_iald hC dX8_alone_94 t1 (q := 95) rfl (fun x2 => ?_)
    refine gk_icmp_ge hC dX8_alone_95 (tg := 142) rfl (q := 98) rfl ?_ ?_
    · refine gk_pick [0, 1, 2, 3, 4, 5, 6, 7] rfl ?_
      exact hk142 x.2
    · refine gk_aload_n hC 0 dX8_alone_98 rfl (q := 99) rfl ?_
      refine gk_getR hC dX8_alone_99 fl_RX8_25 (by decide) tv0 (q := 102) rfl (fun t3 => ?_)
      refine gk_iload hC 8 dX8_alone_102 rfl (q := 104) rfl ?_
      refine gk_aload_n hC 0 dX8_alone_104 rfl (q := 105) rfl ?_
      refine gk_iload hC 8 dX8_alone_105 rfl (q := 107) rfl ?_
      refine gk_callV (As := [.int x.1]) (rest := [.int x.1, .ref ((gk_rf Y) v0 5)]) hC (fun l => m_X8_isOfThese l hY v0 x.1 x.2 tv0) ml_RX8_283 ok_X8_isOfThese dX8_alone_107 tv0 ⟨by decide, rfl⟩ rfl (by decide) (Nat.le_of_ble_eq_true rfl) rfl (q := 110) rfl (fun r4 => ?_)
      show gk_K Z Y 9 gk_rI 110 [(0, .ref v0), (1, .int v1), (2, .int v2), (3, .int v3), (4, .int v4), (5, .int v5), (6, .int v6), (7, .int v7), (8, .int x.1)] [.int r4, .int x.1, .ref ((gk_rf Y) v0 5)] x.2 _
      refine gk_jnR (fun k135_5 => ∀ z6 : Int32, gk_K Z Y 9 gk_rI 135 [(0, .ref v0), (1, .int v1), (2, .int v2), (3, .int v3), (4, .int v4), (5, .int v5), (6, .int v6), (7, .int v7), (8, .int x.1)] [.int z6, .int x.1, .ref ((gk_rf Y) v0 5)] x.2 (k135_5 z6)) (fun y5 => ?_) (fun k135_5 hk135_5 => ?_)
      · show gk_K Z Y 9 gk_rI 135 [(0, .ref v0), (1, .int v1), (2, .int v2), (3, .int v3), (4, .int v4), (5, .int v5), (6, .int v6), (7, .int v7), (8, .int x.1)] [.int y5, .int x.1, .ref ((gk_rf Y) v0 5)] x.2 _
        refine gk_iast hC dX8_alone_135 t3 (q := 136) rfl (fun M7 => ?_)
        refine gk_iinc hC (v := 1) 8 (lv' := [(0, .ref v0), (1, .int v1), (2, .int v2), (3, .int v3), (4, .int v4), (5, .int v5), (6, .int v6), (7, .int v7), (8, .int (x.1 + 1))]) [1, 2, 3, 4, 5, 6, 7, 8, 0] dX8_alone_136 rfl kc_i_1 (by decide) rfl (q := 139) rfl ?_
        refine gk_goto hC dX8_alone_139 (q := 87) rfl ?_
        exact ih ((x.1 + 1), M7)
      · refine gk_if_eq hC dX8_alone_110 (tg := 128) rfl (q := 113) rfl ?_ ?_
        · refine gk_aload_n hC 0 dX8_alone_128 rfl (q := 129) rfl ?_
          refine gk_getR hC dX8_alone_129 fl_RX8_94 (by decide) tv0 (q := 132) rfl (fun t8 => ?_)
          refine gk_iload hC 8 dX8_alone_132 rfl (q := 134) rfl ?_
          refine gk_iald hC dX8_alone_134 t8 (q := 135) rfl (fun x9 => ?_)
          exact hk135_5 x9
        · refine gk_iload hC 8 dX8_alone_113 rfl (q := 115) rfl ?_
          refine gk_iload hC 7 dX8_alone_115 rfl (q := 117) rfl ?_
          refine gk_icmp_ne hC dX8_alone_117 (tg := 124) rfl (q := 120) rfl ?_ ?_
          · refine gk_iconst hC (v := 1) dX8_alone_120 kc_i_1 (q := 121) rfl ?_
            refine gk_goto hC dX8_alone_121 (q := 135) rfl ?_
            exact hk135_5 1
          · refine gk_iconst hC (v := 0) dX8_alone_124 kc_i_0 (q := 125) rfl ?_
            refine gk_goto hC dX8_alone_125 (q := 135) rfl ?_
            exact hk135_5 0
set_option maxHeartbeats 4000000 in
set_option maxRecDepth 100000 in
theorem lk_X8_alone_56 {Z : gk_Z} {Y : gk_Y} (hY : gk_WF Y) (hC : gk_C Z Y cX8_alone 9 RX8 11) (hR : gk_R Z Y (some .int)) (v0 : Nat) (v1 : Int32) (v2 : Int32) (v3 : Int32) (v4 : Int32) (v5 : Int32) (tv0 : gk_T Y 18 v0) (k166 : (Int32 × gk_M) → Option (Int32 × gk_M)) (hk166 : ∀ z29 : Int32 × gk_M, gk_K Z Y 9 gk_rI 166 [(0, .ref v0), (6, .int z29.1)] [] z29.2 (k166 z29)) : ∀ (n : Nat) (x : Int32 × Int32 × gk_M), gk_K Z Y 9 gk_rI 56 [(0, .ref v0), (1, .int v1), (2, .int v2), (3, .int v3), (4, .int v4), (5, .int v5), (6, .int x.1), (7, .int x.2.1)] [] x.2.2 (lp_X8_alone_56 (gk_ln Y) (gk_rf Y) v0 v1 v2 v3 v4 v5 k166 n x) := by
  intro n
  induction n with
  | zero => intro x; exact gk_none
  | succ n ih =>
    intro x
    rw [lp_X8_alone_56]
    refine gk_iload hC 7 dX8_alone_56 rfl (q := 58) rfl ?_
    refine gk_aload_n hC 0 dX8_alone_58 rfl (q := 59) rfl ?_
    refine gk_getR hC dX8_alone_59 fl_RX8_70 (by decide) tv0 (q := 62) rfl (fun t1 => ?_)
    refine gk_iconst hC (v := 1) dX8_alone_62 kc_i_1 (q := 63) rfl ?_
    refine gk_iald hC dX8_alone_63 t1 (q := 64) rfl (fun x2 => ?_)
    refine gk_icmp_ge hC dX8_alone_64 (tg := 166) rfl (q := 67) rfl ?_ ?_
    · refine gk_pick [0, 6] rfl ?_
      exact hk166 (x.1, x.2.2)
    · refine gk_iload hC 6 dX8_alone_67 rfl (q := 69) rfl ?_
      refine gk_if_ge hC dX8_alone_69 (tg := 166) rfl (q := 72) rfl ?_ ?_
      · refine gk_pick [0, 6] rfl ?_
        exact hk166 (x.1, x.2.2)
      · refine gk_aload_n hC 0 dX8_alone_72 rfl (q := 73) rfl ?_
        refine gk_iload hC 7 dX8_alone_73 rfl (q := 75) rfl ?_
        refine gk_callV (As := [.int x.2.1]) (rest := []) hC (fun l => m_X8_isOfThese l hY v0 x.2.1 x.2.2 tv0) ml_RX8_283 ok_X8_isOfThese dX8_alone_75 tv0 ⟨by decide, rfl⟩ rfl (by decide) (Nat.le_of_ble_eq_true rfl) rfl (q := 78) rfl (fun r3 => ?_)
        show gk_K Z Y 9 gk_rI 78 [(0, .ref v0), (1, .int v1), (2, .int v2), (3, .int v3), (4, .int v4), (5, .int v5), (6, .int x.1), (7, .int x.2.1)] [.int r3] x.2.2 _
        refine gk_jnR (fun k160_4 => ∀ z5 : Int32 × gk_M, gk_K Z Y 9 gk_rI 160 [(0, .ref v0), (1, .int v1), (2, .int v2), (3, .int v3), (4, .int v4), (5, .int v5), (6, .int z5.1), (7, .int x.2.1)] [] z5.2 (k160_4 z5)) (fun y4 => ?_) (fun k160_4 hk160_4 => ?_)
        · show gk_K Z Y 9 gk_rI 160 [(0, .ref v0), (1, .int v1), (2, .int v2), (3, .int v3), (4, .int v4), (5, .int v5), (6, .int y4.1), (7, .int x.2.1)] [] y4.2 _
          refine gk_iinc hC (v := 1) 7 (lv' := [(0, .ref v0), (1, .int v1), (2, .int v2), (3, .int v3), (4, .int v4), (5, .int v5), (6, .int y4.1), (7, .int (x.2.1 + 1))]) [1, 2, 3, 4, 5, 6, 7, 0] dX8_alone_160 rfl kc_i_1 (by decide) rfl (q := 163) rfl ?_
          refine gk_goto hC dX8_alone_163 (q := 56) rfl ?_
          exact ih (y4.1, (x.2.1 + 1), y4.2)
        · refine gk_if_ne hC dX8_alone_78 (tg := 84) rfl (q := 81) rfl ?_ ?_
          · refine gk_goto hC dX8_alone_81 (q := 160) rfl ?_
            exact hk160_4 (x.1, x.2.2)
          · refine gk_iconst hC (v := 0) dX8_alone_84 kc_i_0 (q := 85) rfl ?_
            refine gk_istore hC (lv' := [(0, .ref v0), (1, .int v1), (2, .int v2), (3, .int v3), (4, .int v4), (5, .int v5), (6, .int x.1), (7, .int x.2.1), (8, .int 0)]) [1, 2, 3, 4, 5, 6, 7, 8, 0] dX8_alone_85 (by decide) rfl (q := 87) rfl ?_
            refine gk_jnR (fun k142_6 => ∀ z7 : gk_M, gk_K Z Y 9 gk_rI 142 [(0, .ref v0), (1, .int v1), (2, .int v2), (3, .int v3), (4, .int v4), (5, .int v5), (6, .int x.1), (7, .int x.2.1)] [] z7 (k142_6 z7)) (fun y6 => ?_) (fun k142_6 hk142_6 => ?_)
            · show gk_K Z Y 9 gk_rI 142 [(0, .ref v0), (1, .int v1), (2, .int v2), (3, .int v3), (4, .int v4), (5, .int v5), (6, .int x.1), (7, .int x.2.1)] [] y6 _
              refine gk_aload_n hC 0 dX8_alone_142 rfl (q := 143) rfl ?_
              refine gk_iload_n hC 1 dX8_alone_143 rfl (q := 144) rfl ?_
              refine gk_iload_n hC 2 dX8_alone_144 rfl (q := 145) rfl ?_
              refine gk_iload_n hC 3 dX8_alone_145 rfl (q := 146) rfl ?_
              refine gk_iload hC 4 dX8_alone_146 rfl (q := 148) rfl ?_
              refine gk_iload hC 5 dX8_alone_148 rfl (q := 150) rfl ?_
              refine gk_callV (As := [.int v1, .int v2, .int v3, .int v4, .int v5]) (rest := []) hC (fun l => m_X8_search l hY v0 v1 v2 v3 v4 v5 y6 tv0) ml_RX8_277 ok_X8_search dX8_alone_150 tv0 ⟨by decide, rfl⟩ rfl (by decide) (Nat.le_of_ble_eq_true rfl) rfl (q := 153) rfl (fun r8 => ?_)
              show gk_K Z Y 9 gk_rI 153 [(0, .ref v0), (1, .int v1), (2, .int v2), (3, .int v3), (4, .int v4), (5, .int v5), (6, .int x.1), (7, .int x.2.1)] [.int r8.1] r8.2 _
              refine gk_if_le hC dX8_alone_153 (tg := 160) rfl (q := 156) rfl ?_ ?_
              · exact hk160_4 (x.1, r8.2)
              · refine gk_iload hC 7 dX8_alone_156 rfl (q := 158) rfl ?_
                refine gk_istore hC (lv' := [(0, .ref v0), (1, .int v1), (2, .int v2), (3, .int v3), (4, .int v4), (5, .int v5), (6, .int x.2.1), (7, .int x.2.1)]) [1, 2, 3, 4, 5, 6, 0, 7] dX8_alone_158 (by decide) rfl (q := 160) rfl ?_
                exact hk160_4 (x.2.1, r8.2)
            · exact lk_X8_alone_87 hY hC hR v0 v1 v2 v3 v4 v5 x.1 x.2.1 tv0 k142_6 hk142_6 gk_fuel (0, x.2.2)
set_option maxHeartbeats 4000000 in
set_option maxRecDepth 100000 in
theorem lk_X8_alone_19 {Z : gk_Z} {Y : gk_Y} (hY : gk_WF Y) (hC : gk_C Z Y cX8_alone 9 RX8 11) (hR : gk_R Z Y (some .int)) (v0 : Nat) (v1 : Int32) (v2 : Int32) (v3 : Int32) (v4 : Int32) (v5 : Int32) (tv0 : gk_T Y 18 v0) (k50 : gk_M → Option (Int32 × gk_M)) (hk50 : ∀ z30 : gk_M, gk_K Z Y 9 gk_rI 50 [(0, .ref v0), (1, .int v1), (2, .int v2), (3, .int v3), (4, .int v4), (5, .int v5)] [] z30 (k50 z30)) : ∀ (n : Nat) (x : Int32 × gk_M), gk_K Z Y 9 gk_rI 19 [(0, .ref v0), (1, .int v1), (2, .int v2), (3, .int v3), (4, .int v4), (5, .int v5), (6, .int x.1)] [] x.2 (lp_X8_alone_19 (gk_ln Y) (gk_rf Y) v0 v1 v2 v3 v4 v5 k50 n x) := by
  intro n
  induction n with
  | zero => intro x; exact gk_none
  | succ n ih =>
    intro x
    rw [lp_X8_alone_19]
    refine gk_iload hC 6 dX8_alone_19 rfl (q := 21) rfl ?_
    refine gk_aload_n hC 0 dX8_alone_21 rfl (q := 22) rfl ?_
    refine gk_getR hC dX8_alone_22 fl_RX8_70 (by decide) tv0 (q := 25) rfl (fun t1 => ?_)
    refine gk_iconst hC (v := 1) dX8_alone_25 kc_i_1 (q := 26) rfl ?_
    refine gk_iald hC dX8_alone_26 t1 (q := 27) rfl (fun x2 => ?_)
    refine gk_icmp_ge hC dX8_alone_27 (tg := 50) rfl (q := 30) rfl ?_ ?_
    · refine gk_pick [0, 1, 2, 3, 4, 5] rfl ?_
      exact hk50 x.2
    · refine gk_aload_n hC 0 dX8_alone_30 rfl (q := 31) rfl ?_
      refine gk_getR hC dX8_alone_31 fl_RX8_94 (by decide) tv0 (q := 34) rfl (fun t3 => ?_)
      refine gk_iload hC 6 dX8_alone_34 rfl (q := 36) rfl ?_
      refine gk_aload_n hC 0 dX8_alone_36 rfl (q := 37) rfl ?_
      refine gk_getR hC dX8_alone_37 fl_RX8_25 (by decide) tv0 (q := 40) rfl (fun t4 => ?_)
      refine gk_iload hC 6 dX8_alone_40 rfl (q := 42) rfl ?_
      refine gk_iald hC dX8_alone_42 t4 (q := 43) rfl (fun x5 => ?_)
      refine gk_iast hC dX8_alone_43 t3 (q := 44) rfl (fun M6 => ?_)
      refine gk_iinc hC (v := 1) 6 (lv' := [(0, .ref v0), (1, .int v1), (2, .int v2), (3, .int v3), (4, .int v4), (5, .int v5), (6, .int (x.1 + 1))]) [1, 2, 3, 4, 5, 6, 0] dX8_alone_44 rfl kc_i_1 (by decide) rfl (q := 47) rfl ?_
      refine gk_goto hC dX8_alone_47 (q := 19) rfl ?_
      exact ih ((x.1 + 1), M6)
set_option maxHeartbeats 4000000 in
set_option maxRecDepth 100000 in
theorem m_X8_alone (l : Launch) {Y : gk_Y} (hY : gk_WF Y) (a0 : Nat) (a1 : Int32) (a2 : Int32) (a3 : Int32) (a4 : Int32) (a5 : Int32) (M : gk_M) (t0 : gk_T Y 18 a0) : gk_MF l Y yX8_alone cX8_alone 9 (some .int) 11 [.ref a0, .int a1, .int a2, .int a3, .int a4, .int a5] M gk_rI (f_X8_alone (gk_ln Y) (gk_rf Y) a0 a1 a2 a3 a4 a5 M) := by
  refine gk_met hY (plainFor_of_name (by decide)) (Nat.le_of_ble_eq_true rfl) fun Z hC hR => ?_
  show gk_K Z Y 9 gk_rI 0 [(0, .ref a0), (1, .int a1), (2, .int a2), (3, .int a3), (4, .int a4), (5, .int a5)] [] M _
  unfold f_X8_alone
  refine gk_aload_n hC 0 dX8_alone_0 rfl (q := 1) rfl ?_
  refine gk_iload_n hC 1 dX8_alone_1 rfl (q := 2) rfl ?_
  refine gk_iload_n hC 2 dX8_alone_2 rfl (q := 3) rfl ?_
  refine gk_iload_n hC 3 dX8_alone_3 rfl (q := 4) rfl ?_
  refine gk_iload hC 4 dX8_alone_4 rfl (q := 6) rfl ?_
  refine gk_iload hC 5 dX8_alone_6 rfl (q := 8) rfl ?_
  refine gk_callV (As := [.int a1, .int a2, .int a3, .int a4, .int a5]) (rest := []) hC (fun l => m_X8_isAsked l hY a0 a1 a2 a3 a4 a5 M t0) ml_RX8_274 ok_X8_isAsked dX8_alone_8 t0 ⟨by decide, rfl⟩ rfl (by decide) (Nat.le_of_ble_eq_true rfl) rfl (q := 11) rfl (fun r21 => ?_)
  show gk_K Z Y 9 gk_rI 11 [(0, .ref a0), (1, .int a1), (2, .int a2), (3, .int a3), (4, .int a4), (5, .int a5)] [.int r21] M _
  refine gk_if_ne hC dX8_alone_11 (tg := 16) rfl (q := 14) rfl ?_ ?_
  · refine gk_iconst hC (v := (-1)) dX8_alone_14 kc_i_m1 (q := 15) rfl ?_
    exact gk_iret hC hR dX8_alone_15 rfl
  · refine gk_iconst hC (v := 0) dX8_alone_16 kc_i_0 (q := 17) rfl ?_
    refine gk_istore hC (lv' := [(0, .ref a0), (1, .int a1), (2, .int a2), (3, .int a3), (4, .int a4), (5, .int a5), (6, .int 0)]) [1, 2, 3, 4, 5, 6, 0] dX8_alone_17 (by decide) rfl (q := 19) rfl ?_
    refine gk_jnR (fun k50_22 => ∀ z23 : gk_M, gk_K Z Y 9 gk_rI 50 [(0, .ref a0), (1, .int a1), (2, .int a2), (3, .int a3), (4, .int a4), (5, .int a5)] [] z23 (k50_22 z23)) (fun y22 => ?_) (fun k50_22 hk50_22 => ?_)
    · show gk_K Z Y 9 gk_rI 50 [(0, .ref a0), (1, .int a1), (2, .int a2), (3, .int a3), (4, .int a4), (5, .int a5)] [] y22 _
      refine gk_iconst hC (v := (-1)) dX8_alone_50 kc_i_m1 (q := 51) rfl ?_
      refine gk_istore hC (lv' := [(0, .ref a0), (1, .int a1), (2, .int a2), (3, .int a3), (4, .int a4), (5, .int a5), (6, .int (-1))]) [1, 2, 3, 4, 5, 6, 0] dX8_alone_51 (by decide) rfl (q := 53) rfl ?_
      refine gk_iconst hC (v := 0) dX8_alone_53 kc_i_0 (q := 54) rfl ?_
      refine gk_istore hC (lv' := [(0, .ref a0), (1, .int a1), (2, .int a2), (3, .int a3), (4, .int a4), (5, .int a5), (6, .int (-1)), (7, .int 0)]) [1, 2, 3, 4, 5, 6, 7, 0] dX8_alone_54 (by decide) rfl (q := 56) rfl ?_
      refine gk_jnR (fun k166_24 => ∀ z25 : Int32 × gk_M, gk_K Z Y 9 gk_rI 166 [(0, .ref a0), (6, .int z25.1)] [] z25.2 (k166_24 z25)) (fun y24 => ?_) (fun k166_24 hk166_24 => ?_)
      · show gk_K Z Y 9 gk_rI 166 [(0, .ref a0), (6, .int y24.1)] [] y24.2 _
        refine gk_iconst hC (v := 0) dX8_alone_166 kc_i_0 (q := 167) rfl ?_
        refine gk_istore hC (lv' := [(0, .ref a0), (6, .int y24.1), (7, .int 0)]) [1, 2, 0] dX8_alone_167 (by decide) rfl (q := 169) rfl ?_
        refine gk_jnR (fun k200_26 => ∀ z27 : gk_M, gk_K Z Y 9 gk_rI 200 [(6, .int y24.1)] [] z27 (k200_26 z27)) (fun y26 => ?_) (fun k200_26 hk200_26 => ?_)
        · show gk_K Z Y 9 gk_rI 200 [(6, .int y24.1)] [] y26 _
          refine gk_iload hC 0 dX8_alone_200 rfl (q := 202) rfl ?_
          exact gk_iret hC hR dX8_alone_202 rfl
        · exact lk_X8_alone_169 hY hC hR a0 y24.1 t0 k200_26 hk200_26 gk_fuel (0, y24.2)
      · exact lk_X8_alone_56 hY hC hR a0 a1 a2 a3 a4 a5 t0 k166_24 hk166_24 gk_fuel ((-1), 0, y22)
    · exact lk_X8_alone_19 hY hC hR a0 a1 a2 a3 a4 a5 t0 k50_22 hk50_22 gk_fuel (0, M)
end
