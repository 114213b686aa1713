noncomputable section
def f_X8_order (LN : Nat → Nat) (RF : Nat → Nat → Nat) (a0 : Nat) (a1 : Int32) (a2 : Int32) (a3 : Int32) (M : gk_M) : Option (Int32 × gk_M) :=
  (f_X8_isIn LN RF (Int32.toInt64 a1) 0 3 M).bind fun r21 =>
  gk_jn (fun y22 : Unit =>
    (f_X8_refused LN RF a0 1 M).bind fun r24 =>
    some (r24.1, r24.2)) fun k24_22 =>
  if r21 = 0 then
    k24_22 ()
  else
  (f_X8_isIn LN RF (Int32.toInt64 a2) 0 2 M).bind fun r25 =>
  if r25 = 0 then
    k24_22 ()
  else
  gk_ald LN M (RF a0 20) 1 fun x27 =>
  if x27 = 24 then
    (f_X8_refused LN RF a0 2 M).bind fun r28 =>
    some (r28.1, r28.2)
  else
  gk_ald LN M (RF a0 37) a1 fun x30 =>
  if x30 = 0 then
    (f_X8_refused LN RF a0 10 M).bind fun r31 =>
    some (r31.1, r31.2)
  else
  gk_ald LN M (RF a0 37) a1 fun x33 =>
  if x33 = (a2 + 1) then
    gk_jn (fun y34 : Unit =>
      (f_X8_refused LN RF a0 12 M).bind fun r36 =>
      some (r36.1, r36.2)) fun k103_34 =>
    if a3 < 0 then
      k103_34 ()
    else
    gk_ald LN M (RF a0 38) a1 fun x38 =>
    if (lg_cmp ((Int32.toInt64 a3) + 5) (Int32.toInt64 x38)) ≤ 0 then
      gk_ald LN M (RF a0 39) ((40 * a1) + a3) fun x40 =>
      gk_ald LN M (RF a0 39) (((40 * a1) + a3) + 1) fun x42 =>
      gk_ald LN M (RF a0 39) (((40 * a1) + a3) + 2) fun x44 =>
      gk_ald LN M (RF a0 39) (((40 * a1) + a3) + 3) fun x46 =>
      gk_ald LN M (RF a0 39) (((40 * a1) + a3) + 4) fun x48 =>
      (f_X8_isGood LN RF a0 x40 x42 x44 x46 x48 M).bind fun r49 =>
      if r49 = 0 then
        (f_X8_refused LN RF a0 3 M).bind fun r50 =>
        some (r50.1, r50.2)
      else
      gk_ald LN M (RF a0 39) ((40 * a1) + a3) fun x52 =>
      gk_ald LN M (RF a0 39) (((40 * a1) + a3) + 1) fun x54 =>
      gk_ald LN M (RF a0 39) (((40 * a1) + a3) + 2) fun x56 =>
      gk_ald LN M (RF a0 39) (((40 * a1) + a3) + 3) fun x58 =>
      gk_ald LN M (RF a0 39) (((40 * a1) + a3) + 4) fun x60 =>
      (f_X8_adds LN RF a0 x52 x54 x56 x58 x60 M).bind fun r61 =>
      some (r61.1, r61.2)
    else
    k103_34 ()
  else
  (f_X8_refused LN RF a0 11 M).bind fun r62 =>
  some (r62.1, r62.2)
set_option maxHeartbeats 4000000 in
set_option maxRecDepth 100000 in
theorem m_X8_order (l : Launch) {Y : gk_Y} (hY : gk_WF Y) (a0 : Nat) (a1 : Int32) (a2 : Int32) (a3 : Int32) (M : gk_M) (t0 : gk_T Y 18 a0) : gk_MF l Y yX8_order cX8_order 5 (some .int) 2 [.ref a0, .int a1, .int a2, .int a3] M gk_rI (f_X8_order (gk_ln Y) (gk_rf Y) a0 a1 a2 a3 M) := by
  refine gk_met hY (plainFor_of_name (by decide)) (Nat.le_of_ble_eq_true rfl) fun Z hC hR => ?_
  show gk_K Z Y 5 gk_rI 0 [(0, .ref a0), (1, .int a1), (2, .int a2), (3, .int a3)] [] M _
  unfold f_X8_order
  refine gk_iload_n hC 1 dX8_order_0 rfl (q := 1) rfl ?_
  refine gk_i2l hC dX8_order_1 (q := 2) rfl ?_
  refine gk_lconst hC (v := 0) dX8_order_2 kc_l_0 (q := 3) rfl ?_
  refine gk_ldc2 hC (v := 3) cl_RX8_272 dX8_order_3 (q := 6) rfl ?_
  refine gk_callS (As := [.long (Int32.toInt64 a1), .long 0, .long 3]) (rest := []) hC (fun l => m_X8_isIn l hY (Int32.toInt64 a1) 0 3 M) ml_RX8_126 ok_X8_isIn dX8_order_6 rfl (by decide) (Nat.le_of_ble_eq_true rfl) rfl (q := 9) rfl (fun r21 => ?_)
  show gk_K Z Y 5 gk_rI 9 [(0, .ref a0), (1, .int a1), (2, .int a2), (3, .int a3)] [.int r21] M _
  refine gk_jnR (fun k24_22 => ∀ z23 : Unit, gk_K Z Y 5 gk_rI 24 [(0, .ref a0)] [] M (k24_22 z23)) (fun y22 => ?_) (fun k24_22 hk24_22 => ?_)
  · show gk_K Z Y 5 gk_rI 24 [(0, .ref a0)] [] M _
    refine gk_aload_n hC 0 dX8_order_24 rfl (q := 25) rfl ?_
    refine gk_iconst hC (v := 1) dX8_order_25 kc_i_1 (q := 26) rfl ?_
    refine gk_callV (As := [.int 1]) (rest := []) hC (fun l => m_X8_refused l hY a0 1 M t0) ml_RX8_113 ok_X8_refused dX8_order_26 t0 ⟨by decide, rfl⟩ rfl (by decide) (Nat.le_of_ble_eq_true rfl) rfl (q := 29) rfl (fun r24 => ?_)
    show gk_K Z Y 5 gk_rI 29 [(0, .ref a0)] [.int r24.1] r24.2 _
    exact gk_iret hC hR dX8_order_29 rfl
  · refine gk_if_eq hC dX8_order_9 (tg := 24) rfl (q := 12) rfl ?_ ?_
    · refine gk_pick [0] rfl ?_
      exact hk24_22 ()
    · refine gk_iload_n hC 2 dX8_order_12 rfl (q := 13) rfl ?_
      refine gk_i2l hC dX8_order_13 (q := 14) rfl ?_
      refine gk_lconst hC (v := 0) dX8_order_14 kc_l_0 (q := 15) rfl ?_
      refine gk_ldc2 hC (v := 2) cl_RX8_267 dX8_order_15 (q := 18) rfl ?_
      refine gk_callS (As := [.long (Int32.toInt64 a2), .long 0, .long 2]) (rest := []) hC (fun l => m_X8_isIn l hY (Int32.toInt64 a2) 0 2 M) ml_RX8_126 ok_X8_isIn dX8_order_18 rfl (by decide) (Nat.le_of_ble_eq_true rfl) rfl (q := 21) rfl (fun r25 => ?_)
      show gk_K Z Y 5 gk_rI 21 [(0, .ref a0), (1, .int a1), (2, .int a2), (3, .int a3)] [.int r25] M _
      refine gk_if_ne hC dX8_order_21 (tg := 30) rfl (q := 24) rfl ?_ ?_
      · refine gk_pick [0] rfl ?_
        exact hk24_22 ()
      · refine gk_aload_n hC 0 dX8_order_30 rfl (q := 31) rfl ?_
        refine gk_getR hC dX8_order_31 fl_RX8_70 (by decide) t0 (q := 34) rfl (fun t26 => ?_)
        refine gk_iconst hC (v := 1) dX8_order_34 kc_i_1 (q := 35) rfl ?_
        refine gk_iald hC dX8_order_35 t26 (q := 36) rfl (fun x27 => ?_)
        refine gk_bipush hC (v := 24) dX8_order_36 kc_b_24 (q := 38) rfl ?_
        refine gk_icmp_ne hC dX8_order_38 (tg := 47) rfl (q := 41) rfl ?_ ?_
        · refine gk_aload_n hC 0 dX8_order_41 rfl (q := 42) rfl ?_
          refine gk_iconst hC (v := 2) dX8_order_42 kc_i_2 (q := 43) rfl ?_
          refine gk_callV (As := [.int 2]) (rest := []) hC (fun l => m_X8_refused l hY a0 2 M t0) ml_RX8_113 ok_X8_refused dX8_order_43 t0 ⟨by decide, rfl⟩ rfl (by decide) (Nat.le_of_ble_eq_true rfl) rfl (q := 46) rfl (fun r28 => ?_)
          show gk_K Z Y 5 gk_rI 46 [(0, .ref a0), (1, .int a1), (2, .int a2), (3, .int a3)] [.int r28.1] r28.2 _
          exact gk_iret hC hR dX8_order_46 rfl
        · refine gk_aload_n hC 0 dX8_order_47 rfl (q := 48) rfl ?_
          refine gk_getR hC dX8_order_48 fl_RX8_100 (by decide) t0 (q := 51) rfl (fun t29 => ?_)
          refine gk_iload_n hC 1 dX8_order_51 rfl (q := 52) rfl ?_
          refine gk_iald hC dX8_order_52 t29 (q := 53) rfl (fun x30 => ?_)
          refine gk_if_ne hC dX8_order_53 (tg := 63) rfl (q := 56) rfl ?_ ?_
          · refine gk_aload_n hC 0 dX8_order_56 rfl (q := 57) rfl ?_
            refine gk_bipush hC (v := 10) dX8_order_57 kc_b_10 (q := 59) rfl ?_
            refine gk_callV (As := [.int 10]) (rest := []) hC (fun l => m_X8_refused l hY a0 10 M t0) ml_RX8_113 ok_X8_refused dX8_order_59 t0 ⟨by decide, rfl⟩ rfl (by decide) (Nat.le_of_ble_eq_true rfl) rfl (q := 62) rfl (fun r31 => ?_)
            show gk_K Z Y 5 gk_rI 62 [(0, .ref a0), (1, .int a1), (2, .int a2), (3, .int a3)] [.int r31.1] r31.2 _
            exact gk_iret hC hR dX8_order_62 rfl
          · refine gk_aload_n hC 0 dX8_order_63 rfl (q := 64) rfl ?_
            refine gk_getR hC dX8_order_64 fl_RX8_100 (by decide) t0 (q := 67) rfl (fun t32 => ?_)
            refine gk_iload_n hC 1 dX8_order_67 rfl (q := 68) rfl ?_
            refine gk_iald hC dX8_order_68 t32 (q := 69) rfl (fun x33 => ?_)
            refine gk_iload_n hC 2 dX8_order_69 rfl (q := 70) rfl ?_
            refine gk_iconst hC (v := 1) dX8_order_70 kc_i_1 (q := 71) rfl ?_
            refine gk_iadd hC dX8_order_71 (q := 72) rfl ?_
            refine gk_icmp_eq hC dX8_order_72 (tg := 82) rfl (q := 75) rfl ?_ ?_
            · refine gk_iload_n hC 3 dX8_order_82 rfl (q := 83) rfl ?_
              refine gk_jnR (fun k103_34 => ∀ z35 : Unit, gk_K Z Y 5 gk_rI 103 [(0, .ref a0)] [] M (k103_34 z35)) (fun y34 => ?_) (fun k103_34 hk103_34 => ?_)
              · show gk_K Z Y 5 gk_rI 103 [(0, .ref a0)] [] M _
                refine gk_aload_n hC 0 dX8_order_103 rfl (q := 104) rfl ?_
                refine gk_bipush hC (v := 12) dX8_order_104 kc_b_12 (q := 106) rfl ?_
                refine gk_callV (As := [.int 12]) (rest := []) hC (fun l => m_X8_refused l hY a0 12 M t0) ml_RX8_113 ok_X8_refused dX8_order_106 t0 ⟨by decide, rfl⟩ rfl (by decide) (Nat.le_of_ble_eq_true rfl) rfl (q := 109) rfl (fun r36 => ?_)
                show gk_K Z Y 5 gk_rI 109 [(0, .ref a0)] [.int r36.1] r36.2 _
                exact gk_iret hC hR dX8_order_109 rfl
              · refine gk_if_lt hC dX8_order_83 (tg := 103) rfl (q := 86) rfl ?_ ?_
                · refine gk_pick [0] rfl ?_
                  exact hk103_34 ()
                · refine gk_iload_n hC 3 dX8_order_86 rfl (q := 87) rfl ?_
                  refine gk_i2l hC dX8_order_87 (q := 88) rfl ?_
                  refine gk_ldc2 hC (v := 5) cl_RX8_329 dX8_order_88 (q := 91) rfl ?_
                  refine gk_ladd hC dX8_order_91 (q := 92) rfl ?_
                  refine gk_aload_n hC 0 dX8_order_92 rfl (q := 93) rfl ?_
                  refine gk_getR hC dX8_order_93 fl_RX8_103 (by decide) t0 (q := 96) rfl (fun t37 => ?_)
                  refine gk_iload_n hC 1 dX8_order_96 rfl (q := 97) rfl ?_
                  refine gk_iald hC dX8_order_97 t37 (q := 98) rfl (fun x38 => ?_)
                  refine gk_i2l hC dX8_order_98 (q := 99) rfl ?_
                  refine gk_lcmp hC dX8_order_99 (q := 100) rfl ?_
                  refine gk_if_le hC dX8_order_100 (tg := 110) rfl (q := 103) rfl ?_ ?_
                  · refine gk_bipush hC (v := 40) dX8_order_110 kc_b_40 (q := 112) rfl ?_
                    refine gk_iload_n hC 1 dX8_order_112 rfl (q := 113) rfl ?_
                    refine gk_imul hC dX8_order_113 (q := 114) rfl ?_
                    refine gk_iload_n hC 3 dX8_order_114 rfl (q := 115) rfl ?_
                    refine gk_iadd hC dX8_order_115 (q := 116) rfl ?_
                    refine gk_istore hC (lv' := [(0, .ref a0), (4, .int ((40 * a1) + a3))]) [1, 0] dX8_order_116 (by decide) rfl (q := 118) rfl ?_
                    refine gk_aload_n hC 0 dX8_order_118 rfl (q := 119) rfl ?_
                    refine gk_aload_n hC 0 dX8_order_119 rfl (q := 120) rfl ?_
                    refine gk_getR hC dX8_order_120 fl_RX8_106 (by decide) t0 (q := 123) rfl (fun t39 => ?_)
                    refine gk_iload hC 1 dX8_order_123 rfl (q := 125) rfl ?_
                    refine gk_iald hC dX8_order_125 t39 (q := 126) rfl (fun x40 => ?_)
                    refine gk_aload_n hC 0 dX8_order_126 rfl (q := 127) rfl ?_
                    refine gk_getR hC dX8_order_127 fl_RX8_106 (by decide) t0 (q := 130) rfl (fun t41 => ?_)
                    refine gk_iload hC 1 dX8_order_130 rfl (q := 132) rfl ?_
                    refine gk_iconst hC (v := 1) dX8_order_132 kc_i_1 (q := 133) rfl ?_
                    refine gk_iadd hC dX8_order_133 (q := 134) rfl ?_
                    refine gk_iald hC dX8_order_134 t41 (q := 135) rfl (fun x42 => ?_)
                    refine gk_aload_n hC 0 dX8_order_135 rfl (q := 136) rfl ?_
                    refine gk_getR hC dX8_order_136 fl_RX8_106 (by decide) t0 (q := 139) rfl (fun t43 => ?_)
                    refine gk_iload hC 1 dX8_order_139 rfl (q := 141) rfl ?_
                    refine gk_iconst hC (v := 2) dX8_order_141 kc_i_2 (q := 142) rfl ?_
                    refine gk_iadd hC dX8_order_142 (q := 143) rfl ?_
                    refine gk_iald hC dX8_order_143 t43 (q := 144) rfl (fun x44 => ?_)
                    refine gk_aload_n hC 0 dX8_order_144 rfl (q := 145) rfl ?_
                    refine gk_getR hC dX8_order_145 fl_RX8_106 (by decide) t0 (q := 148) rfl (fun t45 => ?_)
                    refine gk_iload hC 1 dX8_order_148 rfl (q := 150) rfl ?_
                    refine gk_iconst hC (v := 3) dX8_order_150 kc_i_3 (q := 151) rfl ?_
                    refine gk_iadd hC dX8_order_151 (q := 152) rfl ?_
                    refine gk_iald hC dX8_order_152 t45 (q := 153) rfl (fun x46 => ?_)
                    refine gk_aload_n hC 0 dX8_order_153 rfl (q := 154) rfl ?_
                    refine gk_getR hC dX8_order_154 fl_RX8_106 (by decide) t0 (q := 157) rfl (fun t47 => ?_)
                    refine gk_iload hC 1 dX8_order_157 rfl (q := 159) rfl ?_
                    refine gk_iconst hC (v := 4) dX8_order_159 kc_i_4 (q := 160) rfl ?_
                    refine gk_iadd hC dX8_order_160 (q := 161) rfl ?_
                    refine gk_iald hC dX8_order_161 t47 (q := 162) rfl (fun x48 => ?_)
                    refine gk_callV (As := [.int x40, .int x42, .int x44, .int x46, .int x48]) (rest := []) hC (fun l => m_X8_isGood l hY a0 x40 x42 x44 x46 x48 M t0) ml_RX8_134 ok_X8_isGood dX8_order_162 t0 ⟨by decide, rfl⟩ rfl (by decide) (Nat.le_of_ble_eq_true rfl) rfl (q := 165) rfl (fun r49 => ?_)
                    show gk_K Z Y 5 gk_rI 165 [(0, .ref a0), (4, .int ((40 * a1) + a3))] [.int r49] M _
                    refine gk_if_ne hC dX8_order_165 (tg := 174) rfl (q := 168) rfl ?_ ?_
                    · refine gk_aload_n hC 0 dX8_order_168 rfl (q := 169) rfl ?_
                      refine gk_iconst hC (v := 3) dX8_order_169 kc_i_3 (q := 170) rfl ?_
                      refine gk_callV (As := [.int 3]) (rest := []) hC (fun l => m_X8_refused l hY a0 3 M t0) ml_RX8_113 ok_X8_refused dX8_order_170 t0 ⟨by decide, rfl⟩ rfl (by decide) (Nat.le_of_ble_eq_true rfl) rfl (q := 173) rfl (fun r50 => ?_)
                      show gk_K Z Y 5 gk_rI 173 [(0, .ref a0), (4, .int ((40 * a1) + a3))] [.int r50.1] r50.2 _
                      exact gk_iret hC hR dX8_order_173 rfl
                    · refine gk_aload_n hC 0 dX8_order_174 rfl (q := 175) rfl ?_
                      refine gk_aload_n hC 0 dX8_order_175 rfl (q := 176) rfl ?_
                      refine gk_getR hC dX8_order_176 fl_RX8_106 (by decide) t0 (q := 179) rfl (fun t51 => ?_)
                      refine gk_iload hC 1 dX8_order_179 rfl (q := 181) rfl ?_
                      refine gk_iald hC dX8_order_181 t51 (q := 182) rfl (fun x52 => ?_)
                      refine gk_aload_n hC 0 dX8_order_182 rfl (q := 183) rfl ?_
                      refine gk_getR hC dX8_order_183 fl_RX8_106 (by decide) t0 (q := 186) rfl (fun t53 => ?_)
                      refine gk_iload hC 1 dX8_order_186 rfl (q := 188) rfl ?_
                      refine gk_iconst hC (v := 1) dX8_order_188 kc_i_1 (q := 189) rfl ?_
                      refine gk_iadd hC dX8_order_189 (q := 190) rfl ?_
                      refine gk_iald hC dX8_order_190 t53 (q := 191) rfl (fun x54 => ?_)
                      refine gk_aload_n hC 0 dX8_order_191 rfl (q := 192) rfl ?_
                      refine gk_getR hC dX8_order_192 fl_RX8_106 (by decide) t0 (q := 195) rfl (fun t55 => ?_)
                      refine gk_iload hC 1 dX8_order_195 rfl (q := 197) rfl ?_
                      refine gk_iconst hC (v := 2) dX8_order_197 kc_i_2 (q := 198) rfl ?_
                      refine gk_iadd hC dX8_order_198 (q := 199) rfl ?_
                      refine gk_iald hC dX8_order_199 t55 (q := 200) rfl (fun x56 => ?_)
                      refine gk_aload_n hC 0 dX8_order_200 rfl (q := 201) rfl ?_
                      refine gk_getR hC dX8_order_201 fl_RX8_106 (by decide) t0 (q := 204) rfl (fun t57 => ?_)
                      refine gk_iload hC 1 dX8_order_204 rfl (q := 206) rfl ?_
                      refine gk_iconst hC (v := 3) dX8_order_206 kc_i_3 (q := 207) rfl ?_
                      refine gk_iadd hC dX8_order_207 (q := 208) rfl ?_
                      refine gk_iald hC dX8_order_208 t57 (q := 209) rfl (fun x58 => ?_)
                      refine gk_aload_n hC 0 dX8_order_209 rfl (q := 210) rfl ?_
                      refine gk_getR hC dX8_order_210 fl_RX8_106 (by decide) t0 (q := 213) rfl (fun t59 => ?_)
                      refine gk_iload hC 1 dX8_order_213 rfl (q := 215) rfl ?_
                      refine gk_iconst hC (v := 4) dX8_order_215 kc_i_4 (q := 216) rfl ?_
                      refine gk_iadd hC dX8_order_216 (q := 217) rfl ?_
                      refine gk_iald hC dX8_order_217 t59 (q := 218) rfl (fun x60 => ?_)
                      refine gk_callV (As := [.int x52, .int x54, .int x56, .int x58, .int x60]) (rest := []) hC (fun l => m_X8_adds l hY a0 x52 x54 x56 x58 x60 M t0) ml_RX8_138 ok_X8_adds dX8_order_218 t0 ⟨by decide, rfl⟩ rfl (by decide) (Nat.le_of_ble_eq_true rfl) rfl (q := 221) rfl (fun r61 => ?_)
                      show gk_K Z Y 5 gk_rI 221 [(0, .ref a0), (4, .int ((40 * a1) + a3))] [.int r61.1] r61.2 _
                      exact gk_iret hC hR dX8_order_221 rfl
                  · refine gk_pick [0] rfl ?_
                    exact hk103_34 ()
            · refine gk_aload_n hC 0 dX8_order_75 rfl (q := 76) rfl ?_
              refine gk_bipush hC (v := 11) dX8_order_76 kc_b_11 (q := 78) rfl ?_
              refine gk_callV (As := [.int 11]) (rest := []) hC (fun l => m_X8_refused l hY a0 11 M t0) ml_RX8_113 ok_X8_refused dX8_order_78 t0 ⟨by decide, rfl⟩ rfl (by decide) (Nat.le_of_ble_eq_true rfl) rfl (q := 81) rfl (fun r62 => ?_)
              show gk_K Z Y 5 gk_rI 81 [(0, .ref a0), (1, .int a1), (2, .int a2), (3, .int a3)] [.int r62.1] r62.2 _
              exact gk_iret hC hR dX8_order_81 rfl
def f_X8_modulo (LN : Nat → Nat) (RF : Nat → Nat → Nat) (a0 : Int32) (a1 : Int32) (M : gk_M) : Option (Int32) :=
  if a1 = 0 then none else
  if a1 = 0 then none else
  some (((a0 - a0 / a1 * a1) + a1) - ((a0 - a0 / a1 * a1) + a1) / a1 * a1)
set_option maxHeartbeats 4000000 in
set_option maxRecDepth 100000 in
theorem m_X8_modulo (l : Launch) {Y : gk_Y} (hY : gk_WF Y) (a0 : Int32) (a1 : Int32) (M : gk_M)  : gk_MF l Y yX8_modulo cX8_modulo 2 (some .int) 0 [.int a0, .int a1] M (gk_rR M) (f_X8_modulo (gk_ln Y) (gk_rf Y) a0 a1 M) := by
  refine gk_met hY (plainFor_of_name (by decide)) (Nat.le_of_ble_eq_true rfl) fun Z hC hR => ?_
  show gk_K Z Y 2 (gk_rR M) 0 [(0, .int a0), (1, .int a1)] [] M _
  unfold f_X8_modulo
  refine gk_iload_n hC 0 dX8_modulo_0 rfl (q := 1) rfl ?_
  refine gk_iload_n hC 1 dX8_modulo_1 rfl (q := 2) rfl ?_
  refine gk_nz (fun hz21 => ?_)
  refine gk_irem hC dX8_modulo_2 hz21 (q := 3) rfl ?_
  refine gk_iload_n hC 1 dX8_modulo_3 rfl (q := 4) rfl ?_
  refine gk_iadd hC dX8_modulo_4 (q := 5) rfl ?_
  refine gk_iload_n hC 1 dX8_modulo_5 rfl (q := 6) rfl ?_
  refine gk_nz (fun hz22 => ?_)
  refine gk_irem hC dX8_modulo_6 hz22 (q := 7) rfl ?_
  exact gk_iret hC hR dX8_modulo_7 rfl
def lp_X8_copied_69 (LN : Nat → Nat) (RF : Nat → Nat → Nat) (v0 : Nat) (v1 : Int32) (v2 : Int32) (M : gk_M) (k96 : Int32 → Option (Int32 × gk_M)) : Nat → (Int32 × Int32) → Option (Int32 × gk_M)
  | 0, _ => none
  | n + 1, x =>
    if v2 < x.2 then
      k96 x.1
    else
    gk_ald LN M (RF v0 39) ((40 * v1) + x.2) fun x2 =>
    lp_X8_copied_69 LN RF v0 v1 v2 M k96 n ((x.1 + x2), (x.2 + 1))
def f_X8_copied (LN : Nat → Nat) (RF : Nat → Nat → Nat) (a0 : Nat) (a1 : Int32) (a2 : Int32) (M : gk_M) : Option (Int32 × gk_M) :=
  gk_ald LN M (RF a0 37) a1 fun x22 =>
  if x22 = 0 then
    (f_X8_refused LN RF a0 10 M).bind fun r23 =>
    some (r23.1, r23.2)
  else
  gk_ald LN M (RF a0 37) a1 fun x25 =>
  if x25 = 1 then
    gk_jn (fun y26 : Unit =>
      (f_X8_refused LN RF a0 12 M).bind fun r28 =>
      some (r28.1, r28.2)) fun k57_26 =>
    if a2 < 0 then
      k57_26 ()
    else
    gk_ald LN M (RF a0 38) a1 fun x30 =>
    if x30 < (a2 + 1) then
      k57_26 ()
    else
    if (a2 + a2) ≤ 6 then
      gk_jn (fun y31 : Int32 =>
        (f_X8_done LN RF a0 y31 M).bind fun r33 =>
        some (r33.1, r33.2)) fun k96_31 =>
      lp_X8_copied_69 LN RF a0 a1 a2 M k96_31 gk_fuel (0, 1)
    else
    k57_26 ()
  else
  (f_X8_refused LN RF a0 11 M).bind fun r35 =>
  some (r35.1, r35.2)
set_option maxHeartbeats 4000000 in
set_option maxRecDepth 100000 in
theorem lk_X8_copied_69 {Z : gk_Z} {Y : gk_Y} (hY : gk_WF Y) (hC : gk_C Z Y cX8_copied 5 RX8 1) (hR : gk_R Z Y (some .int)) (v0 : Nat) (v1 : Int32) (v2 : Int32) (M : gk_M) (tv0 : gk_T Y 18 v0) (k96 : Int32 → Option (Int32 × gk_M)) (hk96 : ∀ z34 : Int32, gk_K Z Y 5 gk_rI 96 [(0, .ref v0), (3, .int z34)] [] M (k96 z34)) : ∀ (n : Nat) (x : Int32 × Int32), gk_K Z Y 5 gk_rI 69 [(0, .ref v0), (1, .int v1), (2, .int v2), (3, .int x.1), (4, .int x.2)] [] M (lp_X8_copied_69 (gk_ln Y) (gk_rf Y) v0 v1 v2 M k96 n x) := by
  intro n
  induction n with
  | zero => intro x; exact gk_none
  | succ n ih =>
    intro x
    rw [lp_X8_copied_69]
    refine gk_iload hC 4 dX8_copied_69 rfl (q := 71) rfl ?_
    refine gk_iload_n hC 2 dX8_copied_71 rfl (q := 72) rfl ?_
    refine gk_icmp_gt hC dX8_copied_72 (tg := 96) rfl (q := 75) rfl ?_ ?_
    · refine gk_pick [0, 3] rfl ?_
      exact hk96 x.1
    · refine gk_iload_n hC 3 dX8_copied_75 rfl (q := 76) rfl ?_
      refine gk_aload_n hC 0 dX8_copied_76 rfl (q := 77) rfl ?_
      refine gk_getR hC dX8_copied_77 fl_RX8_106 (by decide) tv0 (q := 80) rfl (fun t1 => ?_)
      refine gk_bipush hC (v := 40) dX8_copied_80 kc_b_40 (q := 82) rfl ?_
      refine gk_iload_n hC 1 dX8_copied_82 rfl (q := 83) rfl ?_
      refine gk_imul hC dX8_copied_83 (q := 84) rfl ?_
      refine gk_iload hC 4 dX8_copied_84 rfl (q := 86) rfl ?_
      refine gk_iadd hC dX8_copied_86 (q := 87) rfl ?_
      refine gk_iald hC dX8_copied_87 t1 (q := 88) rfl (fun x2 => ?_)
      refine gk_iadd hC dX8_copied_88 (q := 89) rfl ?_
      refine gk_istore_n hC (lv' := [(0, .ref v0), (1, .int v1), (2, .int v2), (3, .int (x.1 + x2)), (4, .int x.2)]) [1, 2, 3, 0, 4] dX8_copied_89 (by decide) rfl (q := 90) rfl ?_
      refine gk_iinc hC (v := 1) 4 (lv' := [(0, .ref v0), (1, .int v1), (2, .int v2), (3, .int (x.1 + x2)), (4, .int (x.2 + 1))]) [1, 2, 3, 4, 0] dX8_copied_90 rfl kc_i_1 (by decide) rfl (q := 93) rfl ?_
      refine gk_goto hC dX8_copied_93 (q := 69) rfl ?_
      exact ih ((x.1 + x2), (x.2 + 1))
set_option maxHeartbeats 4000000 in
set_option maxRecDepth 100000 in
theorem m_X8_copied (l : Launch) {Y : gk_Y} (hY : gk_WF Y) (a0 : Nat) (a1 : Int32) (a2 : Int32) (M : gk_M) (t0 : gk_T Y 18 a0) : gk_MF l Y yX8_copied cX8_copied 5 (some .int) 1 [.ref a0, .int a1, .int a2] M gk_rI (f_X8_copied (gk_ln Y) (gk_rf Y) a0 a1 a2 M) := by
  refine gk_met hY (plainFor_of_name (by decide)) (Nat.le_of_ble_eq_true rfl) fun Z hC hR => ?_
  show gk_K Z Y 5 gk_rI 0 [(0, .ref a0), (1, .int a1), (2, .int a2)] [] M _
  unfold f_X8_copied
  refine gk_aload_n hC 0 dX8_copied_0 rfl (q := 1) rfl ?_
  refine gk_getR hC dX8_copied_1 fl_RX8_100 (by decide) t0 (q := 4) rfl (fun t21 => ?_)
  refine gk_iload_n hC 1 dX8_copied_4 rfl (q := 5) rfl ?_
  refine gk_iald hC dX8_copied_5 t21 (q := 6) rfl (fun x22 => ?_)
  refine gk_if_ne hC dX8_copied_6 (tg := 16) rfl (q := 9) rfl ?_ ?_
  · refine gk_aload_n hC 0 dX8_copied_9 rfl (q := 10) rfl ?_
    refine gk_bipush hC (v := 10) dX8_copied_10 kc_b_10 (q := 12) rfl ?_
    refine gk_callV (As := [.int 10]) (rest := []) hC (fun l => m_X8_refused l hY a0 10 M t0) ml_RX8_113 ok_X8_refused dX8_copied_12 t0 ⟨by decide, rfl⟩ rfl (by decide) (Nat.le_of_ble_eq_true rfl) rfl (q := 15) rfl (fun r23 => ?_)
    show gk_K Z Y 5 gk_rI 15 [(0, .ref a0), (1, .int a1), (2, .int a2)] [.int r23.1] r23.2 _
    exact gk_iret hC hR dX8_copied_15 rfl
  · refine gk_aload_n hC 0 dX8_copied_16 rfl (q := 17) rfl ?_
    refine gk_getR hC dX8_copied_17 fl_RX8_100 (by decide) t0 (q := 20) rfl (fun t24 => ?_)
    refine gk_iload_n hC 1 dX8_copied_20 rfl (q := 21) rfl ?_
    refine gk_iald hC dX8_copied_21 t24 (q := 22) rfl (fun x25 => ?_)
    refine gk_iconst hC (v := 1) dX8_copied_22 kc_i_1 (q := 23) rfl ?_
    refine gk_icmp_eq hC dX8_copied_23 (tg := 33) rfl (q := 26) rfl ?_ ?_
    · refine gk_iload_n hC 2 dX8_copied_33 rfl (q := 34) rfl ?_
      refine gk_jnR (fun k57_26 => ∀ z27 : Unit, gk_K Z Y 5 gk_rI 57 [(0, .ref a0)] [] M (k57_26 z27)) (fun y26 => ?_) (fun k57_26 hk57_26 => ?_)
      · show gk_K Z Y 5 gk_rI 57 [(0, .ref a0)] [] M _
        refine gk_aload_n hC 0 dX8_copied_57 rfl (q := 58) rfl ?_
        refine gk_bipush hC (v := 12) dX8_copied_58 kc_b_12 (q := 60) rfl ?_
        refine gk_callV (As := [.int 12]) (rest := []) hC (fun l => m_X8_refused l hY a0 12 M t0) ml_RX8_113 ok_X8_refused dX8_copied_60 t0 ⟨by decide, rfl⟩ rfl (by decide) (Nat.le_of_ble_eq_true rfl) rfl (q := 63) rfl (fun r28 => ?_)
        show gk_K Z Y 5 gk_rI 63 [(0, .ref a0)] [.int r28.1] r28.2 _
        exact gk_iret hC hR dX8_copied_63 rfl
      · refine gk_if_lt hC dX8_copied_34 (tg := 57) rfl (q := 37) rfl ?_ ?_
        · refine gk_pick [0] rfl ?_
          exact hk57_26 ()
        · refine gk_iload_n hC 2 dX8_copied_37 rfl (q := 38) rfl ?_
          refine gk_iconst hC (v := 1) dX8_copied_38 kc_i_1 (q := 39) rfl ?_
          refine gk_iadd hC dX8_copied_39 (q := 40) rfl ?_
          refine gk_aload_n hC 0 dX8_copied_40 rfl (q := 41) rfl ?_
          refine gk_getR hC dX8_copied_41 fl_RX8_103 (by decide) t0 (q := 44) rfl (fun t29 => ?_)
          refine gk_iload_n hC 1 dX8_copied_44 rfl (q := 45) rfl ?_
          refine gk_iald hC dX8_copied_45 t29 (q := 46) rfl (fun x30 => ?_)
          refine gk_icmp_gt hC dX8_copied_46 (tg := 57) rfl (q := 49) rfl ?_ ?_
          · refine gk_pick [0] rfl ?_
            exact hk57_26 ()
          · refine gk_iload_n hC 2 dX8_copied_49 rfl (q := 50) rfl ?_
            refine gk_iload_n hC 2 dX8_copied_50 rfl (q := 51) rfl ?_
            refine gk_iadd hC dX8_copied_51 (q := 52) rfl ?_
            refine gk_bipush hC (v := 6) dX8_copied_52 kc_b_6 (q := 54) rfl ?_
            refine gk_icmp_le hC dX8_copied_54 (tg := 64) rfl (q := 57) rfl ?_ ?_
            · refine gk_iconst hC (v := 0) dX8_copied_64 kc_i_0 (q := 65) rfl ?_
              refine gk_istore_n hC (lv' := [(0, .ref a0), (1, .int a1), (2, .int a2), (3, .int 0)]) [1, 2, 3, 0] dX8_copied_65 (by decide) rfl (q := 66) rfl ?_
              refine gk_iconst hC (v := 1) dX8_copied_66 kc_i_1 (q := 67) rfl ?_
              refine gk_istore hC (lv' := [(0, .ref a0), (1, .int a1), (2, .int a2), (3, .int 0), (4, .int 1)]) [1, 2, 3, 4, 0] dX8_copied_67 (by decide) rfl (q := 69) rfl ?_
              refine gk_jnR (fun k96_31 => ∀ z32 : Int32, gk_K Z Y 5 gk_rI 96 [(0, .ref a0), (3, .int z32)] [] M (k96_31 z32)) (fun y31 => ?_) (fun k96_31 hk96_31 => ?_)
              · show gk_K Z Y 5 gk_rI 96 [(0, .ref a0), (3, .int y31)] [] M _
                refine gk_aload_n hC 0 dX8_copied_96 rfl (q := 97) rfl ?_
                refine gk_iload_n hC 1 dX8_copied_97 rfl (q := 98) rfl ?_
                refine gk_callV (As := [.int y31]) (rest := []) hC (fun l => m_X8_done l hY a0 y31 M t0) ml_RX8_117 ok_X8_done dX8_copied_98 t0 ⟨by decide, rfl⟩ rfl (by decide) (Nat.le_of_ble_eq_true rfl) rfl (q := 101) rfl (fun r33 => ?_)
                show gk_K Z Y 5 gk_rI 101 [(0, .ref a0), (3, .int y31)] [.int r33.1] r33.2 _
                exact gk_iret hC hR dX8_copied_101 rfl
              · exact lk_X8_copied_69 hY hC hR a0 a1 a2 M t0 k96_31 hk96_31 gk_fuel (0, 1)
            · refine gk_pick [0] rfl ?_
              exact hk57_26 ()
    · refine gk_aload_n hC 0 dX8_copied_26 rfl (q := 27) rfl ?_
      refine gk_bipush hC (v := 11) dX8_copied_27 kc_b_11 (q := 29) rfl ?_
      refine gk_callV (As := [.int 11]) (rest := []) hC (fun l => m_X8_refused l hY a0 11 M t0) ml_RX8_113 ok_X8_refused dX8_copied_29 t0 ⟨by decide, rfl⟩ rfl (by decide) (Nat.le_of_ble_eq_true rfl) rfl (q := 32) rfl (fun r35 => ?_)
      show gk_K Z Y 5 gk_rI 32 [(0, .ref a0), (1, .int a1), (2, .int a2)] [.int r35.1] r35.2 _
      exact gk_iret hC hR dX8_copied_32 rfl
def f_X8_forge (LN : Nat → Nat) (RF : Nat → Nat → Nat) (a0 : Nat) (a1 : Int32) (a2 : Int32) (a3 : Int32) (M : gk_M) : Option (Int32 × gk_M) :=
  (f_X8_isIn LN RF (Int32.toInt64 a1) 0 6 M).bind fun r21 =>
  gk_jn (fun y22 : Unit =>
    (f_X8_refused LN RF a0 1 M).bind fun r24 =>
    some (r24.1, r24.2)) fun k40_22 =>
  if r21 = 0 then
    k40_22 ()
  else
  (f_X8_isIn LN RF (Int32.toInt64 a2) (-100) 100 M).bind fun r25 =>
  if r25 = 0 then
    k40_22 ()
  else
  (f_X8_isIn LN RF (Int32.toInt64 a3) (-100) 100 M).bind fun r26 =>
  if r26 = 0 then
    k40_22 ()
  else
  (f_X8_modulo LN RF a3 24 M).bind fun r27 =>
  (f_X8_modulo LN RF a3 4 M).bind fun r28 =>
  gk_sw a1 0 [(f_X8_modulo LN RF a2 8 M).bind fun r29 =>
    (f_X8_isWish LN RF a0 r27 M).bind fun r30 =>
    if r30 = 0 then
      (f_X8_refused LN RF a0 10 M).bind fun r31 =>
      some (r31.1, r31.2)
    else
    gk_jn (fun y32 : Int32 =>
      gk_jn (fun y34 : Int32 × gk_M =>
        some (y34.1, y34.2)) fun k190_34 =>
      if y32 = 0 then
        (f_X8_refused LN RF a0 11 M).bind fun r36 =>
        k190_34 (r36.1, r36.2)
      else
      gk_ald LN M (RF a0 1) r27 fun x38 =>
      (f_X8_done LN RF a0 x38 M).bind fun r39 =>
      k190_34 (r39.1, r39.2)) fun k163_32 =>
    gk_jn (fun y40 : Unit =>
      k163_32 1) fun k158_40 =>
    if r29 = 0 then
      k158_40 ()
    else
    gk_ald LN M (RF a0 1) r27 fun x43 =>
    if x43 = r29 then
      k158_40 ()
    else
    gk_jn (fun y44 : Unit =>
      k163_32 0) fun k162_44 =>
    if r29 = 2 then
      gk_ald LN M (RF a0 1) r27 fun x47 =>
      if x47 = 3 then
        k158_40 ()
      else
      k162_44 ()
    else
    k162_44 (),
    gk_jn (fun y48 : Int32 × gk_M =>
      some (y48.1, y48.2)) fun k209_48 =>
    if 0 ≤ a2 then
      (f_X8_done LN RF a0 a2 M).bind fun r50 =>
      k209_48 (r50.1, r50.2)
    else
    (f_X8_refused LN RF a0 13 M).bind fun r51 =>
    k209_48 (r51.1, r51.2),
    gk_ald LN M (RF a0 37) r28 fun x53 =>
    if x53 = 0 then
      (f_X8_refused LN RF a0 10 M).bind fun r54 =>
      some (r54.1, r54.2)
    else
    gk_ald LN M (RF a0 37) r28 fun x56 =>
    if x56 = 2 then
      gk_ald LN M (RF a0 38) r28 fun x58 =>
      (f_X8_isIn LN RF (Int32.toInt64 a2) 0 (Int32.toInt64 (x58 - 1)) M).bind fun r59 =>
      gk_jn (fun y60 : Int32 × gk_M =>
        some (y60.1, y60.2)) fun k289_60 =>
      if r59 = 0 then
        (f_X8_refused LN RF a0 12 M).bind fun r62 =>
        k289_60 (r62.1, r62.2)
      else
      gk_ald LN M (RF a0 39) ((40 * r28) + a2) fun x64 =>
      (f_X8_done LN RF a0 x64 M).bind fun r65 =>
      k289_60 (r65.1, r65.2)
    else
    (f_X8_refused LN RF a0 11 M).bind fun r66 =>
    some (r66.1, r66.2),
    (f_X8_copied LN RF a0 r28 a2 M).bind fun r67 =>
    some (r67.1, r67.2),
    (f_X8_isWish LN RF a0 r27 M).bind fun r68 =>
    if r68 = 0 then
      (f_X8_done LN RF a0 0 M).bind fun r69 =>
      some (r69.1, r69.2)
    else
    gk_ald LN M (RF a0 1) r27 fun x71 =>
    gk_jn (fun y72 : Int32 × gk_M =>
      some (y72.1, y72.2)) fun k355_72 =>
    gk_jn (fun y74 : Unit =>
      gk_ald LN M (RF a0 1) r27 fun x77 =>
      (f_X8_done LN RF a0 x77 M).bind fun r78 =>
      k355_72 (r78.1, r78.2)) fun k335_74 =>
    if x71 = 2 then
      k335_74 ()
    else
    gk_ald LN M (RF a0 1) r27 fun x80 =>
    if x80 = 3 then
      k335_74 ()
    else
    (f_X8_refused LN RF a0 14 M).bind fun r81 =>
    k355_72 (r81.1, r81.2),
    gk_jn (fun y82 : Int32 × gk_M =>
      some (y82.1, y82.2)) fun k378_82 =>
    if a2 = 0 then
      (f_X8_refused LN RF a0 15 M).bind fun r84 =>
      k378_82 (r84.1, r84.2)
    else
    if a2 = 0 then none else
    (f_X8_done LN RF a0 (1000 / a2) M).bind fun r86 =>
    k378_82 (r86.1, r86.2)]
  ((f_X8_modulo LN RF a2 2 M).bind fun r87 =>
  gk_jn (fun y88 : Int32 × gk_M =>
    some (y88.1, y88.2)) fun k401_88 =>
  if r87 = 0 then
    (f_X8_refused LN RF a0 10 M).bind fun r90 =>
    k401_88 (r90.1, r90.2)
  else
  (f_X8_done LN RF a0 1 M).bind fun r91 =>
  k401_88 (r91.1, r91.2))
set_option maxHeartbeats 4000000 in
set_option maxRecDepth 100000 in
theorem m_X8_forge (l : Launch) {Y : gk_Y} (hY : gk_WF Y) (a0 : Nat) (a1 : Int32) (a2 : Int32) (a3 : Int32) (M : gk_M) (t0 : gk_T Y 18 a0) : gk_MF l Y yX8_forge cX8_forge 8 (some .int) 2 [.ref a0, .int a1, .int a2, .int a3] M gk_rI (f_X8_forge (gk_ln Y) (gk_rf Y) a0 a1 a2 a3 M) := by
  refine gk_met hY (plainFor_of_name (by decide)) (Nat.le_of_ble_eq_true rfl) fun Z hC hR => ?_
  show gk_K Z Y 8 gk_rI 0 [(0, .ref a0), (1, .int a1), (2, .int a2), (3, .int a3)] [] M _
  unfold f_X8_forge
  refine gk_iload_n hC 1 dX8_forge_0 rfl (q := 1) rfl ?_
  refine gk_i2l hC dX8_forge_1 (q := 2) rfl ?_
  refine gk_lconst hC (v := 0) dX8_forge_2 kc_l_0 (q := 3) rfl ?_
  refine gk_ldc2 hC (v := 6) cl_RX8_331 dX8_forge_3 (q := 6) rfl ?_
  refine gk_callS (As := [.long (Int32.toInt64 a1), .long 0, .long 6]) (rest := []) hC (fun l => m_X8_isIn l hY (Int32.toInt64 a1) 0 6 M) ml_RX8_126 ok_X8_isIn dX8_forge_6 rfl (by decide) (Nat.le_of_ble_eq_true rfl) rfl (q := 9) rfl (fun r21 => ?_)
  show gk_K Z Y 8 gk_rI 9 [(0, .ref a0), (1, .int a1), (2, .int a2), (3, .int a3)] [.int r21] M _
  refine gk_jnR (fun k40_22 => ∀ z23 : Unit, gk_K Z Y 8 gk_rI 40 [(0, .ref a0)] [] M (k40_22 z23)) (fun y22 => ?_) (fun k40_22 hk40_22 => ?_)
  · show gk_K Z Y 8 gk_rI 40 [(0, .ref a0)] [] M _
    refine gk_aload_n hC 0 dX8_forge_40 rfl (q := 41) rfl ?_
    refine gk_iconst hC (v := 1) dX8_forge_41 kc_i_1 (q := 42) rfl ?_
    refine gk_callV (As := [.int 1]) (rest := []) hC (fun l => m_X8_refused l hY a0 1 M t0) ml_RX8_113 ok_X8_refused dX8_forge_42 t0 ⟨by decide, rfl⟩ rfl (by decide) (Nat.le_of_ble_eq_true rfl) rfl (q := 45) rfl (fun r24 => ?_)
    show gk_K Z Y 8 gk_rI 45 [(0, .ref a0)] [.int r24.1] r24.2 _
    exact gk_iret hC hR dX8_forge_45 rfl
  · refine gk_if_eq hC dX8_forge_9 (tg := 40) rfl (q := 12) rfl ?_ ?_
    · refine gk_pick [0] rfl ?_
      exact hk40_22 ()
    · refine gk_iload_n hC 2 dX8_forge_12 rfl (q := 13) rfl ?_
      refine gk_i2l hC dX8_forge_13 (q := 14) rfl ?_
      refine gk_ldc2 hC (v := (-100)) cl_RX8_333 dX8_forge_14 (q := 17) rfl ?_
      refine gk_ldc2 hC (v := 100) cl_RX8_335 dX8_forge_17 (q := 20) rfl ?_
      refine gk_callS (As := [.long (Int32.toInt64 a2), .long (-100), .long 100]) (rest := []) hC (fun l => m_X8_isIn l hY (Int32.toInt64 a2) (-100) 100 M) ml_RX8_126 ok_X8_isIn dX8_forge_20 rfl (by decide) (Nat.le_of_ble_eq_true rfl) rfl (q := 23) rfl (fun r25 => ?_)
      show gk_K Z Y 8 gk_rI 23 [(0, .ref a0), (1, .int a1), (2, .int a2), (3, .int a3)] [.int r25] M _
      refine gk_if_eq hC dX8_forge_23 (tg := 40) rfl (q := 26) rfl ?_ ?_
      · refine gk_pick [0] rfl ?_
        exact hk40_22 ()
      · refine gk_iload_n hC 3 dX8_forge_26 rfl (q := 27) rfl ?_
        refine gk_i2l hC dX8_forge_27 (q := 28) rfl ?_
        refine gk_ldc2 hC (v := (-100)) cl_RX8_333 dX8_forge_28 (q := 31) rfl ?_
        refine gk_ldc2 hC (v := 100) cl_RX8_335 dX8_forge_31 (q := 34) rfl ?_
        refine gk_callS (As := [.long (Int32.toInt64 a3), .long (-100), .long 100]) (rest := []) hC (fun l => m_X8_isIn l hY (Int32.toInt64 a3) (-100) 100 M) ml_RX8_126 ok_X8_isIn dX8_forge_34 rfl (by decide) (Nat.le_of_ble_eq_true rfl) rfl (q := 37) rfl (fun r26 => ?_)
        show gk_K Z Y 8 gk_rI 37 [(0, .ref a0), (1, .int a1), (2, .int a2), (3, .int a3)] [.int r26] M _
        refine gk_if_ne hC dX8_forge_37 (tg := 46) rfl (q := 40) rfl ?_ ?_
        · refine gk_pick [0] rfl ?_
          exact hk40_22 ()
        · refine gk_iload_n hC 3 dX8_forge_46 rfl (q := 47) rfl ?_
          refine gk_bipush hC (v := 24) dX8_forge_47 kc_b_24 (q := 49) rfl ?_
          refine gk_callS (As := [.int a3, .int 24]) (rest := []) hC (fun l => m_X8_modulo l hY a3 24 M) ml_RX8_337 ok_X8_modulo dX8_forge_49 rfl (by decide) (Nat.le_of_ble_eq_true rfl) rfl (q := 52) rfl (fun r27 => ?_)
          show gk_K Z Y 8 gk_rI 52 [(0, .ref a0), (1, .int a1), (2, .int a2), (3, .int a3)] [.int r27] M _
          refine gk_istore hC (lv' := [(0, .ref a0), (1, .int a1), (2, .int a2), (3, .int a3), (4, .int r27)]) [1, 2, 3, 4, 0] dX8_forge_52 (by decide) rfl (q := 54) rfl ?_
          refine gk_iload_n hC 3 dX8_forge_54 rfl (q := 55) rfl ?_
          refine gk_iconst hC (v := 4) dX8_forge_55 kc_i_4 (q := 56) rfl ?_
          refine gk_callS (As := [.int a3, .int 4]) (rest := []) hC (fun l => m_X8_modulo l hY a3 4 M) ml_RX8_337 ok_X8_modulo dX8_forge_56 rfl (by decide) (Nat.le_of_ble_eq_true rfl) rfl (q := 59) rfl (fun r28 => ?_)
          show gk_K Z Y 8 gk_rI 59 [(0, .ref a0), (1, .int a1), (2, .int a2), (3, .int a3), (4, .int r27)] [.int r28] M _
          refine gk_istore hC (lv' := [(0, .ref a0), (1, .int a1), (2, .int a2), (4, .int r27), (5, .int r28)]) [1, 2, 3, 5, 0] dX8_forge_59 (by decide) rfl (q := 61) rfl ?_
          refine gk_iload_n hC 1 dX8_forge_61 rfl (q := 62) rfl ?_
          refine gk_table hC (ts := [100, 191, 210, 290, 298, 356]) (tg := 379) dX8_forge_62 (by decide) (by decide) rfl ⟨?_, ?_, ?_, ?_, ?_, ?_, trivial⟩ ?_
          · refine gk_iload_n hC 2 dX8_forge_100 rfl (q := 101) rfl ?_
            refine gk_bipush hC (v := 8) dX8_forge_101 kc_b_8 (q := 103) rfl ?_
            refine gk_callS (As := [.int a2, .int 8]) (rest := []) hC (fun l => m_X8_modulo l hY a2 8 M) ml_RX8_337 ok_X8_modulo dX8_forge_103 rfl (by decide) (Nat.le_of_ble_eq_true rfl) rfl (q := 106) rfl (fun r29 => ?_)
            show gk_K Z Y 8 gk_rI 106 [(0, .ref a0), (1, .int a1), (2, .int a2), (4, .int r27), (5, .int r28)] [.int r29] M _
            refine gk_istore hC (lv' := [(0, .ref a0), (4, .int r27), (6, .int r29)]) [1, 4, 0] dX8_forge_106 (by decide) rfl (q := 108) rfl ?_
            refine gk_aload_n hC 0 dX8_forge_108 rfl (q := 109) rfl ?_
            refine gk_iload hC 1 dX8_forge_109 rfl (q := 111) rfl ?_
            refine gk_callV (As := [.int r27]) (rest := []) hC (fun l => m_X8_isWish l hY a0 r27 M t0) ml_RX8_142 ok_X8_isWish dX8_forge_111 t0 ⟨by decide, rfl⟩ rfl (by decide) (Nat.le_of_ble_eq_true rfl) rfl (q := 114) rfl (fun r30 => ?_)
            show gk_K Z Y 8 gk_rI 114 [(0, .ref a0), (4, .int r27), (6, .int r29)] [.int r30] M _
            refine gk_if_ne hC dX8_forge_114 (tg := 124) rfl (q := 117) rfl ?_ ?_
            · refine gk_aload_n hC 0 dX8_forge_117 rfl (q := 118) rfl ?_
              refine gk_bipush hC (v := 10) dX8_forge_118 kc_b_10 (q := 120) rfl ?_
              refine gk_callV (As := [.int 10]) (rest := []) hC (fun l => m_X8_refused l hY a0 10 M t0) ml_RX8_113 ok_X8_refused dX8_forge_120 t0 ⟨by decide, rfl⟩ rfl (by decide) (Nat.le_of_ble_eq_true rfl) rfl (q := 123) rfl (fun r31 => ?_)
              show gk_K Z Y 8 gk_rI 123 [(0, .ref a0), (4, .int r27), (6, .int r29)] [.int r31.1] r31.2 _
              exact gk_iret hC hR dX8_forge_123 rfl
            · refine gk_iload hC 2 dX8_forge_124 rfl (q := 126) rfl ?_
              refine gk_jnR (fun k163_32 => ∀ z33 : Int32, gk_K Z Y 8 gk_rI 163 [(0, .ref a0), (4, .int r27)] [.int z33] M (k163_32 z33)) (fun y32 => ?_) (fun k163_32 hk163_32 => ?_)
              · show gk_K Z Y 8 gk_rI 163 [(0, .ref a0), (4, .int r27)] [.int y32] M _
                refine gk_istore hC (lv' := [(0, .ref a0), (4, .int r27), (7, .int y32)]) [1, 2, 0] dX8_forge_163 (by decide) rfl (q := 165) rfl ?_
                refine gk_iload hC 2 dX8_forge_165 rfl (q := 167) rfl ?_
                refine gk_jnR (fun k190_34 => ∀ z35 : Int32 × gk_M, gk_K Z Y 8 gk_rI 190 [] [.int z35.1] z35.2 (k190_34 z35)) (fun y34 => ?_) (fun k190_34 hk190_34 => ?_)
                · show gk_K Z Y 8 gk_rI 190 [] [.int y34.1] y34.2 _
                  exact gk_iret hC hR dX8_forge_190 rfl
                · refine gk_if_eq hC dX8_forge_167 (tg := 184) rfl (q := 170) rfl ?_ ?_
                  · refine gk_aload_n hC 0 dX8_forge_184 rfl (q := 185) rfl ?_
                    refine gk_bipush hC (v := 11) dX8_forge_185 kc_b_11 (q := 187) rfl ?_
                    refine gk_callV (As := [.int 11]) (rest := []) hC (fun l => m_X8_refused l hY a0 11 M t0) ml_RX8_113 ok_X8_refused dX8_forge_187 t0 ⟨by decide, rfl⟩ rfl (by decide) (Nat.le_of_ble_eq_true rfl) rfl (q := 190) rfl (fun r36 => ?_)
                    show gk_K Z Y 8 gk_rI 190 [(0, .ref a0), (4, .int r27), (7, .int y32)] [.int r36.1] r36.2 _
                    refine gk_pick [] rfl ?_
                    exact hk190_34 (r36.1, r36.2)
                  · refine gk_aload_n hC 0 dX8_forge_170 rfl (q := 171) rfl ?_
                    refine gk_aload_n hC 0 dX8_forge_171 rfl (q := 172) rfl ?_
                    refine gk_getR hC dX8_forge_172 fl_RX8_13 (by decide) t0 (q := 175) rfl (fun t37 => ?_)
                    refine gk_iload hC 1 dX8_forge_175 rfl (q := 177) rfl ?_
                    refine gk_iald hC dX8_forge_177 t37 (q := 178) rfl (fun x38 => ?_)
                    refine gk_callV (As := [.int x38]) (rest := []) hC (fun l => m_X8_done l hY a0 x38 M t0) ml_RX8_117 ok_X8_done dX8_forge_178 t0 ⟨by decide, rfl⟩ rfl (by decide) (Nat.le_of_ble_eq_true rfl) rfl (q := 181) rfl (fun r39 => ?_)
                    show gk_K Z Y 8 gk_rI 181 [(0, .ref a0), (4, .int r27), (7, .int y32)] [.int r39.1] r39.2 _
                    refine gk_goto hC dX8_forge_181 (q := 190) rfl ?_
                    refine gk_pick [] rfl ?_
                    exact hk190_34 (r39.1, r39.2)
              · refine gk_jnR (fun k158_40 => ∀ z41 : Unit, gk_K Z Y 8 gk_rI 158 [(0, .ref a0), (4, .int r27)] [] M (k158_40 z41)) (fun y40 => ?_) (fun k158_40 hk158_40 => ?_)
                · show gk_K Z Y 8 gk_rI 158 [(0, .ref a0), (4, .int r27)] [] M _
                  refine gk_iconst hC (v := 1) dX8_forge_158 kc_i_1 (q := 159) rfl ?_
                  refine gk_goto hC dX8_forge_159 (q := 163) rfl ?_
                  exact hk163_32 1
                · refine gk_if_eq hC dX8_forge_126 (tg := 158) rfl (q := 129) rfl ?_ ?_
                  · refine gk_pick [0, 1] rfl ?_
                    exact hk158_40 ()
                  · refine gk_aload_n hC 0 dX8_forge_129 rfl (q := 130) rfl ?_
                    refine gk_getR hC dX8_forge_130 fl_RX8_13 (by decide) t0 (q := 133) rfl (fun t42 => ?_)
                    refine gk_iload hC 1 dX8_forge_133 rfl (q := 135) rfl ?_
                    refine gk_iald hC dX8_forge_135 t42 (q := 136) rfl (fun x43 => ?_)
                    refine gk_iload hC 2 dX8_forge_136 rfl (q := 138) rfl ?_
                    refine gk_icmp_eq hC dX8_forge_138 (tg := 158) rfl (q := 141) rfl ?_ ?_
                    · refine gk_pick [0, 1] rfl ?_
                      exact hk158_40 ()
                    · refine gk_iload hC 2 dX8_forge_141 rfl (q := 143) rfl ?_
                      refine gk_iconst hC (v := 2) dX8_forge_143 kc_i_2 (q := 144) rfl ?_
                      refine gk_jnR (fun k162_44 => ∀ z45 : Unit, gk_K Z Y 8 gk_rI 162 [(0, .ref a0), (4, .int r27)] [] M (k162_44 z45)) (fun y44 => ?_) (fun k162_44 hk162_44 => ?_)
                      · show gk_K Z Y 8 gk_rI 162 [(0, .ref a0), (4, .int r27)] [] M _
                        refine gk_iconst hC (v := 0) dX8_forge_162 kc_i_0 (q := 163) rfl ?_
                        exact hk163_32 0
                      · refine gk_icmp_ne hC dX8_forge_144 (tg := 162) rfl (q := 147) rfl ?_ ?_
                        · refine gk_aload_n hC 0 dX8_forge_147 rfl (q := 148) rfl ?_
                          refine gk_getR hC dX8_forge_148 fl_RX8_13 (by decide) t0 (q := 151) rfl (fun t46 => ?_)
                          refine gk_iload hC 1 dX8_forge_151 rfl (q := 153) rfl ?_
                          refine gk_iald hC dX8_forge_153 t46 (q := 154) rfl (fun x47 => ?_)
                          refine gk_iconst hC (v := 3) dX8_forge_154 kc_i_3 (q := 155) rfl ?_
                          refine gk_icmp_ne hC dX8_forge_155 (tg := 162) rfl (q := 158) rfl ?_ ?_
                          · refine gk_pick [0, 1] rfl ?_
                            exact hk158_40 ()
                          · refine gk_pick [0, 1] rfl ?_
                            exact hk162_44 ()
                        · refine gk_pick [0, 1] rfl ?_
                          exact hk162_44 ()
          · refine gk_iload_n hC 2 dX8_forge_191 rfl (q := 192) rfl ?_
            refine gk_jnR (fun k209_48 => ∀ z49 : Int32 × gk_M, gk_K Z Y 8 gk_rI 209 [] [.int z49.1] z49.2 (k209_48 z49)) (fun y48 => ?_) (fun k209_48 hk209_48 => ?_)
            · show gk_K Z Y 8 gk_rI 209 [] [.int y48.1] y48.2 _
              exact gk_iret hC hR dX8_forge_209 rfl
            · refine gk_if_ge hC dX8_forge_192 (tg := 204) rfl (q := 195) rfl ?_ ?_
              · refine gk_aload_n hC 0 dX8_forge_204 rfl (q := 205) rfl ?_
                refine gk_iload_n hC 2 dX8_forge_205 rfl (q := 206) rfl ?_
                refine gk_callV (As := [.int a2]) (rest := []) hC (fun l => m_X8_done l hY a0 a2 M t0) ml_RX8_117 ok_X8_done dX8_forge_206 t0 ⟨by decide, rfl⟩ rfl (by decide) (Nat.le_of_ble_eq_true rfl) rfl (q := 209) rfl (fun r50 => ?_)
                show gk_K Z Y 8 gk_rI 209 [(0, .ref a0), (1, .int a1), (2, .int a2), (4, .int r27), (5, .int r28)] [.int r50.1] r50.2 _
                refine gk_pick [] rfl ?_
                exact hk209_48 (r50.1, r50.2)
              · refine gk_aload_n hC 0 dX8_forge_195 rfl (q := 196) rfl ?_
                refine gk_bipush hC (v := 13) dX8_forge_196 kc_b_13 (q := 198) rfl ?_
                refine gk_callV (As := [.int 13]) (rest := []) hC (fun l => m_X8_refused l hY a0 13 M t0) ml_RX8_113 ok_X8_refused dX8_forge_198 t0 ⟨by decide, rfl⟩ rfl (by decide) (Nat.le_of_ble_eq_true rfl) rfl (q := 201) rfl (fun r51 => ?_)
                show gk_K Z Y 8 gk_rI 201 [(0, .ref a0), (1, .int a1), (2, .int a2), (4, .int r27), (5, .int r28)] [.int r51.1] r51.2 _
                refine gk_goto hC dX8_forge_201 (q := 209) rfl ?_
                refine gk_pick [] rfl ?_
                exact hk209_48 (r51.1, r51.2)
          · refine gk_aload_n hC 0 dX8_forge_210 rfl (q := 211) rfl ?_
            refine gk_getR hC dX8_forge_211 fl_RX8_100 (by decide) t0 (q := 214) rfl (fun t52 => ?_)
            refine gk_iload hC 4 dX8_forge_214 rfl (q := 216) rfl ?_
            refine gk_iald hC dX8_forge_216 t52 (q := 217) rfl (fun x53 => ?_)
            refine gk_if_ne hC dX8_forge_217 (tg := 227) rfl (q := 220) rfl ?_ ?_
            · refine gk_aload_n hC 0 dX8_forge_220 rfl (q := 221) rfl ?_
              refine gk_bipush hC (v := 10) dX8_forge_221 kc_b_10 (q := 223) rfl ?_
              refine gk_callV (As := [.int 10]) (rest := []) hC (fun l => m_X8_refused l hY a0 10 M t0) ml_RX8_113 ok_X8_refused dX8_forge_223 t0 ⟨by decide, rfl⟩ rfl (by decide) (Nat.le_of_ble_eq_true rfl) rfl (q := 226) rfl (fun r54 => ?_)
              show gk_K Z Y 8 gk_rI 226 [(0, .ref a0), (1, .int a1), (2, .int a2), (4, .int r27), (5, .int r28)] [.int r54.1] r54.2 _
              exact gk_iret hC hR dX8_forge_226 rfl
            · refine gk_aload_n hC 0 dX8_forge_227 rfl (q := 228) rfl ?_
              refine gk_getR hC dX8_forge_228 fl_RX8_100 (by decide) t0 (q := 231) rfl (fun t55 => ?_)
              refine gk_iload hC 4 dX8_forge_231 rfl (q := 233) rfl ?_
              refine gk_iald hC dX8_forge_233 t55 (q := 234) rfl (fun x56 => ?_)
              refine gk_iconst hC (v := 2) dX8_forge_234 kc_i_2 (q := 235) rfl ?_
              refine gk_icmp_eq hC dX8_forge_235 (tg := 245) rfl (q := 238) rfl ?_ ?_
              · refine gk_iload_n hC 2 dX8_forge_245 rfl (q := 246) rfl ?_
                refine gk_i2l hC dX8_forge_246 (q := 247) rfl ?_
                refine gk_lconst hC (v := 0) dX8_forge_247 kc_l_0 (q := 248) rfl ?_
                refine gk_aload_n hC 0 dX8_forge_248 rfl (q := 249) rfl ?_
                refine gk_getR hC dX8_forge_249 fl_RX8_103 (by decide) t0 (q := 252) rfl (fun t57 => ?_)
                refine gk_iload hC 4 dX8_forge_252 rfl (q := 254) rfl ?_
                refine gk_iald hC dX8_forge_254 t57 (q := 255) rfl (fun x58 => ?_)
                refine gk_iconst hC (v := 1) dX8_forge_255 kc_i_1 (q := 256) rfl ?_
                refine gk_isub hC dX8_forge_256 (q := 257) rfl ?_
                refine gk_i2l hC dX8_forge_257 (q := 258) rfl ?_
                refine gk_callS (As := [.long (Int32.toInt64 a2), .long 0, .long (Int32.toInt64 (x58 - 1))]) (rest := []) hC (fun l => m_X8_isIn l hY (Int32.toInt64 a2) 0 (Int32.toInt64 (x58 - 1)) M) ml_RX8_126 ok_X8_isIn dX8_forge_258 rfl (by decide) (Nat.le_of_ble_eq_true rfl) rfl (q := 261) rfl (fun r59 => ?_)
                show gk_K Z Y 8 gk_rI 261 [(0, .ref a0), (1, .int a1), (2, .int a2), (4, .int r27), (5, .int r28)] [.int r59] M _
                refine gk_jnR (fun k289_60 => ∀ z61 : Int32 × gk_M, gk_K Z Y 8 gk_rI 289 [] [.int z61.1] z61.2 (k289_60 z61)) (fun y60 => ?_) (fun k289_60 hk289_60 => ?_)
                · show gk_K Z Y 8 gk_rI 289 [] [.int y60.1] y60.2 _
                  exact gk_iret hC hR dX8_forge_289 rfl
                · refine gk_if_eq hC dX8_forge_261 (tg := 283) rfl (q := 264) rfl ?_ ?_
                  · refine gk_aload_n hC 0 dX8_forge_283 rfl (q := 284) rfl ?_
                    refine gk_bipush hC (v := 12) dX8_forge_284 kc_b_12 (q := 286) rfl ?_
                    refine gk_callV (As := [.int 12]) (rest := []) hC (fun l => m_X8_refused l hY a0 12 M t0) ml_RX8_113 ok_X8_refused dX8_forge_286 t0 ⟨by decide, rfl⟩ rfl (by decide) (Nat.le_of_ble_eq_true rfl) rfl (q := 289) rfl (fun r62 => ?_)
                    show gk_K Z Y 8 gk_rI 289 [(0, .ref a0), (1, .int a1), (2, .int a2), (4, .int r27), (5, .int r28)] [.int r62.1] r62.2 _
                    refine gk_pick [] rfl ?_
                    exact hk289_60 (r62.1, r62.2)
                  · refine gk_aload_n hC 0 dX8_forge_264 rfl (q := 265) rfl ?_
                    refine gk_aload_n hC 0 dX8_forge_265 rfl (q := 266) rfl ?_
                    refine gk_getR hC dX8_forge_266 fl_RX8_106 (by decide) t0 (q := 269) rfl (fun t63 => ?_)
                    refine gk_bipush hC (v := 40) dX8_forge_269 kc_b_40 (q := 271) rfl ?_
                    refine gk_iload hC 4 dX8_forge_271 rfl (q := 273) rfl ?_
                    refine gk_imul hC dX8_forge_273 (q := 274) rfl ?_
                    refine gk_iload_n hC 2 dX8_forge_274 rfl (q := 275) rfl ?_
                    refine gk_iadd hC dX8_forge_275 (q := 276) rfl ?_
                    refine gk_iald hC dX8_forge_276 t63 (q := 277) rfl (fun x64 => ?_)
                    refine gk_callV (As := [.int x64]) (rest := []) hC (fun l => m_X8_done l hY a0 x64 M t0) ml_RX8_117 ok_X8_done dX8_forge_277 t0 ⟨by decide, rfl⟩ rfl (by decide) (Nat.le_of_ble_eq_true rfl) rfl (q := 280) rfl (fun r65 => ?_)
                    show gk_K Z Y 8 gk_rI 280 [(0, .ref a0), (1, .int a1), (2, .int a2), (4, .int r27), (5, .int r28)] [.int r65.1] r65.2 _
                    refine gk_goto hC dX8_forge_280 (q := 289) rfl ?_
                    refine gk_pick [] rfl ?_
                    exact hk289_60 (r65.1, r65.2)
              · refine gk_aload_n hC 0 dX8_forge_238 rfl (q := 239) rfl ?_
                refine gk_bipush hC (v := 11) dX8_forge_239 kc_b_11 (q := 241) rfl ?_
                refine gk_callV (As := [.int 11]) (rest := []) hC (fun l => m_X8_refused l hY a0 11 M t0) ml_RX8_113 ok_X8_refused dX8_forge_241 t0 ⟨by decide, rfl⟩ rfl (by decide) (Nat.le_of_ble_eq_true rfl) rfl (q := 244) rfl (fun r66 => ?_)
                show gk_K Z Y 8 gk_rI 244 [(0, .ref a0), (1, .int a1), (2, .int a2), (4, .int r27), (5, .int r28)] [.int r66.1] r66.2 _
                exact gk_iret hC hR dX8_forge_244 rfl
          · refine gk_aload_n hC 0 dX8_forge_290 rfl (q := 291) rfl ?_
            refine gk_iload hC 4 dX8_forge_291 rfl (q := 293) rfl ?_
            refine gk_iload_n hC 2 dX8_forge_293 rfl (q := 294) rfl ?_
            refine gk_callV (As := [.int r28, .int a2]) (rest := []) hC (fun l => m_X8_copied l hY a0 r28 a2 M t0) ml_RX8_340 ok_X8_copied dX8_forge_294 t0 ⟨by decide, rfl⟩ rfl (by decide) (Nat.le_of_ble_eq_true rfl) rfl (q := 297) rfl (fun r67 => ?_)
            show gk_K Z Y 8 gk_rI 297 [(0, .ref a0), (1, .int a1), (2, .int a2), (4, .int r27), (5, .int r28)] [.int r67.1] r67.2 _
            exact gk_iret hC hR dX8_forge_297 rfl
          · refine gk_aload_n hC 0 dX8_forge_298 rfl (q := 299) rfl ?_
            refine gk_iload hC 3 dX8_forge_299 rfl (q := 301) rfl ?_
            refine gk_callV (As := [.int r27]) (rest := []) hC (fun l => m_X8_isWish l hY a0 r27 M t0) ml_RX8_142 ok_X8_isWish dX8_forge_301 t0 ⟨by decide, rfl⟩ rfl (by decide) (Nat.le_of_ble_eq_true rfl) rfl (q := 304) rfl (fun r68 => ?_)
            show gk_K Z Y 8 gk_rI 304 [(0, .ref a0), (1, .int a1), (2, .int a2), (4, .int r27), (5, .int r28)] [.int r68] M _
            refine gk_if_ne hC dX8_forge_304 (tg := 313) rfl (q := 307) rfl ?_ ?_
            · refine gk_aload_n hC 0 dX8_forge_307 rfl (q := 308) rfl ?_
              refine gk_iconst hC (v := 0) dX8_forge_308 kc_i_0 (q := 309) rfl ?_
              refine gk_callV (As := [.int 0]) (rest := []) hC (fun l => m_X8_done l hY a0 0 M t0) ml_RX8_117 ok_X8_done dX8_forge_309 t0 ⟨by decide, rfl⟩ rfl (by decide) (Nat.le_of_ble_eq_true rfl) rfl (q := 312) rfl (fun r69 => ?_)
              show gk_K Z Y 8 gk_rI 312 [(0, .ref a0), (1, .int a1), (2, .int a2), (4, .int r27), (5, .int r28)] [.int r69.1] r69.2 _
              exact gk_iret hC hR dX8_forge_312 rfl
            · refine gk_aload_n hC 0 dX8_forge_313 rfl (q := 314) rfl ?_
              refine gk_getR hC dX8_forge_314 fl_RX8_13 (by decide) t0 (q := 317) rfl (fun t70 => ?_)
              refine gk_iload hC 3 dX8_forge_317 rfl (q := 319) rfl ?_
              refine gk_iald hC dX8_forge_319 t70 (q := 320) rfl (fun x71 => ?_)
              refine gk_iconst hC (v := 2) dX8_forge_320 kc_i_2 (q := 321) rfl ?_
              refine gk_jnR (fun k355_72 => ∀ z73 : Int32 × gk_M, gk_K Z Y 8 gk_rI 355 [] [.int z73.1] z73.2 (k355_72 z73)) (fun y72 => ?_) (fun k355_72 hk355_72 => ?_)
              · show gk_K Z Y 8 gk_rI 355 [] [.int y72.1] y72.2 _
                exact gk_iret hC hR dX8_forge_355 rfl
              · refine gk_jnR (fun k335_74 => ∀ z75 : Unit, gk_K Z Y 8 gk_rI 335 [(0, .ref a0), (4, .int r27)] [] M (k335_74 z75)) (fun y74 => ?_) (fun k335_74 hk335_74 => ?_)
                · show gk_K Z Y 8 gk_rI 335 [(0, .ref a0), (4, .int r27)] [] M _
                  refine gk_aload_n hC 0 dX8_forge_335 rfl (q := 336) rfl ?_
                  refine gk_aload_n hC 0 dX8_forge_336 rfl (q := 337) rfl ?_
                  refine gk_getR hC dX8_forge_337 fl_RX8_13 (by decide) t0 (q := 340) rfl (fun t76 => ?_)
                  refine gk_iload hC 1 dX8_forge_340 rfl (q := 342) rfl ?_
                  refine gk_iald hC dX8_forge_342 t76 (q := 343) rfl (fun x77 => ?_)
                  refine gk_callV (As := [.int x77]) (rest := []) hC (fun l => m_X8_done l hY a0 x77 M t0) ml_RX8_117 ok_X8_done dX8_forge_343 t0 ⟨by decide, rfl⟩ rfl (by decide) (Nat.le_of_ble_eq_true rfl) rfl (q := 346) rfl (fun r78 => ?_)
                  show gk_K Z Y 8 gk_rI 346 [(0, .ref a0), (4, .int r27)] [.int r78.1] r78.2 _
                  refine gk_goto hC dX8_forge_346 (q := 355) rfl ?_
                  refine gk_pick [] rfl ?_
                  exact hk355_72 (r78.1, r78.2)
                · refine gk_icmp_eq hC dX8_forge_321 (tg := 335) rfl (q := 324) rfl ?_ ?_
                  · refine gk_pick [0, 3] rfl ?_
                    exact hk335_74 ()
                  · refine gk_aload_n hC 0 dX8_forge_324 rfl (q := 325) rfl ?_
                    refine gk_getR hC dX8_forge_325 fl_RX8_13 (by decide) t0 (q := 328) rfl (fun t79 => ?_)
                    refine gk_iload hC 3 dX8_forge_328 rfl (q := 330) rfl ?_
                    refine gk_iald hC dX8_forge_330 t79 (q := 331) rfl (fun x80 => ?_)
                    refine gk_iconst hC (v := 3) dX8_forge_331 kc_i_3 (q := 332) rfl ?_
                    refine gk_icmp_ne hC dX8_forge_332 (tg := 349) rfl (q := 335) rfl ?_ ?_
                    · refine gk_pick [0, 3] rfl ?_
                      exact hk335_74 ()
                    · refine gk_aload_n hC 0 dX8_forge_349 rfl (q := 350) rfl ?_
                      refine gk_bipush hC (v := 14) dX8_forge_350 kc_b_14 (q := 352) rfl ?_
                      refine gk_callV (As := [.int 14]) (rest := []) hC (fun l => m_X8_refused l hY a0 14 M t0) ml_RX8_113 ok_X8_refused dX8_forge_352 t0 ⟨by decide, rfl⟩ rfl (by decide) (Nat.le_of_ble_eq_true rfl) rfl (q := 355) rfl (fun r81 => ?_)
                      show gk_K Z Y 8 gk_rI 355 [(0, .ref a0), (1, .int a1), (2, .int a2), (4, .int r27), (5, .int r28)] [.int r81.1] r81.2 _
                      refine gk_pick [] rfl ?_
                      exact hk355_72 (r81.1, r81.2)
          · refine gk_iload_n hC 2 dX8_forge_356 rfl (q := 357) rfl ?_
            refine gk_jnR (fun k378_82 => ∀ z83 : Int32 × gk_M, gk_K Z Y 8 gk_rI 378 [] [.int z83.1] z83.2 (k378_82 z83)) (fun y82 => ?_) (fun k378_82 hk378_82 => ?_)
            · show gk_K Z Y 8 gk_rI 378 [] [.int y82.1] y82.2 _
              exact gk_iret hC hR dX8_forge_378 rfl
            · refine gk_if_ne hC dX8_forge_357 (tg := 369) rfl (q := 360) rfl ?_ ?_
              · refine gk_aload_n hC 0 dX8_forge_360 rfl (q := 361) rfl ?_
                refine gk_bipush hC (v := 15) dX8_forge_361 kc_b_15 (q := 363) rfl ?_
                refine gk_callV (As := [.int 15]) (rest := []) hC (fun l => m_X8_refused l hY a0 15 M t0) ml_RX8_113 ok_X8_refused dX8_forge_363 t0 ⟨by decide, rfl⟩ rfl (by decide) (Nat.le_of_ble_eq_true rfl) rfl (q := 366) rfl (fun r84 => ?_)
                show gk_K Z Y 8 gk_rI 366 [(0, .ref a0), (1, .int a1), (2, .int a2), (4, .int r27), (5, .int r28)] [.int r84.1] r84.2 _
                refine gk_goto hC dX8_forge_366 (q := 378) rfl ?_
                refine gk_pick [] rfl ?_
                exact hk378_82 (r84.1, r84.2)
              · refine gk_aload_n hC 0 dX8_forge_369 rfl (q := 370) rfl ?_
                refine gk_sipush hC (v := 1000) dX8_forge_370 kc_s_1000 (q := 373) rfl ?_
                refine gk_iload_n hC 2 dX8_forge_373 rfl (q := 374) rfl ?_
                refine gk_nz (fun hz85 => ?_)
                refine gk_idiv hC dX8_forge_374 hz85 (q := 375) rfl ?_
                refine gk_callV (As := [.int (1000 / a2)]) (rest := []) hC (fun l => m_X8_done l hY a0 (1000 / a2) M t0) ml_RX8_117 ok_X8_done dX8_forge_375 t0 ⟨by decide, rfl⟩ rfl (by decide) (Nat.le_of_ble_eq_true rfl) rfl (q := 378) rfl (fun r86 => ?_)
                show gk_K Z Y 8 gk_rI 378 [(0, .ref a0), (1, .int a1), (2, .int a2), (4, .int r27), (5, .int r28)] [.int r86.1] r86.2 _
                refine gk_pick [] rfl ?_
                exact hk378_82 (r86.1, r86.2)
          · refine gk_iload_n hC 2 dX8_forge_379 rfl (q := 380) rfl ?_
            refine gk_iconst hC (v := 2) dX8_forge_380 kc_i_2 (q := 381) rfl ?_
            refine gk_callS (As := [.int a2, .int 2]) (rest := []) hC (fun l => m_X8_modulo l hY a2 2 M) ml_RX8_337 ok_X8_modulo dX8_forge_381 rfl (by decide) (Nat.le_of_ble_eq_true rfl) rfl (q := 384) rfl (fun r87 => ?_)
            show gk_K Z Y 8 gk_rI 384 [(0, .ref a0), (1, .int a1), (2, .int a2), (4, .int r27), (5, .int r28)] [.int r87] M _
            refine gk_jnR (fun k401_88 => ∀ z89 : Int32 × gk_M, gk_K Z Y 8 gk_rI 401 [] [.int z89.1] z89.2 (k401_88 z89)) (fun y88 => ?_) (fun k401_88 hk401_88 => ?_)
            · show gk_K Z Y 8 gk_rI 401 [] [.int y88.1] y88.2 _
              exact gk_iret hC hR dX8_forge_401 rfl
            · refine gk_if_ne hC dX8_forge_384 (tg := 396) rfl (q := 387) rfl ?_ ?_
              · refine gk_aload_n hC 0 dX8_forge_387 rfl (q := 388) rfl ?_
                refine gk_bipush hC (v := 10) dX8_forge_388 kc_b_10 (q := 390) rfl ?_
                refine gk_callV (As := [.int 10]) (rest := []) hC (fun l => m_X8_refused l hY a0 10 M t0) ml_RX8_113 ok_X8_refused dX8_forge_390 t0 ⟨by decide, rfl⟩ rfl (by decide) (Nat.le_of_ble_eq_true rfl) rfl (q := 393) rfl (fun r90 => ?_)
                show gk_K Z Y 8 gk_rI 393 [(0, .ref a0), (1, .int a1), (2, .int a2), (4, .int r27), (5, .int r28)] [.int r90.1] r90.2 _
                refine gk_goto hC dX8_forge_393 (q := 401) rfl ?_
                refine gk_pick [] rfl ?_
                exact hk401_88 (r90.1, r90.2)
              · refine gk_aload_n hC 0 dX8_forge_396 rfl (q := 397) rfl ?_
                refine gk_iconst hC (v := 1) dX8_forge_397 kc_i_1 (q := 398) rfl ?_
                refine gk_callV (As := [.int 1]) (rest := []) hC (fun l => m_X8_done l hY a0 1 M t0) ml_RX8_117 ok_X8_done dX8_forge_398 t0 ⟨by decide, rfl⟩ rfl (by decide) (Nat.le_of_ble_eq_true rfl) rfl (q := 401) rfl (fun r91 => ?_)
                show gk_K Z Y 8 gk_rI 401 [(0, .ref a0), (1, .int a1), (2, .int a2), (4, .int r27), (5, .int r28)] [.int r91.1] r91.2 _
                refine gk_pick [] rfl ?_
                exact hk401_88 (r91.1, r91.2)
def f_X8_status (LN : Nat → Nat) (RF : Nat → Nat → Nat) (a0 : Nat) (M : gk_M) : Option (Int32) :=
  some (M.1 a0 25)
set_option maxHeartbeats 4000000 in
set_option maxRecDepth 100000 in
theorem m_X8_status (l : Launch) {Y : gk_Y} (hY : gk_WF Y) (a0 : Nat) (M : gk_M) (t0 : gk_T Y 18 a0) : gk_MF l Y yX8_status cX8_status 1 (some .int) 0 [.ref a0] M (gk_rR M) (f_X8_status (gk_ln Y) (gk_rf Y) a0 M) := by
  refine gk_met hY (plainFor_of_name (by decide)) (Nat.le_of_ble_eq_true rfl) fun Z hC hR => ?_
  show gk_K Z Y 1 (gk_rR M) 0 [(0, .ref a0)] [] M _
  unfold f_X8_status
  refine gk_aload_n hC 0 dX8_status_0 rfl (q := 1) rfl ?_
  refine gk_getI hC dX8_status_1 fl_RX8_109 t0 (q := 4) rfl ?_
  exact gk_iret hC hR dX8_status_4 rfl
end
