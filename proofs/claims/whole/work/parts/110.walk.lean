def wp_X10_bitAtPlace (a1 : Int) (a2 : Int) (s0 : mm_M) (post : Int → mm_M → Prop) : Prop :=
  ∀ (L4 : Int → Int → mm_M → Prop), 
  (∀ (v2 : Int) (v3 : Int) (s1 : mm_M), ((12 ≤ n32 v3 → post 0 s1) ∧ (¬ 12 ≤ n32 v3 → (∀ v4_3 : Int, v4_3 = mm_shl 1 v3 → ((¬ n32 (mm_and a1 v4_3) = 0 → ((¬ n32 v2 = n32 a2 → (∀ v2_4 : Int, v2_4 = v2 + 1 → (∀ v3_5 : Int, v3_5 = v3 + 1 → L4 v2_4 v3_5 s1))) ∧ (n32 v2 = n32 a2 → post v4_3 s1))) ∧ (n32 (mm_and a1 v4_3) = 0 → (∀ v3_6 : Int, v3_6 = v3 + 1 → L4 v2 v3_6 s1)))))) → L4 v2 v3 s1) →
  L4 0 0 s0
set_option maxRecDepth 100000 in
set_option maxHeartbeats 4000000 in
theorem c_X10_bitAtPlace (l : Launch) (G : mm_G) (a1 : Int) (a2 : Int)  (s0 : mm_M) (post : Int → mm_M → Prop) (hw : wp_X10_bitAtPlace a1 a2 s0 post) : Met l yX10_bitAtPlace (mm_wm yX10_bitAtPlace cX10_bitAtPlace 5 (some .int)) (mm_rm 1) (va_Pc [.int (mm_I a1), .int (mm_I a2)] (mm_pre G s0)) (mm_Qi G post) 0 0 (mm_A G) := by
  refine mm_met (own := RX10) (by decide) rfl (Nat.le_of_ble_eq_true rfl) ?_
  intro p e s m args below meth c C hr hk
  unfold wp_X10_bitAtPlace at hw
  have hw := hw (fun (v2 : Int) (v3 : Int) (u : mm_M) => mm_X p l e (mm_rm 1) s m args below meth c (MQ below (mm_Qi G post) args s 0 0 (mm_A G)) G (mm_A G) 5 4 [(0, .int (mm_I a1)), (1, .int (mm_I a2)), (2, .int (mm_I v2)), (3, .int (mm_I v3))] [] u)
  have hw := hw (by
    intro v2 v3 s1 hw  H locs ls w hl
    refine lv_iload_n (pc := 4) C.1 C.2.1 dX10_bitAtPlace_4 rfl (lv_at hl 3 rfl) ?_
    refine lv_bipush (pc := 5) C.1 C.2.1 dX10_bitAtPlace_5 mb_12 ?_
    refine g_icmp_ge (pc := 7) (tgt := 42) C rfl mn_12 dX10_bitAtPlace_7 (by decide) (fun hc => ?_) (fun hc => ?_)
    · have hw := hw.1 hc
      refine lv_iconst (pc := 42) (v := mm_I 0) C.1 C.2.1 dX10_bitAtPlace_42 rfl ?_
      exact g_iret (pc := 43) C w hr hk hw dX10_bitAtPlace_43
    · have hw := hw.2 hc
      refine lv_iconst (pc := 10) (v := mm_I 1) C.1 C.2.1 dX10_bitAtPlace_10 rfl ?_
      refine lv_iload_n (pc := 11) C.1 C.2.1 dX10_bitAtPlace_11 rfl (lv_at hl 3 rfl) ?_
      refine g_ishl (pc := 12) C dX10_bitAtPlace_12 ?_
      refine g_istore (pc := 13) C dX10_bitAtPlace_13 hl (by decide) (fun v4_3 ev4_3 ls hl => ?_)
      have hw := hw v4_3 ev4_3
      have hl : lv_has ls 5 [(4, .int (mm_I v4_3)), (0, .int (mm_I a1)), (1, .int (mm_I a2)), (2, .int (mm_I v2)), (3, .int (mm_I v3))] := hl
      refine lv_iload_n (pc := 15) C.1 C.2.1 dX10_bitAtPlace_15 rfl (lv_at hl 1 rfl) ?_
      refine lv_iload (pc := 16) C.1 C.2.1 dX10_bitAtPlace_16 (lv_at hl 0 rfl) ?_
      refine g_iand (pc := 18) C dX10_bitAtPlace_18 ?_
      refine g_if_ne (pc := 19) (tgt := 25) C rfl dX10_bitAtPlace_19 (by decide) (fun hc => ?_) (fun hc => ?_)
      · have hw := hw.1 hc
        refine lv_iload_n (pc := 25) C.1 C.2.1 dX10_bitAtPlace_25 rfl (lv_at hl 3 rfl) ?_
        refine lv_iload_n (pc := 26) C.1 C.2.1 dX10_bitAtPlace_26 rfl (lv_at hl 2 rfl) ?_
        refine g_icmp_ne (pc := 27) (tgt := 33) C rfl rfl dX10_bitAtPlace_27 (by decide) (fun hc => ?_) (fun hc => ?_)
        · have hw := hw.1 hc
          refine g_iinc (pc := 33) (k := 3) C dX10_bitAtPlace_33 hl rfl (by decide) (fun v2_4 ev2_4 ls hl => ?_)
          have hw := hw v2_4 ev2_4
          have hl : lv_has ls 5 [(2, .int (mm_I v2_4)), (4, .int (mm_I v4_3)), (0, .int (mm_I a1)), (1, .int (mm_I a2)), (3, .int (mm_I v3))] := hl
          refine g_iinc (pc := 36) (k := 4) C dX10_bitAtPlace_36 hl rfl (by decide) (fun v3_5 ev3_5 ls hl => ?_)
          have hw := hw v3_5 ev3_5
          have hl : lv_has ls 5 [(3, .int (mm_I v3_5)), (2, .int (mm_I v2_4)), (4, .int (mm_I v4_3)), (0, .int (mm_I a1)), (1, .int (mm_I a2))] := hl
          refine lv_goto (pc := 39) (tgt := 4) C.1 C.2.1 dX10_bitAtPlace_39 (by decide) ?_
          exact hw  _ _ _ w (lv_sub hl [3, 4, 1, 0] rfl)
        · have hw := hw.2 hc
          refine lv_iload (pc := 30) C.1 C.2.1 dX10_bitAtPlace_30 (lv_at hl 0 rfl) ?_
          exact g_iret (pc := 32) C w hr hk hw dX10_bitAtPlace_32
      · have hw := hw.2 hc
        refine lv_goto (pc := 22) (tgt := 36) C.1 C.2.1 dX10_bitAtPlace_22 (by decide) ?_
        refine g_iinc (pc := 36) (k := 4) C dX10_bitAtPlace_36 hl rfl (by decide) (fun v3_6 ev3_6 ls hl => ?_)
        have hw := hw v3_6 ev3_6
        have hl : lv_has ls 5 [(3, .int (mm_I v3_6)), (4, .int (mm_I v4_3)), (0, .int (mm_I a1)), (1, .int (mm_I a2)), (2, .int (mm_I v2))] := hl
        refine lv_goto (pc := 39) (tgt := 4) C.1 C.2.1 dX10_bitAtPlace_39 (by decide) ?_
        exact hw  _ _ _ w (lv_sub hl [2, 3, 4, 0] rfl))
  intro H locs ls w hl
  have hl : lv_has ls 5 [(0, .int (mm_I a1)), (1, .int (mm_I a2))] := hl
  refine lv_iconst (pc := 0) (v := mm_I 0) C.1 C.2.1 dX10_bitAtPlace_0 rfl ?_
  refine lv_istore_n (pc := 1) (lv' := [(2, .int (mm_I 0)), (0, .int (mm_I a1)), (1, .int (mm_I a2))]) C.1 C.2.1 dX10_bitAtPlace_1 rfl hl (by decide) rfl (fun ls hl => ?_)
  refine lv_iconst (pc := 2) (v := mm_I 0) C.1 C.2.1 dX10_bitAtPlace_2 rfl ?_
  refine lv_istore_n (pc := 3) (lv' := [(3, .int (mm_I 0)), (2, .int (mm_I 0)), (0, .int (mm_I a1)), (1, .int (mm_I a2))]) C.1 C.2.1 dX10_bitAtPlace_3 rfl hl (by decide) rfl (fun ls hl => ?_)
  exact hw  _ _ _ w (lv_sub hl [2, 3, 1, 0] rfl)
theorem ml_X10_266 : Cond.methodLink RX10 266 yX10_placeBy ∈ mm_ws := (mt_5 159 rfl rfl)
theorem cs_X10_bitAtPlace : mm_S yX10_bitAtPlace cX10_bitAtPlace 5 (some .int) 2 := ⟨(mt_5 162 rfl rfl), (mt_5 161 rfl rfl), (mt_1 1 rfl rfl), by decide, by decide, by decide +kernel⟩
theorem ml_X10_269 : Cond.methodLink RX10 269 yX10_bitAtPlace ∈ mm_ws := (mt_5 160 rfl rfl)
def wp_X10_out (this : Nat) (a1 : Int) (a2 : Int) (a3 : Int) (s0 : mm_M) (post : Int → mm_M → Prop) : Prop :=
  ∀ (L45 : Int → Int → Int → mm_M → Prop), 
  (∀ (v4 : Int) (v5 : Int) (v6 : Int) (s1 : mm_M), ((n32 a3 ≤ n32 v6 → post (mm_and v4 (mm_xor v5 (-1))) s1) ∧ (¬ n32 a3 ≤ n32 v6 → ((n32 a2 ≤ n32 v6 → post (mm_and v4 (mm_xor v5 (-1))) s1) ∧ (¬ n32 a2 ≤ n32 v6 → (wp_X10_placeBy a1 (a2 - v6) s1 (fun r_5 s_4 => (wp_X10_bitAtPlace v5 r_5 s_4 (fun r_7 s_6 => (∀ v5_8 : Int, v5_8 = mm_and v5 (mm_xor r_7 (-1)) → (∀ v6_9 : Int, v6_9 = v6 + 1 → L45 v4 v5_8 v6_9 s_6)))))))))) → L45 v4 v5 v6 s1) →
  ((n32 a1 < 0 → post (-1) s0) ∧ (¬ n32 a1 < 0 → ((2 < n32 a1 → post (-1) s0) ∧ (¬ 2 < n32 a1 → ((n32 a2 < 0 → post (-1) s0) ∧ (¬ n32 a2 < 0 → ((12 < n32 a2 → post (-1) s0) ∧ (¬ 12 < n32 a2 → ((n32 a3 < 0 → post (-1) s0) ∧ (¬ n32 a3 < 0 → ((n32 a3 ≤ 12 → (∀ v4_1 : Int, v4_1 = (mm_shl 1 a2) - 1 → (∀ v5_2 : Int, v5_2 = v4_1 → L45 v4_1 v5_2 0 s0))) ∧ (¬ n32 a3 ≤ 12 → post (-1) s0))))))))))))
set_option maxRecDepth 100000 in
set_option maxHeartbeats 4000000 in
theorem c_X10_out (l : Launch) (G : mm_G) (this : Nat) (a1 : Int) (a2 : Int) (a3 : Int) (h0 : mm_ok this 20 0) (s0 : mm_M) (post : Int → mm_M → Prop) (hw : wp_X10_out this a1 a2 a3 s0 post) : Met l yX10_out (mm_wm yX10_out cX10_out 7 (some .int)) (mm_rm 2) (va_Pc [.ref (mm_ad G this), .int (mm_I a1), .int (mm_I a2), .int (mm_I a3)] (mm_pre G s0)) (mm_Qi G post) 0 0 (mm_A G) := by
  refine mm_met (own := RX10) (by decide) rfl (Nat.le_of_ble_eq_true rfl) ?_
  intro p e s m args below meth c C hr hk
  unfold wp_X10_out at hw
  have hw := hw (fun (v4 : Int) (v5 : Int) (v6 : Int) (u : mm_M) => mm_X p l e (mm_rm 2) s m args below meth c (MQ below (mm_Qi G post) args s 0 0 (mm_A G)) G (mm_A G) 7 45 [(1, .int (mm_I a1)), (2, .int (mm_I a2)), (3, .int (mm_I a3)), (4, .int (mm_I v4)), (5, .int (mm_I v5)), (6, .int (mm_I v6))] [] u)
  have hw := hw (by
    intro v4 v5 v6 s1 hw  H locs ls w hl
    refine lv_iload (pc := 45) C.1 C.2.1 dX10_out_45 (lv_at hl 5 rfl) ?_
    refine lv_iload_n (pc := 47) C.1 C.2.1 dX10_out_47 rfl (lv_at hl 2 rfl) ?_
    refine g_icmp_ge (pc := 48) (tgt := 83) C rfl rfl dX10_out_48 (by decide) (fun hc => ?_) (fun hc => ?_)
    · have hw := hw.1 hc
      refine lv_iload (pc := 83) C.1 C.2.1 dX10_out_83 (lv_at hl 3 rfl) ?_
      refine lv_iload (pc := 85) C.1 C.2.1 dX10_out_85 (lv_at hl 4 rfl) ?_
      refine lv_iconst (pc := 87) (v := mm_I (-1)) C.1 C.2.1 dX10_out_87 rfl ?_
      refine g_ixor (pc := 88) C dX10_out_88 ?_
      refine g_iand (pc := 89) C dX10_out_89 ?_
      exact g_iret (pc := 90) C w hr hk hw dX10_out_90
    · have hw := hw.2 hc
      refine lv_iload (pc := 51) C.1 C.2.1 dX10_out_51 (lv_at hl 5 rfl) ?_
      refine lv_iload_n (pc := 53) C.1 C.2.1 dX10_out_53 rfl (lv_at hl 1 rfl) ?_
      refine g_icmp_ge (pc := 54) (tgt := 83) C rfl rfl dX10_out_54 (by decide) (fun hc => ?_) (fun hc => ?_)
      · have hw := hw.1 hc
        refine lv_iload (pc := 83) C.1 C.2.1 dX10_out_83 (lv_at hl 3 rfl) ?_
        refine lv_iload (pc := 85) C.1 C.2.1 dX10_out_85 (lv_at hl 4 rfl) ?_
        refine lv_iconst (pc := 87) (v := mm_I (-1)) C.1 C.2.1 dX10_out_87 rfl ?_
        refine g_ixor (pc := 88) C dX10_out_88 ?_
        refine g_iand (pc := 89) C dX10_out_89 ?_
        exact g_iret (pc := 90) C w hr hk hw dX10_out_90
      · have hw := hw.2 hc
        refine lv_iload (pc := 57) C.1 C.2.1 dX10_out_57 (lv_at hl 4 rfl) ?_
        refine lv_iload (pc := 59) C.1 C.2.1 dX10_out_59 (lv_at hl 4 rfl) ?_
        refine lv_iload_n (pc := 61) C.1 C.2.1 dX10_out_61 rfl (lv_at hl 0 rfl) ?_
        refine lv_iload_n (pc := 62) C.1 C.2.1 dX10_out_62 rfl (lv_at hl 1 rfl) ?_
        refine lv_iload (pc := 63) C.1 C.2.1 dX10_out_63 (lv_at hl 5 rfl) ?_
        refine g_isub (pc := 65) C dX10_out_65 ?_
        refine g_calli (pc := 66) w (mm_runS (As := [.int (mm_I a1), .int (mm_I (a2 - v6))]) (rest := [.int (mm_I v5), .int (mm_I v5)]) C w (c_X10_placeBy l G a1 (a2 - v6)  s1 _ hw) cs_X10_placeBy ml_X10_266 ⟨Nat.le_of_ble_eq_true rfl, Nat.le_of_ble_eq_true rfl⟩ ⟨Nat.le_of_ble_eq_true rfl, Nat.le_of_ble_eq_true rfl⟩ rfl hl.1 rfl (Nat.le_of_ble_eq_true rfl) dX10_out_66) (fun r_5 s_4 H locs hw w => ?_)
        refine g_calli (pc := 69) w (mm_runS (As := [.int (mm_I v5), .int (mm_I r_5)]) (rest := [.int (mm_I v5)]) C w (c_X10_bitAtPlace l G v5 r_5  s_4 _ hw) cs_X10_bitAtPlace ml_X10_269 ⟨Nat.le_of_ble_eq_true rfl, Nat.le_of_ble_eq_true rfl⟩ ⟨Nat.le_of_ble_eq_true rfl, Nat.le_of_ble_eq_true rfl⟩ rfl hl.1 rfl (Nat.le_of_ble_eq_true rfl) dX10_out_69) (fun r_7 s_6 H locs hw w => ?_)
        refine lv_iconst (pc := 72) (v := mm_I (-1)) C.1 C.2.1 dX10_out_72 rfl ?_
        refine g_ixor (pc := 73) C dX10_out_73 ?_
        refine g_iand (pc := 74) C dX10_out_74 ?_
        refine g_istore (pc := 75) C dX10_out_75 hl (by decide) (fun v5_8 ev5_8 ls hl => ?_)
        have hw := hw v5_8 ev5_8
        have hl : lv_has ls 7 [(5, .int (mm_I v5_8)), (1, .int (mm_I a1)), (2, .int (mm_I a2)), (3, .int (mm_I a3)), (4, .int (mm_I v4)), (6, .int (mm_I v6))] := hl
        refine g_iinc (pc := 77) (k := 5) C dX10_out_77 hl rfl (by decide) (fun v6_9 ev6_9 ls hl => ?_)
        have hw := hw v6_9 ev6_9
        have hl : lv_has ls 7 [(6, .int (mm_I v6_9)), (5, .int (mm_I v5_8)), (1, .int (mm_I a1)), (2, .int (mm_I a2)), (3, .int (mm_I a3)), (4, .int (mm_I v4))] := hl
        refine lv_goto (pc := 80) (tgt := 45) C.1 C.2.1 dX10_out_80 (by decide) ?_
        exact hw  _ _ _ w (lv_sub hl [2, 3, 4, 5, 1, 0] rfl))
  intro H locs ls w hl
  have hl : lv_has ls 7 [(0, .ref (mm_ad G this)), (1, .int (mm_I a1)), (2, .int (mm_I a2)), (3, .int (mm_I a3))] := hl
  refine lv_iload_n (pc := 0) C.1 C.2.1 dX10_out_0 rfl (lv_at hl 1 rfl) ?_
  refine g_if_lt (pc := 1) (tgt := 29) C rfl dX10_out_1 (by decide) (fun hc => ?_) (fun hc => ?_)
  · have hw := hw.1 hc
    refine lv_iconst (pc := 29) (v := mm_I (-1)) C.1 C.2.1 dX10_out_29 rfl ?_
    exact g_iret (pc := 30) C w hr hk hw dX10_out_30
  · have hw := hw.2 hc
    refine lv_iload_n (pc := 4) C.1 C.2.1 dX10_out_4 rfl (lv_at hl 1 rfl) ?_
    refine lv_iconst (pc := 5) (v := mm_I 2) C.1 C.2.1 dX10_out_5 rfl ?_
    refine g_icmp_gt (pc := 6) (tgt := 29) C rfl mn_2 dX10_out_6 (by decide) (fun hc => ?_) (fun hc => ?_)
    · have hw := hw.1 hc
      refine lv_iconst (pc := 29) (v := mm_I (-1)) C.1 C.2.1 dX10_out_29 rfl ?_
      exact g_iret (pc := 30) C w hr hk hw dX10_out_30
    · have hw := hw.2 hc
      refine lv_iload_n (pc := 9) C.1 C.2.1 dX10_out_9 rfl (lv_at hl 2 rfl) ?_
      refine g_if_lt (pc := 10) (tgt := 29) C rfl dX10_out_10 (by decide) (fun hc => ?_) (fun hc => ?_)
      · have hw := hw.1 hc
        refine lv_iconst (pc := 29) (v := mm_I (-1)) C.1 C.2.1 dX10_out_29 rfl ?_
        exact g_iret (pc := 30) C w hr hk hw dX10_out_30
      · have hw := hw.2 hc
        refine lv_iload_n (pc := 13) C.1 C.2.1 dX10_out_13 rfl (lv_at hl 2 rfl) ?_
        refine lv_bipush (pc := 14) C.1 C.2.1 dX10_out_14 mb_12 ?_
        refine g_icmp_gt (pc := 16) (tgt := 29) C rfl mn_12 dX10_out_16 (by decide) (fun hc => ?_) (fun hc => ?_)
        · have hw := hw.1 hc
          refine lv_iconst (pc := 29) (v := mm_I (-1)) C.1 C.2.1 dX10_out_29 rfl ?_
          exact g_iret (pc := 30) C w hr hk hw dX10_out_30
        · have hw := hw.2 hc
          refine lv_iload_n (pc := 19) C.1 C.2.1 dX10_out_19 rfl (lv_at hl 3 rfl) ?_
          refine g_if_lt (pc := 20) (tgt := 29) C rfl dX10_out_20 (by decide) (fun hc => ?_) (fun hc => ?_)
          · have hw := hw.1 hc
            refine lv_iconst (pc := 29) (v := mm_I (-1)) C.1 C.2.1 dX10_out_29 rfl ?_
            exact g_iret (pc := 30) C w hr hk hw dX10_out_30
          · have hw := hw.2 hc
            refine lv_iload_n (pc := 23) C.1 C.2.1 dX10_out_23 rfl (lv_at hl 3 rfl) ?_
            refine lv_bipush (pc := 24) C.1 C.2.1 dX10_out_24 mb_12 ?_
            refine g_icmp_le (pc := 26) (tgt := 31) C rfl mn_12 dX10_out_26 (by decide) (fun hc => ?_) (fun hc => ?_)
            · have hw := hw.1 hc
              refine lv_iconst (pc := 31) (v := mm_I 1) C.1 C.2.1 dX10_out_31 rfl ?_
              refine lv_iload_n (pc := 32) C.1 C.2.1 dX10_out_32 rfl (lv_at hl 2 rfl) ?_
              refine g_ishl (pc := 33) C dX10_out_33 ?_
              refine lv_iconst (pc := 34) (v := mm_I 1) C.1 C.2.1 dX10_out_34 rfl ?_
              refine g_isub (pc := 35) C dX10_out_35 ?_
              refine g_istore (pc := 36) C dX10_out_36 hl (by decide) (fun v4_1 ev4_1 ls hl => ?_)
              have hw := hw v4_1 ev4_1
              have hl : lv_has ls 7 [(4, .int (mm_I v4_1)), (0, .ref (mm_ad G this)), (1, .int (mm_I a1)), (2, .int (mm_I a2)), (3, .int (mm_I a3))] := hl
              refine lv_iload (pc := 38) C.1 C.2.1 dX10_out_38 (lv_at hl 0 rfl) ?_
              refine g_istore (pc := 40) C dX10_out_40 hl (by decide) (fun v5_2 ev5_2 ls hl => ?_)
              have hw := hw v5_2 ev5_2
              have hl : lv_has ls 7 [(5, .int (mm_I v5_2)), (4, .int (mm_I v4_1)), (0, .ref (mm_ad G this)), (1, .int (mm_I a1)), (2, .int (mm_I a2)), (3, .int (mm_I a3))] := hl
              refine lv_iconst (pc := 42) (v := mm_I 0) C.1 C.2.1 dX10_out_42 rfl ?_
              refine lv_istore (pc := 43) (lv' := [(6, .int (mm_I 0)), (5, .int (mm_I v5_2)), (4, .int (mm_I v4_1)), (0, .ref (mm_ad G this)), (1, .int (mm_I a1)), (2, .int (mm_I a2)), (3, .int (mm_I a3))]) C.1 C.2.1 dX10_out_43 hl (by decide) rfl (fun ls hl => ?_)
              exact hw  _ _ _ w (lv_sub hl [4, 5, 6, 2, 1, 0] rfl)
            · have hw := hw.2 hc
              refine lv_iconst (pc := 29) (v := mm_I (-1)) C.1 C.2.1 dX10_out_29 rfl ?_
              exact g_iret (pc := 30) C w hr hk hw dX10_out_30
theorem lk_X10_48 : Cond.fieldLink RX10 48 "LastServed" "images" "[LLastServed$Shop;" ∈ mm_ws := (mt_2 124 rfl rfl)
theorem ff_X10_6 : mm_F 10 6 1 RX10 TX10 10 := ⟨rfl, by decide, fk_X10, rfl, rfl⟩
theorem ro_X10_6 {i : Nat} (h : mm_ok i 20 0) : mm_ok (mm_rt i 6) 4 3 := by
  have q : ∀ i, i < mm_N → mm_kd i = 20 → mm_rt i 6 < mm_N ∧ mm_kd (mm_rt i 6) = 4 ∧ mm_ln (mm_rt i 6) = 3 := by decide +kernel
  exact q i h.1 h.2.1
theorem ra_4 {i j : Nat} (h : mm_ok i 4 3) (hj : j < 3) : mm_ok (mm_rt i j) 17 0 := by
  have q : ∀ i, i < mm_N → mm_kd i = 4 → ∀ j, j < 3 → mm_rt i j < mm_N ∧ mm_kd (mm_rt i j) = 17 ∧ mm_ln (mm_rt i j) = 0 := by decide +kernel
  exact q i h.1 h.2.1 j hj
theorem cv_X7_takeOver : mm_V yX7_takeOver cX7_takeOver 3 none 1 := ⟨(mt_5 170 rfl rfl), (mt_5 168 rfl rfl), (mt_5 169 rfl rfl), (mt_1 6 rfl rfl), by decide, by decide, by decide +kernel⟩
theorem ml_X10_272 : Cond.methodLink RX10 272 yX7_takeOver ∈ mm_ws := (mt_5 167 rfl rfl)
def wp_X10_image (this : Nat) (a1 : Int) (s0 : mm_M) (post : Int → mm_M → Prop) : Prop :=
  (wp_X9_isTold (mm_rt this 1) s0 (fun r_2 s_1 => ((n32 r_2 = 0 → post 0 s_1) ∧ (¬ n32 r_2 = 0 → ((n32 a1 < 0 → post 0 s_1) ∧ (¬ n32 a1 < 0 → ((n32 a1 < 3 → ((0 ≤ a1 ∧ a1 < 3) ∧ (wp_X7_takeOver (mm_rt (mm_rt this 6) (a1).toNat) (mm_rt this 5) s_1 (fun s_4 => ((0 ≤ a1 ∧ a1 < 3) ∧ (∀ s_6 : mm_M, s_6 = mm_up s_4 (mm_rt this 7) a1 1 → post 1 s_6)))))) ∧ (¬ n32 a1 < 3 → post 0 s_1))))))))
set_option maxRecDepth 100000 in
set_option maxHeartbeats 4000000 in
theorem c_X10_image (l : Launch) (G : mm_G) (this : Nat) (a1 : Int) (h0 : mm_ok this 20 0) (s0 : mm_M) (post : Int → mm_M → Prop) (hw : wp_X10_image this a1 s0 post) : Met l yX10_image (mm_wm yX10_image cX10_image 2 (some .boolean)) (mm_rm 4) (va_Pc [.ref (mm_ad G this), .int (mm_I a1)] (mm_pre G s0)) (mm_Qi G post) 0 0 (mm_A G) := by
  refine mm_met (own := RX10) (by decide) rfl (Nat.le_of_ble_eq_true rfl) ?_
  intro p e s m args below meth c C hr hk
  unfold wp_X10_image at hw
  intro H locs ls w hl
  have hl : lv_has ls 2 [(0, .ref (mm_ad G this)), (1, .int (mm_I a1))] := hl
  refine lv_aload_n (pc := 0) C.1 C.2.1 dX10_image_0 rfl (lv_at hl 0 rfl) ?_
  refine g_getr (pc := 1) C w h0 ff_X10_1 lk_X10_22 dX10_image_1 ?_
  refine g_calli (pc := 4) w (mm_runV (ci := 9) (q := (RX9, TX9, 9)) (As := []) (rest := []) C w (c_X9_isTold l G (mm_rt this 1) (ro_X10_1 h0) s0 _ hw) (ro_X10_1 h0) rfl rfl cv_X9_isTold ml_X10_189 ⟨Nat.le_of_ble_eq_true rfl, Nat.le_of_ble_eq_true rfl⟩ ⟨Nat.le_of_ble_eq_true rfl, Nat.le_of_ble_eq_true rfl⟩ rfl hl.1 rfl (Nat.le_of_ble_eq_true rfl) dX10_image_4) (fun r_2 s_1 H locs hw w => ?_)
  refine g_if_eq (pc := 7) (tgt := 19) C rfl dX10_image_7 (by decide) (fun hc => ?_) (fun hc => ?_)
  · have hw := hw.1 hc
    refine lv_iconst (pc := 19) (v := mm_I 0) C.1 C.2.1 dX10_image_19 rfl ?_
    exact g_zret (pc := 20) C w hr hk (by decide) hw dX10_image_20
  · have hw := hw.2 hc
    refine lv_iload_n (pc := 10) C.1 C.2.1 dX10_image_10 rfl (lv_at hl 1 rfl) ?_
    refine g_if_lt (pc := 11) (tgt := 19) C rfl dX10_image_11 (by decide) (fun hc => ?_) (fun hc => ?_)
    · have hw := hw.1 hc
      refine lv_iconst (pc := 19) (v := mm_I 0) C.1 C.2.1 dX10_image_19 rfl ?_
      exact g_zret (pc := 20) C w hr hk (by decide) hw dX10_image_20
    · have hw := hw.2 hc
      refine lv_iload_n (pc := 14) C.1 C.2.1 dX10_image_14 rfl (lv_at hl 1 rfl) ?_
      refine lv_iconst (pc := 15) (v := mm_I 3) C.1 C.2.1 dX10_image_15 rfl ?_
      refine g_icmp_lt (pc := 16) (tgt := 21) C rfl mn_3 dX10_image_16 (by decide) (fun hc => ?_) (fun hc => ?_)
      · have hw := hw.1 hc
        refine lv_aload_n (pc := 21) C.1 C.2.1 dX10_image_21 rfl (lv_at hl 0 rfl) ?_
        refine g_getr (pc := 22) C w h0 ff_X10_6 lk_X10_48 dX10_image_22 ?_
        refine lv_iload_n (pc := 25) C.1 C.2.1 dX10_image_25 rfl (lv_at hl 1 rfl) ?_
        obtain ⟨hi, hw⟩ := hw
        refine g_aald (pc := 26) C w (ro_X10_6 h0) (by decide) rfl hi dX10_image_26 ?_
        have ho_3 := ra_4 (j := (a1).toNat) (ro_X10_6 h0) (mm_tn (n := 3) hi)
        refine lv_aload_n (pc := 27) C.1 C.2.1 dX10_image_27 rfl (lv_at hl 0 rfl) ?_
        refine g_getr (pc := 28) C w h0 ff_X10_5 lk_X10_44 dX10_image_28 ?_
        refine g_callv (pc := 31) w (mm_runV (ci := 7) (q := (RX7, TX7, 9)) (As := [.ref (mm_ad G (mm_rt this 5))]) (rest := []) C w (c_X7_takeOver l G (mm_rt (mm_rt this 6) (a1).toNat) (mm_rt this 5) ho_3 (ro_X10_5 h0) s_1 _ hw) ho_3 rfl rfl cv_X7_takeOver ml_X10_272 ⟨Nat.le_of_ble_eq_true rfl, Nat.le_of_ble_eq_true rfl⟩ ⟨Nat.le_of_ble_eq_true rfl, Nat.le_of_ble_eq_true rfl⟩ rfl hl.1 rfl (Nat.le_of_ble_eq_true rfl) dX10_image_31) (fun s_4 H locs hw w => ?_)
        refine lv_aload_n (pc := 34) C.1 C.2.1 dX10_image_34 rfl (lv_at hl 0 rfl) ?_
        refine g_getr (pc := 35) C w h0 ff_X10_7 lk_X10_52 dX10_image_35 ?_
        refine lv_iload_n (pc := 38) C.1 C.2.1 dX10_image_38 rfl (lv_at hl 1 rfl) ?_
        refine lv_iconst (pc := 39) (v := mm_I 1) C.1 C.2.1 dX10_image_39 rfl ?_
        obtain ⟨hi, hw⟩ := hw
        refine g_zast (pc := 40) C w (ro_X10_7 h0) hi (by decide) dX10_image_40 (fun s_6 H locs es_6 w => ?_)
        have hw := hw s_6 es_6
        refine lv_iconst (pc := 41) (v := mm_I 1) C.1 C.2.1 dX10_image_41 rfl ?_
        exact g_zret (pc := 42) C w hr hk (by decide) hw dX10_image_42
      · have hw := hw.2 hc
        refine lv_iconst (pc := 19) (v := mm_I 0) C.1 C.2.1 dX10_image_19 rfl ?_
        exact g_zret (pc := 20) C w hr hk (by decide) hw dX10_image_20
def wp_X10_on (this : Nat) (a1 : Int) (s0 : mm_M) (post : Int → mm_M → Prop) : Prop :=
  ((n32 a1 < 0 → post 0 s0) ∧ (¬ n32 a1 < 0 → ((3 ≤ n32 a1 → post 0 s0) ∧ (¬ 3 ≤ n32 a1 → ((0 ≤ a1 ∧ a1 < 3) ∧ ((¬ n32 (s0 (mm_rt this 7) a1) = 0 → ((0 ≤ a1 ∧ a1 < 3) ∧ (wp_X7_takeOver (mm_rt this 5) (mm_rt (mm_rt this 6) (a1).toNat) s0 (fun s_2 => post 1 s_2)))) ∧ (n32 (s0 (mm_rt this 7) a1) = 0 → post 0 s0)))))))
set_option maxRecDepth 100000 in
set_option maxHeartbeats 4000000 in
theorem c_X10_on (l : Launch) (G : mm_G) (this : Nat) (a1 : Int) (h0 : mm_ok this 20 0) (s0 : mm_M) (post : Int → mm_M → Prop) (hw : wp_X10_on this a1 s0 post) : Met l yX10_on (mm_wm yX10_on cX10_on 2 (some .boolean)) (mm_rm 4) (va_Pc [.ref (mm_ad G this), .int (mm_I a1)] (mm_pre G s0)) (mm_Qi G post) 0 0 (mm_A G) := by
  refine mm_met (own := RX10) (by decide) rfl (Nat.le_of_ble_eq_true rfl) ?_
  intro p e s m args below meth c C hr hk
  unfold wp_X10_on at hw
  intro H locs ls w hl
  have hl : lv_has ls 2 [(0, .ref (mm_ad G this)), (1, .int (mm_I a1))] := hl
  refine lv_iload_n (pc := 0) C.1 C.2.1 dX10_on_0 rfl (lv_at hl 1 rfl) ?_
  refine g_if_lt (pc := 1) (tgt := 18) C rfl dX10_on_1 (by decide) (fun hc => ?_) (fun hc => ?_)
  · have hw := hw.1 hc
    refine lv_iconst (pc := 18) (v := mm_I 0) C.1 C.2.1 dX10_on_18 rfl ?_
    exact g_zret (pc := 19) C w hr hk (by decide) hw dX10_on_19
  · have hw := hw.2 hc
    refine lv_iload_n (pc := 4) C.1 C.2.1 dX10_on_4 rfl (lv_at hl 1 rfl) ?_
    refine lv_iconst (pc := 5) (v := mm_I 3) C.1 C.2.1 dX10_on_5 rfl ?_
    refine g_icmp_ge (pc := 6) (tgt := 18) C rfl mn_3 dX10_on_6 (by decide) (fun hc => ?_) (fun hc => ?_)
    · have hw := hw.1 hc
      refine lv_iconst (pc := 18) (v := mm_I 0) C.1 C.2.1 dX10_on_18 rfl ?_
      exact g_zret (pc := 19) C w hr hk (by decide) hw dX10_on_19
    · have hw := hw.2 hc
      refine lv_aload_n (pc := 9) C.1 C.2.1 dX10_on_9 rfl (lv_at hl 0 rfl) ?_
      refine g_getr (pc := 10) C w h0 ff_X10_7 lk_X10_52 dX10_on_10 ?_
      refine lv_iload_n (pc := 13) C.1 C.2.1 dX10_on_13 rfl (lv_at hl 1 rfl) ?_
      obtain ⟨hi, hw⟩ := hw
      refine g_zald (pc := 14) C w (ro_X10_7 h0) hi dX10_on_14 ?_
      refine g_if_ne (pc := 15) (tgt := 20) C rfl dX10_on_15 (by decide) (fun hc => ?_) (fun hc => ?_)
      · have hw := hw.1 hc
        refine lv_aload_n (pc := 20) C.1 C.2.1 dX10_on_20 rfl (lv_at hl 0 rfl) ?_
        refine g_getr (pc := 21) C w h0 ff_X10_5 lk_X10_44 dX10_on_21 ?_
        refine lv_aload_n (pc := 24) C.1 C.2.1 dX10_on_24 rfl (lv_at hl 0 rfl) ?_
        refine g_getr (pc := 25) C w h0 ff_X10_6 lk_X10_48 dX10_on_25 ?_
        refine lv_iload_n (pc := 28) C.1 C.2.1 dX10_on_28 rfl (lv_at hl 1 rfl) ?_
        obtain ⟨hi, hw⟩ := hw
        refine g_aald (pc := 29) C w (ro_X10_6 h0) (by decide) rfl hi dX10_on_29 ?_
        have ho_1 := ra_4 (j := (a1).toNat) (ro_X10_6 h0) (mm_tn (n := 3) hi)
        refine g_callv (pc := 30) w (mm_runV (ci := 7) (q := (RX7, TX7, 9)) (As := [.ref (mm_ad G (mm_rt (mm_rt this 6) (a1).toNat))]) (rest := []) C w (c_X7_takeOver l G (mm_rt this 5) (mm_rt (mm_rt this 6) (a1).toNat) (ro_X10_5 h0) ho_1 s0 _ hw) (ro_X10_5 h0) rfl rfl cv_X7_takeOver ml_X10_272 ⟨Nat.le_of_ble_eq_true rfl, Nat.le_of_ble_eq_true rfl⟩ ⟨Nat.le_of_ble_eq_true rfl, Nat.le_of_ble_eq_true rfl⟩ rfl hl.1 rfl (Nat.le_of_ble_eq_true rfl) dX10_on_30) (fun s_2 H locs hw w => ?_)
        refine lv_iconst (pc := 33) (v := mm_I 1) C.1 C.2.1 dX10_on_33 rfl ?_
        exact g_zret (pc := 34) C w hr hk (by decide) hw dX10_on_34
      · have hw := hw.2 hc
        refine lv_iconst (pc := 18) (v := mm_I 0) C.1 C.2.1 dX10_on_18 rfl ?_
        exact g_zret (pc := 19) C w hr hk (by decide) hw dX10_on_19
theorem lk_X10_275 : Cond.fieldLinkNest RX10 275 "LastServed$Town" "sorts" "I" "LastServed" ∈ mm_nest := by decide +kernel
theorem ml_X10_278 : Cond.methodLink RX10 278 yX9_bow ∈ mm_ws := (mt_5 193 rfl rfl)
theorem cv_X7_howMany : mm_V yX7_howMany cX7_howMany 3 (some .int) 0 := ⟨(mt_5 197 rfl rfl), (mt_5 195 rfl rfl), (mt_5 196 rfl rfl), (mt_1 6 rfl rfl), by decide, by decide, by decide +kernel⟩
theorem ml_X10_281 : Cond.methodLink RX10 281 yX7_howMany ∈ mm_ws := (mt_5 194 rfl rfl)
def wp_X10_count (this : Nat) (a1 : Int) (s0 : mm_M) (post : Int → mm_M → Prop) : Prop :=
  ((n32 a1 = 0 → post (s0 (mm_rt this 1) 4) s0) ∧ (¬ n32 a1 = 0 → ((n32 a1 = 1 → post (s0 (mm_rt this 1) 5) s0) ∧ (¬ n32 a1 = 1 → ((n32 a1 = 2 → post (s0 (mm_rt this 5) 7) s0) ∧ (¬ n32 a1 = 2 → ((n32 a1 = 3 → (wp_X9_isTold (mm_rt this 1) s0 (fun r_2 s_1 => ((n32 r_2 = 0 → post 0 s_1) ∧ (¬ n32 r_2 = 0 → (wp_X9_closing (mm_rt this 1) s_1 (fun r_4 s_3 => post r_4 s_3))))))) ∧ (¬ n32 a1 = 3 → ((n32 a1 = 4 → (wp_X9_fee (mm_rt this 1) s0 (fun r_6 s_5 => post r_6 s_5))) ∧ (¬ n32 a1 = 4 → ((n32 a1 = 5 → (wp_X9_bow (mm_rt this 1) s0 (fun r_8 s_7 => post r_8 s_7))) ∧ (¬ n32 a1 = 5 → ((n32 a1 = 6 → post (s0 (mm_rt this 3) 4) s0) ∧ (¬ n32 a1 = 6 → ((n32 a1 = 7 → (wp_X7_howMany (mm_rt this 5) s0 (fun r_10 s_9 => post r_10 s_9))) ∧ (¬ n32 a1 = 7 → ((n32 a1 = 8 → post (s0 (mm_rt this 8) 8) s0) ∧ (¬ n32 a1 = 8 → ((n32 a1 = 9 → post (s0 (mm_rt this 0) 1) s0) ∧ (¬ n32 a1 = 9 → post (-1) s0))))))))))))))))))))
set_option maxRecDepth 100000 in
set_option maxHeartbeats 4000000 in
theorem c_X10_count (l : Launch) (G : mm_G) (this : Nat) (a1 : Int) (h0 : mm_ok this 20 0) (s0 : mm_M) (post : Int → mm_M → Prop) (hw : wp_X10_count this a1 s0 post) : Met l yX10_count (mm_wm yX10_count cX10_count 2 (some .int)) (mm_rm 3) (va_Pc [.ref (mm_ad G this), .int (mm_I a1)] (mm_pre G s0)) (mm_Qi G post) 0 0 (mm_A G) := by
  refine mm_met (own := RX10) (by decide) rfl (Nat.le_of_ble_eq_true rfl) ?_
  intro p e s m args below meth c C hr hk
  unfold wp_X10_count at hw
  intro H locs ls w hl
  have hl : lv_has ls 2 [(0, .ref (mm_ad G this)), (1, .int (mm_I a1))] := hl
  refine lv_iload_n (pc := 0) C.1 C.2.1 dX10_count_0 rfl (lv_at hl 1 rfl) ?_
  by_cases hc0 : n32 a1 = 0
  · have hw := hw.1 hc0
    refine lv_tableIn (pc := 1) (tgt := 56) C.1 C.2.1 dX10_count_1 (by rw [show (mm_I a1).toInt = 0 from hc0]; decide) (by rw [show (mm_I a1).toInt = 0 from hc0]; decide) (by rw [show (mm_I a1).toInt = 0 from hc0]; first | done | rfl) (by decide) ?_
    refine lv_aload_n (pc := 56) C.1 C.2.1 dX10_count_56 rfl (lv_at hl 0 rfl) ?_
    refine g_getr (pc := 57) C w h0 ff_X10_1 lk_X10_22 dX10_count_57 ?_
    refine g_getiN (pc := 60) C w (ro_X10_1 h0) ff_X9_4 lk_X10_97 dX10_count_60 ?_
    exact g_iret (pc := 63) C w hr hk hw dX10_count_63
  have hw := hw.2 hc0
  by_cases hc1 : n32 a1 = 1
  · have hw := hw.1 hc1
    refine lv_tableIn (pc := 1) (tgt := 64) C.1 C.2.1 dX10_count_1 (by rw [show (mm_I a1).toInt = 1 from hc1]; decide) (by rw [show (mm_I a1).toInt = 1 from hc1]; decide) (by rw [show (mm_I a1).toInt = 1 from hc1]; first | done | rfl) (by decide) ?_
    refine lv_aload_n (pc := 64) C.1 C.2.1 dX10_count_64 rfl (lv_at hl 0 rfl) ?_
    refine g_getr (pc := 65) C w h0 ff_X10_1 lk_X10_22 dX10_count_65 ?_
    refine g_getiN (pc := 68) C w (ro_X10_1 h0) ff_X9_5 lk_X10_275 dX10_count_68 ?_
    exact g_iret (pc := 71) C w hr hk hw dX10_count_71
  have hw := hw.2 hc1
  by_cases hc2 : n32 a1 = 2
  · have hw := hw.1 hc2
    refine lv_tableIn (pc := 1) (tgt := 72) C.1 C.2.1 dX10_count_1 (by rw [show (mm_I a1).toInt = 2 from hc2]; decide) (by rw [show (mm_I a1).toInt = 2 from hc2]; decide) (by rw [show (mm_I a1).toInt = 2 from hc2]; first | done | rfl) (by decide) ?_
    refine lv_aload_n (pc := 72) C.1 C.2.1 dX10_count_72 rfl (lv_at hl 0 rfl) ?_
    refine g_getr (pc := 73) C w h0 ff_X10_5 lk_X10_44 dX10_count_73 ?_
    refine g_getiN (pc := 76) C w (ro_X10_5 h0) ff_X7_7 lk_X10_145 dX10_count_76 ?_
    exact g_iret (pc := 79) C w hr hk hw dX10_count_79
  have hw := hw.2 hc2
  by_cases hc3 : n32 a1 = 3
  · have hw := hw.1 hc3
    refine lv_tableIn (pc := 1) (tgt := 80) C.1 C.2.1 dX10_count_1 (by rw [show (mm_I a1).toInt = 3 from hc3]; decide) (by rw [show (mm_I a1).toInt = 3 from hc3]; decide) (by rw [show (mm_I a1).toInt = 3 from hc3]; first | done | rfl) (by decide) ?_
    refine lv_aload_n (pc := 80) C.1 C.2.1 dX10_count_80 rfl (lv_at hl 0 rfl) ?_
    refine g_getr (pc := 81) C w h0 ff_X10_1 lk_X10_22 dX10_count_81 ?_
    refine g_calli (pc := 84) w (mm_runV (ci := 9) (q := (RX9, TX9, 9)) (As := []) (rest := []) C w (c_X9_isTold l G (mm_rt this 1) (ro_X10_1 h0) s0 _ hw) (ro_X10_1 h0) rfl rfl cv_X9_isTold ml_X10_189 ⟨Nat.le_of_ble_eq_true rfl, Nat.le_of_ble_eq_true rfl⟩ ⟨Nat.le_of_ble_eq_true rfl, Nat.le_of_ble_eq_true rfl⟩ rfl hl.1 rfl (Nat.le_of_ble_eq_true rfl) dX10_count_84) (fun r_2 s_1 H locs hw w => ?_)
    refine g_if_eq (pc := 87) (tgt := 100) C rfl dX10_count_87 (by decide) (fun hc => ?_) (fun hc => ?_)
    · have hw := hw.1 hc
      refine lv_iconst (pc := 100) (v := mm_I 0) C.1 C.2.1 dX10_count_100 rfl ?_
      exact g_iret (pc := 101) C w hr hk hw dX10_count_101
    · have hw := hw.2 hc
      refine lv_aload_n (pc := 90) C.1 C.2.1 dX10_count_90 rfl (lv_at hl 0 rfl) ?_
      refine g_getr (pc := 91) C w h0 ff_X10_1 lk_X10_22 dX10_count_91 ?_
      refine g_calli (pc := 94) w (mm_runV (ci := 9) (q := (RX9, TX9, 9)) (As := []) (rest := []) C w (c_X9_closing l G (mm_rt this 1) (ro_X10_1 h0) s_1 _ hw) (ro_X10_1 h0) rfl rfl cv_X9_closing ml_X10_148 ⟨Nat.le_of_ble_eq_true rfl, Nat.le_of_ble_eq_true rfl⟩ ⟨Nat.le_of_ble_eq_true rfl, Nat.le_of_ble_eq_true rfl⟩ rfl hl.1 rfl (Nat.le_of_ble_eq_true rfl) dX10_count_94) (fun r_4 s_3 H locs hw w => ?_)
      refine lv_goto (pc := 97) (tgt := 101) C.1 C.2.1 dX10_count_97 (by decide) ?_
      exact g_iret (pc := 101) C w hr hk hw dX10_count_101
  have hw := hw.2 hc3
  by_cases hc4 : n32 a1 = 4
  · have hw := hw.1 hc4
    refine lv_tableIn (pc := 1) (tgt := 102) C.1 C.2.1 dX10_count_1 (by rw [show (mm_I a1).toInt = 4 from hc4]; decide) (by rw [show (mm_I a1).toInt = 4 from hc4]; decide) (by rw [show (mm_I a1).toInt = 4 from hc4]; first | done | rfl) (by decide) ?_
    refine lv_aload_n (pc := 102) C.1 C.2.1 dX10_count_102 rfl (lv_at hl 0 rfl) ?_
    refine g_getr (pc := 103) C w h0 ff_X10_1 lk_X10_22 dX10_count_103 ?_
    refine g_calli (pc := 106) w (mm_runV (ci := 9) (q := (RX9, TX9, 9)) (As := []) (rest := []) C w (c_X9_fee l G (mm_rt this 1) (ro_X10_1 h0) s0 _ hw) (ro_X10_1 h0) rfl rfl cv_X9_fee ml_X10_252 ⟨Nat.le_of_ble_eq_true rfl, Nat.le_of_ble_eq_true rfl⟩ ⟨Nat.le_of_ble_eq_true rfl, Nat.le_of_ble_eq_true rfl⟩ rfl hl.1 rfl (Nat.le_of_ble_eq_true rfl) dX10_count_106) (fun r_6 s_5 H locs hw w => ?_)
    exact g_iret (pc := 109) C w hr hk hw dX10_count_109
  have hw := hw.2 hc4
  by_cases hc5 : n32 a1 = 5
  · have hw := hw.1 hc5
    refine lv_tableIn (pc := 1) (tgt := 110) C.1 C.2.1 dX10_count_1 (by rw [show (mm_I a1).toInt = 5 from hc5]; decide) (by rw [show (mm_I a1).toInt = 5 from hc5]; decide) (by rw [show (mm_I a1).toInt = 5 from hc5]; first | done | rfl) (by decide) ?_
    refine lv_aload_n (pc := 110) C.1 C.2.1 dX10_count_110 rfl (lv_at hl 0 rfl) ?_
    refine g_getr (pc := 111) C w h0 ff_X10_1 lk_X10_22 dX10_count_111 ?_
    refine g_calli (pc := 114) w (mm_runV (ci := 9) (q := (RX9, TX9, 9)) (As := []) (rest := []) C w (c_X9_bow l G (mm_rt this 1) (ro_X10_1 h0) s0 _ hw) (ro_X10_1 h0) rfl rfl cv_X9_bow ml_X10_278 ⟨Nat.le_of_ble_eq_true rfl, Nat.le_of_ble_eq_true rfl⟩ ⟨Nat.le_of_ble_eq_true rfl, Nat.le_of_ble_eq_true rfl⟩ rfl hl.1 rfl (Nat.le_of_ble_eq_true rfl) dX10_count_114) (fun r_8 s_7 H locs hw w => ?_)
    exact g_iret (pc := 117) C w hr hk hw dX10_count_117
  have hw := hw.2 hc5
  by_cases hc6 : n32 a1 = 6
  · have hw := hw.1 hc6
    refine lv_tableIn (pc := 1) (tgt := 118) C.1 C.2.1 dX10_count_1 (by rw [show (mm_I a1).toInt = 6 from hc6]; decide) (by rw [show (mm_I a1).toInt = 6 from hc6]; decide) (by rw [show (mm_I a1).toInt = 6 from hc6]; first | done | rfl) (by decide) ?_
    refine lv_aload_n (pc := 118) C.1 C.2.1 dX10_count_118 rfl (lv_at hl 0 rfl) ?_
    refine g_getr (pc := 119) C w h0 ff_X10_3 lk_X10_32 dX10_count_119 ?_
    refine g_getiN (pc := 122) C w (ro_X10_3 h0) ff_X3_4 lk_X10_103 dX10_count_122 ?_
    exact g_iret (pc := 125) C w hr hk hw dX10_count_125
  have hw := hw.2 hc6
  by_cases hc7 : n32 a1 = 7
  · have hw := hw.1 hc7
    refine lv_tableIn (pc := 1) (tgt := 126) C.1 C.2.1 dX10_count_1 (by rw [show (mm_I a1).toInt = 7 from hc7]; decide) (by rw [show (mm_I a1).toInt = 7 from hc7]; decide) (by rw [show (mm_I a1).toInt = 7 from hc7]; first | done | rfl) (by decide) ?_
    refine lv_aload_n (pc := 126) C.1 C.2.1 dX10_count_126 rfl (lv_at hl 0 rfl) ?_
    refine g_getr (pc := 127) C w h0 ff_X10_5 lk_X10_44 dX10_count_127 ?_
    refine g_calli (pc := 130) w (mm_runV (ci := 7) (q := (RX7, TX7, 9)) (As := []) (rest := []) C w (c_X7_howMany l G (mm_rt this 5) (ro_X10_5 h0) s0 _ hw) (ro_X10_5 h0) rfl rfl cv_X7_howMany ml_X10_281 ⟨Nat.le_of_ble_eq_true rfl, Nat.le_of_ble_eq_true rfl⟩ ⟨Nat.le_of_ble_eq_true rfl, Nat.le_of_ble_eq_true rfl⟩ rfl hl.1 rfl (Nat.le_of_ble_eq_true rfl) dX10_count_130) (fun r_10 s_9 H locs hw w => ?_)
    exact g_iret (pc := 133) C w hr hk hw dX10_count_133
  have hw := hw.2 hc7
  by_cases hc8 : n32 a1 = 8
  · have hw := hw.1 hc8
    refine lv_tableIn (pc := 1) (tgt := 134) C.1 C.2.1 dX10_count_1 (by rw [show (mm_I a1).toInt = 8 from hc8]; decide) (by rw [show (mm_I a1).toInt = 8 from hc8]; decide) (by rw [show (mm_I a1).toInt = 8 from hc8]; first | done | rfl) (by decide) ?_
    refine lv_aload_n (pc := 134) C.1 C.2.1 dX10_count_134 rfl (lv_at hl 0 rfl) ?_
    refine g_getr (pc := 135) C w h0 ff_X10_8 lk_X10_61 dX10_count_135 ?_
    refine g_getiN (pc := 138) C w (ro_X10_8 h0) ff_X6_8 lk_X10_198 dX10_count_138 ?_
    exact g_iret (pc := 141) C w hr hk hw dX10_count_141
  have hw := hw.2 hc8
  by_cases hc9 : n32 a1 = 9
  · have hw := hw.1 hc9
    refine lv_tableIn (pc := 1) (tgt := 142) C.1 C.2.1 dX10_count_1 (by rw [show (mm_I a1).toInt = 9 from hc9]; decide) (by rw [show (mm_I a1).toInt = 9 from hc9]; decide) (by rw [show (mm_I a1).toInt = 9 from hc9]; first | done | rfl) (by decide) ?_
    refine lv_aload_n (pc := 142) C.1 C.2.1 dX10_count_142 rfl (lv_at hl 0 rfl) ?_
    refine g_getr (pc := 143) C w h0 ff_X10_0 lk_X10_13 dX10_count_143 ?_
    refine g_getiN (pc := 146) C w (ro_X10_0 h0) ff_X8_1 lk_X10_72 dX10_count_146 ?_
    exact g_iret (pc := 149) C w hr hk hw dX10_count_149
  have hw := hw.2 hc9
  refine lv_tableOut (pc := 1) (tgt := 150) C.1 C.2.1 dX10_count_1 (mo_0_9 hc0 hc1 hc2 hc3 hc4 hc5 hc6 hc7 hc8 hc9) (by decide) ?_
  refine lv_iconst (pc := 150) (v := mm_I (-1)) C.1 C.2.1 dX10_count_150 rfl ?_
  exact g_iret (pc := 151) C w hr hk hw dX10_count_151
def wp_X11_in (a1 : Int) (a2 : Int) (a3 : Int) (s0 : mm_M) (post : Int → mm_M → Prop) : Prop :=
  ((n32 a1 < n32 a2 → post 0 s0) ∧ (¬ n32 a1 < n32 a2 → ((n32 a3 < n32 a1 → post 0 s0) ∧ (¬ n32 a3 < n32 a1 → post 1 s0))))
set_option maxRecDepth 100000 in
set_option maxHeartbeats 4000000 in
theorem c_X11_in (l : Launch) (G : mm_G) (a1 : Int) (a2 : Int) (a3 : Int)  (s0 : mm_M) (post : Int → mm_M → Prop) (hw : wp_X11_in a1 a2 a3 s0 post) : Met l yX11_in (mm_wm yX11_in cX11_in 3 (some .boolean)) (mm_rm 1) (va_Pc [.int (mm_I a1), .int (mm_I a2), .int (mm_I a3)] (mm_pre G s0)) (mm_Qi G post) 0 0 (mm_A G) := by
  refine mm_met (own := RX11) (by decide) rfl (Nat.le_of_ble_eq_true rfl) ?_
  intro p e s m args below meth c C hr hk
  unfold wp_X11_in at hw
  intro H locs ls w hl
  have hl : lv_has ls 3 [(0, .int (mm_I a1)), (1, .int (mm_I a2)), (2, .int (mm_I a3))] := hl
  refine lv_iload_n (pc := 0) C.1 C.2.1 dX11_in_0 rfl (lv_at hl 0 rfl) ?_
  refine lv_iload_n (pc := 1) C.1 C.2.1 dX11_in_1 rfl (lv_at hl 1 rfl) ?_
  refine g_icmp_lt (pc := 2) (tgt := 14) C rfl rfl dX11_in_2 (by decide) (fun hc => ?_) (fun hc => ?_)
  · have hw := hw.1 hc
    refine lv_iconst (pc := 14) (v := mm_I 0) C.1 C.2.1 dX11_in_14 rfl ?_
    exact g_zret (pc := 15) C w hr hk (by decide) hw dX11_in_15
  · have hw := hw.2 hc
    refine lv_iload_n (pc := 5) C.1 C.2.1 dX11_in_5 rfl (lv_at hl 0 rfl) ?_
    refine lv_iload_n (pc := 6) C.1 C.2.1 dX11_in_6 rfl (lv_at hl 2 rfl) ?_
    refine g_icmp_gt (pc := 7) (tgt := 14) C rfl rfl dX11_in_7 (by decide) (fun hc => ?_) (fun hc => ?_)
    · have hw := hw.1 hc
      refine lv_iconst (pc := 14) (v := mm_I 0) C.1 C.2.1 dX11_in_14 rfl ?_
      exact g_zret (pc := 15) C w hr hk (by decide) hw dX11_in_15
    · have hw := hw.2 hc
      refine lv_iconst (pc := 10) (v := mm_I 1) C.1 C.2.1 dX11_in_10 rfl ?_
      refine lv_goto (pc := 11) (tgt := 15) C.1 C.2.1 dX11_in_11 (by decide) ?_
      exact g_zret (pc := 15) C w hr hk (by decide) hw dX11_in_15
theorem lk_X11_118 : Cond.fieldLink RX11 118 "LastServedModel" "size" "I" ∈ mm_ws := (mt_5 205 rfl rfl)
theorem ff_X11_1 : mm_F 11 1 0 RX11 TX11 65 := ⟨rfl, by decide, fk_X11, rfl, rfl⟩
theorem lk_X11_9 : Cond.fieldLink RX11 9 "LastServedModel" "text" "[B" ∈ mm_ws := (mt_5 204 rfl rfl)
theorem ff_X11_0 : mm_F 11 0 1 RX11 TX11 65 := ⟨rfl, by decide, fk_X11, rfl, rfl⟩
theorem ro_X11_0 {i : Nat} (h : mm_ok i 21 0) : mm_ok (mm_rt i 0) 1 500 := by
  have q : ∀ i, i < mm_N → mm_kd i = 21 → mm_rt i 0 < mm_N ∧ mm_kd (mm_rt i 0) = 1 ∧ mm_ln (mm_rt i 0) = 500 := by decide +kernel
  exact q i h.1 h.2.1
theorem fw_X11_1 : mm_Fw 11 1 TX11 65 .int := ⟨⟨tyX11, tyX11_ok⟩, nmX11, rfl, by decide +kernel⟩
def wp_X11_feed (this : Nat) (a1 : Int) (a2 : Int) (a3 : Int) (a4 : Int) (a5 : Int) (s0 : mm_M) (post : Int → mm_M → Prop) : Prop :=
  ∀ (L18 : Int → mm_M → Prop), ∀ (L71 : Int → Int → mm_M → Prop), 
  (∀ (v6 : Int) (s1 : mm_M), ((20 ≤ n32 v6 → post (s1 this 1) s1) ∧ (¬ 20 ≤ n32 v6 → ((4 ≤ n32 v6 → ((8 ≤ n32 v6 → ((12 ≤ n32 v6 → ((16 ≤ n32 v6 → L71 v6 a5 s1) ∧ (¬ 16 ≤ n32 v6 → L71 v6 a4 s1))) ∧ (¬ 12 ≤ n32 v6 → L71 v6 a3 s1))) ∧ (¬ 8 ≤ n32 v6 → L71 v6 a2 s1))) ∧ (¬ 4 ≤ n32 v6 → L71 v6 a1 s1)))) → L18 v6 s1) →
  (∀ (v6 : Int) (q0 : Int) (s1 : mm_M), (∀ v7_2 : Int, v7_2 = q0 → ((0 ≤ s1 this 1 ∧ s1 this 1 < 500) ∧ (∀ s_3 : mm_M, s_3 = mm_up s1 (mm_rt this 0) (s1 this 1) (mm_b8 (mm_b8 (mm_shr v7_2 (24 - (8 * (Int.tmod (n32 v6) 4)))))) → (∀ s_4 : mm_M, s_4 = mm_up s_3 this 1 ((s_3 this 1) + 1) → (∀ v6_5 : Int, v6_5 = v6 + 1 → L18 v6_5 s_4))))) → L71 v6 q0 s1) →
  ((n32 ((s0 this 1) + 20) ≤ 500 → L18 0 s0) ∧ (¬ n32 ((s0 this 1) + 20) ≤ 500 → post (-1) s0))
set_option maxRecDepth 100000 in
set_option maxHeartbeats 4000000 in
theorem c_X11_feed (l : Launch) (G : mm_G) (this : Nat) (a1 : Int) (a2 : Int) (a3 : Int) (a4 : Int) (a5 : Int) (h0 : mm_ok this 21 0) (s0 : mm_M) (post : Int → mm_M → Prop) (hw : wp_X11_feed this a1 a2 a3 a4 a5 s0 post) : Met l yX11_feed (mm_wm yX11_feed cX11_feed 8 (some .int)) (mm_rm 1) (va_Pc [.ref (mm_ad G this), .int (mm_I a1), .int (mm_I a2), .int (mm_I a3), .int (mm_I a4), .int (mm_I a5)] (mm_pre G s0)) (mm_Qi G post) 0 0 (mm_A G) := by
  refine mm_met (own := RX11) (by decide) rfl (Nat.le_of_ble_eq_true rfl) ?_
  intro p e s m args below meth c C hr hk
  unfold wp_X11_feed at hw
  have hw := hw (fun (v6 : Int) (u : mm_M) => mm_X p l e (mm_rm 1) s m args below meth c (MQ below (mm_Qi G post) args s 0 0 (mm_A G)) G (mm_A G) 8 18 [(0, .ref (mm_ad G this)), (1, .int (mm_I a1)), (2, .int (mm_I a2)), (3, .int (mm_I a3)), (4, .int (mm_I a4)), (5, .int (mm_I a5)), (6, .int (mm_I v6))] [] u)
  have hw := hw (fun (v6 : Int) (q0 : Int) (u : mm_M) => mm_X p l e (mm_rm 1) s m args below meth c (MQ below (mm_Qi G post) args s 0 0 (mm_A G)) G (mm_A G) 8 71 [(0, .ref (mm_ad G this)), (1, .int (mm_I a1)), (2, .int (mm_I a2)), (3, .int (mm_I a3)), (4, .int (mm_I a4)), (5, .int (mm_I a5)), (6, .int (mm_I v6))] [.int (mm_I q0)] u)
  have hw := hw (by
    intro v6 s1 hw  H locs ls w hl
    refine lv_iload (pc := 18) C.1 C.2.1 dX11_feed_18 (lv_at hl 6 rfl) ?_
    refine lv_bipush (pc := 20) C.1 C.2.1 dX11_feed_20 mb_20 ?_
    refine g_icmp_ge (pc := 22) (tgt := 112) C rfl mn_20 dX11_feed_22 (by decide) (fun hc => ?_) (fun hc => ?_)
    · have hw := hw.1 hc
      refine lv_aload_n (pc := 112) C.1 C.2.1 dX11_feed_112 rfl (lv_at hl 0 rfl) ?_
      refine g_geti (pc := 113) C w h0 ff_X11_1 lk_X11_118 dX11_feed_113 ?_
      exact g_iret (pc := 116) C w hr hk hw dX11_feed_116
    · have hw := hw.2 hc
      refine lv_iload (pc := 25) C.1 C.2.1 dX11_feed_25 (lv_at hl 6 rfl) ?_
      refine lv_iconst (pc := 27) (v := mm_I 4) C.1 C.2.1 dX11_feed_27 rfl ?_
      refine g_icmp_ge (pc := 28) (tgt := 35) C rfl mn_4 dX11_feed_28 (by decide) (fun hc => ?_) (fun hc => ?_)
      · have hw := hw.1 hc
        refine lv_iload (pc := 35) C.1 C.2.1 dX11_feed_35 (lv_at hl 6 rfl) ?_
        refine lv_bipush (pc := 37) C.1 C.2.1 dX11_feed_37 mb_8 ?_
        refine g_icmp_ge (pc := 39) (tgt := 46) C rfl mn_8 dX11_feed_39 (by decide) (fun hc => ?_) (fun hc => ?_)
        · have hw := hw.1 hc
          refine lv_iload (pc := 46) C.1 C.2.1 dX11_feed_46 (lv_at hl 6 rfl) ?_
          refine lv_bipush (pc := 48) C.1 C.2.1 dX11_feed_48 mb_12 ?_
          refine g_icmp_ge (pc := 50) (tgt := 57) C rfl mn_12 dX11_feed_50 (by decide) (fun hc => ?_) (fun hc => ?_)
          · have hw := hw.1 hc
            refine lv_iload (pc := 57) C.1 C.2.1 dX11_feed_57 (lv_at hl 6 rfl) ?_
            refine lv_bipush (pc := 59) C.1 C.2.1 dX11_feed_59 mb_16 ?_
            refine g_icmp_ge (pc := 61) (tgt := 69) C rfl mn_16 dX11_feed_61 (by decide) (fun hc => ?_) (fun hc => ?_)
            · have hw := hw.1 hc
              refine lv_iload (pc := 69) C.1 C.2.1 dX11_feed_69 (lv_at hl 5 rfl) ?_
              exact hw  _ _ _ w (lv_sub hl [0, 1, 2, 3, 4, 5, 6] rfl)
            · have hw := hw.2 hc
              refine lv_iload (pc := 64) C.1 C.2.1 dX11_feed_64 (lv_at hl 4 rfl) ?_
              refine lv_goto (pc := 66) (tgt := 71) C.1 C.2.1 dX11_feed_66 (by decide) ?_
              exact hw  _ _ _ w (lv_sub hl [0, 1, 2, 3, 4, 5, 6] rfl)
          · have hw := hw.2 hc
            refine lv_iload_n (pc := 53) C.1 C.2.1 dX11_feed_53 rfl (lv_at hl 3 rfl) ?_
            refine lv_goto (pc := 54) (tgt := 71) C.1 C.2.1 dX11_feed_54 (by decide) ?_
            exact hw  _ _ _ w (lv_sub hl [0, 1, 2, 3, 4, 5, 6] rfl)
        · have hw := hw.2 hc
          refine lv_iload_n (pc := 42) C.1 C.2.1 dX11_feed_42 rfl (lv_at hl 2 rfl) ?_
          refine lv_goto (pc := 43) (tgt := 71) C.1 C.2.1 dX11_feed_43 (by decide) ?_
          exact hw  _ _ _ w (lv_sub hl [0, 1, 2, 3, 4, 5, 6] rfl)
      · have hw := hw.2 hc
        refine lv_iload_n (pc := 31) C.1 C.2.1 dX11_feed_31 rfl (lv_at hl 1 rfl) ?_
        refine lv_goto (pc := 32) (tgt := 71) C.1 C.2.1 dX11_feed_32 (by decide) ?_
        exact hw  _ _ _ w (lv_sub hl [0, 1, 2, 3, 4, 5, 6] rfl))
  have hw := hw (by
    intro v6 q0 s1 hw  H locs ls w hl
    refine g_istore (pc := 71) C dX11_feed_71 hl (by decide) (fun v7_2 ev7_2 ls hl => ?_)
    have hw := hw v7_2 ev7_2
    have hl : lv_has ls 8 [(7, .int (mm_I v7_2)), (0, .ref (mm_ad G this)), (1, .int (mm_I a1)), (2, .int (mm_I a2)), (3, .int (mm_I a3)), (4, .int (mm_I a4)), (5, .int (mm_I a5)), (6, .int (mm_I v6))] := hl
    refine lv_aload_n (pc := 73) C.1 C.2.1 dX11_feed_73 rfl (lv_at hl 1 rfl) ?_
    refine g_getr (pc := 74) C w h0 ff_X11_0 lk_X11_9 dX11_feed_74 ?_
    refine lv_aload_n (pc := 77) C.1 C.2.1 dX11_feed_77 rfl (lv_at hl 1 rfl) ?_
    refine g_geti (pc := 78) C w h0 ff_X11_1 lk_X11_118 dX11_feed_78 ?_
    refine lv_iload (pc := 81) C.1 C.2.1 dX11_feed_81 (lv_at hl 0 rfl) ?_
    refine lv_bipush (pc := 83) C.1 C.2.1 dX11_feed_83 mb_24 ?_
    refine lv_bipush (pc := 85) C.1 C.2.1 dX11_feed_85 mb_8 ?_
    refine lv_iload (pc := 87) C.1 C.2.1 dX11_feed_87 (lv_at hl 7 rfl) ?_
    refine lv_iconst (pc := 89) (v := mm_I 4) C.1 C.2.1 dX11_feed_89 rfl ?_
    refine g_irem (pc := 90) C rfl mn_4 (by decide) dX11_feed_90 ?_
    refine g_imul (pc := 91) C dX11_feed_91 ?_
    refine g_isub (pc := 92) C dX11_feed_92 ?_
    refine g_ishr (pc := 93) C dX11_feed_93 ?_
    refine g_i2b (pc := 94) C dX11_feed_94 ?_
    obtain ⟨hi, hw⟩ := hw
    refine g_bast (pc := 95) C w (ro_X11_0 h0) hi  dX11_feed_95 (fun s_3 H locs es_3 w => ?_)
    have hw := hw s_3 es_3
    refine lv_aload_n (pc := 96) C.1 C.2.1 dX11_feed_96 rfl (lv_at hl 1 rfl) ?_
    refine lv_dup (pc := 97) C.1 C.2.1 dX11_feed_97 rfl ?_
    refine g_geti (pc := 98) C w h0 ff_X11_1 lk_X11_118 dX11_feed_98 ?_
    refine lv_iconst (pc := 101) (v := mm_I 1) C.1 C.2.1 dX11_feed_101 rfl ?_
    refine g_iadd (pc := 102) C dX11_feed_102 ?_
    refine g_puti (pc := 103) C w h0 ff_X11_1 fw_X11_1 lk_X11_118 dX11_feed_103 (fun s_4 H locs es_4 w => ?_)
    have hw := hw s_4 es_4
    refine g_iinc (pc := 106) (k := 7) C dX11_feed_106 hl rfl (by decide) (fun v6_5 ev6_5 ls hl => ?_)
    have hw := hw v6_5 ev6_5
    have hl : lv_has ls 8 [(6, .int (mm_I v6_5)), (7, .int (mm_I v7_2)), (0, .ref (mm_ad G this)), (1, .int (mm_I a1)), (2, .int (mm_I a2)), (3, .int (mm_I a3)), (4, .int (mm_I a4)), (5, .int (mm_I a5))] := hl
    refine lv_goto (pc := 109) (tgt := 18) C.1 C.2.1 dX11_feed_109 (by decide) ?_
    exact hw  _ _ _ w (lv_sub hl [2, 3, 4, 5, 6, 7, 0] rfl))
  intro H locs ls w hl
  have hl : lv_has ls 8 [(0, .ref (mm_ad G this)), (1, .int (mm_I a1)), (2, .int (mm_I a2)), (3, .int (mm_I a3)), (4, .int (mm_I a4)), (5, .int (mm_I a5))] := hl
  refine lv_aload_n (pc := 0) C.1 C.2.1 dX11_feed_0 rfl (lv_at hl 0 rfl) ?_
  refine g_geti (pc := 1) C w h0 ff_X11_1 lk_X11_118 dX11_feed_1 ?_
  refine lv_bipush (pc := 4) C.1 C.2.1 dX11_feed_4 mb_20 ?_
  refine g_iadd (pc := 6) C dX11_feed_6 ?_
  refine lv_sipush (pc := 7) C.1 C.2.1 dX11_feed_7 ms_500 ?_
  refine g_icmp_le (pc := 10) (tgt := 15) C rfl mn_500 dX11_feed_10 (by decide) (fun hc => ?_) (fun hc => ?_)
  · have hw := hw.1 hc
    refine lv_iconst (pc := 15) (v := mm_I 0) C.1 C.2.1 dX11_feed_15 rfl ?_
    refine lv_istore (pc := 16) (lv' := [(6, .int (mm_I 0)), (0, .ref (mm_ad G this)), (1, .int (mm_I a1)), (2, .int (mm_I a2)), (3, .int (mm_I a3)), (4, .int (mm_I a4)), (5, .int (mm_I a5))]) C.1 C.2.1 dX11_feed_16 hl (by decide) rfl (fun ls hl => ?_)
    exact hw  _ _ _ w (lv_sub hl [1, 2, 3, 4, 5, 6, 0] rfl)
  · have hw := hw.2 hc
    refine lv_iconst (pc := 13) (v := mm_I (-1)) C.1 C.2.1 dX11_feed_13 rfl ?_
    exact g_iret (pc := 14) C w hr hk hw dX11_feed_14
theorem cs_X11_in : mm_S yX11_in cX11_in 3 (some .boolean) 3 := ⟨(mt_6 171 rfl rfl), (mt_6 170 rfl rfl), (mt_1 12 rfl rfl), by decide, by decide, by decide +kernel⟩
theorem ml_X11_122 : Cond.methodLink RX11 122 yX11_in ∈ mm_ws := (mt_6 169 rfl rfl)
def wp_X11_end (this : Nat) (a1 : Int) (s0 : mm_M) (post : Int → mm_M → Prop) : Prop :=
  (wp_X11_in a1 0 (s0 this 1) s0 (fun r_2 s_1 => ((¬ n32 r_2 = 0 → (∀ s_3 : mm_M, s_3 = mm_up s_1 this 1 a1 → post 1 s_3)) ∧ (n32 r_2 = 0 → post 0 s_1))))
set_option maxRecDepth 100000 in
set_option maxHeartbeats 4000000 in
theorem c_X11_end (l : Launch) (G : mm_G) (this : Nat) (a1 : Int) (h0 : mm_ok this 21 0) (s0 : mm_M) (post : Int → mm_M → Prop) (hw : wp_X11_end this a1 s0 post) : Met l yX11_end (mm_wm yX11_end cX11_end 2 (some .boolean)) (mm_rm 2) (va_Pc [.ref (mm_ad G this), .int (mm_I a1)] (mm_pre G s0)) (mm_Qi G post) 0 0 (mm_A G) := by
  refine mm_met (own := RX11) (by decide) rfl (Nat.le_of_ble_eq_true rfl) ?_
  intro p e s m args below meth c C hr hk
  unfold wp_X11_end at hw
  intro H locs ls w hl
  have hl : lv_has ls 2 [(0, .ref (mm_ad G this)), (1, .int (mm_I a1))] := hl
  refine lv_iload_n (pc := 0) C.1 C.2.1 dX11_end_0 rfl (lv_at hl 1 rfl) ?_
  refine lv_iconst (pc := 1) (v := mm_I 0) C.1 C.2.1 dX11_end_1 rfl ?_
  refine lv_aload_n (pc := 2) C.1 C.2.1 dX11_end_2 rfl (lv_at hl 0 rfl) ?_
  refine g_geti (pc := 3) C w h0 ff_X11_1 lk_X11_118 dX11_end_3 ?_
  refine g_calli (pc := 6) w (mm_runS (As := [.int (mm_I a1), .int (mm_I 0), .int (mm_I (s0 this 1))]) (rest := []) C w (c_X11_in l G a1 0 (s0 this 1)  s0 _ hw) cs_X11_in ml_X11_122 ⟨Nat.le_of_ble_eq_true rfl, Nat.le_of_ble_eq_true rfl⟩ ⟨Nat.le_of_ble_eq_true rfl, Nat.le_of_ble_eq_true rfl⟩ rfl hl.1 rfl (Nat.le_of_ble_eq_true rfl) dX11_end_6) (fun r_2 s_1 H locs hw w => ?_)
  refine g_if_ne (pc := 9) (tgt := 14) C rfl dX11_end_9 (by decide) (fun hc => ?_) (fun hc => ?_)
  · have hw := hw.1 hc
    refine lv_aload_n (pc := 14) C.1 C.2.1 dX11_end_14 rfl (lv_at hl 0 rfl) ?_
    refine lv_iload_n (pc := 15) C.1 C.2.1 dX11_end_15 rfl (lv_at hl 1 rfl) ?_
    refine g_puti (pc := 16) C w h0 ff_X11_1 fw_X11_1 lk_X11_118 dX11_end_16 (fun s_3 H locs es_3 w => ?_)
    have hw := hw s_3 es_3
    refine lv_iconst (pc := 19) (v := mm_I 1) C.1 C.2.1 dX11_end_19 rfl ?_
    exact g_zret (pc := 20) C w hr hk (by decide) hw dX11_end_20
  · have hw := hw.2 hc
    refine lv_iconst (pc := 12) (v := mm_I 0) C.1 C.2.1 dX11_end_12 rfl ?_
    exact g_zret (pc := 13) C w hr hk (by decide) hw dX11_end_13
def wp_X11_isLetter (a1 : Int) (s0 : mm_M) (post : Int → mm_M → Prop) : Prop :=
  ((n32 a1 < 97 → post 0 s0) ∧ (¬ n32 a1 < 97 → ((122 < n32 a1 → post 0 s0) ∧ (¬ 122 < n32 a1 → post 1 s0))))
set_option maxRecDepth 100000 in
set_option maxHeartbeats 4000000 in
theorem c_X11_isLetter (l : Launch) (G : mm_G) (a1 : Int)  (s0 : mm_M) (post : Int → mm_M → Prop) (hw : wp_X11_isLetter a1 s0 post) : Met l yX11_isLetter (mm_wm yX11_isLetter cX11_isLetter 1 (some .boolean)) (mm_rm 1) (va_Pc [.int (mm_I a1)] (mm_pre G s0)) (mm_Qi G post) 0 0 (mm_A G) := by
  refine mm_met (own := RX11) (by decide) rfl (Nat.le_of_ble_eq_true rfl) ?_
  intro p e s m args below meth c C hr hk
  unfold wp_X11_isLetter at hw
  intro H locs ls w hl
  have hl : lv_has ls 1 [(0, .int (mm_I a1))] := hl
  refine lv_iload_n (pc := 0) C.1 C.2.1 dX11_isLetter_0 rfl (lv_at hl 0 rfl) ?_
  refine lv_bipush (pc := 1) C.1 C.2.1 dX11_isLetter_1 mb_97 ?_
  refine g_icmp_lt (pc := 3) (tgt := 16) C rfl mn_97 dX11_isLetter_3 (by decide) (fun hc => ?_) (fun hc => ?_)
  · have hw := hw.1 hc
    refine lv_iconst (pc := 16) (v := mm_I 0) C.1 C.2.1 dX11_isLetter_16 rfl ?_
    exact g_zret (pc := 17) C w hr hk (by decide) hw dX11_isLetter_17
  · have hw := hw.2 hc
    refine lv_iload_n (pc := 6) C.1 C.2.1 dX11_isLetter_6 rfl (lv_at hl 0 rfl) ?_
    refine lv_bipush (pc := 7) C.1 C.2.1 dX11_isLetter_7 mb_122 ?_
    refine g_icmp_gt (pc := 9) (tgt := 16) C rfl mn_122 dX11_isLetter_9 (by decide) (fun hc => ?_) (fun hc => ?_)
    · have hw := hw.1 hc
      refine lv_iconst (pc := 16) (v := mm_I 0) C.1 C.2.1 dX11_isLetter_16 rfl ?_
      exact g_zret (pc := 17) C w hr hk (by decide) hw dX11_isLetter_17
    · have hw := hw.2 hc
      refine lv_iconst (pc := 12) (v := mm_I 1) C.1 C.2.1 dX11_isLetter_12 rfl ?_
      refine lv_goto (pc := 13) (tgt := 17) C.1 C.2.1 dX11_isLetter_13 (by decide) ?_
      exact g_zret (pc := 17) C w hr hk (by decide) hw dX11_isLetter_17
def wp_X11_isDigit (a1 : Int) (s0 : mm_M) (post : Int → mm_M → Prop) : Prop :=
  ((n32 a1 < 48 → post 0 s0) ∧ (¬ n32 a1 < 48 → ((57 < n32 a1 → post 0 s0) ∧ (¬ 57 < n32 a1 → post 1 s0))))
set_option maxRecDepth 100000 in
set_option maxHeartbeats 4000000 in
theorem c_X11_isDigit (l : Launch) (G : mm_G) (a1 : Int)  (s0 : mm_M) (post : Int → mm_M → Prop) (hw : wp_X11_isDigit a1 s0 post) : Met l yX11_isDigit (mm_wm yX11_isDigit cX11_isDigit 1 (some .boolean)) (mm_rm 1) (va_Pc [.int (mm_I a1)] (mm_pre G s0)) (mm_Qi G post) 0 0 (mm_A G) := by
  refine mm_met (own := RX11) (by decide) rfl (Nat.le_of_ble_eq_true rfl) ?_
  intro p e s m args below meth c C hr hk
  unfold wp_X11_isDigit at hw
  intro H locs ls w hl
  have hl : lv_has ls 1 [(0, .int (mm_I a1))] := hl
  refine lv_iload_n (pc := 0) C.1 C.2.1 dX11_isDigit_0 rfl (lv_at hl 0 rfl) ?_
  refine lv_bipush (pc := 1) C.1 C.2.1 dX11_isDigit_1 mb_48 ?_
  refine g_icmp_lt (pc := 3) (tgt := 16) C rfl mn_48 dX11_isDigit_3 (by decide) (fun hc => ?_) (fun hc => ?_)
  · have hw := hw.1 hc
    refine lv_iconst (pc := 16) (v := mm_I 0) C.1 C.2.1 dX11_isDigit_16 rfl ?_
    exact g_zret (pc := 17) C w hr hk (by decide) hw dX11_isDigit_17
  · have hw := hw.2 hc
    refine lv_iload_n (pc := 6) C.1 C.2.1 dX11_isDigit_6 rfl (lv_at hl 0 rfl) ?_
    refine lv_bipush (pc := 7) C.1 C.2.1 dX11_isDigit_7 mb_57 ?_
    refine g_icmp_gt (pc := 9) (tgt := 16) C rfl mn_57 dX11_isDigit_9 (by decide) (fun hc => ?_) (fun hc => ?_)
    · have hw := hw.1 hc
      refine lv_iconst (pc := 16) (v := mm_I 0) C.1 C.2.1 dX11_isDigit_16 rfl ?_
      exact g_zret (pc := 17) C w hr hk (by decide) hw dX11_isDigit_17
    · have hw := hw.2 hc
      refine lv_iconst (pc := 12) (v := mm_I 1) C.1 C.2.1 dX11_isDigit_12 rfl ?_
      refine lv_goto (pc := 13) (tgt := 17) C.1 C.2.1 dX11_isDigit_13 (by decide) ?_
      exact g_zret (pc := 17) C w hr hk (by decide) hw dX11_isDigit_17
theorem mn_41 : n32 41 = 41 := by decide
theorem mn_59 : n32 59 = 59 := by decide
def wp_X11_isSignByte (a1 : Int) (s0 : mm_M) (post : Int → mm_M → Prop) : Prop :=
  ((n32 a1 = 43 → post 1 s0) ∧ (¬ n32 a1 = 43 → ((n32 a1 = 45 → post 1 s0) ∧ (¬ n32 a1 = 45 → ((n32 a1 = 42 → post 1 s0) ∧ (¬ n32 a1 = 42 → ((n32 a1 = 60 → post 1 s0) ∧ (¬ n32 a1 = 60 → ((n32 a1 = 61 → post 1 s0) ∧ (¬ n32 a1 = 61 → ((n32 a1 = 40 → post 1 s0) ∧ (¬ n32 a1 = 40 → ((n32 a1 = 41 → post 1 s0) ∧ (¬ n32 a1 = 41 → ((¬ n32 a1 = 59 → post 0 s0) ∧ (n32 a1 = 59 → post 1 s0))))))))))))))))
set_option maxRecDepth 100000 in
set_option maxHeartbeats 4000000 in
theorem c_X11_isSignByte (l : Launch) (G : mm_G) (a1 : Int)  (s0 : mm_M) (post : Int → mm_M → Prop) (hw : wp_X11_isSignByte a1 s0 post) : Met l yX11_isSignByte (mm_wm yX11_isSignByte cX11_isSignByte 1 (some .boolean)) (mm_rm 1) (va_Pc [.int (mm_I a1)] (mm_pre G s0)) (mm_Qi G post) 0 0 (mm_A G) := by
  refine mm_met (own := RX11) (by decide) rfl (Nat.le_of_ble_eq_true rfl) ?_
  intro p e s m args below meth c C hr hk
  unfold wp_X11_isSignByte at hw
  intro H locs ls w hl
  have hl : lv_has ls 1 [(0, .int (mm_I a1))] := hl
  refine lv_iload_n (pc := 0) C.1 C.2.1 dX11_isSignByte_0 rfl (lv_at hl 0 rfl) ?_
  refine lv_bipush (pc := 1) C.1 C.2.1 dX11_isSignByte_1 mb_43 ?_
  refine g_icmp_eq (pc := 3) (tgt := 48) C rfl mn_43 dX11_isSignByte_3 (by decide) (fun hc => ?_) (fun hc => ?_)
  · have hw := hw.1 hc
    refine lv_iconst (pc := 48) (v := mm_I 1) C.1 C.2.1 dX11_isSignByte_48 rfl ?_
    refine lv_goto (pc := 49) (tgt := 53) C.1 C.2.1 dX11_isSignByte_49 (by decide) ?_
    exact g_zret (pc := 53) C w hr hk (by decide) hw dX11_isSignByte_53
  · have hw := hw.2 hc
    refine lv_iload_n (pc := 6) C.1 C.2.1 dX11_isSignByte_6 rfl (lv_at hl 0 rfl) ?_
    refine lv_bipush (pc := 7) C.1 C.2.1 dX11_isSignByte_7 mb_45 ?_
    refine g_icmp_eq (pc := 9) (tgt := 48) C rfl mn_45 dX11_isSignByte_9 (by decide) (fun hc => ?_) (fun hc => ?_)
    · have hw := hw.1 hc
      refine lv_iconst (pc := 48) (v := mm_I 1) C.1 C.2.1 dX11_isSignByte_48 rfl ?_
      refine lv_goto (pc := 49) (tgt := 53) C.1 C.2.1 dX11_isSignByte_49 (by decide) ?_
      exact g_zret (pc := 53) C w hr hk (by decide) hw dX11_isSignByte_53
    · have hw := hw.2 hc
      refine lv_iload_n (pc := 12) C.1 C.2.1 dX11_isSignByte_12 rfl (lv_at hl 0 rfl) ?_
      refine lv_bipush (pc := 13) C.1 C.2.1 dX11_isSignByte_13 mb_42 ?_
      refine g_icmp_eq (pc := 15) (tgt := 48) C rfl mn_42 dX11_isSignByte_15 (by decide) (fun hc => ?_) (fun hc => ?_)
      · have hw := hw.1 hc
        refine lv_iconst (pc := 48) (v := mm_I 1) C.1 C.2.1 dX11_isSignByte_48 rfl ?_
        refine lv_goto (pc := 49) (tgt := 53) C.1 C.2.1 dX11_isSignByte_49 (by decide) ?_
        exact g_zret (pc := 53) C w hr hk (by decide) hw dX11_isSignByte_53
      · have hw := hw.2 hc
        refine lv_iload_n (pc := 18) C.1 C.2.1 dX11_isSignByte_18 rfl (lv_at hl 0 rfl) ?_
        refine lv_bipush (pc := 19) C.1 C.2.1 dX11_isSignByte_19 mb_60 ?_
        refine g_icmp_eq (pc := 21) (tgt := 48) C rfl mn_60 dX11_isSignByte_21 (by decide) (fun hc => ?_) (fun hc => ?_)
        · have hw := hw.1 hc
          refine lv_iconst (pc := 48) (v := mm_I 1) C.1 C.2.1 dX11_isSignByte_48 rfl ?_
          refine lv_goto (pc := 49) (tgt := 53) C.1 C.2.1 dX11_isSignByte_49 (by decide) ?_
          exact g_zret (pc := 53) C w hr hk (by decide) hw dX11_isSignByte_53
        · have hw := hw.2 hc
          refine lv_iload_n (pc := 24) C.1 C.2.1 dX11_isSignByte_24 rfl (lv_at hl 0 rfl) ?_
          refine lv_bipush (pc := 25) C.1 C.2.1 dX11_isSignByte_25 mb_61 ?_
          refine g_icmp_eq (pc := 27) (tgt := 48) C rfl mn_61 dX11_isSignByte_27 (by decide) (fun hc => ?_) (fun hc => ?_)
          · have hw := hw.1 hc
            refine lv_iconst (pc := 48) (v := mm_I 1) C.1 C.2.1 dX11_isSignByte_48 rfl ?_
            refine lv_goto (pc := 49) (tgt := 53) C.1 C.2.1 dX11_isSignByte_49 (by decide) ?_
            exact g_zret (pc := 53) C w hr hk (by decide) hw dX11_isSignByte_53
          · have hw := hw.2 hc
            refine lv_iload_n (pc := 30) C.1 C.2.1 dX11_isSignByte_30 rfl (lv_at hl 0 rfl) ?_
            refine lv_bipush (pc := 31) C.1 C.2.1 dX11_isSignByte_31 mb_40 ?_
            refine g_icmp_eq (pc := 33) (tgt := 48) C rfl mn_40 dX11_isSignByte_33 (by decide) (fun hc => ?_) (fun hc => ?_)
            · have hw := hw.1 hc
              refine lv_iconst (pc := 48) (v := mm_I 1) C.1 C.2.1 dX11_isSignByte_48 rfl ?_
              refine lv_goto (pc := 49) (tgt := 53) C.1 C.2.1 dX11_isSignByte_49 (by decide) ?_
              exact g_zret (pc := 53) C w hr hk (by decide) hw dX11_isSignByte_53
            · have hw := hw.2 hc
              refine lv_iload_n (pc := 36) C.1 C.2.1 dX11_isSignByte_36 rfl (lv_at hl 0 rfl) ?_
              refine lv_bipush (pc := 37) C.1 C.2.1 dX11_isSignByte_37 mb_41 ?_
              refine g_icmp_eq (pc := 39) (tgt := 48) C rfl mn_41 dX11_isSignByte_39 (by decide) (fun hc => ?_) (fun hc => ?_)
              · have hw := hw.1 hc
                refine lv_iconst (pc := 48) (v := mm_I 1) C.1 C.2.1 dX11_isSignByte_48 rfl ?_
                refine lv_goto (pc := 49) (tgt := 53) C.1 C.2.1 dX11_isSignByte_49 (by decide) ?_
                exact g_zret (pc := 53) C w hr hk (by decide) hw dX11_isSignByte_53
              · have hw := hw.2 hc
                refine lv_iload_n (pc := 42) C.1 C.2.1 dX11_isSignByte_42 rfl (lv_at hl 0 rfl) ?_
                refine lv_bipush (pc := 43) C.1 C.2.1 dX11_isSignByte_43 mb_59 ?_
                refine g_icmp_ne (pc := 45) (tgt := 52) C rfl mn_59 dX11_isSignByte_45 (by decide) (fun hc => ?_) (fun hc => ?_)
                · have hw := hw.1 hc
                  refine lv_iconst (pc := 52) (v := mm_I 0) C.1 C.2.1 dX11_isSignByte_52 rfl ?_
                  exact g_zret (pc := 53) C w hr hk (by decide) hw dX11_isSignByte_53
                · have hw := hw.2 hc
                  refine lv_iconst (pc := 48) (v := mm_I 1) C.1 C.2.1 dX11_isSignByte_48 rfl ?_
                  refine lv_goto (pc := 49) (tgt := 53) C.1 C.2.1 dX11_isSignByte_49 (by decide) ?_
                  exact g_zret (pc := 53) C w hr hk (by decide) hw dX11_isSignByte_53
theorem lk_X11_126 : Cond.fieldLink RX11 126 "LastServedModel" "at" "I" ∈ mm_ws := (mt_5 206 rfl rfl)
theorem ff_X11_2 : mm_F 11 2 0 RX11 TX11 65 := ⟨rfl, by decide, fk_X11, rfl, rfl⟩
theorem mb_32 : (Int8.ofInt 32).toInt32 = mm_I 32 := by decide
theorem mn_32 : n32 32 = 32 := by decide
theorem fw_X11_2 : mm_Fw 11 2 TX11 65 .int := ⟨⟨tyX11, tyX11_ok⟩, nmX11, rfl, by decide +kernel⟩
theorem lk_X11_129 : Cond.fieldLink RX11 129 "LastServedModel" "tokenAt" "I" ∈ mm_ws := (mt_5 208 rfl rfl)
theorem ff_X11_4 : mm_F 11 4 0 RX11 TX11 65 := ⟨rfl, by decide, fk_X11, rfl, rfl⟩
theorem fw_X11_4 : mm_Fw 11 4 TX11 65 .int := ⟨⟨tyX11, tyX11_ok⟩, nmX11, rfl, by decide +kernel⟩
theorem lk_X11_132 : Cond.fieldLink RX11 132 "LastServedModel" "value" "J" ∈ mm_ws := (mt_5 209 rfl rfl)
theorem ff_X11_5 : mm_F 11 5 2 RX11 TX11 65 := ⟨rfl, by decide, fk_X11, rfl, rfl⟩
theorem fw_X11_5 : mm_Fw 11 5 TX11 65 .long := ⟨⟨tyX11, tyX11_ok⟩, nmX11, rfl, by decide +kernel⟩
theorem lk_X11_136 : Cond.fieldLink RX11 136 "LastServedModel" "kind" "I" ∈ mm_ws := (mt_5 207 rfl rfl)
theorem ff_X11_3 : mm_F 11 3 0 RX11 TX11 65 := ⟨rfl, by decide, fk_X11, rfl, rfl⟩
theorem fw_X11_3 : mm_Fw 11 3 TX11 65 .int := ⟨⟨tyX11, tyX11_ok⟩, nmX11, rfl, by decide +kernel⟩
theorem cs_X11_isLetter : mm_S yX11_isLetter cX11_isLetter 1 (some .boolean) 1 := ⟨(mt_6 186 rfl rfl), (mt_6 185 rfl rfl), (mt_1 12 rfl rfl), by decide, by decide, by decide +kernel⟩
theorem ml_X11_139 : Cond.methodLink RX11 139 yX11_isLetter ∈ mm_ws := (mt_6 184 rfl rfl)
theorem cs_X11_isDigit : mm_S yX11_isDigit cX11_isDigit 1 (some .boolean) 1 := ⟨(mt_6 189 rfl rfl), (mt_6 188 rfl rfl), (mt_1 12 rfl rfl), by decide, by decide, by decide +kernel⟩
theorem ml_X11_143 : Cond.methodLink RX11 143 yX11_isDigit ∈ mm_ws := (mt_6 187 rfl rfl)
theorem cs_X11_isSignByte : mm_S yX11_isSignByte cX11_isSignByte 1 (some .boolean) 1 := ⟨(mt_6 195 rfl rfl), (mt_6 194 rfl rfl), (mt_1 12 rfl rfl), by decide, by decide, by decide +kernel⟩
theorem ml_X11_152 : Cond.methodLink RX11 152 yX11_isSignByte ∈ mm_ws := (mt_6 193 rfl rfl)
theorem lc_X11_146 : Cond.constantLong RX11 146 (mm_L 99999) ∈ mm_ws := (mt_6 190 rfl rfl)
theorem lc_X11_148 : Cond.constantLong RX11 148 (mm_L 10) ∈ mm_ws := (mt_6 191 rfl rfl)
theorem lc_X11_150 : Cond.constantLong RX11 150 (mm_L 48) ∈ mm_ws := (mt_6 192 rfl rfl)
def wp_X11_leads (this : Nat) (s0 : mm_M) (post : mm_M → Prop) : Prop :=
  ∀ (L0 : mm_M → Prop), ∀ (L52 : mm_M → Prop), ∀ (L99 : mm_M → Prop), ∀ (L174 : mm_M → Prop), ∀ (L208 : mm_M → Prop), ∀ (L313 : Int → Int → mm_M → Prop), 
  (∀  (s1 : mm_M), ((n32 (s1 this 1) ≤ n32 (s1 this 2) → L52 s1) ∧ (¬ n32 (s1 this 1) ≤ n32 (s1 this 2) → ((0 ≤ s1 this 2 ∧ s1 this 2 < 500) ∧ ((n32 (s1 (mm_rt this 0) (s1 this 2)) = 32 → (∀ s_1 : mm_M, s_1 = mm_up s1 this 2 ((s1 this 2) + 1) → L0 s_1)) ∧ (¬ n32 (s1 (mm_rt this 0) (s1 this 2)) = 32 → ((0 ≤ s1 this 2 ∧ s1 this 2 < 500) ∧ ((¬ n32 (s1 (mm_rt this 0) (s1 this 2)) = 10 → L52 s1) ∧ (n32 (s1 (mm_rt this 0) (s1 this 2)) = 10 → (∀ s_2 : mm_M, s_2 = mm_up s1 this 2 ((s1 this 2) + 1) → L0 s_2))))))))) → L0 s1) →
  (∀  (s1 : mm_M), (∀ s_3 : mm_M, s_3 = mm_up s1 this 4 (s1 this 2) → (∀ s_4 : mm_M, s_4 = mm_up s_3 this 5 0 → (∀ s_5 : mm_M, s_5 = mm_up s_4 this 3 0 → ((¬ n32 (s_5 this 2) = n32 (s_5 this 1) → ((0 ≤ s_5 this 2 ∧ s_5 this 2 < 500) ∧ (∀ v1_6 : Int, v1_6 = s_5 (mm_rt this 0) (s_5 this 2) → (wp_X11_isLetter v1_6 s_5 (fun r_8 s_7 => ((n32 r_8 = 0 → (wp_X11_isDigit v1_6 s_7 (fun r_10 s_9 => ((n32 r_10 = 0 → (wp_X11_isSignByte v1_6 s_9 (fun r_12 s_11 => ((n32 r_12 = 0 → L313 v1_6 4 s_11) ∧ (¬ n32 r_12 = 0 → L313 v1_6 3 s_11))))) ∧ (¬ n32 r_10 = 0 → L208 s_9))))) ∧ (¬ n32 r_8 = 0 → L99 s_7))))))) ∧ (n32 (s_5 this 2) = n32 (s_5 this 1) → post s_5))))) → L52 s1) →
  (∀  (s1 : mm_M), ((n32 (s1 this 1) ≤ n32 (s1 this 2) → L174 s1) ∧ (¬ n32 (s1 this 1) ≤ n32 (s1 this 2) → ((0 ≤ s1 this 2 ∧ s1 this 2 < 500) ∧ (wp_X11_isLetter (s1 (mm_rt this 0) (s1 this 2)) s1 (fun r_25 s_24 => ((n32 r_25 = 0 → L174 s_24) ∧ (¬ n32 r_25 = 0 → ((8 ≤ n32 ((s_24 this 2) - (s_24 this 4)) → (∀ s_26 : mm_M, s_26 = mm_up s_24 this 2 ((s_24 this 2) + 1) → L99 s_26)) ∧ (¬ 8 ≤ n32 ((s_24 this 2) - (s_24 this 4)) → ((0 ≤ s_24 this 2 ∧ s_24 this 2 < 500) ∧ (∀ s_27 : mm_M, s_27 = mm_up s_24 this 5 (mm_lorL (mm_lshl (s_24 this 5) 8) (n32 (s_24 (mm_rt this 0) (s_24 this 2)))) → (∀ s_28 : mm_M, s_28 = mm_up s_27 this 2 ((s_27 this 2) + 1) → L99 s_28)))))))))))) → L99 s1) →
  (∀  (s1 : mm_M), ((n32 ((s1 this 2) - (s1 this 4)) ≤ 8 → (∀ s_29 : mm_M, s_29 = mm_up s1 this 3 1 → post s_29)) ∧ (¬ n32 ((s1 this 2) - (s1 this 4)) ≤ 8 → (∀ s_30 : mm_M, s_30 = mm_up s1 this 5 0 → (∀ s_31 : mm_M, s_31 = mm_up s_30 this 3 1 → post s_31)))) → L174 s1) →
  (∀  (s1 : mm_M), ((n32 (s1 this 1) ≤ n32 (s1 this 2) → (∀ s_16 : mm_M, s_16 = mm_up s1 this 3 2 → post s_16)) ∧ (¬ n32 (s1 this 1) ≤ n32 (s1 this 2) → ((0 ≤ s1 this 2 ∧ s1 this 2 < 500) ∧ (wp_X11_isDigit (s1 (mm_rt this 0) (s1 this 2)) s1 (fun r_18 s_17 => ((n32 r_18 = 0 → (∀ s_19 : mm_M, s_19 = mm_up s_17 this 3 2 → post s_19)) ∧ (¬ n32 r_18 = 0 → ((n64 (s_17 this 5) ≤ n64 99999 → ((0 ≤ s_17 this 2 ∧ s_17 this 2 < 500) ∧ (∀ s_20 : mm_M, s_20 = mm_up s_17 this 5 (((10 * (s_17 this 5)) + (n32 (s_17 (mm_rt this 0) (s_17 this 2)))) - 48) → (∀ s_21 : mm_M, s_21 = mm_up s_20 this 2 ((s_20 this 2) + 1) → L208 s_21)))) ∧ (¬ n64 (s_17 this 5) ≤ n64 99999 → (∀ s_22 : mm_M, s_22 = mm_up s_17 this 5 (s_17 this 5) → (∀ s_23 : mm_M, s_23 = mm_up s_22 this 2 ((s_22 this 2) + 1) → L208 s_23))))))))))) → L208 s1) →
  (∀ (v1 : Int) (q0 : Int) (s1 : mm_M), (∀ s_13 : mm_M, s_13 = mm_up s1 this 3 q0 → (∀ s_14 : mm_M, s_14 = mm_up s_13 this 5 (n32 v1) → (∀ s_15 : mm_M, s_15 = mm_up s_14 this 2 ((s_14 this 2) + 1) → post s_15))) → L313 v1 q0 s1) →
  L0 s0
set_option maxRecDepth 100000 in
set_option maxHeartbeats 4000000 in
theorem c_X11_leads (l : Launch) (G : mm_G) (this : Nat) (h0 : mm_ok this 21 0) (s0 : mm_M) (post : mm_M → Prop) (hw : wp_X11_leads this s0 post) : Met l yX11_leads (mm_wm yX11_leads cX11_leads 2 none) (mm_rm 2) (va_Pc [.ref (mm_ad G this)] (mm_pre G s0)) (mm_Qv G post) 0 0 (mm_A G) := by
  refine mm_met (own := RX11) (by decide) rfl (Nat.le_of_ble_eq_true rfl) ?_
  intro p e s m args below meth c C hr hk
  unfold wp_X11_leads at hw
  have hw := hw (fun  (u : mm_M) => mm_X p l e (mm_rm 2) s m args below meth c (MQ below (mm_Qv G post) args s 0 0 (mm_A G)) G (mm_A G) 2 0 [(0, .ref (mm_ad G this))] [] u)
  have hw := hw (fun  (u : mm_M) => mm_X p l e (mm_rm 2) s m args below meth c (MQ below (mm_Qv G post) args s 0 0 (mm_A G)) G (mm_A G) 2 52 [(0, .ref (mm_ad G this))] [] u)
  have hw := hw (fun  (u : mm_M) => mm_X p l e (mm_rm 2) s m args below meth c (MQ below (mm_Qv G post) args s 0 0 (mm_A G)) G (mm_A G) 2 99 [(0, .ref (mm_ad G this))] [] u)
  have hw := hw (fun  (u : mm_M) => mm_X p l e (mm_rm 2) s m args below meth c (MQ below (mm_Qv G post) args s 0 0 (mm_A G)) G (mm_A G) 2 174 [(0, .ref (mm_ad G this))] [] u)
  have hw := hw (fun  (u : mm_M) => mm_X p l e (mm_rm 2) s m args below meth c (MQ below (mm_Qv G post) args s 0 0 (mm_A G)) G (mm_A G) 2 208 [(0, .ref (mm_ad G this))] [] u)
  have hw := hw (fun (v1 : Int) (q0 : Int) (u : mm_M) => mm_X p l e (mm_rm 2) s m args below meth c (MQ below (mm_Qv G post) args s 0 0 (mm_A G)) G (mm_A G) 2 313 [(0, .ref (mm_ad G this)), (1, .int (mm_I v1))] [.int (mm_I q0), .ref (mm_ad G this)] u)
  have hw := hw (by
    intro  s1 hw  H locs ls w hl
    refine lv_aload_n (pc := 0) C.1 C.2.1 dX11_leads_0 rfl (lv_at hl 0 rfl) ?_
    refine g_geti (pc := 1) C w h0 ff_X11_2 lk_X11_126 dX11_leads_1 ?_
    refine lv_aload_n (pc := 4) C.1 C.2.1 dX11_leads_4 rfl (lv_at hl 0 rfl) ?_
    refine g_geti (pc := 5) C w h0 ff_X11_1 lk_X11_118 dX11_leads_5 ?_
    refine g_icmp_ge (pc := 8) (tgt := 52) C rfl rfl dX11_leads_8 (by decide) (fun hc => ?_) (fun hc => ?_)
    · have hw := hw.1 hc
      exact hw  _ _ _ w (lv_sub hl [0] rfl)
    · have hw := hw.2 hc
      refine lv_aload_n (pc := 11) C.1 C.2.1 dX11_leads_11 rfl (lv_at hl 0 rfl) ?_
      refine g_getr (pc := 12) C w h0 ff_X11_0 lk_X11_9 dX11_leads_12 ?_
      refine lv_aload_n (pc := 15) C.1 C.2.1 dX11_leads_15 rfl (lv_at hl 0 rfl) ?_
      refine g_geti (pc := 16) C w h0 ff_X11_2 lk_X11_126 dX11_leads_16 ?_
      obtain ⟨hi, hw⟩ := hw
      refine g_bald (pc := 19) C w (ro_X11_0 h0) hi dX11_leads_19 ?_
      refine lv_bipush (pc := 20) C.1 C.2.1 dX11_leads_20 mb_32 ?_
      refine g_icmp_eq (pc := 22) (tgt := 39) C rfl mn_32 dX11_leads_22 (by decide) (fun hc => ?_) (fun hc => ?_)
      · have hw := hw.1 hc
        refine lv_aload_n (pc := 39) C.1 C.2.1 dX11_leads_39 rfl (lv_at hl 0 rfl) ?_
        refine lv_dup (pc := 40) C.1 C.2.1 dX11_leads_40 rfl ?_
        refine g_geti (pc := 41) C w h0 ff_X11_2 lk_X11_126 dX11_leads_41 ?_
        refine lv_iconst (pc := 44) (v := mm_I 1) C.1 C.2.1 dX11_leads_44 rfl ?_
        refine g_iadd (pc := 45) C dX11_leads_45 ?_
        refine g_puti (pc := 46) C w h0 ff_X11_2 fw_X11_2 lk_X11_126 dX11_leads_46 (fun s_1 H locs es_1 w => ?_)
        have hw := hw s_1 es_1
        refine lv_goto (pc := 49) (tgt := 0) C.1 C.2.1 dX11_leads_49 (by decide) ?_
        exact hw  _ _ _ w (lv_sub hl [0] rfl)
      · have hw := hw.2 hc
        refine lv_aload_n (pc := 25) C.1 C.2.1 dX11_leads_25 rfl (lv_at hl 0 rfl) ?_
        refine g_getr (pc := 26) C w h0 ff_X11_0 lk_X11_9 dX11_leads_26 ?_
        refine lv_aload_n (pc := 29) C.1 C.2.1 dX11_leads_29 rfl (lv_at hl 0 rfl) ?_
        refine g_geti (pc := 30) C w h0 ff_X11_2 lk_X11_126 dX11_leads_30 ?_
        obtain ⟨hi, hw⟩ := hw
        refine g_bald (pc := 33) C w (ro_X11_0 h0) hi dX11_leads_33 ?_
        refine lv_bipush (pc := 34) C.1 C.2.1 dX11_leads_34 mb_10 ?_
        refine g_icmp_ne (pc := 36) (tgt := 52) C rfl mn_10 dX11_leads_36 (by decide) (fun hc => ?_) (fun hc => ?_)
        · have hw := hw.1 hc
          exact hw  _ _ _ w (lv_sub hl [0] rfl)
        · have hw := hw.2 hc
          refine lv_aload_n (pc := 39) C.1 C.2.1 dX11_leads_39 rfl (lv_at hl 0 rfl) ?_
          refine lv_dup (pc := 40) C.1 C.2.1 dX11_leads_40 rfl ?_
          refine g_geti (pc := 41) C w h0 ff_X11_2 lk_X11_126 dX11_leads_41 ?_
          refine lv_iconst (pc := 44) (v := mm_I 1) C.1 C.2.1 dX11_leads_44 rfl ?_
          refine g_iadd (pc := 45) C dX11_leads_45 ?_
          refine g_puti (pc := 46) C w h0 ff_X11_2 fw_X11_2 lk_X11_126 dX11_leads_46 (fun s_2 H locs es_2 w => ?_)
          have hw := hw s_2 es_2
          refine lv_goto (pc := 49) (tgt := 0) C.1 C.2.1 dX11_leads_49 (by decide) ?_
          exact hw  _ _ _ w (lv_sub hl [0] rfl))
  have hw := hw (by
    intro  s1 hw  H locs ls w hl
    refine lv_aload_n (pc := 52) C.1 C.2.1 dX11_leads_52 rfl (lv_at hl 0 rfl) ?_
    refine lv_aload_n (pc := 53) C.1 C.2.1 dX11_leads_53 rfl (lv_at hl 0 rfl) ?_
    refine g_geti (pc := 54) C w h0 ff_X11_2 lk_X11_126 dX11_leads_54 ?_
    refine g_puti (pc := 57) C w h0 ff_X11_4 fw_X11_4 lk_X11_129 dX11_leads_57 (fun s_3 H locs es_3 w => ?_)
    have hw := hw s_3 es_3
    refine lv_aload_n (pc := 60) C.1 C.2.1 dX11_leads_60 rfl (lv_at hl 0 rfl) ?_
    refine lv_lconst (pc := 61) (v := mm_L 0) C.1 C.2.1 dX11_leads_61 rfl ?_
    refine g_putl (pc := 62) C w h0 ff_X11_5 fw_X11_5 lk_X11_132 dX11_leads_62 (fun s_4 H locs es_4 w => ?_)
    have hw := hw s_4 es_4
    refine lv_aload_n (pc := 65) C.1 C.2.1 dX11_leads_65 rfl (lv_at hl 0 rfl) ?_
    refine lv_iconst (pc := 66) (v := mm_I 0) C.1 C.2.1 dX11_leads_66 rfl ?_
    refine g_puti (pc := 67) C w h0 ff_X11_3 fw_X11_3 lk_X11_136 dX11_leads_67 (fun s_5 H locs es_5 w => ?_)
    have hw := hw s_5 es_5
    refine lv_aload_n (pc := 70) C.1 C.2.1 dX11_leads_70 rfl (lv_at hl 0 rfl) ?_
    refine g_geti (pc := 71) C w h0 ff_X11_2 lk_X11_126 dX11_leads_71 ?_
    refine lv_aload_n (pc := 74) C.1 C.2.1 dX11_leads_74 rfl (lv_at hl 0 rfl) ?_
    refine g_geti (pc := 75) C w h0 ff_X11_1 lk_X11_118 dX11_leads_75 ?_
    refine g_icmp_ne (pc := 78) (tgt := 82) C rfl rfl dX11_leads_78 (by decide) (fun hc => ?_) (fun hc => ?_)
    · have hw := hw.1 hc
      refine lv_aload_n (pc := 82) C.1 C.2.1 dX11_leads_82 rfl (lv_at hl 0 rfl) ?_
      refine g_getr (pc := 83) C w h0 ff_X11_0 lk_X11_9 dX11_leads_83 ?_
      refine lv_aload_n (pc := 86) C.1 C.2.1 dX11_leads_86 rfl (lv_at hl 0 rfl) ?_
      refine g_geti (pc := 87) C w h0 ff_X11_2 lk_X11_126 dX11_leads_87 ?_
      obtain ⟨hi, hw⟩ := hw
      refine g_bald (pc := 90) C w (ro_X11_0 h0) hi dX11_leads_90 ?_
      refine g_istore_n (pc := 91) C dX11_leads_91 rfl hl (by decide) (fun v1_6 ev1_6 ls hl => ?_)
      have hw := hw v1_6 ev1_6
      have hl : lv_has ls 2 [(1, .int (mm_I v1_6)), (0, .ref (mm_ad G this))] := hl
      refine lv_iload_n (pc := 92) C.1 C.2.1 dX11_leads_92 rfl (lv_at hl 0 rfl) ?_
      refine g_calli (pc := 93) w (mm_runS (As := [.int (mm_I v1_6)]) (rest := []) C w (c_X11_isLetter l G v1_6  s_5 _ hw) cs_X11_isLetter ml_X11_139 ⟨Nat.le_of_ble_eq_true rfl, Nat.le_of_ble_eq_true rfl⟩ ⟨Nat.le_of_ble_eq_true rfl, Nat.le_of_ble_eq_true rfl⟩ rfl hl.1 rfl (Nat.le_of_ble_eq_true rfl) dX11_leads_93) (fun r_8 s_7 H locs hw w => ?_)
      refine g_if_eq (pc := 96) (tgt := 201) C rfl dX11_leads_96 (by decide) (fun hc => ?_) (fun hc => ?_)
      · have hw := hw.1 hc
        refine lv_iload_n (pc := 201) C.1 C.2.1 dX11_leads_201 rfl (lv_at hl 0 rfl) ?_
        refine g_calli (pc := 202) w (mm_runS (As := [.int (mm_I v1_6)]) (rest := []) C w (c_X11_isDigit l G v1_6  s_7 _ hw) cs_X11_isDigit ml_X11_143 ⟨Nat.le_of_ble_eq_true rfl, Nat.le_of_ble_eq_true rfl⟩ ⟨Nat.le_of_ble_eq_true rfl, Nat.le_of_ble_eq_true rfl⟩ rfl hl.1 rfl (Nat.le_of_ble_eq_true rfl) dX11_leads_202) (fun r_10 s_9 H locs hw w => ?_)
        refine g_if_eq (pc := 205) (tgt := 300) C rfl dX11_leads_205 (by decide) (fun hc => ?_) (fun hc => ?_)
        · have hw := hw.1 hc
          refine lv_aload_n (pc := 300) C.1 C.2.1 dX11_leads_300 rfl (lv_at hl 1 rfl) ?_
          refine lv_iload_n (pc := 301) C.1 C.2.1 dX11_leads_301 rfl (lv_at hl 0 rfl) ?_
          refine g_calli (pc := 302) w (mm_runS (As := [.int (mm_I v1_6)]) (rest := [.ref (mm_ad G this)]) C w (c_X11_isSignByte l G v1_6  s_9 _ hw) cs_X11_isSignByte ml_X11_152 ⟨Nat.le_of_ble_eq_true rfl, Nat.le_of_ble_eq_true rfl⟩ ⟨Nat.le_of_ble_eq_true rfl, Nat.le_of_ble_eq_true rfl⟩ rfl hl.1 rfl (Nat.le_of_ble_eq_true rfl) dX11_leads_302) (fun r_12 s_11 H locs hw w => ?_)
          refine g_if_eq (pc := 305) (tgt := 312) C rfl dX11_leads_305 (by decide) (fun hc => ?_) (fun hc => ?_)
          · have hw := hw.1 hc
            refine lv_iconst (pc := 312) (v := mm_I 4) C.1 C.2.1 dX11_leads_312 rfl ?_
            exact hw  _ _ _ w (lv_sub hl [1, 0] rfl)
          · have hw := hw.2 hc
            refine lv_iconst (pc := 308) (v := mm_I 3) C.1 C.2.1 dX11_leads_308 rfl ?_
            refine lv_goto (pc := 309) (tgt := 313) C.1 C.2.1 dX11_leads_309 (by decide) ?_
            exact hw  _ _ _ w (lv_sub hl [1, 0] rfl)
        · have hw := hw.2 hc
          exact hw  _ _ _ w (lv_sub hl [1] rfl)
      · have hw := hw.2 hc
        exact hw  _ _ _ w (lv_sub hl [1] rfl)
    · have hw := hw.2 hc
      exact g_vret (pc := 81) C w hr hk hw dX11_leads_81)
  have hw := hw (by
    intro  s1 hw  H locs ls w hl
    refine lv_aload_n (pc := 99) C.1 C.2.1 dX11_leads_99 rfl (lv_at hl 0 rfl) ?_
    refine g_geti (pc := 100) C w h0 ff_X11_2 lk_X11_126 dX11_leads_100 ?_
    refine lv_aload_n (pc := 103) C.1 C.2.1 dX11_leads_103 rfl (lv_at hl 0 rfl) ?_
    refine g_geti (pc := 104) C w h0 ff_X11_1 lk_X11_118 dX11_leads_104 ?_
    refine g_icmp_ge (pc := 107) (tgt := 174) C rfl rfl dX11_leads_107 (by decide) (fun hc => ?_) (fun hc => ?_)
    · have hw := hw.1 hc
      exact hw  _ _ _ w (lv_sub hl [0] rfl)
    · have hw := hw.2 hc
      refine lv_aload_n (pc := 110) C.1 C.2.1 dX11_leads_110 rfl (lv_at hl 0 rfl) ?_
      refine g_getr (pc := 111) C w h0 ff_X11_0 lk_X11_9 dX11_leads_111 ?_
      refine lv_aload_n (pc := 114) C.1 C.2.1 dX11_leads_114 rfl (lv_at hl 0 rfl) ?_
      refine g_geti (pc := 115) C w h0 ff_X11_2 lk_X11_126 dX11_leads_115 ?_
      obtain ⟨hi, hw⟩ := hw
      refine g_bald (pc := 118) C w (ro_X11_0 h0) hi dX11_leads_118 ?_
      refine g_calli (pc := 119) w (mm_runS (As := [.int (mm_I (s1 (mm_rt this 0) (s1 this 2)))]) (rest := []) C w (c_X11_isLetter l G (s1 (mm_rt this 0) (s1 this 2))  s1 _ hw) cs_X11_isLetter ml_X11_139 ⟨Nat.le_of_ble_eq_true rfl, Nat.le_of_ble_eq_true rfl⟩ ⟨Nat.le_of_ble_eq_true rfl, Nat.le_of_ble_eq_true rfl⟩ rfl hl.1 rfl (Nat.le_of_ble_eq_true rfl) dX11_leads_119) (fun r_25 s_24 H locs hw w => ?_)
      refine g_if_eq (pc := 122) (tgt := 174) C rfl dX11_leads_122 (by decide) (fun hc => ?_) (fun hc => ?_)
      · have hw := hw.1 hc
        exact hw  _ _ _ w (lv_sub hl [0] rfl)
      · have hw := hw.2 hc
        refine lv_aload_n (pc := 125) C.1 C.2.1 dX11_leads_125 rfl (lv_at hl 0 rfl) ?_
        refine g_geti (pc := 126) C w h0 ff_X11_2 lk_X11_126 dX11_leads_126 ?_
        refine lv_aload_n (pc := 129) C.1 C.2.1 dX11_leads_129 rfl (lv_at hl 0 rfl) ?_
        refine g_geti (pc := 130) C w h0 ff_X11_4 lk_X11_129 dX11_leads_130 ?_
        refine g_isub (pc := 133) C dX11_leads_133 ?_
        refine lv_bipush (pc := 134) C.1 C.2.1 dX11_leads_134 mb_8 ?_
        refine g_icmp_ge (pc := 136) (tgt := 161) C rfl mn_8 dX11_leads_136 (by decide) (fun hc => ?_) (fun hc => ?_)
        · have hw := hw.1 hc
          refine lv_aload_n (pc := 161) C.1 C.2.1 dX11_leads_161 rfl (lv_at hl 0 rfl) ?_
          refine lv_dup (pc := 162) C.1 C.2.1 dX11_leads_162 rfl ?_
          refine g_geti (pc := 163) C w h0 ff_X11_2 lk_X11_126 dX11_leads_163 ?_
          refine lv_iconst (pc := 166) (v := mm_I 1) C.1 C.2.1 dX11_leads_166 rfl ?_
          refine g_iadd (pc := 167) C dX11_leads_167 ?_
          refine g_puti (pc := 168) C w h0 ff_X11_2 fw_X11_2 lk_X11_126 dX11_leads_168 (fun s_26 H locs es_26 w => ?_)
          have hw := hw s_26 es_26
          refine lv_goto (pc := 171) (tgt := 99) C.1 C.2.1 dX11_leads_171 (by decide) ?_
          exact hw  _ _ _ w (lv_sub hl [0] rfl)
        · have hw := hw.2 hc
          refine lv_aload_n (pc := 139) C.1 C.2.1 dX11_leads_139 rfl (lv_at hl 0 rfl) ?_
          refine lv_aload_n (pc := 140) C.1 C.2.1 dX11_leads_140 rfl (lv_at hl 0 rfl) ?_
          refine g_getl (pc := 141) C w h0 ff_X11_5 lk_X11_132 dX11_leads_141 ?_
          refine lv_bipush (pc := 144) C.1 C.2.1 dX11_leads_144 mb_8 ?_
          refine g_lshl (pc := 146) C dX11_leads_146 ?_
          refine lv_aload_n (pc := 147) C.1 C.2.1 dX11_leads_147 rfl (lv_at hl 0 rfl) ?_
          refine g_getr (pc := 148) C w h0 ff_X11_0 lk_X11_9 dX11_leads_148 ?_
          refine lv_aload_n (pc := 151) C.1 C.2.1 dX11_leads_151 rfl (lv_at hl 0 rfl) ?_
          refine g_geti (pc := 152) C w h0 ff_X11_2 lk_X11_126 dX11_leads_152 ?_
          obtain ⟨hi, hw⟩ := hw
          refine g_bald (pc := 155) C w (ro_X11_0 h0) hi dX11_leads_155 ?_
          refine g_i2l (pc := 156) C rfl dX11_leads_156 ?_
          refine g_lor (pc := 157) C dX11_leads_157 ?_
          refine g_putl (pc := 158) C w h0 ff_X11_5 fw_X11_5 lk_X11_132 dX11_leads_158 (fun s_27 H locs es_27 w => ?_)
          have hw := hw s_27 es_27
          refine lv_aload_n (pc := 161) C.1 C.2.1 dX11_leads_161 rfl (lv_at hl 0 rfl) ?_
          refine lv_dup (pc := 162) C.1 C.2.1 dX11_leads_162 rfl ?_
          refine g_geti (pc := 163) C w h0 ff_X11_2 lk_X11_126 dX11_leads_163 ?_
          refine lv_iconst (pc := 166) (v := mm_I 1) C.1 C.2.1 dX11_leads_166 rfl ?_
          refine g_iadd (pc := 167) C dX11_leads_167 ?_
          refine g_puti (pc := 168) C w h0 ff_X11_2 fw_X11_2 lk_X11_126 dX11_leads_168 (fun s_28 H locs es_28 w => ?_)
          have hw := hw s_28 es_28
          refine lv_goto (pc := 171) (tgt := 99) C.1 C.2.1 dX11_leads_171 (by decide) ?_
          exact hw  _ _ _ w (lv_sub hl [0] rfl))
  have hw := hw (by
    intro  s1 hw  H locs ls w hl
    refine lv_aload_n (pc := 174) C.1 C.2.1 dX11_leads_174 rfl (lv_at hl 0 rfl) ?_
    refine g_geti (pc := 175) C w h0 ff_X11_2 lk_X11_126 dX11_leads_175 ?_
    refine lv_aload_n (pc := 178) C.1 C.2.1 dX11_leads_178 rfl (lv_at hl 0 rfl) ?_
    refine g_geti (pc := 179) C w h0 ff_X11_4 lk_X11_129 dX11_leads_179 ?_
    refine g_isub (pc := 182) C dX11_leads_182 ?_
    refine lv_bipush (pc := 183) C.1 C.2.1 dX11_leads_183 mb_8 ?_
    refine g_icmp_le (pc := 185) (tgt := 193) C rfl mn_8 dX11_leads_185 (by decide) (fun hc => ?_) (fun hc => ?_)
    · have hw := hw.1 hc
      refine lv_aload_n (pc := 193) C.1 C.2.1 dX11_leads_193 rfl (lv_at hl 0 rfl) ?_
      refine lv_iconst (pc := 194) (v := mm_I 1) C.1 C.2.1 dX11_leads_194 rfl ?_
      refine g_puti (pc := 195) C w h0 ff_X11_3 fw_X11_3 lk_X11_136 dX11_leads_195 (fun s_29 H locs es_29 w => ?_)
      have hw := hw s_29 es_29
      refine lv_goto (pc := 198) (tgt := 332) C.1 C.2.1 dX11_leads_198 (by decide) ?_
      exact g_vret (pc := 332) C w hr hk hw dX11_leads_332
    · have hw := hw.2 hc
      refine lv_aload_n (pc := 188) C.1 C.2.1 dX11_leads_188 rfl (lv_at hl 0 rfl) ?_
      refine lv_lconst (pc := 189) (v := mm_L 0) C.1 C.2.1 dX11_leads_189 rfl ?_
      refine g_putl (pc := 190) C w h0 ff_X11_5 fw_X11_5 lk_X11_132 dX11_leads_190 (fun s_30 H locs es_30 w => ?_)
      have hw := hw s_30 es_30
      refine lv_aload_n (pc := 193) C.1 C.2.1 dX11_leads_193 rfl (lv_at hl 0 rfl) ?_
      refine lv_iconst (pc := 194) (v := mm_I 1) C.1 C.2.1 dX11_leads_194 rfl ?_
      refine g_puti (pc := 195) C w h0 ff_X11_3 fw_X11_3 lk_X11_136 dX11_leads_195 (fun s_31 H locs es_31 w => ?_)
      have hw := hw s_31 es_31
      refine lv_goto (pc := 198) (tgt := 332) C.1 C.2.1 dX11_leads_198 (by decide) ?_
      exact g_vret (pc := 332) C w hr hk hw dX11_leads_332)
  have hw := hw (by
    intro  s1 hw  H locs ls w hl
    refine lv_aload_n (pc := 208) C.1 C.2.1 dX11_leads_208 rfl (lv_at hl 0 rfl) ?_
    refine g_geti (pc := 209) C w h0 ff_X11_2 lk_X11_126 dX11_leads_209 ?_
    refine lv_aload_n (pc := 212) C.1 C.2.1 dX11_leads_212 rfl (lv_at hl 0 rfl) ?_
    refine g_geti (pc := 213) C w h0 ff_X11_1 lk_X11_118 dX11_leads_213 ?_
    refine g_icmp_ge (pc := 216) (tgt := 292) C rfl rfl dX11_leads_216 (by decide) (fun hc => ?_) (fun hc => ?_)
    · have hw := hw.1 hc
      refine lv_aload_n (pc := 292) C.1 C.2.1 dX11_leads_292 rfl (lv_at hl 0 rfl) ?_
      refine lv_iconst (pc := 293) (v := mm_I 2) C.1 C.2.1 dX11_leads_293 rfl ?_
      refine g_puti (pc := 294) C w h0 ff_X11_3 fw_X11_3 lk_X11_136 dX11_leads_294 (fun s_16 H locs es_16 w => ?_)
      have hw := hw s_16 es_16
      refine lv_goto (pc := 297) (tgt := 332) C.1 C.2.1 dX11_leads_297 (by decide) ?_
      exact g_vret (pc := 332) C w hr hk hw dX11_leads_332
    · have hw := hw.2 hc
      refine lv_aload_n (pc := 219) C.1 C.2.1 dX11_leads_219 rfl (lv_at hl 0 rfl) ?_
      refine g_getr (pc := 220) C w h0 ff_X11_0 lk_X11_9 dX11_leads_220 ?_
      refine lv_aload_n (pc := 223) C.1 C.2.1 dX11_leads_223 rfl (lv_at hl 0 rfl) ?_
      refine g_geti (pc := 224) C w h0 ff_X11_2 lk_X11_126 dX11_leads_224 ?_
      obtain ⟨hi, hw⟩ := hw
      refine g_bald (pc := 227) C w (ro_X11_0 h0) hi dX11_leads_227 ?_
      refine g_calli (pc := 228) w (mm_runS (As := [.int (mm_I (s1 (mm_rt this 0) (s1 this 2)))]) (rest := []) C w (c_X11_isDigit l G (s1 (mm_rt this 0) (s1 this 2))  s1 _ hw) cs_X11_isDigit ml_X11_143 ⟨Nat.le_of_ble_eq_true rfl, Nat.le_of_ble_eq_true rfl⟩ ⟨Nat.le_of_ble_eq_true rfl, Nat.le_of_ble_eq_true rfl⟩ rfl hl.1 rfl (Nat.le_of_ble_eq_true rfl) dX11_leads_228) (fun r_18 s_17 H locs hw w => ?_)
      refine g_if_eq (pc := 231) (tgt := 292) C rfl dX11_leads_231 (by decide) (fun hc => ?_) (fun hc => ?_)
      · have hw := hw.1 hc
        refine lv_aload_n (pc := 292) C.1 C.2.1 dX11_leads_292 rfl (lv_at hl 0 rfl) ?_
        refine lv_iconst (pc := 293) (v := mm_I 2) C.1 C.2.1 dX11_leads_293 rfl ?_
        refine g_puti (pc := 294) C w h0 ff_X11_3 fw_X11_3 lk_X11_136 dX11_leads_294 (fun s_19 H locs es_19 w => ?_)
        have hw := hw s_19 es_19
        refine lv_goto (pc := 297) (tgt := 332) C.1 C.2.1 dX11_leads_297 (by decide) ?_
        exact g_vret (pc := 332) C w hr hk hw dX11_leads_332
      · have hw := hw.2 hc
        refine lv_aload_n (pc := 234) C.1 C.2.1 dX11_leads_234 rfl (lv_at hl 0 rfl) ?_
        refine lv_aload_n (pc := 235) C.1 C.2.1 dX11_leads_235 rfl (lv_at hl 0 rfl) ?_
        refine g_getl (pc := 236) C w h0 ff_X11_5 lk_X11_132 dX11_leads_236 ?_
        refine lv_ldc2 (pc := 239) C.1 C.2.1 C.2.2.2.1 (C.2.2.2.2 _ lc_X11_146) dX11_leads_239 ?_
        refine g_lcmp (pc := 242) C dX11_leads_242 ?_
        refine g_lif_le (pc := 243) (tgt := 253) C rfl rfl dX11_leads_243 (by decide) (fun hc => ?_) (fun hc => ?_)
        · have hw := hw.1 hc
          refine lv_ldc2 (pc := 253) C.1 C.2.1 C.2.2.2.1 (C.2.2.2.2 _ lc_X11_148) dX11_leads_253 ?_
          refine lv_aload_n (pc := 256) C.1 C.2.1 dX11_leads_256 rfl (lv_at hl 0 rfl) ?_
          refine g_getl (pc := 257) C w h0 ff_X11_5 lk_X11_132 dX11_leads_257 ?_
          refine g_lmul (pc := 260) C dX11_leads_260 ?_
          refine lv_aload_n (pc := 261) C.1 C.2.1 dX11_leads_261 rfl (lv_at hl 0 rfl) ?_
          refine g_getr (pc := 262) C w h0 ff_X11_0 lk_X11_9 dX11_leads_262 ?_
          refine lv_aload_n (pc := 265) C.1 C.2.1 dX11_leads_265 rfl (lv_at hl 0 rfl) ?_
          refine g_geti (pc := 266) C w h0 ff_X11_2 lk_X11_126 dX11_leads_266 ?_
          obtain ⟨hi, hw⟩ := hw
          refine g_bald (pc := 269) C w (ro_X11_0 h0) hi dX11_leads_269 ?_
          refine g_i2l (pc := 270) C rfl dX11_leads_270 ?_
          refine g_ladd (pc := 271) C dX11_leads_271 ?_
          refine lv_ldc2 (pc := 272) C.1 C.2.1 C.2.2.2.1 (C.2.2.2.2 _ lc_X11_150) dX11_leads_272 ?_
          refine g_lsub (pc := 275) C dX11_leads_275 ?_
          refine g_putl (pc := 276) C w h0 ff_X11_5 fw_X11_5 lk_X11_132 dX11_leads_276 (fun s_20 H locs es_20 w => ?_)
          have hw := hw s_20 es_20
          refine lv_aload_n (pc := 279) C.1 C.2.1 dX11_leads_279 rfl (lv_at hl 0 rfl) ?_
          refine lv_dup (pc := 280) C.1 C.2.1 dX11_leads_280 rfl ?_
          refine g_geti (pc := 281) C w h0 ff_X11_2 lk_X11_126 dX11_leads_281 ?_
          refine lv_iconst (pc := 284) (v := mm_I 1) C.1 C.2.1 dX11_leads_284 rfl ?_
          refine g_iadd (pc := 285) C dX11_leads_285 ?_
          refine g_puti (pc := 286) C w h0 ff_X11_2 fw_X11_2 lk_X11_126 dX11_leads_286 (fun s_21 H locs es_21 w => ?_)
          have hw := hw s_21 es_21
          refine lv_goto (pc := 289) (tgt := 208) C.1 C.2.1 dX11_leads_289 (by decide) ?_
          exact hw  _ _ _ w (lv_sub hl [0] rfl)
        · have hw := hw.2 hc
          refine lv_aload_n (pc := 246) C.1 C.2.1 dX11_leads_246 rfl (lv_at hl 0 rfl) ?_
          refine g_getl (pc := 247) C w h0 ff_X11_5 lk_X11_132 dX11_leads_247 ?_
          refine lv_goto (pc := 250) (tgt := 276) C.1 C.2.1 dX11_leads_250 (by decide) ?_
          refine g_putl (pc := 276) C w h0 ff_X11_5 fw_X11_5 lk_X11_132 dX11_leads_276 (fun s_22 H locs es_22 w => ?_)
          have hw := hw s_22 es_22
          refine lv_aload_n (pc := 279) C.1 C.2.1 dX11_leads_279 rfl (lv_at hl 0 rfl) ?_
          refine lv_dup (pc := 280) C.1 C.2.1 dX11_leads_280 rfl ?_
          refine g_geti (pc := 281) C w h0 ff_X11_2 lk_X11_126 dX11_leads_281 ?_
          refine lv_iconst (pc := 284) (v := mm_I 1) C.1 C.2.1 dX11_leads_284 rfl ?_
          refine g_iadd (pc := 285) C dX11_leads_285 ?_
          refine g_puti (pc := 286) C w h0 ff_X11_2 fw_X11_2 lk_X11_126 dX11_leads_286 (fun s_23 H locs es_23 w => ?_)
          have hw := hw s_23 es_23
          refine lv_goto (pc := 289) (tgt := 208) C.1 C.2.1 dX11_leads_289 (by decide) ?_
          exact hw  _ _ _ w (lv_sub hl [0] rfl))
  have hw := hw (by
    intro v1 q0 s1 hw  H locs ls w hl
    refine g_puti (pc := 313) C w h0 ff_X11_3 fw_X11_3 lk_X11_136 dX11_leads_313 (fun s_13 H locs es_13 w => ?_)
    have hw := hw s_13 es_13
    refine lv_aload_n (pc := 316) C.1 C.2.1 dX11_leads_316 rfl (lv_at hl 0 rfl) ?_
    refine lv_iload_n (pc := 317) C.1 C.2.1 dX11_leads_317 rfl (lv_at hl 1 rfl) ?_
    refine g_i2l (pc := 318) C rfl dX11_leads_318 ?_
    refine g_putl (pc := 319) C w h0 ff_X11_5 fw_X11_5 lk_X11_132 dX11_leads_319 (fun s_14 H locs es_14 w => ?_)
    have hw := hw s_14 es_14
    refine lv_aload_n (pc := 322) C.1 C.2.1 dX11_leads_322 rfl (lv_at hl 0 rfl) ?_
    refine lv_dup (pc := 323) C.1 C.2.1 dX11_leads_323 rfl ?_
    refine g_geti (pc := 324) C w h0 ff_X11_2 lk_X11_126 dX11_leads_324 ?_
    refine lv_iconst (pc := 327) (v := mm_I 1) C.1 C.2.1 dX11_leads_327 rfl ?_
    refine g_iadd (pc := 328) C dX11_leads_328 ?_
    refine g_puti (pc := 329) C w h0 ff_X11_2 fw_X11_2 lk_X11_126 dX11_leads_329 (fun s_15 H locs es_15 w => ?_)
    have hw := hw s_15 es_15
    exact g_vret (pc := 332) C w hr hk hw dX11_leads_332)
  intro H locs ls w hl
  have hl : lv_has ls 2 [(0, .ref (mm_ad G this))] := hl
  exact hw  _ _ _ w (lv_sub hl [0] rfl)
