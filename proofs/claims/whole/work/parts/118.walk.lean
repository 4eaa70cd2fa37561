theorem lc_X11_474 : Cond.constant RX11 474 (mm_I 4826808) ∈ mm_ws := (mt_8 53 rfl rfl)
def wp_X11_when (this : Nat) (a1 : Int) (a2 : Int) (a3 : Int) (a4 : Int) (a5 : Int) (s0 : mm_M) (post : Int → mm_M → Prop) : Prop :=
  ∀ (L61 : Int → Int → Int → Int → mm_M → Prop), ∀ (L107 : Int → Int → Int → Int → Int → mm_M → Prop), 
  (∀ (v6 : Int) (v7 : Int) (v8 : Int) (v9 : Int) (s1 : mm_M), ((6 ≤ n32 v9 → post v6 s1) ∧ (¬ 6 ≤ n32 v9 → (∀ v10_13 : Int, v10_13 = a3 - (10 * v9) → ((0 ≤ n32 v10_13 → (wp_X11_worthAt this v10_13 (Int.tmod (n32 v8) 13) 0 s1 (fun r_15 s_14 => L107 v6 v7 v8 v9 (r_15 - (1000 * (s_14 this 17))) s_14))) ∧ (¬ 0 ≤ n32 v10_13 → L107 v6 v7 v8 v9 0 s1))))) → L61 v6 v7 v8 v9 s1) →
  (∀ (v6 : Int) (v7 : Int) (v8 : Int) (v9 : Int) (q0 : Int) (s1 : mm_M), (∀ v11_16 : Int, v11_16 = q0 → (∀ v8_17 : Int, v8_17 = Int.tdiv (n32 v8) 13 → ((n32 v7 < n32 v11_16 → (∀ v7_18 : Int, v7_18 = v11_16 → (∀ v6_19 : Int, v6_19 = v9 → (∀ v9_20 : Int, v9_20 = v9 + 1 → L61 v6_19 v7_18 v8_17 v9_20 s1)))) ∧ (¬ n32 v7 < n32 v11_16 → (∀ v9_21 : Int, v9_21 = v9 + 1 → L61 v6 v7 v8_17 v9_21 s1))))) → L107 v6 v7 v8 v9 q0 s1) →
  (wp_X11_isAsked this a1 a2 a5 s0 (fun r_2 s_1 => ((n32 r_2 = 0 → post (-1) s_1) ∧ (¬ n32 r_2 = 0 → (wp_X11_in a3 0 120 s_1 (fun r_4 s_3 => ((n32 r_4 = 0 → post (-1) s_3) ∧ (¬ n32 r_4 = 0 → (wp_X11_in a4 0 4826808 s_3 (fun r_6 s_5 => ((¬ n32 r_6 = 0 → (wp_X11_works this a1 a2 a5 (s_5 this 17) a3 s_5 (fun s_7 => (∀ v8_11 : Int, v8_11 = a4 → L61 (-1) 0 v8_11 0 s_7)))) ∧ (n32 r_6 = 0 → post (-1) s_5))))))))))))
set_option maxRecDepth 100000 in
set_option maxHeartbeats 4000000 in
theorem c_X11_when (l : Launch) (G : mm_G) (this : Nat) (a1 : Int) (a2 : Int) (a3 : Int) (a4 : Int) (a5 : Int) (h0 : mm_ok this 21 0) (s0 : mm_M) (post : Int → mm_M → Prop) (hw : wp_X11_when this a1 a2 a3 a4 a5 s0 post) : Met l yX11_when (mm_wm yX11_when cX11_when 12 (some .int)) (mm_rm 6) (va_Pc [.ref (mm_ad G this), .int (mm_I a1), .int (mm_I a2), .int (mm_I a3), .int (mm_I a4), .int (mm_I a5)] (mm_pre G s0)) (mm_Qi G post) 0 0 (mm_A G) := by
  refine mm_met (own := RX11) (by decide) rfl (Nat.le_of_ble_eq_true rfl) ?_
  intro p e s m args below meth c C hr hk
  unfold wp_X11_when at hw
  have hw := hw (fun (v6 : Int) (v7 : Int) (v8 : Int) (v9 : Int) (u : mm_M) => mm_X p l e (mm_rm 6) s m args below meth c (MQ below (mm_Qi G post) args s 0 0 (mm_A G)) G (mm_A G) 12 61 [(0, .ref (mm_ad G this)), (3, .int (mm_I a3)), (6, .int (mm_I v6)), (7, .int (mm_I v7)), (8, .int (mm_I v8)), (9, .int (mm_I v9))] [] u)
  have hw := hw (fun (v6 : Int) (v7 : Int) (v8 : Int) (v9 : Int) (q0 : Int) (u : mm_M) => mm_X p l e (mm_rm 6) s m args below meth c (MQ below (mm_Qi G post) args s 0 0 (mm_A G)) G (mm_A G) 12 107 [(0, .ref (mm_ad G this)), (3, .int (mm_I a3)), (6, .int (mm_I v6)), (7, .int (mm_I v7)), (8, .int (mm_I v8)), (9, .int (mm_I v9))] [.int (mm_I q0)] u)
  have hw := hw (by
    intro v6 v7 v8 v9 s1 hw  H locs ls w hl
    refine lv_iload (pc := 61) C.1 C.2.1 dX11_when_61 (lv_at hl 5 rfl) ?_
    refine lv_bipush (pc := 63) C.1 C.2.1 dX11_when_63 mb_6 ?_
    refine g_icmp_ge (pc := 65) (tgt := 140) C rfl mn_6 dX11_when_65 (by decide) (fun hc => ?_) (fun hc => ?_)
    · have hw := hw.1 hc
      refine lv_iload (pc := 140) C.1 C.2.1 dX11_when_140 (lv_at hl 2 rfl) ?_
      exact g_iret (pc := 142) C w hr hk hw dX11_when_142
    · have hw := hw.2 hc
      refine lv_iload_n (pc := 68) C.1 C.2.1 dX11_when_68 rfl (lv_at hl 1 rfl) ?_
      refine lv_bipush (pc := 69) C.1 C.2.1 dX11_when_69 mb_10 ?_
      refine lv_iload (pc := 71) C.1 C.2.1 dX11_when_71 (lv_at hl 5 rfl) ?_
      refine g_imul (pc := 73) C dX11_when_73 ?_
      refine g_isub (pc := 74) C dX11_when_74 ?_
      refine g_istore (pc := 75) C dX11_when_75 hl (by decide) (fun v10_13 ev10_13 ls hl => ?_)
      have hw := hw v10_13 ev10_13
      have hl : lv_has ls 12 [(10, .int (mm_I v10_13)), (0, .ref (mm_ad G this)), (3, .int (mm_I a3)), (6, .int (mm_I v6)), (7, .int (mm_I v7)), (8, .int (mm_I v8)), (9, .int (mm_I v9))] := hl
      refine lv_iload (pc := 77) C.1 C.2.1 dX11_when_77 (lv_at hl 0 rfl) ?_
      refine g_if_ge (pc := 79) (tgt := 86) C rfl dX11_when_79 (by decide) (fun hc => ?_) (fun hc => ?_)
      · have hw := hw.1 hc
        refine lv_aload_n (pc := 86) C.1 C.2.1 dX11_when_86 rfl (lv_at hl 1 rfl) ?_
        refine lv_iload (pc := 87) C.1 C.2.1 dX11_when_87 (lv_at hl 0 rfl) ?_
        refine lv_iload (pc := 89) C.1 C.2.1 dX11_when_89 (lv_at hl 5 rfl) ?_
        refine lv_bipush (pc := 91) C.1 C.2.1 dX11_when_91 mb_13 ?_
        refine g_irem (pc := 93) C rfl mn_13 (by decide) dX11_when_93 ?_
        refine lv_iconst (pc := 94) (v := mm_I 0) C.1 C.2.1 dX11_when_94 rfl ?_
        refine g_calli (pc := 95) w (mm_runV (ci := 11) (q := (RX11, TX11, 65)) (As := [.int (mm_I v10_13), .int (mm_I (Int.tmod (n32 v8) 13)), .int (mm_I 0)]) (rest := []) C w (c_X11_worthAt l G this v10_13 (Int.tmod (n32 v8) 13) 0 h0 s1 _ hw) h0 rfl rfl cv_X11_worthAt ml_X11_433 ⟨Nat.le_of_ble_eq_true rfl, Nat.le_of_ble_eq_true rfl⟩ ⟨Nat.le_of_ble_eq_true rfl, Nat.le_of_ble_eq_true rfl⟩ rfl hl.1 rfl (Nat.le_of_ble_eq_true rfl) dX11_when_95) (fun r_15 s_14 H locs hw w => ?_)
        refine lv_sipush (pc := 98) C.1 C.2.1 dX11_when_98 ms_1000 ?_
        refine lv_aload_n (pc := 101) C.1 C.2.1 dX11_when_101 rfl (lv_at hl 1 rfl) ?_
        refine g_geti (pc := 102) C w h0 ff_X11_17 lk_X11_297 dX11_when_102 ?_
        refine g_imul (pc := 105) C dX11_when_105 ?_
        refine g_isub (pc := 106) C dX11_when_106 ?_
        exact hw  _ _ _ w (lv_sub hl [1, 2, 3, 4, 5, 6] rfl)
      · have hw := hw.2 hc
        refine lv_iconst (pc := 82) (v := mm_I 0) C.1 C.2.1 dX11_when_82 rfl ?_
        refine lv_goto (pc := 83) (tgt := 107) C.1 C.2.1 dX11_when_83 (by decide) ?_
        exact hw  _ _ _ w (lv_sub hl [1, 2, 3, 4, 5, 6] rfl))
  have hw := hw (by
    intro v6 v7 v8 v9 q0 s1 hw  H locs ls w hl
    refine g_istore (pc := 107) C dX11_when_107 hl (by decide) (fun v11_16 ev11_16 ls hl => ?_)
    have hw := hw v11_16 ev11_16
    have hl : lv_has ls 12 [(11, .int (mm_I v11_16)), (0, .ref (mm_ad G this)), (3, .int (mm_I a3)), (6, .int (mm_I v6)), (7, .int (mm_I v7)), (8, .int (mm_I v8)), (9, .int (mm_I v9))] := hl
    refine lv_iload (pc := 109) C.1 C.2.1 dX11_when_109 (lv_at hl 5 rfl) ?_
    refine lv_bipush (pc := 111) C.1 C.2.1 dX11_when_111 mb_13 ?_
    refine g_idiv (pc := 113) C rfl mn_13 (by decide) dX11_when_113 ?_
    refine g_istore (pc := 114) C dX11_when_114 hl (by decide) (fun v8_17 ev8_17 ls hl => ?_)
    have hw := hw v8_17 ev8_17
    have hl : lv_has ls 12 [(8, .int (mm_I v8_17)), (11, .int (mm_I v11_16)), (0, .ref (mm_ad G this)), (3, .int (mm_I a3)), (6, .int (mm_I v6)), (7, .int (mm_I v7)), (9, .int (mm_I v9))] := hl
    refine lv_iload (pc := 116) C.1 C.2.1 dX11_when_116 (lv_at hl 1 rfl) ?_
    refine lv_iload (pc := 118) C.1 C.2.1 dX11_when_118 (lv_at hl 5 rfl) ?_
    refine g_icmp_gt (pc := 120) (tgt := 126) C rfl rfl dX11_when_120 (by decide) (fun hc => ?_) (fun hc => ?_)
    · have hw := hw.1 hc
      refine lv_iload (pc := 126) C.1 C.2.1 dX11_when_126 (lv_at hl 1 rfl) ?_
      refine g_istore (pc := 128) C dX11_when_128 hl (by decide) (fun v7_18 ev7_18 ls hl => ?_)
      have hw := hw v7_18 ev7_18
      have hl : lv_has ls 12 [(7, .int (mm_I v7_18)), (8, .int (mm_I v8_17)), (11, .int (mm_I v11_16)), (0, .ref (mm_ad G this)), (3, .int (mm_I a3)), (6, .int (mm_I v6)), (9, .int (mm_I v9))] := hl
      refine lv_iload (pc := 130) C.1 C.2.1 dX11_when_130 (lv_at hl 6 rfl) ?_
      refine g_istore (pc := 132) C dX11_when_132 hl (by decide) (fun v6_19 ev6_19 ls hl => ?_)
      have hw := hw v6_19 ev6_19
      have hl : lv_has ls 12 [(6, .int (mm_I v6_19)), (7, .int (mm_I v7_18)), (8, .int (mm_I v8_17)), (11, .int (mm_I v11_16)), (0, .ref (mm_ad G this)), (3, .int (mm_I a3)), (9, .int (mm_I v9))] := hl
      refine g_iinc (pc := 134) (k := 6) C dX11_when_134 hl rfl (by decide) (fun v9_20 ev9_20 ls hl => ?_)
      have hw := hw v9_20 ev9_20
      have hl : lv_has ls 12 [(9, .int (mm_I v9_20)), (6, .int (mm_I v6_19)), (7, .int (mm_I v7_18)), (8, .int (mm_I v8_17)), (11, .int (mm_I v11_16)), (0, .ref (mm_ad G this)), (3, .int (mm_I a3))] := hl
      refine lv_goto (pc := 137) (tgt := 61) C.1 C.2.1 dX11_when_137 (by decide) ?_
      exact hw  _ _ _ w (lv_sub hl [5, 6, 1, 2, 3, 0] rfl)
    · have hw := hw.2 hc
      refine lv_goto (pc := 123) (tgt := 134) C.1 C.2.1 dX11_when_123 (by decide) ?_
      refine g_iinc (pc := 134) (k := 6) C dX11_when_134 hl rfl (by decide) (fun v9_21 ev9_21 ls hl => ?_)
      have hw := hw v9_21 ev9_21
      have hl : lv_has ls 12 [(9, .int (mm_I v9_21)), (8, .int (mm_I v8_17)), (11, .int (mm_I v11_16)), (0, .ref (mm_ad G this)), (3, .int (mm_I a3)), (6, .int (mm_I v6)), (7, .int (mm_I v7))] := hl
      refine lv_goto (pc := 137) (tgt := 61) C.1 C.2.1 dX11_when_137 (by decide) ?_
      exact hw  _ _ _ w (lv_sub hl [3, 4, 5, 6, 1, 0] rfl))
  intro H locs ls w hl
  have hl : lv_has ls 12 [(0, .ref (mm_ad G this)), (1, .int (mm_I a1)), (2, .int (mm_I a2)), (3, .int (mm_I a3)), (4, .int (mm_I a4)), (5, .int (mm_I a5))] := hl
  refine lv_aload_n (pc := 0) C.1 C.2.1 dX11_when_0 rfl (lv_at hl 0 rfl) ?_
  refine lv_iload_n (pc := 1) C.1 C.2.1 dX11_when_1 rfl (lv_at hl 1 rfl) ?_
  refine lv_iload_n (pc := 2) C.1 C.2.1 dX11_when_2 rfl (lv_at hl 2 rfl) ?_
  refine lv_iload (pc := 3) C.1 C.2.1 dX11_when_3 (lv_at hl 5 rfl) ?_
  refine g_calli (pc := 5) w (mm_runV (ci := 11) (q := (RX11, TX11, 65)) (As := [.int (mm_I a1), .int (mm_I a2), .int (mm_I a5)]) (rest := []) C w (c_X11_isAsked l G this a1 a2 a5 h0 s0 _ hw) h0 rfl rfl cv_X11_isAsked ml_X11_461 ⟨Nat.le_of_ble_eq_true rfl, Nat.le_of_ble_eq_true rfl⟩ ⟨Nat.le_of_ble_eq_true rfl, Nat.le_of_ble_eq_true rfl⟩ rfl hl.1 rfl (Nat.le_of_ble_eq_true rfl) dX11_when_5) (fun r_2 s_1 H locs hw w => ?_)
  refine g_if_eq (pc := 8) (tgt := 33) C rfl dX11_when_8 (by decide) (fun hc => ?_) (fun hc => ?_)
  · have hw := hw.1 hc
    refine lv_iconst (pc := 33) (v := mm_I (-1)) C.1 C.2.1 dX11_when_33 rfl ?_
    exact g_iret (pc := 34) C w hr hk hw dX11_when_34
  · have hw := hw.2 hc
    refine lv_iload_n (pc := 11) C.1 C.2.1 dX11_when_11 rfl (lv_at hl 3 rfl) ?_
    refine lv_iconst (pc := 12) (v := mm_I 0) C.1 C.2.1 dX11_when_12 rfl ?_
    refine lv_bipush (pc := 13) C.1 C.2.1 dX11_when_13 mb_120 ?_
    refine g_calli (pc := 15) w (mm_runS (As := [.int (mm_I a3), .int (mm_I 0), .int (mm_I 120)]) (rest := []) C w (c_X11_in l G a3 0 120  s_1 _ hw) cs_X11_in ml_X11_122 ⟨Nat.le_of_ble_eq_true rfl, Nat.le_of_ble_eq_true rfl⟩ ⟨Nat.le_of_ble_eq_true rfl, Nat.le_of_ble_eq_true rfl⟩ rfl hl.1 rfl (Nat.le_of_ble_eq_true rfl) dX11_when_15) (fun r_4 s_3 H locs hw w => ?_)
    refine g_if_eq (pc := 18) (tgt := 33) C rfl dX11_when_18 (by decide) (fun hc => ?_) (fun hc => ?_)
    · have hw := hw.1 hc
      refine lv_iconst (pc := 33) (v := mm_I (-1)) C.1 C.2.1 dX11_when_33 rfl ?_
      exact g_iret (pc := 34) C w hr hk hw dX11_when_34
    · have hw := hw.2 hc
      refine lv_iload (pc := 21) C.1 C.2.1 dX11_when_21 (lv_at hl 4 rfl) ?_
      refine lv_iconst (pc := 23) (v := mm_I 0) C.1 C.2.1 dX11_when_23 rfl ?_
      refine lv_ldcw (pc := 24) C.1 C.2.1 C.2.2.2.1 (C.2.2.2.2 _ lc_X11_474) dX11_when_24 ?_
      refine g_calli (pc := 27) w (mm_runS (As := [.int (mm_I a4), .int (mm_I 0), .int (mm_I 4826808)]) (rest := []) C w (c_X11_in l G a4 0 4826808  s_3 _ hw) cs_X11_in ml_X11_122 ⟨Nat.le_of_ble_eq_true rfl, Nat.le_of_ble_eq_true rfl⟩ ⟨Nat.le_of_ble_eq_true rfl, Nat.le_of_ble_eq_true rfl⟩ rfl hl.1 rfl (Nat.le_of_ble_eq_true rfl) dX11_when_27) (fun r_6 s_5 H locs hw w => ?_)
      refine g_if_ne (pc := 30) (tgt := 35) C rfl dX11_when_30 (by decide) (fun hc => ?_) (fun hc => ?_)
      · have hw := hw.1 hc
        refine lv_aload_n (pc := 35) C.1 C.2.1 dX11_when_35 rfl (lv_at hl 0 rfl) ?_
        refine lv_iload_n (pc := 36) C.1 C.2.1 dX11_when_36 rfl (lv_at hl 1 rfl) ?_
        refine lv_iload_n (pc := 37) C.1 C.2.1 dX11_when_37 rfl (lv_at hl 2 rfl) ?_
        refine lv_iload (pc := 38) C.1 C.2.1 dX11_when_38 (lv_at hl 5 rfl) ?_
        refine lv_aload_n (pc := 40) C.1 C.2.1 dX11_when_40 rfl (lv_at hl 0 rfl) ?_
        refine g_geti (pc := 41) C w h0 ff_X11_17 lk_X11_297 dX11_when_41 ?_
        refine lv_iload_n (pc := 44) C.1 C.2.1 dX11_when_44 rfl (lv_at hl 3 rfl) ?_
        refine g_callv (pc := 45) w (mm_runV (ci := 11) (q := (RX11, TX11, 65)) (As := [.int (mm_I a1), .int (mm_I a2), .int (mm_I a5), .int (mm_I (s_5 this 17)), .int (mm_I a3)]) (rest := []) C w (c_X11_works l G this a1 a2 a5 (s_5 this 17) a3 h0 s_5 _ hw) h0 rfl rfl cv_X11_works ml_X11_467 ⟨Nat.le_of_ble_eq_true rfl, Nat.le_of_ble_eq_true rfl⟩ ⟨Nat.le_of_ble_eq_true rfl, Nat.le_of_ble_eq_true rfl⟩ rfl hl.1 rfl (Nat.le_of_ble_eq_true rfl) dX11_when_45) (fun s_7 H locs hw w => ?_)
        refine lv_iconst (pc := 48) (v := mm_I (-1)) C.1 C.2.1 dX11_when_48 rfl ?_
        refine lv_istore (pc := 49) (lv' := [(6, .int (mm_I (-1))), (0, .ref (mm_ad G this)), (1, .int (mm_I a1)), (2, .int (mm_I a2)), (3, .int (mm_I a3)), (4, .int (mm_I a4)), (5, .int (mm_I a5))]) C.1 C.2.1 dX11_when_49 hl (by decide) rfl (fun ls hl => ?_)
        refine lv_iconst (pc := 51) (v := mm_I 0) C.1 C.2.1 dX11_when_51 rfl ?_
        refine lv_istore (pc := 52) (lv' := [(7, .int (mm_I 0)), (6, .int (mm_I (-1))), (0, .ref (mm_ad G this)), (1, .int (mm_I a1)), (2, .int (mm_I a2)), (3, .int (mm_I a3)), (4, .int (mm_I a4)), (5, .int (mm_I a5))]) C.1 C.2.1 dX11_when_52 hl (by decide) rfl (fun ls hl => ?_)
        refine lv_iload (pc := 54) C.1 C.2.1 dX11_when_54 (lv_at hl 6 rfl) ?_
        refine g_istore (pc := 56) C dX11_when_56 hl (by decide) (fun v8_11 ev8_11 ls hl => ?_)
        have hw := hw v8_11 ev8_11
        have hl : lv_has ls 12 [(8, .int (mm_I v8_11)), (7, .int (mm_I 0)), (6, .int (mm_I (-1))), (0, .ref (mm_ad G this)), (1, .int (mm_I a1)), (2, .int (mm_I a2)), (3, .int (mm_I a3)), (4, .int (mm_I a4)), (5, .int (mm_I a5))] := hl
        refine lv_iconst (pc := 58) (v := mm_I 0) C.1 C.2.1 dX11_when_58 rfl ?_
        refine lv_istore (pc := 59) (lv' := [(9, .int (mm_I 0)), (8, .int (mm_I v8_11)), (7, .int (mm_I 0)), (6, .int (mm_I (-1))), (0, .ref (mm_ad G this)), (1, .int (mm_I a1)), (2, .int (mm_I a2)), (3, .int (mm_I a3)), (4, .int (mm_I a4)), (5, .int (mm_I a5))]) C.1 C.2.1 dX11_when_59 hl (by decide) rfl (fun ls hl => ?_)
        exact hw  _ _ _ w (lv_sub hl [4, 7, 3, 2, 1, 0] rfl)
      · have hw := hw.2 hc
        refine lv_iconst (pc := 33) (v := mm_I (-1)) C.1 C.2.1 dX11_when_33 rfl ?_
        exact g_iret (pc := 34) C w hr hk hw dX11_when_34
def wp_X11_nobodyTurns (this : Nat) (a1 : Int) (s0 : mm_M) (post : Int → mm_M → Prop) : Prop :=
  ∀ (L2 : Int → mm_M → Prop), ∀ (L9 : Int → Int → mm_M → Prop), ∀ (L18 : Int → Int → Int → mm_M → Prop), 
  (∀ (v2 : Int) (s1 : mm_M), ((n32 a1 < n32 v2 → post 1 s1) ∧ (¬ n32 a1 < n32 v2 → L9 v2 0 s1)) → L2 v2 s1) →
  (∀ (v2 : Int) (v3 : Int) (s1 : mm_M), ((12 < n32 v3 → (∀ v2_3 : Int, v2_3 = v2 + 1 → L2 v2_3 s1)) ∧ (¬ 12 < n32 v3 → L18 v2 v3 0 s1)) → L9 v2 v3 s1) →
  (∀ (v2 : Int) (v3 : Int) (v4 : Int) (s1 : mm_M), ((12 < n32 (v3 + v4) → (∀ v3_5 : Int, v3_5 = v3 + 1 → L9 v2 v3_5 s1)) ∧ (¬ 12 < n32 (v3 + v4) → (wp_X11_actAt this v2 v3 v4 s1 (fun r_7 s_6 => ((¬ n32 r_7 = 1 → (∀ v4_8 : Int, v4_8 = v4 + 1 → L18 v2 v3 v4_8 s_6)) ∧ (n32 r_7 = 1 → post 0 s_6)))))) → L18 v2 v3 v4 s1) →
  L2 1 s0
set_option maxRecDepth 100000 in
set_option maxHeartbeats 4000000 in
theorem c_X11_nobodyTurns (l : Launch) (G : mm_G) (this : Nat) (a1 : Int) (h0 : mm_ok this 21 0) (s0 : mm_M) (post : Int → mm_M → Prop) (hw : wp_X11_nobodyTurns this a1 s0 post) : Met l yX11_nobodyTurns (mm_wm yX11_nobodyTurns cX11_nobodyTurns 5 (some .boolean)) (mm_rm 6) (va_Pc [.ref (mm_ad G this), .int (mm_I a1)] (mm_pre G s0)) (mm_Qi G post) 0 0 (mm_A G) := by
  refine mm_met (own := RX11) (by decide) rfl (Nat.le_of_ble_eq_true rfl) ?_
  intro p e s m args below meth c C hr hk
  unfold wp_X11_nobodyTurns at hw
  have hw := hw (fun (v2 : Int) (u : mm_M) => mm_X p l e (mm_rm 6) s m args below meth c (MQ below (mm_Qi G post) args s 0 0 (mm_A G)) G (mm_A G) 5 2 [(0, .ref (mm_ad G this)), (1, .int (mm_I a1)), (2, .int (mm_I v2))] [] u)
  have hw := hw (fun (v2 : Int) (v3 : Int) (u : mm_M) => mm_X p l e (mm_rm 6) s m args below meth c (MQ below (mm_Qi G post) args s 0 0 (mm_A G)) G (mm_A G) 5 9 [(0, .ref (mm_ad G this)), (1, .int (mm_I a1)), (2, .int (mm_I v2)), (3, .int (mm_I v3))] [] u)
  have hw := hw (fun (v2 : Int) (v3 : Int) (v4 : Int) (u : mm_M) => mm_X p l e (mm_rm 6) s m args below meth c (MQ below (mm_Qi G post) args s 0 0 (mm_A G)) G (mm_A G) 5 18 [(0, .ref (mm_ad G this)), (1, .int (mm_I a1)), (2, .int (mm_I v2)), (3, .int (mm_I v3)), (4, .int (mm_I v4))] [] u)
  have hw := hw (by
    intro v2 s1 hw  H locs ls w hl
    refine lv_iload_n (pc := 2) C.1 C.2.1 dX11_nobodyTurns_2 rfl (lv_at hl 2 rfl) ?_
    refine lv_iload_n (pc := 3) C.1 C.2.1 dX11_nobodyTurns_3 rfl (lv_at hl 1 rfl) ?_
    refine g_icmp_gt (pc := 4) (tgt := 59) C rfl rfl dX11_nobodyTurns_4 (by decide) (fun hc => ?_) (fun hc => ?_)
    · have hw := hw.1 hc
      refine lv_iconst (pc := 59) (v := mm_I 1) C.1 C.2.1 dX11_nobodyTurns_59 rfl ?_
      exact g_zret (pc := 60) C w hr hk (by decide) hw dX11_nobodyTurns_60
    · have hw := hw.2 hc
      refine lv_iconst (pc := 7) (v := mm_I 0) C.1 C.2.1 dX11_nobodyTurns_7 rfl ?_
      refine lv_istore_n (pc := 8) (lv' := [(3, .int (mm_I 0)), (0, .ref (mm_ad G this)), (1, .int (mm_I a1)), (2, .int (mm_I v2))]) C.1 C.2.1 dX11_nobodyTurns_8 rfl hl (by decide) rfl (fun ls hl => ?_)
      exact hw  _ _ _ w (lv_sub hl [1, 2, 3, 0] rfl))
  have hw := hw (by
    intro v2 v3 s1 hw  H locs ls w hl
    refine lv_iload_n (pc := 9) C.1 C.2.1 dX11_nobodyTurns_9 rfl (lv_at hl 3 rfl) ?_
    refine lv_bipush (pc := 10) C.1 C.2.1 dX11_nobodyTurns_10 mb_12 ?_
    refine g_icmp_gt (pc := 12) (tgt := 53) C rfl mn_12 dX11_nobodyTurns_12 (by decide) (fun hc => ?_) (fun hc => ?_)
    · have hw := hw.1 hc
      refine g_iinc (pc := 53) (k := 2) C dX11_nobodyTurns_53 hl rfl (by decide) (fun v2_3 ev2_3 ls hl => ?_)
      have hw := hw v2_3 ev2_3
      have hl : lv_has ls 5 [(2, .int (mm_I v2_3)), (0, .ref (mm_ad G this)), (1, .int (mm_I a1)), (3, .int (mm_I v3))] := hl
      refine lv_goto (pc := 56) (tgt := 2) C.1 C.2.1 dX11_nobodyTurns_56 (by decide) ?_
      exact hw  _ _ _ w (lv_sub hl [1, 2, 0] rfl)
    · have hw := hw.2 hc
      refine lv_iconst (pc := 15) (v := mm_I 0) C.1 C.2.1 dX11_nobodyTurns_15 rfl ?_
      refine lv_istore (pc := 16) (lv' := [(4, .int (mm_I 0)), (0, .ref (mm_ad G this)), (1, .int (mm_I a1)), (2, .int (mm_I v2)), (3, .int (mm_I v3))]) C.1 C.2.1 dX11_nobodyTurns_16 hl (by decide) rfl (fun ls hl => ?_)
      exact hw  _ _ _ w (lv_sub hl [1, 2, 3, 4, 0] rfl))
  have hw := hw (by
    intro v2 v3 v4 s1 hw  H locs ls w hl
    refine lv_iload_n (pc := 18) C.1 C.2.1 dX11_nobodyTurns_18 rfl (lv_at hl 3 rfl) ?_
    refine lv_iload (pc := 19) C.1 C.2.1 dX11_nobodyTurns_19 (lv_at hl 4 rfl) ?_
    refine g_iadd (pc := 21) C dX11_nobodyTurns_21 ?_
    refine lv_bipush (pc := 22) C.1 C.2.1 dX11_nobodyTurns_22 mb_12 ?_
    refine g_icmp_gt (pc := 24) (tgt := 47) C rfl mn_12 dX11_nobodyTurns_24 (by decide) (fun hc => ?_) (fun hc => ?_)
    · have hw := hw.1 hc
      refine g_iinc (pc := 47) (k := 3) C dX11_nobodyTurns_47 hl rfl (by decide) (fun v3_5 ev3_5 ls hl => ?_)
      have hw := hw v3_5 ev3_5
      have hl : lv_has ls 5 [(3, .int (mm_I v3_5)), (0, .ref (mm_ad G this)), (1, .int (mm_I a1)), (2, .int (mm_I v2)), (4, .int (mm_I v4))] := hl
      refine lv_goto (pc := 50) (tgt := 9) C.1 C.2.1 dX11_nobodyTurns_50 (by decide) ?_
      exact hw  _ _ _ w (lv_sub hl [1, 2, 3, 0] rfl)
    · have hw := hw.2 hc
      refine lv_aload_n (pc := 27) C.1 C.2.1 dX11_nobodyTurns_27 rfl (lv_at hl 0 rfl) ?_
      refine lv_iload_n (pc := 28) C.1 C.2.1 dX11_nobodyTurns_28 rfl (lv_at hl 2 rfl) ?_
      refine lv_iload_n (pc := 29) C.1 C.2.1 dX11_nobodyTurns_29 rfl (lv_at hl 3 rfl) ?_
      refine lv_iload (pc := 30) C.1 C.2.1 dX11_nobodyTurns_30 (lv_at hl 4 rfl) ?_
      refine g_calli (pc := 32) w (mm_runV (ci := 11) (q := (RX11, TX11, 65)) (As := [.int (mm_I v2), .int (mm_I v3), .int (mm_I v4)]) (rest := []) C w (c_X11_actAt l G this v2 v3 v4 h0 s1 _ hw) h0 rfl rfl cv_X11_actAt ml_X11_471 ⟨Nat.le_of_ble_eq_true rfl, Nat.le_of_ble_eq_true rfl⟩ ⟨Nat.le_of_ble_eq_true rfl, Nat.le_of_ble_eq_true rfl⟩ rfl hl.1 rfl (Nat.le_of_ble_eq_true rfl) dX11_nobodyTurns_32) (fun r_7 s_6 H locs hw w => ?_)
      refine lv_iconst (pc := 35) (v := mm_I 1) C.1 C.2.1 dX11_nobodyTurns_35 rfl ?_
      refine g_icmp_ne (pc := 36) (tgt := 41) C rfl mn_1 dX11_nobodyTurns_36 (by decide) (fun hc => ?_) (fun hc => ?_)
      · have hw := hw.1 hc
        refine g_iinc (pc := 41) (k := 4) C dX11_nobodyTurns_41 hl rfl (by decide) (fun v4_8 ev4_8 ls hl => ?_)
        have hw := hw v4_8 ev4_8
        have hl : lv_has ls 5 [(4, .int (mm_I v4_8)), (0, .ref (mm_ad G this)), (1, .int (mm_I a1)), (2, .int (mm_I v2)), (3, .int (mm_I v3))] := hl
        refine lv_goto (pc := 44) (tgt := 18) C.1 C.2.1 dX11_nobodyTurns_44 (by decide) ?_
        exact hw  _ _ _ w (lv_sub hl [1, 2, 3, 4, 0] rfl)
      · have hw := hw.2 hc
        refine lv_iconst (pc := 39) (v := mm_I 0) C.1 C.2.1 dX11_nobodyTurns_39 rfl ?_
        exact g_zret (pc := 40) C w hr hk (by decide) hw dX11_nobodyTurns_40)
  intro H locs ls w hl
  have hl : lv_has ls 5 [(0, .ref (mm_ad G this)), (1, .int (mm_I a1))] := hl
  refine lv_iconst (pc := 0) (v := mm_I 1) C.1 C.2.1 dX11_nobodyTurns_0 rfl ?_
  refine lv_istore_n (pc := 1) (lv' := [(2, .int (mm_I 1)), (0, .ref (mm_ad G this)), (1, .int (mm_I a1))]) C.1 C.2.1 dX11_nobodyTurns_1 rfl hl (by decide) rfl (fun ls hl => ?_)
  exact hw  _ _ _ w (lv_sub hl [1, 2, 0] rfl)
theorem cv_X11_nobodyTurns : mm_V yX11_nobodyTurns cX11_nobodyTurns 5 (some .boolean) 1 := ⟨(mt_8 61 rfl rfl), (mt_8 60 rfl rfl), (mp_7 0 rfl rfl), (mt_1 12 rfl rfl), by decide, by decide, by decide +kernel⟩
theorem ml_X11_475 : Cond.methodLink RX11 475 yX11_nobodyTurns ∈ mm_ws := (mt_8 58 rfl rfl)
def wp_X11_least (this : Nat) (a1 : Int) (a2 : Int) (a3 : Int) (a4 : Int) (s0 : mm_M) (post : Int → mm_M → Prop) : Prop :=
  ∀ (L26 : Int → mm_M → Prop), 
  (∀ (v5 : Int) (s1 : mm_M), ((100 ≤ n32 v5 → post (-1) s1) ∧ (¬ 100 ≤ n32 v5 → (wp_X11_works this a1 a2 a4 v5 a3 s1 (fun s_6 => (wp_X11_nobodyTurns this a3 s_6 (fun r_9 s_8 => ((n32 r_9 = 0 → (∀ v5_10 : Int, v5_10 = v5 + 1 → L26 v5_10 s_8)) ∧ (¬ n32 r_9 = 0 → post v5 s_8)))))))) → L26 v5 s1) →
  (wp_X11_isAsked this a1 a2 a4 s0 (fun r_2 s_1 => ((n32 r_2 = 0 → post (-1) s_1) ∧ (¬ n32 r_2 = 0 → (wp_X11_in a3 1 60 s_1 (fun r_4 s_3 => ((¬ n32 r_4 = 0 → L26 0 s_3) ∧ (n32 r_4 = 0 → post (-1) s_3))))))))
set_option maxRecDepth 100000 in
set_option maxHeartbeats 4000000 in
theorem c_X11_least (l : Launch) (G : mm_G) (this : Nat) (a1 : Int) (a2 : Int) (a3 : Int) (a4 : Int) (h0 : mm_ok this 21 0) (s0 : mm_M) (post : Int → mm_M → Prop) (hw : wp_X11_least this a1 a2 a3 a4 s0 post) : Met l yX11_least (mm_wm yX11_least cX11_least 6 (some .int)) (mm_rm 7) (va_Pc [.ref (mm_ad G this), .int (mm_I a1), .int (mm_I a2), .int (mm_I a3), .int (mm_I a4)] (mm_pre G s0)) (mm_Qi G post) 0 0 (mm_A G) := by
  refine mm_met (own := RX11) (by decide) rfl (Nat.le_of_ble_eq_true rfl) ?_
  intro p e s m args below meth c C hr hk
  unfold wp_X11_least at hw
  have hw := hw (fun (v5 : Int) (u : mm_M) => mm_X p l e (mm_rm 7) s m args below meth c (MQ below (mm_Qi G post) args s 0 0 (mm_A G)) G (mm_A G) 6 26 [(0, .ref (mm_ad G this)), (1, .int (mm_I a1)), (2, .int (mm_I a2)), (3, .int (mm_I a3)), (4, .int (mm_I a4)), (5, .int (mm_I v5))] [] u)
  have hw := hw (by
    intro v5 s1 hw  H locs ls w hl
    refine lv_iload (pc := 26) C.1 C.2.1 dX11_least_26 (lv_at hl 5 rfl) ?_
    refine lv_bipush (pc := 28) C.1 C.2.1 dX11_least_28 mb_100 ?_
    refine g_icmp_ge (pc := 30) (tgt := 61) C rfl mn_100 dX11_least_30 (by decide) (fun hc => ?_) (fun hc => ?_)
    · have hw := hw.1 hc
      refine lv_iconst (pc := 61) (v := mm_I (-1)) C.1 C.2.1 dX11_least_61 rfl ?_
      exact g_iret (pc := 62) C w hr hk hw dX11_least_62
    · have hw := hw.2 hc
      refine lv_aload_n (pc := 33) C.1 C.2.1 dX11_least_33 rfl (lv_at hl 0 rfl) ?_
      refine lv_iload_n (pc := 34) C.1 C.2.1 dX11_least_34 rfl (lv_at hl 1 rfl) ?_
      refine lv_iload_n (pc := 35) C.1 C.2.1 dX11_least_35 rfl (lv_at hl 2 rfl) ?_
      refine lv_iload (pc := 36) C.1 C.2.1 dX11_least_36 (lv_at hl 4 rfl) ?_
      refine lv_iload (pc := 38) C.1 C.2.1 dX11_least_38 (lv_at hl 5 rfl) ?_
      refine lv_iload_n (pc := 40) C.1 C.2.1 dX11_least_40 rfl (lv_at hl 3 rfl) ?_
      refine g_callv (pc := 41) w (mm_runV (ci := 11) (q := (RX11, TX11, 65)) (As := [.int (mm_I a1), .int (mm_I a2), .int (mm_I a4), .int (mm_I v5), .int (mm_I a3)]) (rest := []) C w (c_X11_works l G this a1 a2 a4 v5 a3 h0 s1 _ hw) h0 rfl rfl cv_X11_works ml_X11_467 ⟨Nat.le_of_ble_eq_true rfl, Nat.le_of_ble_eq_true rfl⟩ ⟨Nat.le_of_ble_eq_true rfl, Nat.le_of_ble_eq_true rfl⟩ rfl hl.1 rfl (Nat.le_of_ble_eq_true rfl) dX11_least_41) (fun s_6 H locs hw w => ?_)
      refine lv_aload_n (pc := 44) C.1 C.2.1 dX11_least_44 rfl (lv_at hl 0 rfl) ?_
      refine lv_iload_n (pc := 45) C.1 C.2.1 dX11_least_45 rfl (lv_at hl 3 rfl) ?_
      refine g_calli (pc := 46) w (mm_runV (ci := 11) (q := (RX11, TX11, 65)) (As := [.int (mm_I a3)]) (rest := []) C w (c_X11_nobodyTurns l G this a3 h0 s_6 _ hw) h0 rfl rfl cv_X11_nobodyTurns ml_X11_475 ⟨Nat.le_of_ble_eq_true rfl, Nat.le_of_ble_eq_true rfl⟩ ⟨Nat.le_of_ble_eq_true rfl, Nat.le_of_ble_eq_true rfl⟩ rfl hl.1 rfl (Nat.le_of_ble_eq_true rfl) dX11_least_46) (fun r_9 s_8 H locs hw w => ?_)
      refine g_if_eq (pc := 49) (tgt := 55) C rfl dX11_least_49 (by decide) (fun hc => ?_) (fun hc => ?_)
      · have hw := hw.1 hc
        refine g_iinc (pc := 55) (k := 5) C dX11_least_55 hl rfl (by decide) (fun v5_10 ev5_10 ls hl => ?_)
        have hw := hw v5_10 ev5_10
        have hl : lv_has ls 6 [(5, .int (mm_I v5_10)), (0, .ref (mm_ad G this)), (1, .int (mm_I a1)), (2, .int (mm_I a2)), (3, .int (mm_I a3)), (4, .int (mm_I a4))] := hl
        refine lv_goto (pc := 58) (tgt := 26) C.1 C.2.1 dX11_least_58 (by decide) ?_
        exact hw  _ _ _ w (lv_sub hl [1, 2, 3, 4, 5, 0] rfl)
      · have hw := hw.2 hc
        refine lv_iload (pc := 52) C.1 C.2.1 dX11_least_52 (lv_at hl 5 rfl) ?_
        exact g_iret (pc := 54) C w hr hk hw dX11_least_54)
  intro H locs ls w hl
  have hl : lv_has ls 6 [(0, .ref (mm_ad G this)), (1, .int (mm_I a1)), (2, .int (mm_I a2)), (3, .int (mm_I a3)), (4, .int (mm_I a4))] := hl
  refine lv_aload_n (pc := 0) C.1 C.2.1 dX11_least_0 rfl (lv_at hl 0 rfl) ?_
  refine lv_iload_n (pc := 1) C.1 C.2.1 dX11_least_1 rfl (lv_at hl 1 rfl) ?_
  refine lv_iload_n (pc := 2) C.1 C.2.1 dX11_least_2 rfl (lv_at hl 2 rfl) ?_
  refine lv_iload (pc := 3) C.1 C.2.1 dX11_least_3 (lv_at hl 4 rfl) ?_
  refine g_calli (pc := 5) w (mm_runV (ci := 11) (q := (RX11, TX11, 65)) (As := [.int (mm_I a1), .int (mm_I a2), .int (mm_I a4)]) (rest := []) C w (c_X11_isAsked l G this a1 a2 a4 h0 s0 _ hw) h0 rfl rfl cv_X11_isAsked ml_X11_461 ⟨Nat.le_of_ble_eq_true rfl, Nat.le_of_ble_eq_true rfl⟩ ⟨Nat.le_of_ble_eq_true rfl, Nat.le_of_ble_eq_true rfl⟩ rfl hl.1 rfl (Nat.le_of_ble_eq_true rfl) dX11_least_5) (fun r_2 s_1 H locs hw w => ?_)
  refine g_if_eq (pc := 8) (tgt := 21) C rfl dX11_least_8 (by decide) (fun hc => ?_) (fun hc => ?_)
  · have hw := hw.1 hc
    refine lv_iconst (pc := 21) (v := mm_I (-1)) C.1 C.2.1 dX11_least_21 rfl ?_
    exact g_iret (pc := 22) C w hr hk hw dX11_least_22
  · have hw := hw.2 hc
    refine lv_iload_n (pc := 11) C.1 C.2.1 dX11_least_11 rfl (lv_at hl 3 rfl) ?_
    refine lv_iconst (pc := 12) (v := mm_I 1) C.1 C.2.1 dX11_least_12 rfl ?_
    refine lv_bipush (pc := 13) C.1 C.2.1 dX11_least_13 mb_60 ?_
    refine g_calli (pc := 15) w (mm_runS (As := [.int (mm_I a3), .int (mm_I 1), .int (mm_I 60)]) (rest := []) C w (c_X11_in l G a3 1 60  s_1 _ hw) cs_X11_in ml_X11_122 ⟨Nat.le_of_ble_eq_true rfl, Nat.le_of_ble_eq_true rfl⟩ ⟨Nat.le_of_ble_eq_true rfl, Nat.le_of_ble_eq_true rfl⟩ rfl hl.1 rfl (Nat.le_of_ble_eq_true rfl) dX11_least_15) (fun r_4 s_3 H locs hw w => ?_)
    refine g_if_ne (pc := 18) (tgt := 23) C rfl dX11_least_18 (by decide) (fun hc => ?_) (fun hc => ?_)
    · have hw := hw.1 hc
      refine lv_iconst (pc := 23) (v := mm_I 0) C.1 C.2.1 dX11_least_23 rfl ?_
      refine lv_istore (pc := 24) (lv' := [(5, .int (mm_I 0)), (0, .ref (mm_ad G this)), (1, .int (mm_I a1)), (2, .int (mm_I a2)), (3, .int (mm_I a3)), (4, .int (mm_I a4))]) C.1 C.2.1 dX11_least_24 hl (by decide) rfl (fun ls hl => ?_)
      exact hw  _ _ _ w (lv_sub hl [1, 2, 3, 4, 5, 0] rfl)
    · have hw := hw.2 hc
      refine lv_iconst (pc := 21) (v := mm_I (-1)) C.1 C.2.1 dX11_least_21 rfl ?_
      exact g_iret (pc := 22) C w hr hk hw dX11_least_22
def wp_X11_send (this : Nat) (a1 : Int) (a2 : Int) (a3 : Int) (a4 : Int) (a5 : Int) (s0 : mm_M) (post : Int → mm_M → Prop) : Prop :=
  (wp_X11_isAsked this a1 a2 a4 s0 (fun r_2 s_1 => ((n32 r_2 = 0 → post (-2147483648) s_1) ∧ (¬ n32 r_2 = 0 → (wp_X11_isPlace a3 s_1 (fun r_4 s_3 => ((n32 r_4 = 0 → post (-2147483648) s_3) ∧ (¬ n32 r_4 = 0 → ((12 ≤ n32 ((Int.tmod (n32 (Int.tdiv (n32 a3) 100)) 100) + (Int.tmod (n32 a3) 100)) → post (-2147483648) s_3) ∧ (¬ 12 ≤ n32 ((Int.tmod (n32 (Int.tdiv (n32 a3) 100)) 100) + (Int.tmod (n32 a3) 100)) → (wp_X11_in a5 0 99 s_3 (fun r_6 s_5 => ((¬ n32 r_6 = 0 → (∀ v6_7 : Int, v6_7 = Int.tdiv (n32 a3) 10000 → (∀ v7_8 : Int, v7_8 = Int.tmod (n32 (Int.tdiv (n32 a3) 100)) 100 → (∀ v8_9 : Int, v8_9 = Int.tmod (n32 a3) 100 → (wp_X11_works this a1 a2 a4 (s_5 this 17) v6_7 s_5 (fun s_10 => (wp_X11_worthAt this v6_7 ((v7_8 + v8_9) + 1) 0 s_10 (fun r_13 s_12 => (wp_X11_worthAt this v6_7 v7_8 v8_9 s_12 (fun r_15 s_14 => post ((r_13 - (1000 * ((s_12 this 17) + a5))) - r_15) s_14)))))))))) ∧ (n32 r_6 = 0 → post (-2147483648) s_5))))))))))))))
set_option maxRecDepth 100000 in
set_option maxHeartbeats 4000000 in
theorem c_X11_send (l : Launch) (G : mm_G) (this : Nat) (a1 : Int) (a2 : Int) (a3 : Int) (a4 : Int) (a5 : Int) (h0 : mm_ok this 21 0) (s0 : mm_M) (post : Int → mm_M → Prop) (hw : wp_X11_send this a1 a2 a3 a4 a5 s0 post) : Met l yX11_send (mm_wm yX11_send cX11_send 9 (some .int)) (mm_rm 6) (va_Pc [.ref (mm_ad G this), .int (mm_I a1), .int (mm_I a2), .int (mm_I a3), .int (mm_I a4), .int (mm_I a5)] (mm_pre G s0)) (mm_Qi G post) 0 0 (mm_A G) := by
  refine mm_met (own := RX11) (by decide) rfl (Nat.le_of_ble_eq_true rfl) ?_
  intro p e s m args below meth c C hr hk
  unfold wp_X11_send at hw
  intro H locs ls w hl
  have hl : lv_has ls 9 [(0, .ref (mm_ad G this)), (1, .int (mm_I a1)), (2, .int (mm_I a2)), (3, .int (mm_I a3)), (4, .int (mm_I a4)), (5, .int (mm_I a5))] := hl
  refine lv_aload_n (pc := 0) C.1 C.2.1 dX11_send_0 rfl (lv_at hl 0 rfl) ?_
  refine lv_iload_n (pc := 1) C.1 C.2.1 dX11_send_1 rfl (lv_at hl 1 rfl) ?_
  refine lv_iload_n (pc := 2) C.1 C.2.1 dX11_send_2 rfl (lv_at hl 2 rfl) ?_
  refine lv_iload (pc := 3) C.1 C.2.1 dX11_send_3 (lv_at hl 4 rfl) ?_
  refine g_calli (pc := 5) w (mm_runV (ci := 11) (q := (RX11, TX11, 65)) (As := [.int (mm_I a1), .int (mm_I a2), .int (mm_I a4)]) (rest := []) C w (c_X11_isAsked l G this a1 a2 a4 h0 s0 _ hw) h0 rfl rfl cv_X11_isAsked ml_X11_461 ⟨Nat.le_of_ble_eq_true rfl, Nat.le_of_ble_eq_true rfl⟩ ⟨Nat.le_of_ble_eq_true rfl, Nat.le_of_ble_eq_true rfl⟩ rfl hl.1 rfl (Nat.le_of_ble_eq_true rfl) dX11_send_5) (fun r_2 s_1 H locs hw w => ?_)
  refine g_if_eq (pc := 8) (tgt := 46) C rfl dX11_send_8 (by decide) (fun hc => ?_) (fun hc => ?_)
  · have hw := hw.1 hc
    refine lv_ldcw (pc := 46) C.1 C.2.1 C.2.2.2.1 (C.2.2.2.2 _ lc_X11_284) dX11_send_46 ?_
    exact g_iret (pc := 49) C w hr hk hw dX11_send_49
  · have hw := hw.2 hc
    refine lv_iload_n (pc := 11) C.1 C.2.1 dX11_send_11 rfl (lv_at hl 3 rfl) ?_
    refine g_calli (pc := 12) w (mm_runS (As := [.int (mm_I a3)]) (rest := []) C w (c_X11_isPlace l G a3  s_1 _ hw) cs_X11_isPlace ml_X11_464 ⟨Nat.le_of_ble_eq_true rfl, Nat.le_of_ble_eq_true rfl⟩ ⟨Nat.le_of_ble_eq_true rfl, Nat.le_of_ble_eq_true rfl⟩ rfl hl.1 rfl (Nat.le_of_ble_eq_true rfl) dX11_send_12) (fun r_4 s_3 H locs hw w => ?_)
    refine g_if_eq (pc := 15) (tgt := 46) C rfl dX11_send_15 (by decide) (fun hc => ?_) (fun hc => ?_)
    · have hw := hw.1 hc
      refine lv_ldcw (pc := 46) C.1 C.2.1 C.2.2.2.1 (C.2.2.2.2 _ lc_X11_284) dX11_send_46 ?_
      exact g_iret (pc := 49) C w hr hk hw dX11_send_49
    · have hw := hw.2 hc
      refine lv_iload_n (pc := 18) C.1 C.2.1 dX11_send_18 rfl (lv_at hl 3 rfl) ?_
      refine lv_bipush (pc := 19) C.1 C.2.1 dX11_send_19 mb_100 ?_
      refine g_idiv (pc := 21) C rfl mn_100 (by decide) dX11_send_21 ?_
      refine lv_bipush (pc := 22) C.1 C.2.1 dX11_send_22 mb_100 ?_
      refine g_irem (pc := 24) C rfl mn_100 (by decide) dX11_send_24 ?_
      refine lv_iload_n (pc := 25) C.1 C.2.1 dX11_send_25 rfl (lv_at hl 3 rfl) ?_
      refine lv_bipush (pc := 26) C.1 C.2.1 dX11_send_26 mb_100 ?_
      refine g_irem (pc := 28) C rfl mn_100 (by decide) dX11_send_28 ?_
      refine g_iadd (pc := 29) C dX11_send_29 ?_
      refine lv_bipush (pc := 30) C.1 C.2.1 dX11_send_30 mb_12 ?_
      refine g_icmp_ge (pc := 32) (tgt := 46) C rfl mn_12 dX11_send_32 (by decide) (fun hc => ?_) (fun hc => ?_)
      · have hw := hw.1 hc
        refine lv_ldcw (pc := 46) C.1 C.2.1 C.2.2.2.1 (C.2.2.2.2 _ lc_X11_284) dX11_send_46 ?_
        exact g_iret (pc := 49) C w hr hk hw dX11_send_49
      · have hw := hw.2 hc
        refine lv_iload (pc := 35) C.1 C.2.1 dX11_send_35 (lv_at hl 5 rfl) ?_
        refine lv_iconst (pc := 37) (v := mm_I 0) C.1 C.2.1 dX11_send_37 rfl ?_
        refine lv_bipush (pc := 38) C.1 C.2.1 dX11_send_38 mb_99 ?_
        refine g_calli (pc := 40) w (mm_runS (As := [.int (mm_I a5), .int (mm_I 0), .int (mm_I 99)]) (rest := []) C w (c_X11_in l G a5 0 99  s_3 _ hw) cs_X11_in ml_X11_122 ⟨Nat.le_of_ble_eq_true rfl, Nat.le_of_ble_eq_true rfl⟩ ⟨Nat.le_of_ble_eq_true rfl, Nat.le_of_ble_eq_true rfl⟩ rfl hl.1 rfl (Nat.le_of_ble_eq_true rfl) dX11_send_40) (fun r_6 s_5 H locs hw w => ?_)
        refine g_if_ne (pc := 43) (tgt := 50) C rfl dX11_send_43 (by decide) (fun hc => ?_) (fun hc => ?_)
        · have hw := hw.1 hc
          refine lv_iload_n (pc := 50) C.1 C.2.1 dX11_send_50 rfl (lv_at hl 3 rfl) ?_
          refine lv_sipush (pc := 51) C.1 C.2.1 dX11_send_51 ms_10000 ?_
          refine g_idiv (pc := 54) C rfl mn_10000 (by decide) dX11_send_54 ?_
          refine g_istore (pc := 55) C dX11_send_55 hl (by decide) (fun v6_7 ev6_7 ls hl => ?_)
          have hw := hw v6_7 ev6_7
          have hl : lv_has ls 9 [(6, .int (mm_I v6_7)), (0, .ref (mm_ad G this)), (1, .int (mm_I a1)), (2, .int (mm_I a2)), (3, .int (mm_I a3)), (4, .int (mm_I a4)), (5, .int (mm_I a5))] := hl
          refine lv_iload_n (pc := 57) C.1 C.2.1 dX11_send_57 rfl (lv_at hl 4 rfl) ?_
          refine lv_bipush (pc := 58) C.1 C.2.1 dX11_send_58 mb_100 ?_
          refine g_idiv (pc := 60) C rfl mn_100 (by decide) dX11_send_60 ?_
          refine lv_bipush (pc := 61) C.1 C.2.1 dX11_send_61 mb_100 ?_
          refine g_irem (pc := 63) C rfl mn_100 (by decide) dX11_send_63 ?_
          refine g_istore (pc := 64) C dX11_send_64 hl (by decide) (fun v7_8 ev7_8 ls hl => ?_)
          have hw := hw v7_8 ev7_8
          have hl : lv_has ls 9 [(7, .int (mm_I v7_8)), (6, .int (mm_I v6_7)), (0, .ref (mm_ad G this)), (1, .int (mm_I a1)), (2, .int (mm_I a2)), (3, .int (mm_I a3)), (4, .int (mm_I a4)), (5, .int (mm_I a5))] := hl
          refine lv_iload_n (pc := 66) C.1 C.2.1 dX11_send_66 rfl (lv_at hl 5 rfl) ?_
          refine lv_bipush (pc := 67) C.1 C.2.1 dX11_send_67 mb_100 ?_
          refine g_irem (pc := 69) C rfl mn_100 (by decide) dX11_send_69 ?_
          refine g_istore (pc := 70) C dX11_send_70 hl (by decide) (fun v8_9 ev8_9 ls hl => ?_)
          have hw := hw v8_9 ev8_9
          have hl : lv_has ls 9 [(8, .int (mm_I v8_9)), (7, .int (mm_I v7_8)), (6, .int (mm_I v6_7)), (0, .ref (mm_ad G this)), (1, .int (mm_I a1)), (2, .int (mm_I a2)), (3, .int (mm_I a3)), (4, .int (mm_I a4)), (5, .int (mm_I a5))] := hl
          refine lv_aload_n (pc := 72) C.1 C.2.1 dX11_send_72 rfl (lv_at hl 3 rfl) ?_
          refine lv_iload_n (pc := 73) C.1 C.2.1 dX11_send_73 rfl (lv_at hl 4 rfl) ?_
          refine lv_iload_n (pc := 74) C.1 C.2.1 dX11_send_74 rfl (lv_at hl 5 rfl) ?_
          refine lv_iload (pc := 75) C.1 C.2.1 dX11_send_75 (lv_at hl 7 rfl) ?_
          refine lv_aload_n (pc := 77) C.1 C.2.1 dX11_send_77 rfl (lv_at hl 3 rfl) ?_
          refine g_geti (pc := 78) C w h0 ff_X11_17 lk_X11_297 dX11_send_78 ?_
          refine lv_iload (pc := 81) C.1 C.2.1 dX11_send_81 (lv_at hl 2 rfl) ?_
          refine g_callv (pc := 83) w (mm_runV (ci := 11) (q := (RX11, TX11, 65)) (As := [.int (mm_I a1), .int (mm_I a2), .int (mm_I a4), .int (mm_I (s_5 this 17)), .int (mm_I v6_7)]) (rest := []) C w (c_X11_works l G this a1 a2 a4 (s_5 this 17) v6_7 h0 s_5 _ hw) h0 rfl rfl cv_X11_works ml_X11_467 ⟨Nat.le_of_ble_eq_true rfl, Nat.le_of_ble_eq_true rfl⟩ ⟨Nat.le_of_ble_eq_true rfl, Nat.le_of_ble_eq_true rfl⟩ rfl hl.1 rfl (Nat.le_of_ble_eq_true rfl) dX11_send_83) (fun s_10 H locs hw w => ?_)
          refine lv_aload_n (pc := 86) C.1 C.2.1 dX11_send_86 rfl (lv_at hl 3 rfl) ?_
          refine lv_iload (pc := 87) C.1 C.2.1 dX11_send_87 (lv_at hl 2 rfl) ?_
          refine lv_iload (pc := 89) C.1 C.2.1 dX11_send_89 (lv_at hl 1 rfl) ?_
          refine lv_iload (pc := 91) C.1 C.2.1 dX11_send_91 (lv_at hl 0 rfl) ?_
          refine g_iadd (pc := 93) C dX11_send_93 ?_
          refine lv_iconst (pc := 94) (v := mm_I 1) C.1 C.2.1 dX11_send_94 rfl ?_
          refine g_iadd (pc := 95) C dX11_send_95 ?_
          refine lv_iconst (pc := 96) (v := mm_I 0) C.1 C.2.1 dX11_send_96 rfl ?_
          refine g_calli (pc := 97) w (mm_runV (ci := 11) (q := (RX11, TX11, 65)) (As := [.int (mm_I v6_7), .int (mm_I ((v7_8 + v8_9) + 1)), .int (mm_I 0)]) (rest := []) C w (c_X11_worthAt l G this v6_7 ((v7_8 + v8_9) + 1) 0 h0 s_10 _ hw) h0 rfl rfl cv_X11_worthAt ml_X11_433 ⟨Nat.le_of_ble_eq_true rfl, Nat.le_of_ble_eq_true rfl⟩ ⟨Nat.le_of_ble_eq_true rfl, Nat.le_of_ble_eq_true rfl⟩ rfl hl.1 rfl (Nat.le_of_ble_eq_true rfl) dX11_send_97) (fun r_13 s_12 H locs hw w => ?_)
          refine lv_sipush (pc := 100) C.1 C.2.1 dX11_send_100 ms_1000 ?_
          refine lv_aload_n (pc := 103) C.1 C.2.1 dX11_send_103 rfl (lv_at hl 3 rfl) ?_
          refine g_geti (pc := 104) C w h0 ff_X11_17 lk_X11_297 dX11_send_104 ?_
          refine lv_iload (pc := 107) C.1 C.2.1 dX11_send_107 (lv_at hl 8 rfl) ?_
          refine g_iadd (pc := 109) C dX11_send_109 ?_
          refine g_imul (pc := 110) C dX11_send_110 ?_
          refine g_isub (pc := 111) C dX11_send_111 ?_
          refine lv_aload_n (pc := 112) C.1 C.2.1 dX11_send_112 rfl (lv_at hl 3 rfl) ?_
          refine lv_iload (pc := 113) C.1 C.2.1 dX11_send_113 (lv_at hl 2 rfl) ?_
          refine lv_iload (pc := 115) C.1 C.2.1 dX11_send_115 (lv_at hl 1 rfl) ?_
          refine lv_iload (pc := 117) C.1 C.2.1 dX11_send_117 (lv_at hl 0 rfl) ?_
          refine g_calli (pc := 119) w (mm_runV (ci := 11) (q := (RX11, TX11, 65)) (As := [.int (mm_I v6_7), .int (mm_I v7_8), .int (mm_I v8_9)]) (rest := [.int (mm_I (r_13 - (1000 * ((s_12 this 17) + a5))))]) C w (c_X11_worthAt l G this v6_7 v7_8 v8_9 h0 s_12 _ hw) h0 rfl rfl cv_X11_worthAt ml_X11_433 ⟨Nat.le_of_ble_eq_true rfl, Nat.le_of_ble_eq_true rfl⟩ ⟨Nat.le_of_ble_eq_true rfl, Nat.le_of_ble_eq_true rfl⟩ rfl hl.1 rfl (Nat.le_of_ble_eq_true rfl) dX11_send_119) (fun r_15 s_14 H locs hw w => ?_)
          refine g_isub (pc := 122) C dX11_send_122 ?_
          exact g_iret (pc := 123) C w hr hk hw dX11_send_123
        · have hw := hw.2 hc
          refine lv_ldcw (pc := 46) C.1 C.2.1 C.2.2.2.1 (C.2.2.2.2 _ lc_X11_284) dX11_send_46 ?_
          exact g_iret (pc := 49) C w hr hk hw dX11_send_49
def wp_X11_out (this : Nat) (a1 : Int) (a2 : Int) (a3 : Int) (s0 : mm_M) (post : Int → mm_M → Prop) : Prop :=
  ∀ (L37 : Int → Int → mm_M → Prop), ∀ (L61 : Int → Int → Int → Int → mm_M → Prop), ∀ (L77 : Int → Int → Int → Int → mm_M → Prop), 
  (∀ (v4 : Int) (v5 : Int) (s1 : mm_M), ((n32 v5 ≤ 0 → post v4 s1) ∧ (¬ n32 v5 ≤ 0 → ((n32 a3 ≤ n32 (a2 - v5) → post v4 s1) ∧ (¬ n32 a3 ≤ n32 (a2 - v5) → (wp_X11_placeBy a1 v5 s1 (fun r_10 s_9 => (∀ v6_11 : Int, v6_11 = r_10 → L61 v4 v5 v6_11 0 s_9))))))) → L37 v4 v5 s1) →
  (∀ (v4 : Int) (v5 : Int) (v6 : Int) (v7 : Int) (s1 : mm_M), ((n32 (mm_and (mm_shr v4 v7) 1) = 1 → L77 v4 v5 v6 v7 s1) ∧ (¬ n32 (mm_and (mm_shr v4 v7) 1) = 1 → ((n32 v6 ≤ 0 → (∀ v4_13 : Int, v4_13 = mm_or v4 (mm_shl 1 v7) → (∀ v5_14 : Int, v5_14 = v5 + (-1) → L37 v4_13 v5_14 s1))) ∧ (¬ n32 v6 ≤ 0 → L77 v4 v5 v6 v7 s1)))) → L61 v4 v5 v6 v7 s1) →
  (∀ (v4 : Int) (v5 : Int) (v6 : Int) (v7 : Int) (s1 : mm_M), ((¬ n32 (mm_and (mm_shr v4 v7) 1) = 1 → (∀ v6_15 : Int, v6_15 = v6 - 1 → (∀ v7_16 : Int, v7_16 = v7 + 1 → L61 v4 v5 v6_15 v7_16 s1))) ∧ (n32 (mm_and (mm_shr v4 v7) 1) = 1 → (∀ v6_17 : Int, v6_17 = v6 - 0 → (∀ v7_18 : Int, v7_18 = v7 + 1 → L61 v4 v5 v6_17 v7_18 s1)))) → L77 v4 v5 v6 v7 s1) →
  (wp_X11_in a1 0 2 s0 (fun r_2 s_1 => ((n32 r_2 = 0 → post (-1) s_1) ∧ (¬ n32 r_2 = 0 → (wp_X11_in a2 0 12 s_1 (fun r_4 s_3 => ((n32 r_4 = 0 → post (-1) s_3) ∧ (¬ n32 r_4 = 0 → (wp_X11_in a3 0 12 s_3 (fun r_6 s_5 => ((¬ n32 r_6 = 0 → (∀ v5_8 : Int, v5_8 = a2 → L37 0 v5_8 s_5)) ∧ (n32 r_6 = 0 → post (-1) s_5))))))))))))
set_option maxRecDepth 100000 in
set_option maxHeartbeats 4000000 in
theorem c_X11_out (l : Launch) (G : mm_G) (this : Nat) (a1 : Int) (a2 : Int) (a3 : Int) (h0 : mm_ok this 21 0) (s0 : mm_M) (post : Int → mm_M → Prop) (hw : wp_X11_out this a1 a2 a3 s0 post) : Met l yX11_out (mm_wm yX11_out cX11_out 8 (some .int)) (mm_rm 2) (va_Pc [.ref (mm_ad G this), .int (mm_I a1), .int (mm_I a2), .int (mm_I a3)] (mm_pre G s0)) (mm_Qi G post) 0 0 (mm_A G) := by
  refine mm_met (own := RX11) (by decide) rfl (Nat.le_of_ble_eq_true rfl) ?_
  intro p e s m args below meth c C hr hk
  unfold wp_X11_out at hw
  have hw := hw (fun (v4 : Int) (v5 : Int) (u : mm_M) => mm_X p l e (mm_rm 2) s m args below meth c (MQ below (mm_Qi G post) args s 0 0 (mm_A G)) G (mm_A G) 8 37 [(1, .int (mm_I a1)), (2, .int (mm_I a2)), (3, .int (mm_I a3)), (4, .int (mm_I v4)), (5, .int (mm_I v5))] [] u)
  have hw := hw (fun (v4 : Int) (v5 : Int) (v6 : Int) (v7 : Int) (u : mm_M) => mm_X p l e (mm_rm 2) s m args below meth c (MQ below (mm_Qi G post) args s 0 0 (mm_A G)) G (mm_A G) 8 61 [(1, .int (mm_I a1)), (2, .int (mm_I a2)), (3, .int (mm_I a3)), (4, .int (mm_I v4)), (5, .int (mm_I v5)), (6, .int (mm_I v6)), (7, .int (mm_I v7))] [] u)
  have hw := hw (fun (v4 : Int) (v5 : Int) (v6 : Int) (v7 : Int) (u : mm_M) => mm_X p l e (mm_rm 2) s m args below meth c (MQ below (mm_Qi G post) args s 0 0 (mm_A G)) G (mm_A G) 8 77 [(1, .int (mm_I a1)), (2, .int (mm_I a2)), (3, .int (mm_I a3)), (4, .int (mm_I v4)), (5, .int (mm_I v5)), (6, .int (mm_I v6)), (7, .int (mm_I v7))] [] u)
  have hw := hw (by
    intro v4 v5 s1 hw  H locs ls w hl
    refine lv_iload (pc := 37) C.1 C.2.1 dX11_out_37 (lv_at hl 4 rfl) ?_
    refine g_if_le (pc := 39) (tgt := 119) C rfl dX11_out_39 (by decide) (fun hc => ?_) (fun hc => ?_)
    · have hw := hw.1 hc
      refine lv_iload (pc := 119) C.1 C.2.1 dX11_out_119 (lv_at hl 3 rfl) ?_
      exact g_iret (pc := 121) C w hr hk hw dX11_out_121
    · have hw := hw.2 hc
      refine lv_iload_n (pc := 42) C.1 C.2.1 dX11_out_42 rfl (lv_at hl 1 rfl) ?_
      refine lv_iload (pc := 43) C.1 C.2.1 dX11_out_43 (lv_at hl 4 rfl) ?_
      refine g_isub (pc := 45) C dX11_out_45 ?_
      refine lv_iload_n (pc := 46) C.1 C.2.1 dX11_out_46 rfl (lv_at hl 2 rfl) ?_
      refine g_icmp_ge (pc := 47) (tgt := 119) C rfl rfl dX11_out_47 (by decide) (fun hc => ?_) (fun hc => ?_)
      · have hw := hw.1 hc
        refine lv_iload (pc := 119) C.1 C.2.1 dX11_out_119 (lv_at hl 3 rfl) ?_
        exact g_iret (pc := 121) C w hr hk hw dX11_out_121
      · have hw := hw.2 hc
        refine lv_iload_n (pc := 50) C.1 C.2.1 dX11_out_50 rfl (lv_at hl 0 rfl) ?_
        refine lv_iload (pc := 51) C.1 C.2.1 dX11_out_51 (lv_at hl 4 rfl) ?_
        refine g_calli (pc := 53) w (mm_runS (As := [.int (mm_I a1), .int (mm_I v5)]) (rest := []) C w (c_X11_placeBy l G a1 v5  s1 _ hw) cs_X11_placeBy ml_X11_386 ⟨Nat.le_of_ble_eq_true rfl, Nat.le_of_ble_eq_true rfl⟩ ⟨Nat.le_of_ble_eq_true rfl, Nat.le_of_ble_eq_true rfl⟩ rfl hl.1 rfl (Nat.le_of_ble_eq_true rfl) dX11_out_53) (fun r_10 s_9 H locs hw w => ?_)
        refine g_istore (pc := 56) C dX11_out_56 hl (by decide) (fun v6_11 ev6_11 ls hl => ?_)
        have hw := hw v6_11 ev6_11
        have hl : lv_has ls 8 [(6, .int (mm_I v6_11)), (1, .int (mm_I a1)), (2, .int (mm_I a2)), (3, .int (mm_I a3)), (4, .int (mm_I v4)), (5, .int (mm_I v5))] := hl
        refine lv_iconst (pc := 58) (v := mm_I 0) C.1 C.2.1 dX11_out_58 rfl ?_
        refine lv_istore (pc := 59) (lv' := [(7, .int (mm_I 0)), (6, .int (mm_I v6_11)), (1, .int (mm_I a1)), (2, .int (mm_I a2)), (3, .int (mm_I a3)), (4, .int (mm_I v4)), (5, .int (mm_I v5))]) C.1 C.2.1 dX11_out_59 hl (by decide) rfl (fun ls hl => ?_)
        exact hw  _ _ _ w (lv_sub hl [2, 3, 4, 5, 6, 1, 0] rfl))
  have hw := hw (by
    intro v4 v5 v6 v7 s1 hw  H locs ls w hl
    refine lv_iload (pc := 61) C.1 C.2.1 dX11_out_61 (lv_at hl 3 rfl) ?_
    refine lv_iload (pc := 63) C.1 C.2.1 dX11_out_63 (lv_at hl 6 rfl) ?_
    refine g_ishr (pc := 65) C dX11_out_65 ?_
    refine lv_iconst (pc := 66) (v := mm_I 1) C.1 C.2.1 dX11_out_66 rfl ?_
    refine g_iand (pc := 67) C dX11_out_67 ?_
    refine lv_iconst (pc := 68) (v := mm_I 1) C.1 C.2.1 dX11_out_68 rfl ?_
    refine g_icmp_eq (pc := 69) (tgt := 77) C rfl mn_1 dX11_out_69 (by decide) (fun hc => ?_) (fun hc => ?_)
    · have hw := hw.1 hc
      exact hw  _ _ _ w (lv_sub hl [0, 1, 2, 3, 4, 5, 6] rfl)
    · have hw := hw.2 hc
      refine lv_iload (pc := 72) C.1 C.2.1 dX11_out_72 (lv_at hl 5 rfl) ?_
      refine g_if_le (pc := 74) (tgt := 104) C rfl dX11_out_74 (by decide) (fun hc => ?_) (fun hc => ?_)
      · have hw := hw.1 hc
        refine lv_iload (pc := 104) C.1 C.2.1 dX11_out_104 (lv_at hl 3 rfl) ?_
        refine lv_iconst (pc := 106) (v := mm_I 1) C.1 C.2.1 dX11_out_106 rfl ?_
        refine lv_iload (pc := 107) C.1 C.2.1 dX11_out_107 (lv_at hl 6 rfl) ?_
        refine g_ishl (pc := 109) C dX11_out_109 ?_
        refine g_ior (pc := 110) C dX11_out_110 ?_
        refine g_istore (pc := 111) C dX11_out_111 hl (by decide) (fun v4_13 ev4_13 ls hl => ?_)
        have hw := hw v4_13 ev4_13
        have hl : lv_has ls 8 [(4, .int (mm_I v4_13)), (1, .int (mm_I a1)), (2, .int (mm_I a2)), (3, .int (mm_I a3)), (5, .int (mm_I v5)), (6, .int (mm_I v6)), (7, .int (mm_I v7))] := hl
        refine g_iinc (pc := 113) (k := 4) C dX11_out_113 hl rfl (by decide) (fun v5_14 ev5_14 ls hl => ?_)
        have hw := hw v5_14 ev5_14
        have hl : lv_has ls 8 [(5, .int (mm_I v5_14)), (4, .int (mm_I v4_13)), (1, .int (mm_I a1)), (2, .int (mm_I a2)), (3, .int (mm_I a3)), (6, .int (mm_I v6)), (7, .int (mm_I v7))] := hl
        refine lv_goto (pc := 116) (tgt := 37) C.1 C.2.1 dX11_out_116 (by decide) ?_
        exact hw  _ _ _ w (lv_sub hl [2, 3, 4, 1, 0] rfl)
      · have hw := hw.2 hc
        exact hw  _ _ _ w (lv_sub hl [0, 1, 2, 3, 4, 5, 6] rfl))
  have hw := hw (by
    intro v4 v5 v6 v7 s1 hw  H locs ls w hl
    refine lv_iload (pc := 77) C.1 C.2.1 dX11_out_77 (lv_at hl 5 rfl) ?_
    refine lv_iload (pc := 79) C.1 C.2.1 dX11_out_79 (lv_at hl 3 rfl) ?_
    refine lv_iload (pc := 81) C.1 C.2.1 dX11_out_81 (lv_at hl 6 rfl) ?_
    refine g_ishr (pc := 83) C dX11_out_83 ?_
    refine lv_iconst (pc := 84) (v := mm_I 1) C.1 C.2.1 dX11_out_84 rfl ?_
    refine g_iand (pc := 85) C dX11_out_85 ?_
    refine lv_iconst (pc := 86) (v := mm_I 1) C.1 C.2.1 dX11_out_86 rfl ?_
    refine g_icmp_ne (pc := 87) (tgt := 94) C rfl mn_1 dX11_out_87 (by decide) (fun hc => ?_) (fun hc => ?_)
    · have hw := hw.1 hc
      refine lv_iconst (pc := 94) (v := mm_I 1) C.1 C.2.1 dX11_out_94 rfl ?_
      refine g_isub (pc := 95) C dX11_out_95 ?_
      refine g_istore (pc := 96) C dX11_out_96 hl (by decide) (fun v6_15 ev6_15 ls hl => ?_)
      have hw := hw v6_15 ev6_15
      have hl : lv_has ls 8 [(6, .int (mm_I v6_15)), (1, .int (mm_I a1)), (2, .int (mm_I a2)), (3, .int (mm_I a3)), (4, .int (mm_I v4)), (5, .int (mm_I v5)), (7, .int (mm_I v7))] := hl
      refine g_iinc (pc := 98) (k := 6) C dX11_out_98 hl rfl (by decide) (fun v7_16 ev7_16 ls hl => ?_)
      have hw := hw v7_16 ev7_16
      have hl : lv_has ls 8 [(7, .int (mm_I v7_16)), (6, .int (mm_I v6_15)), (1, .int (mm_I a1)), (2, .int (mm_I a2)), (3, .int (mm_I a3)), (4, .int (mm_I v4)), (5, .int (mm_I v5))] := hl
      refine lv_goto (pc := 101) (tgt := 61) C.1 C.2.1 dX11_out_101 (by decide) ?_
      exact hw  _ _ _ w (lv_sub hl [2, 3, 4, 5, 6, 1, 0] rfl)
    · have hw := hw.2 hc
      refine lv_iconst (pc := 90) (v := mm_I 0) C.1 C.2.1 dX11_out_90 rfl ?_
      refine lv_goto (pc := 91) (tgt := 95) C.1 C.2.1 dX11_out_91 (by decide) ?_
      refine g_isub (pc := 95) C dX11_out_95 ?_
      refine g_istore (pc := 96) C dX11_out_96 hl (by decide) (fun v6_17 ev6_17 ls hl => ?_)
      have hw := hw v6_17 ev6_17
      have hl : lv_has ls 8 [(6, .int (mm_I v6_17)), (1, .int (mm_I a1)), (2, .int (mm_I a2)), (3, .int (mm_I a3)), (4, .int (mm_I v4)), (5, .int (mm_I v5)), (7, .int (mm_I v7))] := hl
      refine g_iinc (pc := 98) (k := 6) C dX11_out_98 hl rfl (by decide) (fun v7_18 ev7_18 ls hl => ?_)
      have hw := hw v7_18 ev7_18
      have hl : lv_has ls 8 [(7, .int (mm_I v7_18)), (6, .int (mm_I v6_17)), (1, .int (mm_I a1)), (2, .int (mm_I a2)), (3, .int (mm_I a3)), (4, .int (mm_I v4)), (5, .int (mm_I v5))] := hl
      refine lv_goto (pc := 101) (tgt := 61) C.1 C.2.1 dX11_out_101 (by decide) ?_
      exact hw  _ _ _ w (lv_sub hl [2, 3, 4, 5, 6, 1, 0] rfl))
  intro H locs ls w hl
  have hl : lv_has ls 8 [(0, .ref (mm_ad G this)), (1, .int (mm_I a1)), (2, .int (mm_I a2)), (3, .int (mm_I a3))] := hl
  refine lv_iload_n (pc := 0) C.1 C.2.1 dX11_out_0 rfl (lv_at hl 1 rfl) ?_
  refine lv_iconst (pc := 1) (v := mm_I 0) C.1 C.2.1 dX11_out_1 rfl ?_
  refine lv_iconst (pc := 2) (v := mm_I 2) C.1 C.2.1 dX11_out_2 rfl ?_
  refine g_calli (pc := 3) w (mm_runS (As := [.int (mm_I a1), .int (mm_I 0), .int (mm_I 2)]) (rest := []) C w (c_X11_in l G a1 0 2  s0 _ hw) cs_X11_in ml_X11_122 ⟨Nat.le_of_ble_eq_true rfl, Nat.le_of_ble_eq_true rfl⟩ ⟨Nat.le_of_ble_eq_true rfl, Nat.le_of_ble_eq_true rfl⟩ rfl hl.1 rfl (Nat.le_of_ble_eq_true rfl) dX11_out_3) (fun r_2 s_1 H locs hw w => ?_)
  refine g_if_eq (pc := 6) (tgt := 29) C rfl dX11_out_6 (by decide) (fun hc => ?_) (fun hc => ?_)
  · have hw := hw.1 hc
    refine lv_iconst (pc := 29) (v := mm_I (-1)) C.1 C.2.1 dX11_out_29 rfl ?_
    exact g_iret (pc := 30) C w hr hk hw dX11_out_30
  · have hw := hw.2 hc
    refine lv_iload_n (pc := 9) C.1 C.2.1 dX11_out_9 rfl (lv_at hl 2 rfl) ?_
    refine lv_iconst (pc := 10) (v := mm_I 0) C.1 C.2.1 dX11_out_10 rfl ?_
    refine lv_bipush (pc := 11) C.1 C.2.1 dX11_out_11 mb_12 ?_
    refine g_calli (pc := 13) w (mm_runS (As := [.int (mm_I a2), .int (mm_I 0), .int (mm_I 12)]) (rest := []) C w (c_X11_in l G a2 0 12  s_1 _ hw) cs_X11_in ml_X11_122 ⟨Nat.le_of_ble_eq_true rfl, Nat.le_of_ble_eq_true rfl⟩ ⟨Nat.le_of_ble_eq_true rfl, Nat.le_of_ble_eq_true rfl⟩ rfl hl.1 rfl (Nat.le_of_ble_eq_true rfl) dX11_out_13) (fun r_4 s_3 H locs hw w => ?_)
    refine g_if_eq (pc := 16) (tgt := 29) C rfl dX11_out_16 (by decide) (fun hc => ?_) (fun hc => ?_)
    · have hw := hw.1 hc
      refine lv_iconst (pc := 29) (v := mm_I (-1)) C.1 C.2.1 dX11_out_29 rfl ?_
      exact g_iret (pc := 30) C w hr hk hw dX11_out_30
    · have hw := hw.2 hc
      refine lv_iload_n (pc := 19) C.1 C.2.1 dX11_out_19 rfl (lv_at hl 3 rfl) ?_
      refine lv_iconst (pc := 20) (v := mm_I 0) C.1 C.2.1 dX11_out_20 rfl ?_
      refine lv_bipush (pc := 21) C.1 C.2.1 dX11_out_21 mb_12 ?_
      refine g_calli (pc := 23) w (mm_runS (As := [.int (mm_I a3), .int (mm_I 0), .int (mm_I 12)]) (rest := []) C w (c_X11_in l G a3 0 12  s_3 _ hw) cs_X11_in ml_X11_122 ⟨Nat.le_of_ble_eq_true rfl, Nat.le_of_ble_eq_true rfl⟩ ⟨Nat.le_of_ble_eq_true rfl, Nat.le_of_ble_eq_true rfl⟩ rfl hl.1 rfl (Nat.le_of_ble_eq_true rfl) dX11_out_23) (fun r_6 s_5 H locs hw w => ?_)
      refine g_if_ne (pc := 26) (tgt := 31) C rfl dX11_out_26 (by decide) (fun hc => ?_) (fun hc => ?_)
      · have hw := hw.1 hc
        refine lv_iconst (pc := 31) (v := mm_I 0) C.1 C.2.1 dX11_out_31 rfl ?_
        refine lv_istore (pc := 32) (lv' := [(4, .int (mm_I 0)), (0, .ref (mm_ad G this)), (1, .int (mm_I a1)), (2, .int (mm_I a2)), (3, .int (mm_I a3))]) C.1 C.2.1 dX11_out_32 hl (by decide) rfl (fun ls hl => ?_)
        refine lv_iload_n (pc := 34) C.1 C.2.1 dX11_out_34 rfl (lv_at hl 3 rfl) ?_
        refine g_istore (pc := 35) C dX11_out_35 hl (by decide) (fun v5_8 ev5_8 ls hl => ?_)
        have hw := hw v5_8 ev5_8
        have hl : lv_has ls 8 [(5, .int (mm_I v5_8)), (4, .int (mm_I 0)), (0, .ref (mm_ad G this)), (1, .int (mm_I a1)), (2, .int (mm_I a2)), (3, .int (mm_I a3))] := hl
        exact hw  _ _ _ w (lv_sub hl [3, 4, 5, 1, 0] rfl)
      · have hw := hw.2 hc
        refine lv_iconst (pc := 29) (v := mm_I (-1)) C.1 C.2.1 dX11_out_29 rfl ?_
        exact g_iret (pc := 30) C w hr hk hw dX11_out_30
theorem lk_X11_82 : Cond.fieldLink RX11 82 "LastServedModel" "image" "[I" ∈ mm_ws := (mt_6 6 rfl rfl)
theorem ff_X11_42 : mm_F 11 42 1 RX11 TX11 65 := ⟨rfl, by decide, fk_X11, rfl, rfl⟩
theorem ro_X11_42 {i : Nat} (h : mm_ok i 21 0) : mm_ok (mm_rt i 42) 0 1338 := by
  have q : ∀ i, i < mm_N → mm_kd i = 21 → mm_rt i 42 < mm_N ∧ mm_kd (mm_rt i 42) = 0 ∧ mm_ln (mm_rt i 42) = 1338 := by decide +kernel
  exact q i h.1 h.2.1
theorem lk_X11_478 : Cond.fieldLink RX11 478 "LastServedModel" "keepAt" "I" ∈ mm_ws := (mt_6 28 rfl rfl)
theorem ff_X11_64 : mm_F 11 64 0 RX11 TX11 65 := ⟨rfl, by decide, fk_X11, rfl, rfl⟩
theorem fw_X11_64 : mm_Fw 11 64 TX11 65 .int := ⟨⟨tyX11, tyX11_ok⟩, nmX11, rfl, by decide +kernel⟩
def wp_X11_keeps (this : Nat) (a1 : Int) (s0 : mm_M) (post : mm_M → Prop) : Prop :=
  ((0 ≤ s0 this 64 ∧ s0 this 64 < 1338) ∧ (∀ s_1 : mm_M, s_1 = mm_up s0 (mm_rt this 42) (s0 this 64) a1 → (∀ s_2 : mm_M, s_2 = mm_up s_1 this 64 ((s_1 this 64) + 1) → post s_2)))
set_option maxRecDepth 100000 in
set_option maxHeartbeats 4000000 in
theorem c_X11_keeps (l : Launch) (G : mm_G) (this : Nat) (a1 : Int) (h0 : mm_ok this 21 0) (s0 : mm_M) (post : mm_M → Prop) (hw : wp_X11_keeps this a1 s0 post) : Met l yX11_keeps (mm_wm yX11_keeps cX11_keeps 2 none) (mm_rm 1) (va_Pc [.ref (mm_ad G this), .int (mm_I a1)] (mm_pre G s0)) (mm_Qv G post) 0 0 (mm_A G) := by
  refine mm_met (own := RX11) (by decide) rfl (Nat.le_of_ble_eq_true rfl) ?_
  intro p e s m args below meth c C hr hk
  unfold wp_X11_keeps at hw
  intro H locs ls w hl
  have hl : lv_has ls 2 [(0, .ref (mm_ad G this)), (1, .int (mm_I a1))] := hl
  refine lv_aload_n (pc := 0) C.1 C.2.1 dX11_keeps_0 rfl (lv_at hl 0 rfl) ?_
  refine g_getr (pc := 1) C w h0 ff_X11_42 lk_X11_82 dX11_keeps_1 ?_
  refine lv_aload_n (pc := 4) C.1 C.2.1 dX11_keeps_4 rfl (lv_at hl 0 rfl) ?_
  refine g_geti (pc := 5) C w h0 ff_X11_64 lk_X11_478 dX11_keeps_5 ?_
  refine lv_iload_n (pc := 8) C.1 C.2.1 dX11_keeps_8 rfl (lv_at hl 1 rfl) ?_
  obtain ⟨hi, hw⟩ := hw
  refine g_iast (pc := 9) C w (ro_X11_42 h0) hi  dX11_keeps_9 (fun s_1 H locs es_1 w => ?_)
  have hw := hw s_1 es_1
  refine lv_aload_n (pc := 10) C.1 C.2.1 dX11_keeps_10 rfl (lv_at hl 0 rfl) ?_
  refine lv_dup (pc := 11) C.1 C.2.1 dX11_keeps_11 rfl ?_
  refine g_geti (pc := 12) C w h0 ff_X11_64 lk_X11_478 dX11_keeps_12 ?_
  refine lv_iconst (pc := 15) (v := mm_I 1) C.1 C.2.1 dX11_keeps_15 rfl ?_
  refine g_iadd (pc := 16) C dX11_keeps_16 ?_
  refine g_puti (pc := 17) C w h0 ff_X11_64 fw_X11_64 lk_X11_478 dX11_keeps_17 (fun s_2 H locs es_2 w => ?_)
  have hw := hw s_2 es_2
  exact g_vret (pc := 20) C w hr hk hw dX11_keeps_20
def wp_X11_kept (this : Nat) (s0 : mm_M) (post : Int → mm_M → Prop) : Prop :=
  (∀ s_1 : mm_M, s_1 = mm_up s0 this 64 ((s0 this 64) + 1) → ((0 ≤ (s_1 this 64) - 1 ∧ (s_1 this 64) - 1 < 1338) ∧ post (s_1 (mm_rt this 42) ((s_1 this 64) - 1)) s_1))
set_option maxRecDepth 100000 in
set_option maxHeartbeats 4000000 in
theorem c_X11_kept (l : Launch) (G : mm_G) (this : Nat) (h0 : mm_ok this 21 0) (s0 : mm_M) (post : Int → mm_M → Prop) (hw : wp_X11_kept this s0 post) : Met l yX11_kept (mm_wm yX11_kept cX11_kept 1 (some .int)) (mm_rm 1) (va_Pc [.ref (mm_ad G this)] (mm_pre G s0)) (mm_Qi G post) 0 0 (mm_A G) := by
  refine mm_met (own := RX11) (by decide) rfl (Nat.le_of_ble_eq_true rfl) ?_
  intro p e s m args below meth c C hr hk
  unfold wp_X11_kept at hw
  intro H locs ls w hl
  have hl : lv_has ls 1 [(0, .ref (mm_ad G this))] := hl
  refine lv_aload_n (pc := 0) C.1 C.2.1 dX11_kept_0 rfl (lv_at hl 0 rfl) ?_
  refine lv_dup (pc := 1) C.1 C.2.1 dX11_kept_1 rfl ?_
  refine g_geti (pc := 2) C w h0 ff_X11_64 lk_X11_478 dX11_kept_2 ?_
  refine lv_iconst (pc := 5) (v := mm_I 1) C.1 C.2.1 dX11_kept_5 rfl ?_
  refine g_iadd (pc := 6) C dX11_kept_6 ?_
  refine g_puti (pc := 7) C w h0 ff_X11_64 fw_X11_64 lk_X11_478 dX11_kept_7 (fun s_1 H locs es_1 w => ?_)
  have hw := hw s_1 es_1
  refine lv_aload_n (pc := 10) C.1 C.2.1 dX11_kept_10 rfl (lv_at hl 0 rfl) ?_
  refine g_getr (pc := 11) C w h0 ff_X11_42 lk_X11_82 dX11_kept_11 ?_
  refine lv_aload_n (pc := 14) C.1 C.2.1 dX11_kept_14 rfl (lv_at hl 0 rfl) ?_
  refine g_geti (pc := 15) C w h0 ff_X11_64 lk_X11_478 dX11_kept_15 ?_
  refine lv_iconst (pc := 18) (v := mm_I 1) C.1 C.2.1 dX11_kept_18 rfl ?_
  refine g_isub (pc := 19) C dX11_kept_19 ?_
  obtain ⟨hi, hw⟩ := hw
  refine g_iald (pc := 20) C w (ro_X11_42 h0) hi dX11_kept_20 ?_
  exact g_iret (pc := 21) C w hr hk hw dX11_kept_21
theorem lk_X11_85 : Cond.fieldLink RX11 85 "LastServedModel" "imageLot" "[J" ∈ mm_ws := (mt_6 7 rfl rfl)
theorem ff_X11_43 : mm_F 11 43 1 RX11 TX11 65 := ⟨rfl, by decide, fk_X11, rfl, rfl⟩
theorem ro_X11_43 {i : Nat} (h : mm_ok i 21 0) : mm_ok (mm_rt i 43) 3 3 := by
  have q : ∀ i, i < mm_N → mm_kd i = 21 → mm_rt i 43 < mm_N ∧ mm_kd (mm_rt i 43) = 3 ∧ mm_ln (mm_rt i 43) = 3 := by decide +kernel
  exact q i h.1 h.2.1
theorem ms_446 : (Int16.ofInt 446).toInt32 = mm_I 446 := by decide
theorem cv_X11_keeps : mm_V yX11_keeps cX11_keeps 2 none 1 := ⟨(mt_8 77 rfl rfl), (mt_8 76 rfl rfl), (mp_7 1 rfl rfl), (mt_1 12 rfl rfl), by decide, by decide, by decide +kernel⟩
theorem ml_X11_481 : Cond.methodLink RX11 481 yX11_keeps ∈ mm_ws := (mt_8 74 rfl rfl)
theorem mb_90 : (Int8.ofInt 90).toInt32 = mm_I 90 := by decide
theorem mn_90 : n32 90 = 90 := by decide
theorem ms_210 : (Int16.ofInt 210).toInt32 = mm_I 210 := by decide
theorem mn_210 : n32 210 = 210 := by decide
def wp_X11_image (this : Nat) (a1 : Int) (s0 : mm_M) (post : Int → mm_M → Prop) : Prop :=
  ∀ (L54 : Int → mm_M → Prop), ∀ (L97 : Int → mm_M → Prop), ∀ (L121 : Int → mm_M → Prop), ∀ (L146 : Int → mm_M → Prop), ∀ (L178 : Int → mm_M → Prop), 
  (∀ (v2 : Int) (s1 : mm_M), ((3 ≤ n32 v2 → L97 0 s1) ∧ (¬ 3 ≤ n32 v2 → ((0 ≤ v2 ∧ v2 < 3) ∧ (wp_X11_keeps this (s1 (mm_rt this 29) v2) s1 (fun s_10 => ((0 ≤ v2 ∧ v2 < 3) ∧ (wp_X11_keeps this (s_10 (mm_rt this 30) v2) s_10 (fun s_12 => ((0 ≤ v2 ∧ v2 < 3) ∧ (wp_X11_keeps this (s_12 (mm_rt this 31) v2) s_12 (fun s_14 => (∀ v2_16 : Int, v2_16 = v2 + 1 → L54 v2_16 s_14)))))))))))) → L54 v2 s1) →
  (∀ (v2 : Int) (s1 : mm_M), ((90 ≤ n32 v2 → L121 0 s1) ∧ (¬ 90 ≤ n32 v2 → ((0 ≤ v2 ∧ v2 < 90) ∧ (wp_X11_keeps this (s1 (mm_rt this 32) v2) s1 (fun s_18 => (∀ v2_20 : Int, v2_20 = v2 + 1 → L97 v2_20 s_18)))))) → L97 v2 s1) →
  (∀ (v2 : Int) (s1 : mm_M), ((210 ≤ n32 v2 → L146 0 s1) ∧ (¬ 210 ≤ n32 v2 → ((0 ≤ v2 ∧ v2 < 210) ∧ (wp_X11_keeps this (s1 (mm_rt this 33) v2) s1 (fun s_22 => (∀ v2_24 : Int, v2_24 = v2 + 1 → L121 v2_24 s_22)))))) → L121 v2 s1) →
  (∀ (v2 : Int) (s1 : mm_M), ((35 ≤ n32 v2 → (wp_X11_keeps this (s1 this 35) s1 (fun s_25 => L178 0 s_25))) ∧ (¬ 35 ≤ n32 v2 → ((0 ≤ v2 ∧ v2 < 35) ∧ (wp_X11_keeps this (s1 (mm_rt this 34) v2) s1 (fun s_28 => (∀ v2_30 : Int, v2_30 = v2 + 1 → L146 v2_30 s_28)))))) → L146 v2 s1) →
  (∀ (v2 : Int) (s1 : mm_M), ((100 ≤ n32 v2 → post 1 s1) ∧ (¬ 100 ≤ n32 v2 → ((0 ≤ v2 ∧ v2 < 100) ∧ (wp_X11_keeps this (s1 (mm_rt this 36) v2) s1 (fun s_31 => (∀ v2_33 : Int, v2_33 = v2 + 1 → L178 v2_33 s_31)))))) → L178 v2 s1) →
  ((n32 (s0 this 12) = 0 → post 0 s0) ∧ (¬ n32 (s0 this 12) = 0 → (wp_X11_in a1 0 2 s0 (fun r_2 s_1 => ((¬ n32 r_2 = 0 → ((0 ≤ a1 ∧ a1 < 3) ∧ (∀ s_3 : mm_M, s_3 = mm_up s_1 (mm_rt this 41) a1 1 → ((0 ≤ a1 ∧ a1 < 3) ∧ (∀ s_4 : mm_M, s_4 = mm_up s_3 (mm_rt this 43) a1 (s_3 this 37) → (∀ s_5 : mm_M, s_5 = mm_up s_4 this 64 (446 * a1) → (wp_X11_keeps this (s_5 this 28) s_5 (fun s_6 => L54 0 s_6)))))))) ∧ (n32 r_2 = 0 → post 0 s_1))))))
set_option maxRecDepth 100000 in
set_option maxHeartbeats 4000000 in
theorem c_X11_image (l : Launch) (G : mm_G) (this : Nat) (a1 : Int) (h0 : mm_ok this 21 0) (s0 : mm_M) (post : Int → mm_M → Prop) (hw : wp_X11_image this a1 s0 post) : Met l yX11_image (mm_wm yX11_image cX11_image 3 (some .boolean)) (mm_rm 2) (va_Pc [.ref (mm_ad G this), .int (mm_I a1)] (mm_pre G s0)) (mm_Qi G post) 0 0 (mm_A G) := by
  refine mm_met (own := RX11) (by decide) rfl (Nat.le_of_ble_eq_true rfl) ?_
  intro p e s m args below meth c C hr hk
  unfold wp_X11_image at hw
  have hw := hw (fun (v2 : Int) (u : mm_M) => mm_X p l e (mm_rm 2) s m args below meth c (MQ below (mm_Qi G post) args s 0 0 (mm_A G)) G (mm_A G) 3 54 [(0, .ref (mm_ad G this)), (2, .int (mm_I v2))] [] u)
  have hw := hw (fun (v2 : Int) (u : mm_M) => mm_X p l e (mm_rm 2) s m args below meth c (MQ below (mm_Qi G post) args s 0 0 (mm_A G)) G (mm_A G) 3 97 [(0, .ref (mm_ad G this)), (2, .int (mm_I v2))] [] u)
  have hw := hw (fun (v2 : Int) (u : mm_M) => mm_X p l e (mm_rm 2) s m args below meth c (MQ below (mm_Qi G post) args s 0 0 (mm_A G)) G (mm_A G) 3 121 [(0, .ref (mm_ad G this)), (2, .int (mm_I v2))] [] u)
  have hw := hw (fun (v2 : Int) (u : mm_M) => mm_X p l e (mm_rm 2) s m args below meth c (MQ below (mm_Qi G post) args s 0 0 (mm_A G)) G (mm_A G) 3 146 [(0, .ref (mm_ad G this)), (2, .int (mm_I v2))] [] u)
  have hw := hw (fun (v2 : Int) (u : mm_M) => mm_X p l e (mm_rm 2) s m args below meth c (MQ below (mm_Qi G post) args s 0 0 (mm_A G)) G (mm_A G) 3 178 [(0, .ref (mm_ad G this)), (2, .int (mm_I v2))] [] u)
  have hw := hw (by
    intro v2 s1 hw  H locs ls w hl
    refine lv_iload_n (pc := 54) C.1 C.2.1 dX11_image_54 rfl (lv_at hl 1 rfl) ?_
    refine lv_iconst (pc := 55) (v := mm_I 3) C.1 C.2.1 dX11_image_55 rfl ?_
    refine g_icmp_ge (pc := 56) (tgt := 95) C rfl mn_3 dX11_image_56 (by decide) (fun hc => ?_) (fun hc => ?_)
    · have hw := hw.1 hc
      refine lv_iconst (pc := 95) (v := mm_I 0) C.1 C.2.1 dX11_image_95 rfl ?_
      refine lv_istore_n (pc := 96) (lv' := [(2, .int (mm_I 0)), (0, .ref (mm_ad G this))]) C.1 C.2.1 dX11_image_96 rfl hl (by decide) rfl (fun ls hl => ?_)
      exact hw  _ _ _ w (lv_sub hl [1, 0] rfl)
    · have hw := hw.2 hc
      refine lv_aload_n (pc := 59) C.1 C.2.1 dX11_image_59 rfl (lv_at hl 0 rfl) ?_
      refine lv_aload_n (pc := 60) C.1 C.2.1 dX11_image_60 rfl (lv_at hl 0 rfl) ?_
      refine g_getr (pc := 61) C w h0 ff_X11_29 lk_X11_52 dX11_image_61 ?_
      refine lv_iload_n (pc := 64) C.1 C.2.1 dX11_image_64 rfl (lv_at hl 1 rfl) ?_
      obtain ⟨hi, hw⟩ := hw
      refine g_iald (pc := 65) C w (ro_X11_29 h0) hi dX11_image_65 ?_
      refine g_callv (pc := 66) w (mm_runV (ci := 11) (q := (RX11, TX11, 65)) (As := [.int (mm_I (s1 (mm_rt this 29) v2))]) (rest := []) C w (c_X11_keeps l G this (s1 (mm_rt this 29) v2) h0 s1 _ hw) h0 rfl rfl cv_X11_keeps ml_X11_481 ⟨Nat.le_of_ble_eq_true rfl, Nat.le_of_ble_eq_true rfl⟩ ⟨Nat.le_of_ble_eq_true rfl, Nat.le_of_ble_eq_true rfl⟩ rfl hl.1 rfl (Nat.le_of_ble_eq_true rfl) dX11_image_66) (fun s_10 H locs hw w => ?_)
      refine lv_aload_n (pc := 69) C.1 C.2.1 dX11_image_69 rfl (lv_at hl 0 rfl) ?_
      refine lv_aload_n (pc := 70) C.1 C.2.1 dX11_image_70 rfl (lv_at hl 0 rfl) ?_
      refine g_getr (pc := 71) C w h0 ff_X11_30 lk_X11_55 dX11_image_71 ?_
      refine lv_iload_n (pc := 74) C.1 C.2.1 dX11_image_74 rfl (lv_at hl 1 rfl) ?_
      obtain ⟨hi, hw⟩ := hw
      refine g_iald (pc := 75) C w (ro_X11_30 h0) hi dX11_image_75 ?_
      refine g_callv (pc := 76) w (mm_runV (ci := 11) (q := (RX11, TX11, 65)) (As := [.int (mm_I (s_10 (mm_rt this 30) v2))]) (rest := []) C w (c_X11_keeps l G this (s_10 (mm_rt this 30) v2) h0 s_10 _ hw) h0 rfl rfl cv_X11_keeps ml_X11_481 ⟨Nat.le_of_ble_eq_true rfl, Nat.le_of_ble_eq_true rfl⟩ ⟨Nat.le_of_ble_eq_true rfl, Nat.le_of_ble_eq_true rfl⟩ rfl hl.1 rfl (Nat.le_of_ble_eq_true rfl) dX11_image_76) (fun s_12 H locs hw w => ?_)
      refine lv_aload_n (pc := 79) C.1 C.2.1 dX11_image_79 rfl (lv_at hl 0 rfl) ?_
      refine lv_aload_n (pc := 80) C.1 C.2.1 dX11_image_80 rfl (lv_at hl 0 rfl) ?_
      refine g_getr (pc := 81) C w h0 ff_X11_31 lk_X11_58 dX11_image_81 ?_
      refine lv_iload_n (pc := 84) C.1 C.2.1 dX11_image_84 rfl (lv_at hl 1 rfl) ?_
      obtain ⟨hi, hw⟩ := hw
      refine g_iald (pc := 85) C w (ro_X11_31 h0) hi dX11_image_85 ?_
      refine g_callv (pc := 86) w (mm_runV (ci := 11) (q := (RX11, TX11, 65)) (As := [.int (mm_I (s_12 (mm_rt this 31) v2))]) (rest := []) C w (c_X11_keeps l G this (s_12 (mm_rt this 31) v2) h0 s_12 _ hw) h0 rfl rfl cv_X11_keeps ml_X11_481 ⟨Nat.le_of_ble_eq_true rfl, Nat.le_of_ble_eq_true rfl⟩ ⟨Nat.le_of_ble_eq_true rfl, Nat.le_of_ble_eq_true rfl⟩ rfl hl.1 rfl (Nat.le_of_ble_eq_true rfl) dX11_image_86) (fun s_14 H locs hw w => ?_)
      refine g_iinc (pc := 89) (k := 1) C dX11_image_89 hl rfl (by decide) (fun v2_16 ev2_16 ls hl => ?_)
      have hw := hw v2_16 ev2_16
      have hl : lv_has ls 3 [(2, .int (mm_I v2_16)), (0, .ref (mm_ad G this))] := hl
      refine lv_goto (pc := 92) (tgt := 54) C.1 C.2.1 dX11_image_92 (by decide) ?_
      exact hw  _ _ _ w (lv_sub hl [1, 0] rfl))
  have hw := hw (by
    intro v2 s1 hw  H locs ls w hl
    refine lv_iload_n (pc := 97) C.1 C.2.1 dX11_image_97 rfl (lv_at hl 1 rfl) ?_
    refine lv_bipush (pc := 98) C.1 C.2.1 dX11_image_98 mb_90 ?_
    refine g_icmp_ge (pc := 100) (tgt := 119) C rfl mn_90 dX11_image_100 (by decide) (fun hc => ?_) (fun hc => ?_)
    · have hw := hw.1 hc
      refine lv_iconst (pc := 119) (v := mm_I 0) C.1 C.2.1 dX11_image_119 rfl ?_
      refine lv_istore_n (pc := 120) (lv' := [(2, .int (mm_I 0)), (0, .ref (mm_ad G this))]) C.1 C.2.1 dX11_image_120 rfl hl (by decide) rfl (fun ls hl => ?_)
      exact hw  _ _ _ w (lv_sub hl [1, 0] rfl)
    · have hw := hw.2 hc
      refine lv_aload_n (pc := 103) C.1 C.2.1 dX11_image_103 rfl (lv_at hl 0 rfl) ?_
      refine lv_aload_n (pc := 104) C.1 C.2.1 dX11_image_104 rfl (lv_at hl 0 rfl) ?_
      refine g_getr (pc := 105) C w h0 ff_X11_32 lk_X11_61 dX11_image_105 ?_
      refine lv_iload_n (pc := 108) C.1 C.2.1 dX11_image_108 rfl (lv_at hl 1 rfl) ?_
      obtain ⟨hi, hw⟩ := hw
      refine g_iald (pc := 109) C w (ro_X11_32 h0) hi dX11_image_109 ?_
      refine g_callv (pc := 110) w (mm_runV (ci := 11) (q := (RX11, TX11, 65)) (As := [.int (mm_I (s1 (mm_rt this 32) v2))]) (rest := []) C w (c_X11_keeps l G this (s1 (mm_rt this 32) v2) h0 s1 _ hw) h0 rfl rfl cv_X11_keeps ml_X11_481 ⟨Nat.le_of_ble_eq_true rfl, Nat.le_of_ble_eq_true rfl⟩ ⟨Nat.le_of_ble_eq_true rfl, Nat.le_of_ble_eq_true rfl⟩ rfl hl.1 rfl (Nat.le_of_ble_eq_true rfl) dX11_image_110) (fun s_18 H locs hw w => ?_)
      refine g_iinc (pc := 113) (k := 1) C dX11_image_113 hl rfl (by decide) (fun v2_20 ev2_20 ls hl => ?_)
      have hw := hw v2_20 ev2_20
      have hl : lv_has ls 3 [(2, .int (mm_I v2_20)), (0, .ref (mm_ad G this))] := hl
      refine lv_goto (pc := 116) (tgt := 97) C.1 C.2.1 dX11_image_116 (by decide) ?_
      exact hw  _ _ _ w (lv_sub hl [1, 0] rfl))
  have hw := hw (by
    intro v2 s1 hw  H locs ls w hl
    refine lv_iload_n (pc := 121) C.1 C.2.1 dX11_image_121 rfl (lv_at hl 1 rfl) ?_
    refine lv_sipush (pc := 122) C.1 C.2.1 dX11_image_122 ms_210 ?_
    refine g_icmp_ge (pc := 125) (tgt := 144) C rfl mn_210 dX11_image_125 (by decide) (fun hc => ?_) (fun hc => ?_)
    · have hw := hw.1 hc
      refine lv_iconst (pc := 144) (v := mm_I 0) C.1 C.2.1 dX11_image_144 rfl ?_
      refine lv_istore_n (pc := 145) (lv' := [(2, .int (mm_I 0)), (0, .ref (mm_ad G this))]) C.1 C.2.1 dX11_image_145 rfl hl (by decide) rfl (fun ls hl => ?_)
      exact hw  _ _ _ w (lv_sub hl [1, 0] rfl)
    · have hw := hw.2 hc
      refine lv_aload_n (pc := 128) C.1 C.2.1 dX11_image_128 rfl (lv_at hl 0 rfl) ?_
      refine lv_aload_n (pc := 129) C.1 C.2.1 dX11_image_129 rfl (lv_at hl 0 rfl) ?_
      refine g_getr (pc := 130) C w h0 ff_X11_33 lk_X11_64 dX11_image_130 ?_
      refine lv_iload_n (pc := 133) C.1 C.2.1 dX11_image_133 rfl (lv_at hl 1 rfl) ?_
      obtain ⟨hi, hw⟩ := hw
      refine g_iald (pc := 134) C w (ro_X11_33 h0) hi dX11_image_134 ?_
      refine g_callv (pc := 135) w (mm_runV (ci := 11) (q := (RX11, TX11, 65)) (As := [.int (mm_I (s1 (mm_rt this 33) v2))]) (rest := []) C w (c_X11_keeps l G this (s1 (mm_rt this 33) v2) h0 s1 _ hw) h0 rfl rfl cv_X11_keeps ml_X11_481 ⟨Nat.le_of_ble_eq_true rfl, Nat.le_of_ble_eq_true rfl⟩ ⟨Nat.le_of_ble_eq_true rfl, Nat.le_of_ble_eq_true rfl⟩ rfl hl.1 rfl (Nat.le_of_ble_eq_true rfl) dX11_image_135) (fun s_22 H locs hw w => ?_)
      refine g_iinc (pc := 138) (k := 1) C dX11_image_138 hl rfl (by decide) (fun v2_24 ev2_24 ls hl => ?_)
      have hw := hw v2_24 ev2_24
      have hl : lv_has ls 3 [(2, .int (mm_I v2_24)), (0, .ref (mm_ad G this))] := hl
      refine lv_goto (pc := 141) (tgt := 121) C.1 C.2.1 dX11_image_141 (by decide) ?_
      exact hw  _ _ _ w (lv_sub hl [1, 0] rfl))
  have hw := hw (by
    intro v2 s1 hw  H locs ls w hl
    refine lv_iload_n (pc := 146) C.1 C.2.1 dX11_image_146 rfl (lv_at hl 1 rfl) ?_
    refine lv_bipush (pc := 147) C.1 C.2.1 dX11_image_147 mb_35 ?_
    refine g_icmp_ge (pc := 149) (tgt := 168) C rfl mn_35 dX11_image_149 (by decide) (fun hc => ?_) (fun hc => ?_)
    · have hw := hw.1 hc
      refine lv_aload_n (pc := 168) C.1 C.2.1 dX11_image_168 rfl (lv_at hl 0 rfl) ?_
      refine lv_aload_n (pc := 169) C.1 C.2.1 dX11_image_169 rfl (lv_at hl 0 rfl) ?_
      refine g_geti (pc := 170) C w h0 ff_X11_35 lk_X11_303 dX11_image_170 ?_
      refine g_callv (pc := 173) w (mm_runV (ci := 11) (q := (RX11, TX11, 65)) (As := [.int (mm_I (s1 this 35))]) (rest := []) C w (c_X11_keeps l G this (s1 this 35) h0 s1 _ hw) h0 rfl rfl cv_X11_keeps ml_X11_481 ⟨Nat.le_of_ble_eq_true rfl, Nat.le_of_ble_eq_true rfl⟩ ⟨Nat.le_of_ble_eq_true rfl, Nat.le_of_ble_eq_true rfl⟩ rfl hl.1 rfl (Nat.le_of_ble_eq_true rfl) dX11_image_173) (fun s_25 H locs hw w => ?_)
      refine lv_iconst (pc := 176) (v := mm_I 0) C.1 C.2.1 dX11_image_176 rfl ?_
      refine lv_istore_n (pc := 177) (lv' := [(2, .int (mm_I 0)), (0, .ref (mm_ad G this))]) C.1 C.2.1 dX11_image_177 rfl hl (by decide) rfl (fun ls hl => ?_)
      exact hw  _ _ _ w (lv_sub hl [1, 0] rfl)
    · have hw := hw.2 hc
      refine lv_aload_n (pc := 152) C.1 C.2.1 dX11_image_152 rfl (lv_at hl 0 rfl) ?_
      refine lv_aload_n (pc := 153) C.1 C.2.1 dX11_image_153 rfl (lv_at hl 0 rfl) ?_
      refine g_getr (pc := 154) C w h0 ff_X11_34 lk_X11_67 dX11_image_154 ?_
      refine lv_iload_n (pc := 157) C.1 C.2.1 dX11_image_157 rfl (lv_at hl 1 rfl) ?_
      obtain ⟨hi, hw⟩ := hw
      refine g_iald (pc := 158) C w (ro_X11_34 h0) hi dX11_image_158 ?_
      refine g_callv (pc := 159) w (mm_runV (ci := 11) (q := (RX11, TX11, 65)) (As := [.int (mm_I (s1 (mm_rt this 34) v2))]) (rest := []) C w (c_X11_keeps l G this (s1 (mm_rt this 34) v2) h0 s1 _ hw) h0 rfl rfl cv_X11_keeps ml_X11_481 ⟨Nat.le_of_ble_eq_true rfl, Nat.le_of_ble_eq_true rfl⟩ ⟨Nat.le_of_ble_eq_true rfl, Nat.le_of_ble_eq_true rfl⟩ rfl hl.1 rfl (Nat.le_of_ble_eq_true rfl) dX11_image_159) (fun s_28 H locs hw w => ?_)
      refine g_iinc (pc := 162) (k := 1) C dX11_image_162 hl rfl (by decide) (fun v2_30 ev2_30 ls hl => ?_)
      have hw := hw v2_30 ev2_30
      have hl : lv_has ls 3 [(2, .int (mm_I v2_30)), (0, .ref (mm_ad G this))] := hl
      refine lv_goto (pc := 165) (tgt := 146) C.1 C.2.1 dX11_image_165 (by decide) ?_
      exact hw  _ _ _ w (lv_sub hl [1, 0] rfl))
  have hw := hw (by
    intro v2 s1 hw  H locs ls w hl
    refine lv_iload_n (pc := 178) C.1 C.2.1 dX11_image_178 rfl (lv_at hl 1 rfl) ?_
    refine lv_bipush (pc := 179) C.1 C.2.1 dX11_image_179 mb_100 ?_
    refine g_icmp_ge (pc := 181) (tgt := 200) C rfl mn_100 dX11_image_181 (by decide) (fun hc => ?_) (fun hc => ?_)
    · have hw := hw.1 hc
      refine lv_iconst (pc := 200) (v := mm_I 1) C.1 C.2.1 dX11_image_200 rfl ?_
      exact g_zret (pc := 201) C w hr hk (by decide) hw dX11_image_201
    · have hw := hw.2 hc
      refine lv_aload_n (pc := 184) C.1 C.2.1 dX11_image_184 rfl (lv_at hl 0 rfl) ?_
      refine lv_aload_n (pc := 185) C.1 C.2.1 dX11_image_185 rfl (lv_at hl 0 rfl) ?_
      refine g_getr (pc := 186) C w h0 ff_X11_36 lk_X11_70 dX11_image_186 ?_
      refine lv_iload_n (pc := 189) C.1 C.2.1 dX11_image_189 rfl (lv_at hl 1 rfl) ?_
      obtain ⟨hi, hw⟩ := hw
      refine g_iald (pc := 190) C w (ro_X11_36 h0) hi dX11_image_190 ?_
      refine g_callv (pc := 191) w (mm_runV (ci := 11) (q := (RX11, TX11, 65)) (As := [.int (mm_I (s1 (mm_rt this 36) v2))]) (rest := []) C w (c_X11_keeps l G this (s1 (mm_rt this 36) v2) h0 s1 _ hw) h0 rfl rfl cv_X11_keeps ml_X11_481 ⟨Nat.le_of_ble_eq_true rfl, Nat.le_of_ble_eq_true rfl⟩ ⟨Nat.le_of_ble_eq_true rfl, Nat.le_of_ble_eq_true rfl⟩ rfl hl.1 rfl (Nat.le_of_ble_eq_true rfl) dX11_image_191) (fun s_31 H locs hw w => ?_)
      refine g_iinc (pc := 194) (k := 1) C dX11_image_194 hl rfl (by decide) (fun v2_33 ev2_33 ls hl => ?_)
      have hw := hw v2_33 ev2_33
      have hl : lv_has ls 3 [(2, .int (mm_I v2_33)), (0, .ref (mm_ad G this))] := hl
      refine lv_goto (pc := 197) (tgt := 178) C.1 C.2.1 dX11_image_197 (by decide) ?_
      exact hw  _ _ _ w (lv_sub hl [1, 0] rfl))
  intro H locs ls w hl
  have hl : lv_has ls 3 [(0, .ref (mm_ad G this)), (1, .int (mm_I a1))] := hl
  refine lv_aload_n (pc := 0) C.1 C.2.1 dX11_image_0 rfl (lv_at hl 0 rfl) ?_
  refine g_geti (pc := 1) C w h0 ff_X11_12 lk_X11_288 dX11_image_1 ?_
  refine g_if_eq (pc := 4) (tgt := 16) C rfl dX11_image_4 (by decide) (fun hc => ?_) (fun hc => ?_)
  · have hw := hw.1 hc
    refine lv_iconst (pc := 16) (v := mm_I 0) C.1 C.2.1 dX11_image_16 rfl ?_
    exact g_zret (pc := 17) C w hr hk (by decide) hw dX11_image_17
  · have hw := hw.2 hc
    refine lv_iload_n (pc := 7) C.1 C.2.1 dX11_image_7 rfl (lv_at hl 1 rfl) ?_
    refine lv_iconst (pc := 8) (v := mm_I 0) C.1 C.2.1 dX11_image_8 rfl ?_
    refine lv_iconst (pc := 9) (v := mm_I 2) C.1 C.2.1 dX11_image_9 rfl ?_
    refine g_calli (pc := 10) w (mm_runS (As := [.int (mm_I a1), .int (mm_I 0), .int (mm_I 2)]) (rest := []) C w (c_X11_in l G a1 0 2  s0 _ hw) cs_X11_in ml_X11_122 ⟨Nat.le_of_ble_eq_true rfl, Nat.le_of_ble_eq_true rfl⟩ ⟨Nat.le_of_ble_eq_true rfl, Nat.le_of_ble_eq_true rfl⟩ rfl hl.1 rfl (Nat.le_of_ble_eq_true rfl) dX11_image_10) (fun r_2 s_1 H locs hw w => ?_)
    refine g_if_ne (pc := 13) (tgt := 18) C rfl dX11_image_13 (by decide) (fun hc => ?_) (fun hc => ?_)
    · have hw := hw.1 hc
      refine lv_aload_n (pc := 18) C.1 C.2.1 dX11_image_18 rfl (lv_at hl 0 rfl) ?_
      refine g_getr (pc := 19) C w h0 ff_X11_41 lk_X11_79 dX11_image_19 ?_
      refine lv_iload_n (pc := 22) C.1 C.2.1 dX11_image_22 rfl (lv_at hl 1 rfl) ?_
      refine lv_iconst (pc := 23) (v := mm_I 1) C.1 C.2.1 dX11_image_23 rfl ?_
      obtain ⟨hi, hw⟩ := hw
      refine g_zast (pc := 24) C w (ro_X11_41 h0) hi (by decide) dX11_image_24 (fun s_3 H locs es_3 w => ?_)
      have hw := hw s_3 es_3
      refine lv_aload_n (pc := 25) C.1 C.2.1 dX11_image_25 rfl (lv_at hl 0 rfl) ?_
      refine g_getr (pc := 26) C w h0 ff_X11_43 lk_X11_85 dX11_image_26 ?_
      refine lv_iload_n (pc := 29) C.1 C.2.1 dX11_image_29 rfl (lv_at hl 1 rfl) ?_
      refine lv_aload_n (pc := 30) C.1 C.2.1 dX11_image_30 rfl (lv_at hl 0 rfl) ?_
      refine g_getl (pc := 31) C w h0 ff_X11_37 lk_X11_306 dX11_image_31 ?_
      obtain ⟨hi, hw⟩ := hw
      refine g_last (pc := 34) C w (ro_X11_43 h0) hi  dX11_image_34 (fun s_4 H locs es_4 w => ?_)
      have hw := hw s_4 es_4
      refine lv_aload_n (pc := 35) C.1 C.2.1 dX11_image_35 rfl (lv_at hl 0 rfl) ?_
      refine lv_sipush (pc := 36) C.1 C.2.1 dX11_image_36 ms_446 ?_
      refine lv_iload_n (pc := 39) C.1 C.2.1 dX11_image_39 rfl (lv_at hl 1 rfl) ?_
      refine g_imul (pc := 40) C dX11_image_40 ?_
      refine g_puti (pc := 41) C w h0 ff_X11_64 fw_X11_64 lk_X11_478 dX11_image_41 (fun s_5 H locs es_5 w => ?_)
      have hw := hw s_5 es_5
      refine lv_aload_n (pc := 44) C.1 C.2.1 dX11_image_44 rfl (lv_at hl 0 rfl) ?_
      refine lv_aload_n (pc := 45) C.1 C.2.1 dX11_image_45 rfl (lv_at hl 0 rfl) ?_
      refine g_geti (pc := 46) C w h0 ff_X11_28 lk_X11_301 dX11_image_46 ?_
      refine g_callv (pc := 49) w (mm_runV (ci := 11) (q := (RX11, TX11, 65)) (As := [.int (mm_I (s_5 this 28))]) (rest := []) C w (c_X11_keeps l G this (s_5 this 28) h0 s_5 _ hw) h0 rfl rfl cv_X11_keeps ml_X11_481 ⟨Nat.le_of_ble_eq_true rfl, Nat.le_of_ble_eq_true rfl⟩ ⟨Nat.le_of_ble_eq_true rfl, Nat.le_of_ble_eq_true rfl⟩ rfl hl.1 rfl (Nat.le_of_ble_eq_true rfl) dX11_image_49) (fun s_6 H locs hw w => ?_)
      refine lv_iconst (pc := 52) (v := mm_I 0) C.1 C.2.1 dX11_image_52 rfl ?_
      refine lv_istore_n (pc := 53) (lv' := [(2, .int (mm_I 0)), (0, .ref (mm_ad G this)), (1, .int (mm_I a1))]) C.1 C.2.1 dX11_image_53 rfl hl (by decide) rfl (fun ls hl => ?_)
      exact hw  _ _ _ w (lv_sub hl [1, 0] rfl)
    · have hw := hw.2 hc
      refine lv_iconst (pc := 16) (v := mm_I 0) C.1 C.2.1 dX11_image_16 rfl ?_
      exact g_zret (pc := 17) C w hr hk (by decide) hw dX11_image_17
theorem cv_X11_kept : mm_V yX11_kept cX11_kept 1 (some .int) 0 := ⟨(mt_8 85 rfl rfl), (mt_8 84 rfl rfl), (mp_7 2 rfl rfl), (mt_1 12 rfl rfl), by decide, by decide, by decide +kernel⟩
theorem ml_X11_484 : Cond.methodLink RX11 484 yX11_kept ∈ mm_ws := (mt_8 82 rfl rfl)
def wp_X11_on (this : Nat) (a1 : Int) (s0 : mm_M) (post : Int → mm_M → Prop) : Prop :=
  ∀ (L49 : Int → mm_M → Prop), ∀ (L92 : Int → mm_M → Prop), ∀ (L116 : Int → mm_M → Prop), ∀ (L141 : Int → mm_M → Prop), ∀ (L173 : Int → mm_M → Prop), 
  (∀ (v2 : Int) (s1 : mm_M), ((3 ≤ n32 v2 → L92 0 s1) ∧ (¬ 3 ≤ n32 v2 → (wp_X11_kept this s1 (fun r_11 s_10 => ((0 ≤ v2 ∧ v2 < 3) ∧ (∀ s_12 : mm_M, s_12 = mm_up s_10 (mm_rt this 29) v2 r_11 → (wp_X11_kept this s_12 (fun r_14 s_13 => ((0 ≤ v2 ∧ v2 < 3) ∧ (∀ s_15 : mm_M, s_15 = mm_up s_13 (mm_rt this 30) v2 r_14 → (wp_X11_kept this s_15 (fun r_17 s_16 => ((0 ≤ v2 ∧ v2 < 3) ∧ (∀ s_18 : mm_M, s_18 = mm_up s_16 (mm_rt this 31) v2 r_17 → (∀ v2_19 : Int, v2_19 = v2 + 1 → L49 v2_19 s_18))))))))))))))) → L49 v2 s1) →
  (∀ (v2 : Int) (s1 : mm_M), ((90 ≤ n32 v2 → L116 0 s1) ∧ (¬ 90 ≤ n32 v2 → (wp_X11_kept this s1 (fun r_22 s_21 => ((0 ≤ v2 ∧ v2 < 90) ∧ (∀ s_23 : mm_M, s_23 = mm_up s_21 (mm_rt this 32) v2 r_22 → (∀ v2_24 : Int, v2_24 = v2 + 1 → L92 v2_24 s_23))))))) → L92 v2 s1) →
  (∀ (v2 : Int) (s1 : mm_M), ((210 ≤ n32 v2 → L141 0 s1) ∧ (¬ 210 ≤ n32 v2 → (wp_X11_kept this s1 (fun r_27 s_26 => ((0 ≤ v2 ∧ v2 < 210) ∧ (∀ s_28 : mm_M, s_28 = mm_up s_26 (mm_rt this 33) v2 r_27 → (∀ v2_29 : Int, v2_29 = v2 + 1 → L116 v2_29 s_28))))))) → L116 v2 s1) →
  (∀ (v2 : Int) (s1 : mm_M), ((35 ≤ n32 v2 → (wp_X11_kept this s1 (fun r_31 s_30 => (∀ s_32 : mm_M, s_32 = mm_up s_30 this 35 r_31 → L173 0 s_32)))) ∧ (¬ 35 ≤ n32 v2 → (wp_X11_kept this s1 (fun r_35 s_34 => ((0 ≤ v2 ∧ v2 < 35) ∧ (∀ s_36 : mm_M, s_36 = mm_up s_34 (mm_rt this 34) v2 r_35 → (∀ v2_37 : Int, v2_37 = v2 + 1 → L141 v2_37 s_36))))))) → L141 v2 s1) →
  (∀ (v2 : Int) (s1 : mm_M), ((100 ≤ n32 v2 → post 1 s1) ∧ (¬ 100 ≤ n32 v2 → (wp_X11_kept this s1 (fun r_39 s_38 => ((0 ≤ v2 ∧ v2 < 100) ∧ (∀ s_40 : mm_M, s_40 = mm_up s_38 (mm_rt this 36) v2 r_39 → (∀ v2_41 : Int, v2_41 = v2 + 1 → L173 v2_41 s_40))))))) → L173 v2 s1) →
  (wp_X11_in a1 0 2 s0 (fun r_2 s_1 => ((n32 r_2 = 0 → post 0 s_1) ∧ (¬ n32 r_2 = 0 → ((0 ≤ a1 ∧ a1 < 3) ∧ ((¬ n32 (s_1 (mm_rt this 41) a1) = 0 → ((0 ≤ a1 ∧ a1 < 3) ∧ (∀ s_3 : mm_M, s_3 = mm_up s_1 this 37 (s_1 (mm_rt this 43) a1) → (∀ s_4 : mm_M, s_4 = mm_up s_3 this 64 (446 * a1) → (wp_X11_kept this s_4 (fun r_6 s_5 => (∀ s_7 : mm_M, s_7 = mm_up s_5 this 28 r_6 → L49 0 s_7))))))) ∧ (n32 (s_1 (mm_rt this 41) a1) = 0 → post 0 s_1)))))))
set_option maxRecDepth 100000 in
set_option maxHeartbeats 4000000 in
theorem c_X11_on (l : Launch) (G : mm_G) (this : Nat) (a1 : Int) (h0 : mm_ok this 21 0) (s0 : mm_M) (post : Int → mm_M → Prop) (hw : wp_X11_on this a1 s0 post) : Met l yX11_on (mm_wm yX11_on cX11_on 3 (some .boolean)) (mm_rm 2) (va_Pc [.ref (mm_ad G this), .int (mm_I a1)] (mm_pre G s0)) (mm_Qi G post) 0 0 (mm_A G) := by
  refine mm_met (own := RX11) (by decide) rfl (Nat.le_of_ble_eq_true rfl) ?_
  intro p e s m args below meth c C hr hk
  unfold wp_X11_on at hw
  have hw := hw (fun (v2 : Int) (u : mm_M) => mm_X p l e (mm_rm 2) s m args below meth c (MQ below (mm_Qi G post) args s 0 0 (mm_A G)) G (mm_A G) 3 49 [(0, .ref (mm_ad G this)), (2, .int (mm_I v2))] [] u)
  have hw := hw (fun (v2 : Int) (u : mm_M) => mm_X p l e (mm_rm 2) s m args below meth c (MQ below (mm_Qi G post) args s 0 0 (mm_A G)) G (mm_A G) 3 92 [(0, .ref (mm_ad G this)), (2, .int (mm_I v2))] [] u)
  have hw := hw (fun (v2 : Int) (u : mm_M) => mm_X p l e (mm_rm 2) s m args below meth c (MQ below (mm_Qi G post) args s 0 0 (mm_A G)) G (mm_A G) 3 116 [(0, .ref (mm_ad G this)), (2, .int (mm_I v2))] [] u)
  have hw := hw (fun (v2 : Int) (u : mm_M) => mm_X p l e (mm_rm 2) s m args below meth c (MQ below (mm_Qi G post) args s 0 0 (mm_A G)) G (mm_A G) 3 141 [(0, .ref (mm_ad G this)), (2, .int (mm_I v2))] [] u)
  have hw := hw (fun (v2 : Int) (u : mm_M) => mm_X p l e (mm_rm 2) s m args below meth c (MQ below (mm_Qi G post) args s 0 0 (mm_A G)) G (mm_A G) 3 173 [(0, .ref (mm_ad G this)), (2, .int (mm_I v2))] [] u)
  have hw := hw (by
    intro v2 s1 hw  H locs ls w hl
    refine lv_iload_n (pc := 49) C.1 C.2.1 dX11_on_49 rfl (lv_at hl 1 rfl) ?_
    refine lv_iconst (pc := 50) (v := mm_I 3) C.1 C.2.1 dX11_on_50 rfl ?_
    refine g_icmp_ge (pc := 51) (tgt := 90) C rfl mn_3 dX11_on_51 (by decide) (fun hc => ?_) (fun hc => ?_)
    · have hw := hw.1 hc
      refine lv_iconst (pc := 90) (v := mm_I 0) C.1 C.2.1 dX11_on_90 rfl ?_
      refine lv_istore_n (pc := 91) (lv' := [(2, .int (mm_I 0)), (0, .ref (mm_ad G this))]) C.1 C.2.1 dX11_on_91 rfl hl (by decide) rfl (fun ls hl => ?_)
      exact hw  _ _ _ w (lv_sub hl [1, 0] rfl)
    · have hw := hw.2 hc
      refine lv_aload_n (pc := 54) C.1 C.2.1 dX11_on_54 rfl (lv_at hl 0 rfl) ?_
      refine g_getr (pc := 55) C w h0 ff_X11_29 lk_X11_52 dX11_on_55 ?_
      refine lv_iload_n (pc := 58) C.1 C.2.1 dX11_on_58 rfl (lv_at hl 1 rfl) ?_
      refine lv_aload_n (pc := 59) C.1 C.2.1 dX11_on_59 rfl (lv_at hl 0 rfl) ?_
      refine g_calli (pc := 60) w (mm_runV (ci := 11) (q := (RX11, TX11, 65)) (As := []) (rest := [.int (mm_I v2), .ref (mm_ad G (mm_rt this 29))]) C w (c_X11_kept l G this h0 s1 _ hw) h0 rfl rfl cv_X11_kept ml_X11_484 ⟨Nat.le_of_ble_eq_true rfl, Nat.le_of_ble_eq_true rfl⟩ ⟨Nat.le_of_ble_eq_true rfl, Nat.le_of_ble_eq_true rfl⟩ rfl hl.1 rfl (Nat.le_of_ble_eq_true rfl) dX11_on_60) (fun r_11 s_10 H locs hw w => ?_)
      obtain ⟨hi, hw⟩ := hw
      refine g_iast (pc := 63) C w (ro_X11_29 h0) hi  dX11_on_63 (fun s_12 H locs es_12 w => ?_)
      have hw := hw s_12 es_12
      refine lv_aload_n (pc := 64) C.1 C.2.1 dX11_on_64 rfl (lv_at hl 0 rfl) ?_
      refine g_getr (pc := 65) C w h0 ff_X11_30 lk_X11_55 dX11_on_65 ?_
      refine lv_iload_n (pc := 68) C.1 C.2.1 dX11_on_68 rfl (lv_at hl 1 rfl) ?_
      refine lv_aload_n (pc := 69) C.1 C.2.1 dX11_on_69 rfl (lv_at hl 0 rfl) ?_
      refine g_calli (pc := 70) w (mm_runV (ci := 11) (q := (RX11, TX11, 65)) (As := []) (rest := [.int (mm_I v2), .ref (mm_ad G (mm_rt this 30))]) C w (c_X11_kept l G this h0 s_12 _ hw) h0 rfl rfl cv_X11_kept ml_X11_484 ⟨Nat.le_of_ble_eq_true rfl, Nat.le_of_ble_eq_true rfl⟩ ⟨Nat.le_of_ble_eq_true rfl, Nat.le_of_ble_eq_true rfl⟩ rfl hl.1 rfl (Nat.le_of_ble_eq_true rfl) dX11_on_70) (fun r_14 s_13 H locs hw w => ?_)
      obtain ⟨hi, hw⟩ := hw
      refine g_iast (pc := 73) C w (ro_X11_30 h0) hi  dX11_on_73 (fun s_15 H locs es_15 w => ?_)
      have hw := hw s_15 es_15
      refine lv_aload_n (pc := 74) C.1 C.2.1 dX11_on_74 rfl (lv_at hl 0 rfl) ?_
      refine g_getr (pc := 75) C w h0 ff_X11_31 lk_X11_58 dX11_on_75 ?_
      refine lv_iload_n (pc := 78) C.1 C.2.1 dX11_on_78 rfl (lv_at hl 1 rfl) ?_
      refine lv_aload_n (pc := 79) C.1 C.2.1 dX11_on_79 rfl (lv_at hl 0 rfl) ?_
      refine g_calli (pc := 80) w (mm_runV (ci := 11) (q := (RX11, TX11, 65)) (As := []) (rest := [.int (mm_I v2), .ref (mm_ad G (mm_rt this 31))]) C w (c_X11_kept l G this h0 s_15 _ hw) h0 rfl rfl cv_X11_kept ml_X11_484 ⟨Nat.le_of_ble_eq_true rfl, Nat.le_of_ble_eq_true rfl⟩ ⟨Nat.le_of_ble_eq_true rfl, Nat.le_of_ble_eq_true rfl⟩ rfl hl.1 rfl (Nat.le_of_ble_eq_true rfl) dX11_on_80) (fun r_17 s_16 H locs hw w => ?_)
      obtain ⟨hi, hw⟩ := hw
      refine g_iast (pc := 83) C w (ro_X11_31 h0) hi  dX11_on_83 (fun s_18 H locs es_18 w => ?_)
      have hw := hw s_18 es_18
      refine g_iinc (pc := 84) (k := 1) C dX11_on_84 hl rfl (by decide) (fun v2_19 ev2_19 ls hl => ?_)
      have hw := hw v2_19 ev2_19
      have hl : lv_has ls 3 [(2, .int (mm_I v2_19)), (0, .ref (mm_ad G this))] := hl
      refine lv_goto (pc := 87) (tgt := 49) C.1 C.2.1 dX11_on_87 (by decide) ?_
      exact hw  _ _ _ w (lv_sub hl [1, 0] rfl))
  have hw := hw (by
    intro v2 s1 hw  H locs ls w hl
    refine lv_iload_n (pc := 92) C.1 C.2.1 dX11_on_92 rfl (lv_at hl 1 rfl) ?_
    refine lv_bipush (pc := 93) C.1 C.2.1 dX11_on_93 mb_90 ?_
    refine g_icmp_ge (pc := 95) (tgt := 114) C rfl mn_90 dX11_on_95 (by decide) (fun hc => ?_) (fun hc => ?_)
    · have hw := hw.1 hc
      refine lv_iconst (pc := 114) (v := mm_I 0) C.1 C.2.1 dX11_on_114 rfl ?_
      refine lv_istore_n (pc := 115) (lv' := [(2, .int (mm_I 0)), (0, .ref (mm_ad G this))]) C.1 C.2.1 dX11_on_115 rfl hl (by decide) rfl (fun ls hl => ?_)
      exact hw  _ _ _ w (lv_sub hl [1, 0] rfl)
    · have hw := hw.2 hc
      refine lv_aload_n (pc := 98) C.1 C.2.1 dX11_on_98 rfl (lv_at hl 0 rfl) ?_
      refine g_getr (pc := 99) C w h0 ff_X11_32 lk_X11_61 dX11_on_99 ?_
      refine lv_iload_n (pc := 102) C.1 C.2.1 dX11_on_102 rfl (lv_at hl 1 rfl) ?_
      refine lv_aload_n (pc := 103) C.1 C.2.1 dX11_on_103 rfl (lv_at hl 0 rfl) ?_
      refine g_calli (pc := 104) w (mm_runV (ci := 11) (q := (RX11, TX11, 65)) (As := []) (rest := [.int (mm_I v2), .ref (mm_ad G (mm_rt this 32))]) C w (c_X11_kept l G this h0 s1 _ hw) h0 rfl rfl cv_X11_kept ml_X11_484 ⟨Nat.le_of_ble_eq_true rfl, Nat.le_of_ble_eq_true rfl⟩ ⟨Nat.le_of_ble_eq_true rfl, Nat.le_of_ble_eq_true rfl⟩ rfl hl.1 rfl (Nat.le_of_ble_eq_true rfl) dX11_on_104) (fun r_22 s_21 H locs hw w => ?_)
      obtain ⟨hi, hw⟩ := hw
      refine g_iast (pc := 107) C w (ro_X11_32 h0) hi  dX11_on_107 (fun s_23 H locs es_23 w => ?_)
      have hw := hw s_23 es_23
      refine g_iinc (pc := 108) (k := 1) C dX11_on_108 hl rfl (by decide) (fun v2_24 ev2_24 ls hl => ?_)
      have hw := hw v2_24 ev2_24
      have hl : lv_has ls 3 [(2, .int (mm_I v2_24)), (0, .ref (mm_ad G this))] := hl
      refine lv_goto (pc := 111) (tgt := 92) C.1 C.2.1 dX11_on_111 (by decide) ?_
      exact hw  _ _ _ w (lv_sub hl [1, 0] rfl))
  have hw := hw (by
    intro v2 s1 hw  H locs ls w hl
    refine lv_iload_n (pc := 116) C.1 C.2.1 dX11_on_116 rfl (lv_at hl 1 rfl) ?_
    refine lv_sipush (pc := 117) C.1 C.2.1 dX11_on_117 ms_210 ?_
    refine g_icmp_ge (pc := 120) (tgt := 139) C rfl mn_210 dX11_on_120 (by decide) (fun hc => ?_) (fun hc => ?_)
    · have hw := hw.1 hc
      refine lv_iconst (pc := 139) (v := mm_I 0) C.1 C.2.1 dX11_on_139 rfl ?_
      refine lv_istore_n (pc := 140) (lv' := [(2, .int (mm_I 0)), (0, .ref (mm_ad G this))]) C.1 C.2.1 dX11_on_140 rfl hl (by decide) rfl (fun ls hl => ?_)
      exact hw  _ _ _ w (lv_sub hl [1, 0] rfl)
    · have hw := hw.2 hc
      refine lv_aload_n (pc := 123) C.1 C.2.1 dX11_on_123 rfl (lv_at hl 0 rfl) ?_
      refine g_getr (pc := 124) C w h0 ff_X11_33 lk_X11_64 dX11_on_124 ?_
      refine lv_iload_n (pc := 127) C.1 C.2.1 dX11_on_127 rfl (lv_at hl 1 rfl) ?_
      refine lv_aload_n (pc := 128) C.1 C.2.1 dX11_on_128 rfl (lv_at hl 0 rfl) ?_
      refine g_calli (pc := 129) w (mm_runV (ci := 11) (q := (RX11, TX11, 65)) (As := []) (rest := [.int (mm_I v2), .ref (mm_ad G (mm_rt this 33))]) C w (c_X11_kept l G this h0 s1 _ hw) h0 rfl rfl cv_X11_kept ml_X11_484 ⟨Nat.le_of_ble_eq_true rfl, Nat.le_of_ble_eq_true rfl⟩ ⟨Nat.le_of_ble_eq_true rfl, Nat.le_of_ble_eq_true rfl⟩ rfl hl.1 rfl (Nat.le_of_ble_eq_true rfl) dX11_on_129) (fun r_27 s_26 H locs hw w => ?_)
      obtain ⟨hi, hw⟩ := hw
      refine g_iast (pc := 132) C w (ro_X11_33 h0) hi  dX11_on_132 (fun s_28 H locs es_28 w => ?_)
      have hw := hw s_28 es_28
      refine g_iinc (pc := 133) (k := 1) C dX11_on_133 hl rfl (by decide) (fun v2_29 ev2_29 ls hl => ?_)
      have hw := hw v2_29 ev2_29
      have hl : lv_has ls 3 [(2, .int (mm_I v2_29)), (0, .ref (mm_ad G this))] := hl
      refine lv_goto (pc := 136) (tgt := 116) C.1 C.2.1 dX11_on_136 (by decide) ?_
      exact hw  _ _ _ w (lv_sub hl [1, 0] rfl))
  have hw := hw (by
    intro v2 s1 hw  H locs ls w hl
    refine lv_iload_n (pc := 141) C.1 C.2.1 dX11_on_141 rfl (lv_at hl 1 rfl) ?_
    refine lv_bipush (pc := 142) C.1 C.2.1 dX11_on_142 mb_35 ?_
    refine g_icmp_ge (pc := 144) (tgt := 163) C rfl mn_35 dX11_on_144 (by decide) (fun hc => ?_) (fun hc => ?_)
    · have hw := hw.1 hc
      refine lv_aload_n (pc := 163) C.1 C.2.1 dX11_on_163 rfl (lv_at hl 0 rfl) ?_
      refine lv_aload_n (pc := 164) C.1 C.2.1 dX11_on_164 rfl (lv_at hl 0 rfl) ?_
      refine g_calli (pc := 165) w (mm_runV (ci := 11) (q := (RX11, TX11, 65)) (As := []) (rest := [.ref (mm_ad G this)]) C w (c_X11_kept l G this h0 s1 _ hw) h0 rfl rfl cv_X11_kept ml_X11_484 ⟨Nat.le_of_ble_eq_true rfl, Nat.le_of_ble_eq_true rfl⟩ ⟨Nat.le_of_ble_eq_true rfl, Nat.le_of_ble_eq_true rfl⟩ rfl hl.1 rfl (Nat.le_of_ble_eq_true rfl) dX11_on_165) (fun r_31 s_30 H locs hw w => ?_)
      refine g_puti (pc := 168) C w h0 ff_X11_35 fw_X11_35 lk_X11_303 dX11_on_168 (fun s_32 H locs es_32 w => ?_)
      have hw := hw s_32 es_32
      refine lv_iconst (pc := 171) (v := mm_I 0) C.1 C.2.1 dX11_on_171 rfl ?_
      refine lv_istore_n (pc := 172) (lv' := [(2, .int (mm_I 0)), (0, .ref (mm_ad G this))]) C.1 C.2.1 dX11_on_172 rfl hl (by decide) rfl (fun ls hl => ?_)
      exact hw  _ _ _ w (lv_sub hl [1, 0] rfl)
    · have hw := hw.2 hc
      refine lv_aload_n (pc := 147) C.1 C.2.1 dX11_on_147 rfl (lv_at hl 0 rfl) ?_
      refine g_getr (pc := 148) C w h0 ff_X11_34 lk_X11_67 dX11_on_148 ?_
      refine lv_iload_n (pc := 151) C.1 C.2.1 dX11_on_151 rfl (lv_at hl 1 rfl) ?_
      refine lv_aload_n (pc := 152) C.1 C.2.1 dX11_on_152 rfl (lv_at hl 0 rfl) ?_
      refine g_calli (pc := 153) w (mm_runV (ci := 11) (q := (RX11, TX11, 65)) (As := []) (rest := [.int (mm_I v2), .ref (mm_ad G (mm_rt this 34))]) C w (c_X11_kept l G this h0 s1 _ hw) h0 rfl rfl cv_X11_kept ml_X11_484 ⟨Nat.le_of_ble_eq_true rfl, Nat.le_of_ble_eq_true rfl⟩ ⟨Nat.le_of_ble_eq_true rfl, Nat.le_of_ble_eq_true rfl⟩ rfl hl.1 rfl (Nat.le_of_ble_eq_true rfl) dX11_on_153) (fun r_35 s_34 H locs hw w => ?_)
      obtain ⟨hi, hw⟩ := hw
      refine g_iast (pc := 156) C w (ro_X11_34 h0) hi  dX11_on_156 (fun s_36 H locs es_36 w => ?_)
      have hw := hw s_36 es_36
      refine g_iinc (pc := 157) (k := 1) C dX11_on_157 hl rfl (by decide) (fun v2_37 ev2_37 ls hl => ?_)
      have hw := hw v2_37 ev2_37
      have hl : lv_has ls 3 [(2, .int (mm_I v2_37)), (0, .ref (mm_ad G this))] := hl
      refine lv_goto (pc := 160) (tgt := 141) C.1 C.2.1 dX11_on_160 (by decide) ?_
      exact hw  _ _ _ w (lv_sub hl [1, 0] rfl))
  have hw := hw (by
    intro v2 s1 hw  H locs ls w hl
    refine lv_iload_n (pc := 173) C.1 C.2.1 dX11_on_173 rfl (lv_at hl 1 rfl) ?_
    refine lv_bipush (pc := 174) C.1 C.2.1 dX11_on_174 mb_100 ?_
    refine g_icmp_ge (pc := 176) (tgt := 195) C rfl mn_100 dX11_on_176 (by decide) (fun hc => ?_) (fun hc => ?_)
    · have hw := hw.1 hc
      refine lv_iconst (pc := 195) (v := mm_I 1) C.1 C.2.1 dX11_on_195 rfl ?_
      exact g_zret (pc := 196) C w hr hk (by decide) hw dX11_on_196
    · have hw := hw.2 hc
      refine lv_aload_n (pc := 179) C.1 C.2.1 dX11_on_179 rfl (lv_at hl 0 rfl) ?_
      refine g_getr (pc := 180) C w h0 ff_X11_36 lk_X11_70 dX11_on_180 ?_
      refine lv_iload_n (pc := 183) C.1 C.2.1 dX11_on_183 rfl (lv_at hl 1 rfl) ?_
      refine lv_aload_n (pc := 184) C.1 C.2.1 dX11_on_184 rfl (lv_at hl 0 rfl) ?_
      refine g_calli (pc := 185) w (mm_runV (ci := 11) (q := (RX11, TX11, 65)) (As := []) (rest := [.int (mm_I v2), .ref (mm_ad G (mm_rt this 36))]) C w (c_X11_kept l G this h0 s1 _ hw) h0 rfl rfl cv_X11_kept ml_X11_484 ⟨Nat.le_of_ble_eq_true rfl, Nat.le_of_ble_eq_true rfl⟩ ⟨Nat.le_of_ble_eq_true rfl, Nat.le_of_ble_eq_true rfl⟩ rfl hl.1 rfl (Nat.le_of_ble_eq_true rfl) dX11_on_185) (fun r_39 s_38 H locs hw w => ?_)
      obtain ⟨hi, hw⟩ := hw
      refine g_iast (pc := 188) C w (ro_X11_36 h0) hi  dX11_on_188 (fun s_40 H locs es_40 w => ?_)
      have hw := hw s_40 es_40
      refine g_iinc (pc := 189) (k := 1) C dX11_on_189 hl rfl (by decide) (fun v2_41 ev2_41 ls hl => ?_)
      have hw := hw v2_41 ev2_41
      have hl : lv_has ls 3 [(2, .int (mm_I v2_41)), (0, .ref (mm_ad G this))] := hl
      refine lv_goto (pc := 192) (tgt := 173) C.1 C.2.1 dX11_on_192 (by decide) ?_
      exact hw  _ _ _ w (lv_sub hl [1, 0] rfl))
  intro H locs ls w hl
  have hl : lv_has ls 3 [(0, .ref (mm_ad G this)), (1, .int (mm_I a1))] := hl
  refine lv_iload_n (pc := 0) C.1 C.2.1 dX11_on_0 rfl (lv_at hl 1 rfl) ?_
  refine lv_iconst (pc := 1) (v := mm_I 0) C.1 C.2.1 dX11_on_1 rfl ?_
  refine lv_iconst (pc := 2) (v := mm_I 2) C.1 C.2.1 dX11_on_2 rfl ?_
  refine g_calli (pc := 3) w (mm_runS (As := [.int (mm_I a1), .int (mm_I 0), .int (mm_I 2)]) (rest := []) C w (c_X11_in l G a1 0 2  s0 _ hw) cs_X11_in ml_X11_122 ⟨Nat.le_of_ble_eq_true rfl, Nat.le_of_ble_eq_true rfl⟩ ⟨Nat.le_of_ble_eq_true rfl, Nat.le_of_ble_eq_true rfl⟩ rfl hl.1 rfl (Nat.le_of_ble_eq_true rfl) dX11_on_3) (fun r_2 s_1 H locs hw w => ?_)
  refine g_if_eq (pc := 6) (tgt := 18) C rfl dX11_on_6 (by decide) (fun hc => ?_) (fun hc => ?_)
  · have hw := hw.1 hc
    refine lv_iconst (pc := 18) (v := mm_I 0) C.1 C.2.1 dX11_on_18 rfl ?_
    exact g_zret (pc := 19) C w hr hk (by decide) hw dX11_on_19
  · have hw := hw.2 hc
    refine lv_aload_n (pc := 9) C.1 C.2.1 dX11_on_9 rfl (lv_at hl 0 rfl) ?_
    refine g_getr (pc := 10) C w h0 ff_X11_41 lk_X11_79 dX11_on_10 ?_
    refine lv_iload_n (pc := 13) C.1 C.2.1 dX11_on_13 rfl (lv_at hl 1 rfl) ?_
    obtain ⟨hi, hw⟩ := hw
    refine g_zald (pc := 14) C w (ro_X11_41 h0) hi dX11_on_14 ?_
    refine g_if_ne (pc := 15) (tgt := 20) C rfl dX11_on_15 (by decide) (fun hc => ?_) (fun hc => ?_)
    · have hw := hw.1 hc
      refine lv_aload_n (pc := 20) C.1 C.2.1 dX11_on_20 rfl (lv_at hl 0 rfl) ?_
      refine lv_aload_n (pc := 21) C.1 C.2.1 dX11_on_21 rfl (lv_at hl 0 rfl) ?_
      refine g_getr (pc := 22) C w h0 ff_X11_43 lk_X11_85 dX11_on_22 ?_
      refine lv_iload_n (pc := 25) C.1 C.2.1 dX11_on_25 rfl (lv_at hl 1 rfl) ?_
      obtain ⟨hi, hw⟩ := hw
      refine g_lald (pc := 26) C w (ro_X11_43 h0) hi dX11_on_26 ?_
      refine g_putl (pc := 27) C w h0 ff_X11_37 fw_X11_37 lk_X11_306 dX11_on_27 (fun s_3 H locs es_3 w => ?_)
      have hw := hw s_3 es_3
      refine lv_aload_n (pc := 30) C.1 C.2.1 dX11_on_30 rfl (lv_at hl 0 rfl) ?_
      refine lv_sipush (pc := 31) C.1 C.2.1 dX11_on_31 ms_446 ?_
      refine lv_iload_n (pc := 34) C.1 C.2.1 dX11_on_34 rfl (lv_at hl 1 rfl) ?_
      refine g_imul (pc := 35) C dX11_on_35 ?_
      refine g_puti (pc := 36) C w h0 ff_X11_64 fw_X11_64 lk_X11_478 dX11_on_36 (fun s_4 H locs es_4 w => ?_)
      have hw := hw s_4 es_4
      refine lv_aload_n (pc := 39) C.1 C.2.1 dX11_on_39 rfl (lv_at hl 0 rfl) ?_
      refine lv_aload_n (pc := 40) C.1 C.2.1 dX11_on_40 rfl (lv_at hl 0 rfl) ?_
      refine g_calli (pc := 41) w (mm_runV (ci := 11) (q := (RX11, TX11, 65)) (As := []) (rest := [.ref (mm_ad G this)]) C w (c_X11_kept l G this h0 s_4 _ hw) h0 rfl rfl cv_X11_kept ml_X11_484 ⟨Nat.le_of_ble_eq_true rfl, Nat.le_of_ble_eq_true rfl⟩ ⟨Nat.le_of_ble_eq_true rfl, Nat.le_of_ble_eq_true rfl⟩ rfl hl.1 rfl (Nat.le_of_ble_eq_true rfl) dX11_on_41) (fun r_6 s_5 H locs hw w => ?_)
      refine g_puti (pc := 44) C w h0 ff_X11_28 fw_X11_28 lk_X11_301 dX11_on_44 (fun s_7 H locs es_7 w => ?_)
      have hw := hw s_7 es_7
      refine lv_iconst (pc := 47) (v := mm_I 0) C.1 C.2.1 dX11_on_47 rfl ?_
      refine lv_istore_n (pc := 48) (lv' := [(2, .int (mm_I 0)), (0, .ref (mm_ad G this)), (1, .int (mm_I a1))]) C.1 C.2.1 dX11_on_48 rfl hl (by decide) rfl (fun ls hl => ?_)
      exact hw  _ _ _ w (lv_sub hl [1, 0] rfl)
    · have hw := hw.2 hc
      refine lv_iconst (pc := 18) (v := mm_I 0) C.1 C.2.1 dX11_on_18 rfl ?_
      exact g_zret (pc := 19) C w hr hk (by decide) hw dX11_on_19
