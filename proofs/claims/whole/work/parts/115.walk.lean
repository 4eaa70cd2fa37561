theorem lk_X11_70 : Cond.fieldLink RX11 70 "LastServedModel" "book" "[I" ∈ mm_ws := (mt_6 0 rfl rfl)
theorem ff_X11_36 : mm_F 11 36 1 RX11 TX11 65 := ⟨rfl, by decide, fk_X11, rfl, rfl⟩
theorem ro_X11_36 {i : Nat} (h : mm_ok i 21 0) : mm_ok (mm_rt i 36) 0 100 := by
  have q : ∀ i, i < mm_N → mm_kd i = 21 → mm_rt i 36 < mm_N ∧ mm_kd (mm_rt i 36) = 0 ∧ mm_ln (mm_rt i 36) = 100 := by decide +kernel
  exact q i h.1 h.2.1
theorem ml_X11_395 : Cond.methodLink RX11 395 Lib.Math.max.name ∈ mm_ws := (mt_7 205 rfl rfl)
def wp_X11_serves (this : Nat) (a1 : Int) (s0 : mm_M) (post : mm_M → Prop) : Prop :=
  ∀ (L35 : Int → Int → mm_M → Prop), ∀ (L86 : Int → Int → Int → Int → Int → Int → mm_M → Prop), ∀ (L125 : Int → Int → Int → Int → Int → mm_M → Prop), 
  (∀ (v3 : Int) (q0 : Int) (s1 : mm_M), (∀ v4_7 : Int, v4_7 = q0 → ((0 ≤ (30 * a1) + v4_7 ∧ (30 * a1) + v4_7 < 90) ∧ (∀ v5_8 : Int, v5_8 = s1 (mm_rt this 32) ((30 * a1) + v4_7) → (wp_X11_of this v5_8 0 s1 (fun r_10 s_9 => (∀ v6_11 : Int, v6_11 = r_10 → (wp_X11_of this v5_8 3 s_9 (fun r_13 s_12 => (∀ v7_14 : Int, v7_14 = (s_9 this 28) - r_13 → ((¬ n32 (s_12 this 35) = 20 → L125 v3 v4_7 v5_8 v6_11 v7_14 s_12) ∧ (n32 (s_12 this 35) = 20 → L86 v3 v4_7 v5_8 v6_11 v7_14 5 s_12))))))))))) → L35 v3 q0 s1) →
  (∀ (v3 : Int) (v4 : Int) (v5 : Int) (v6 : Int) (v7 : Int) (v8 : Int) (s1 : mm_M), ((100 ≤ n32 v8 → (∀ s_40 : mm_M, s_40 = mm_up s1 this 35 ((s1 this 35) - 1) → L125 v3 v4 v5 v6 v7 s_40)) ∧ (¬ 100 ≤ n32 v8 → ((0 ≤ v8 ∧ v8 < 100) ∧ ((0 ≤ v8 - 5 ∧ v8 - 5 < 100) ∧ (∀ s_41 : mm_M, s_41 = mm_up s1 (mm_rt this 36) (v8 - 5) (s1 (mm_rt this 36) v8) → (∀ v8_42 : Int, v8_42 = v8 + 1 → L86 v3 v4 v5 v6 v7 v8_42 s_41)))))) → L86 v3 v4 v5 v6 v7 v8 s1) →
  (∀ (v3 : Int) (v4 : Int) (v5 : Int) (v6 : Int) (v7 : Int) (s1 : mm_M), (∀ v8_16 : Int, v8_16 = 5 * (s1 this 35) → ((0 ≤ v8_16 ∧ v8_16 < 100) ∧ (∀ s_17 : mm_M, s_17 = mm_up s1 (mm_rt this 36) v8_16 (s1 this 28) → ((0 ≤ v8_16 + 1 ∧ v8_16 + 1 < 100) ∧ (∀ s_18 : mm_M, s_18 = mm_up s_17 (mm_rt this 36) (v8_16 + 1) a1 → ((0 ≤ v8_16 + 2 ∧ v8_16 + 2 < 100) ∧ (∀ s_19 : mm_M, s_19 = mm_up s_18 (mm_rt this 36) (v8_16 + 2) v5 → ((0 ≤ v8_16 + 3 ∧ v8_16 + 3 < 100) ∧ (∀ s_20 : mm_M, s_20 = mm_up s_19 (mm_rt this 36) (v8_16 + 3) v3 → ((0 ≤ v8_16 + 4 ∧ v8_16 + 4 < 100) ∧ (∀ s_21 : mm_M, s_21 = mm_up s_20 (mm_rt this 36) (v8_16 + 4) v4 → (∀ s_22 : mm_M, s_22 = mm_up s_21 this 35 ((s_21 this 35) + 1) → (wp_X11_leavesRow this v5 s_22 (fun s_23 => (wp_X11_sets this v5 2 (-1) s_23 (fun s_25 => ((0 ≤ a1 ∧ a1 < 3) ∧ ((0 ≤ a1 ∧ a1 < 3) ∧ (∀ s_27 : mm_M, s_27 = mm_up s_25 (mm_rt this 29) a1 ((s_25 (mm_rt this 29) a1) - 1) → ((0 ≤ (3 * a1) + 1 ∧ (3 * a1) + 1 < 9) ∧ ((0 ≤ a1 ∧ a1 < 3) ∧ (∀ s_28 : mm_M, s_28 = mm_up s_27 (mm_rt this 30) a1 ((s_27 this 28) + (s_27 (mm_rt this 13) ((3 * a1) + 1))) → (wp_X11_tells this v6 1 1 s_28 (fun s_29 => (wp_X11_tells this v6 3 v7 s_29 (fun s_31 => (wp_X11_tells this v6 4 (v7 * v7) s_31 (fun s_33 => ((0 ≤ (7 * v6) + 5 ∧ (7 * v6) + 5 < 35) ∧ ((0 ≤ (7 * v6) + 5 ∧ (7 * v6) + 5 < 35) ∧ (∀ s_35 : mm_M, s_35 = mm_up s_33 (mm_rt this 34) ((7 * v6) + 5) (mm_max (s_33 (mm_rt this 34) ((7 * v6) + 5)) v7) → (wp_X11_sortHas this v6 1 s_35 (fun r_37 s_36 => (wp_X11_tells this v6 6 r_37 s_36 (fun s_38 => post s_38))))))))))))))))))))))))))))))))))) → L125 v3 v4 v5 v6 v7 s1) →
  ((0 ≤ 3 * a1 ∧ 3 * a1 < 9) ∧ (∀ v2_1 : Int, v2_1 = s0 (mm_rt this 13) (3 * a1) → ((0 ≤ a1 ∧ a1 < 3) ∧ (∀ v3_2 : Int, v3_2 = s0 (mm_rt this 31) a1 → ((¬ n32 v2_1 = 3 → (wp_X11_placeNext this a1 v2_1 s0 (fun r_4 s_3 => L35 v3_2 r_4 s_3))) ∧ (n32 v2_1 = 3 → (wp_X11_draws this v3_2 s0 (fun r_6 s_5 => L35 v3_2 r_6 s_5))))))))
set_option maxRecDepth 100000 in
set_option maxHeartbeats 4000000 in
theorem c_X11_serves (l : Launch) (G : mm_G) (this : Nat) (a1 : Int) (h0 : mm_ok this 21 0) (s0 : mm_M) (post : mm_M → Prop) (hw : wp_X11_serves this a1 s0 post) : Met l yX11_serves (mm_wm yX11_serves cX11_serves 9 none) (mm_rm 5) (va_Pc [.ref (mm_ad G this), .int (mm_I a1)] (mm_pre G s0)) (mm_Qv G post) 0 0 (mm_A G) := by
  refine mm_met (own := RX11) (by decide) rfl (Nat.le_of_ble_eq_true rfl) ?_
  intro p e s m args below meth c C hr hk
  unfold wp_X11_serves at hw
  have hw := hw (fun (v3 : Int) (q0 : Int) (u : mm_M) => mm_X p l e (mm_rm 5) s m args below meth c (MQ below (mm_Qv G post) args s 0 0 (mm_A G)) G (mm_A G) 9 35 [(0, .ref (mm_ad G this)), (1, .int (mm_I a1)), (3, .int (mm_I v3))] [.int (mm_I q0)] u)
  have hw := hw (fun (v3 : Int) (v4 : Int) (v5 : Int) (v6 : Int) (v7 : Int) (v8 : Int) (u : mm_M) => mm_X p l e (mm_rm 5) s m args below meth c (MQ below (mm_Qv G post) args s 0 0 (mm_A G)) G (mm_A G) 9 86 [(0, .ref (mm_ad G this)), (1, .int (mm_I a1)), (3, .int (mm_I v3)), (4, .int (mm_I v4)), (5, .int (mm_I v5)), (6, .int (mm_I v6)), (7, .int (mm_I v7)), (8, .int (mm_I v8))] [] u)
  have hw := hw (fun (v3 : Int) (v4 : Int) (v5 : Int) (v6 : Int) (v7 : Int) (u : mm_M) => mm_X p l e (mm_rm 5) s m args below meth c (MQ below (mm_Qv G post) args s 0 0 (mm_A G)) G (mm_A G) 9 125 [(0, .ref (mm_ad G this)), (1, .int (mm_I a1)), (3, .int (mm_I v3)), (4, .int (mm_I v4)), (5, .int (mm_I v5)), (6, .int (mm_I v6)), (7, .int (mm_I v7))] [] u)
  have hw := hw (by
    intro v3 q0 s1 hw  H locs ls w hl
    refine g_istore (pc := 35) C dX11_serves_35 hl (by decide) (fun v4_7 ev4_7 ls hl => ?_)
    have hw := hw v4_7 ev4_7
    have hl : lv_has ls 9 [(4, .int (mm_I v4_7)), (0, .ref (mm_ad G this)), (1, .int (mm_I a1)), (3, .int (mm_I v3))] := hl
    refine lv_aload_n (pc := 37) C.1 C.2.1 dX11_serves_37 rfl (lv_at hl 1 rfl) ?_
    refine g_getr (pc := 38) C w h0 ff_X11_32 lk_X11_61 dX11_serves_38 ?_
    refine lv_bipush (pc := 41) C.1 C.2.1 dX11_serves_41 mb_30 ?_
    refine lv_iload_n (pc := 43) C.1 C.2.1 dX11_serves_43 rfl (lv_at hl 2 rfl) ?_
    refine g_imul (pc := 44) C dX11_serves_44 ?_
    refine lv_iload (pc := 45) C.1 C.2.1 dX11_serves_45 (lv_at hl 0 rfl) ?_
    refine g_iadd (pc := 47) C dX11_serves_47 ?_
    obtain ⟨hi, hw⟩ := hw
    refine g_iald (pc := 48) C w (ro_X11_32 h0) hi dX11_serves_48 ?_
    refine g_istore (pc := 49) C dX11_serves_49 hl (by decide) (fun v5_8 ev5_8 ls hl => ?_)
    have hw := hw v5_8 ev5_8
    have hl : lv_has ls 9 [(5, .int (mm_I v5_8)), (4, .int (mm_I v4_7)), (0, .ref (mm_ad G this)), (1, .int (mm_I a1)), (3, .int (mm_I v3))] := hl
    refine lv_aload_n (pc := 51) C.1 C.2.1 dX11_serves_51 rfl (lv_at hl 2 rfl) ?_
    refine lv_iload (pc := 52) C.1 C.2.1 dX11_serves_52 (lv_at hl 0 rfl) ?_
    refine lv_iconst (pc := 54) (v := mm_I 0) C.1 C.2.1 dX11_serves_54 rfl ?_
    refine g_calli (pc := 55) w (mm_runV (ci := 11) (q := (RX11, TX11, 65)) (As := [.int (mm_I v5_8), .int (mm_I 0)]) (rest := []) C w (c_X11_of l G this v5_8 0 h0 s1 _ hw) h0 rfl rfl cv_X11_of ml_X11_317 ⟨Nat.le_of_ble_eq_true rfl, Nat.le_of_ble_eq_true rfl⟩ ⟨Nat.le_of_ble_eq_true rfl, Nat.le_of_ble_eq_true rfl⟩ rfl hl.1 rfl (Nat.le_of_ble_eq_true rfl) dX11_serves_55) (fun r_10 s_9 H locs hw w => ?_)
    refine g_istore (pc := 58) C dX11_serves_58 hl (by decide) (fun v6_11 ev6_11 ls hl => ?_)
    have hw := hw v6_11 ev6_11
    have hl : lv_has ls 9 [(6, .int (mm_I v6_11)), (5, .int (mm_I v5_8)), (4, .int (mm_I v4_7)), (0, .ref (mm_ad G this)), (1, .int (mm_I a1)), (3, .int (mm_I v3))] := hl
    refine lv_aload_n (pc := 60) C.1 C.2.1 dX11_serves_60 rfl (lv_at hl 3 rfl) ?_
    refine g_geti (pc := 61) C w h0 ff_X11_28 lk_X11_301 dX11_serves_61 ?_
    refine lv_aload_n (pc := 64) C.1 C.2.1 dX11_serves_64 rfl (lv_at hl 3 rfl) ?_
    refine lv_iload (pc := 65) C.1 C.2.1 dX11_serves_65 (lv_at hl 1 rfl) ?_
    refine lv_iconst (pc := 67) (v := mm_I 3) C.1 C.2.1 dX11_serves_67 rfl ?_
    refine g_calli (pc := 68) w (mm_runV (ci := 11) (q := (RX11, TX11, 65)) (As := [.int (mm_I v5_8), .int (mm_I 3)]) (rest := [.int (mm_I (s_9 this 28))]) C w (c_X11_of l G this v5_8 3 h0 s_9 _ hw) h0 rfl rfl cv_X11_of ml_X11_317 ⟨Nat.le_of_ble_eq_true rfl, Nat.le_of_ble_eq_true rfl⟩ ⟨Nat.le_of_ble_eq_true rfl, Nat.le_of_ble_eq_true rfl⟩ rfl hl.1 rfl (Nat.le_of_ble_eq_true rfl) dX11_serves_68) (fun r_13 s_12 H locs hw w => ?_)
    refine g_isub (pc := 71) C dX11_serves_71 ?_
    refine g_istore (pc := 72) C dX11_serves_72 hl (by decide) (fun v7_14 ev7_14 ls hl => ?_)
    have hw := hw v7_14 ev7_14
    have hl : lv_has ls 9 [(7, .int (mm_I v7_14)), (6, .int (mm_I v6_11)), (5, .int (mm_I v5_8)), (4, .int (mm_I v4_7)), (0, .ref (mm_ad G this)), (1, .int (mm_I a1)), (3, .int (mm_I v3))] := hl
    refine lv_aload_n (pc := 74) C.1 C.2.1 dX11_serves_74 rfl (lv_at hl 4 rfl) ?_
    refine g_geti (pc := 75) C w h0 ff_X11_35 lk_X11_303 dX11_serves_75 ?_
    refine lv_bipush (pc := 78) C.1 C.2.1 dX11_serves_78 mb_20 ?_
    refine g_icmp_ne (pc := 80) (tgt := 125) C rfl mn_20 dX11_serves_80 (by decide) (fun hc => ?_) (fun hc => ?_)
    · have hw := hw.1 hc
      exact hw  _ _ _ w (lv_sub hl [4, 5, 6, 3, 2, 1, 0] rfl)
    · have hw := hw.2 hc
      refine lv_iconst (pc := 83) (v := mm_I 5) C.1 C.2.1 dX11_serves_83 rfl ?_
      refine lv_istore (pc := 84) (lv' := [(8, .int (mm_I 5)), (7, .int (mm_I v7_14)), (6, .int (mm_I v6_11)), (5, .int (mm_I v5_8)), (4, .int (mm_I v4_7)), (0, .ref (mm_ad G this)), (1, .int (mm_I a1)), (3, .int (mm_I v3))]) C.1 C.2.1 dX11_serves_84 hl (by decide) rfl (fun ls hl => ?_)
      exact hw  _ _ _ w (lv_sub hl [5, 6, 7, 4, 3, 2, 1, 0] rfl))
  have hw := hw (by
    intro v3 v4 v5 v6 v7 v8 s1 hw  H locs ls w hl
    refine lv_iload (pc := 86) C.1 C.2.1 dX11_serves_86 (lv_at hl 7 rfl) ?_
    refine lv_bipush (pc := 88) C.1 C.2.1 dX11_serves_88 mb_100 ?_
    refine g_icmp_ge (pc := 90) (tgt := 115) C rfl mn_100 dX11_serves_90 (by decide) (fun hc => ?_) (fun hc => ?_)
    · have hw := hw.1 hc
      refine lv_aload_n (pc := 115) C.1 C.2.1 dX11_serves_115 rfl (lv_at hl 0 rfl) ?_
      refine lv_dup (pc := 116) C.1 C.2.1 dX11_serves_116 rfl ?_
      refine g_geti (pc := 117) C w h0 ff_X11_35 lk_X11_303 dX11_serves_117 ?_
      refine lv_iconst (pc := 120) (v := mm_I 1) C.1 C.2.1 dX11_serves_120 rfl ?_
      refine g_isub (pc := 121) C dX11_serves_121 ?_
      refine g_puti (pc := 122) C w h0 ff_X11_35 fw_X11_35 lk_X11_303 dX11_serves_122 (fun s_40 H locs es_40 w => ?_)
      have hw := hw s_40 es_40
      exact hw  _ _ _ w (lv_sub hl [0, 1, 2, 3, 4, 5, 6] rfl)
    · have hw := hw.2 hc
      refine lv_aload_n (pc := 93) C.1 C.2.1 dX11_serves_93 rfl (lv_at hl 0 rfl) ?_
      refine g_getr (pc := 94) C w h0 ff_X11_36 lk_X11_70 dX11_serves_94 ?_
      refine lv_iload (pc := 97) C.1 C.2.1 dX11_serves_97 (lv_at hl 7 rfl) ?_
      refine lv_iconst (pc := 99) (v := mm_I 5) C.1 C.2.1 dX11_serves_99 rfl ?_
      refine g_isub (pc := 100) C dX11_serves_100 ?_
      refine lv_aload_n (pc := 101) C.1 C.2.1 dX11_serves_101 rfl (lv_at hl 0 rfl) ?_
      refine g_getr (pc := 102) C w h0 ff_X11_36 lk_X11_70 dX11_serves_102 ?_
      refine lv_iload (pc := 105) C.1 C.2.1 dX11_serves_105 (lv_at hl 7 rfl) ?_
      obtain ⟨hi, hw⟩ := hw
      refine g_iald (pc := 107) C w (ro_X11_36 h0) hi dX11_serves_107 ?_
      obtain ⟨hi, hw⟩ := hw
      refine g_iast (pc := 108) C w (ro_X11_36 h0) hi  dX11_serves_108 (fun s_41 H locs es_41 w => ?_)
      have hw := hw s_41 es_41
      refine g_iinc (pc := 109) (k := 7) C dX11_serves_109 hl rfl (by decide) (fun v8_42 ev8_42 ls hl => ?_)
      have hw := hw v8_42 ev8_42
      have hl : lv_has ls 9 [(8, .int (mm_I v8_42)), (0, .ref (mm_ad G this)), (1, .int (mm_I a1)), (3, .int (mm_I v3)), (4, .int (mm_I v4)), (5, .int (mm_I v5)), (6, .int (mm_I v6)), (7, .int (mm_I v7))] := hl
      refine lv_goto (pc := 112) (tgt := 86) C.1 C.2.1 dX11_serves_112 (by decide) ?_
      exact hw  _ _ _ w (lv_sub hl [1, 2, 3, 4, 5, 6, 7, 0] rfl))
  have hw := hw (by
    intro v3 v4 v5 v6 v7 s1 hw  H locs ls w hl
    refine lv_iconst (pc := 125) (v := mm_I 5) C.1 C.2.1 dX11_serves_125 rfl ?_
    refine lv_aload_n (pc := 126) C.1 C.2.1 dX11_serves_126 rfl (lv_at hl 0 rfl) ?_
    refine g_geti (pc := 127) C w h0 ff_X11_35 lk_X11_303 dX11_serves_127 ?_
    refine g_imul (pc := 130) C dX11_serves_130 ?_
    refine g_istore (pc := 131) C dX11_serves_131 hl (by decide) (fun v8_16 ev8_16 ls hl => ?_)
    have hw := hw v8_16 ev8_16
    have hl : lv_has ls 9 [(8, .int (mm_I v8_16)), (0, .ref (mm_ad G this)), (1, .int (mm_I a1)), (3, .int (mm_I v3)), (4, .int (mm_I v4)), (5, .int (mm_I v5)), (6, .int (mm_I v6)), (7, .int (mm_I v7))] := hl
    refine lv_aload_n (pc := 133) C.1 C.2.1 dX11_serves_133 rfl (lv_at hl 1 rfl) ?_
    refine g_getr (pc := 134) C w h0 ff_X11_36 lk_X11_70 dX11_serves_134 ?_
    refine lv_iload (pc := 137) C.1 C.2.1 dX11_serves_137 (lv_at hl 0 rfl) ?_
    refine lv_aload_n (pc := 139) C.1 C.2.1 dX11_serves_139 rfl (lv_at hl 1 rfl) ?_
    refine g_geti (pc := 140) C w h0 ff_X11_28 lk_X11_301 dX11_serves_140 ?_
    obtain ⟨hi, hw⟩ := hw
    refine g_iast (pc := 143) C w (ro_X11_36 h0) hi  dX11_serves_143 (fun s_17 H locs es_17 w => ?_)
    have hw := hw s_17 es_17
    refine lv_aload_n (pc := 144) C.1 C.2.1 dX11_serves_144 rfl (lv_at hl 1 rfl) ?_
    refine g_getr (pc := 145) C w h0 ff_X11_36 lk_X11_70 dX11_serves_145 ?_
    refine lv_iload (pc := 148) C.1 C.2.1 dX11_serves_148 (lv_at hl 0 rfl) ?_
    refine lv_iconst (pc := 150) (v := mm_I 1) C.1 C.2.1 dX11_serves_150 rfl ?_
    refine g_iadd (pc := 151) C dX11_serves_151 ?_
    refine lv_iload_n (pc := 152) C.1 C.2.1 dX11_serves_152 rfl (lv_at hl 2 rfl) ?_
    obtain ⟨hi, hw⟩ := hw
    refine g_iast (pc := 153) C w (ro_X11_36 h0) hi  dX11_serves_153 (fun s_18 H locs es_18 w => ?_)
    have hw := hw s_18 es_18
    refine lv_aload_n (pc := 154) C.1 C.2.1 dX11_serves_154 rfl (lv_at hl 1 rfl) ?_
    refine g_getr (pc := 155) C w h0 ff_X11_36 lk_X11_70 dX11_serves_155 ?_
    refine lv_iload (pc := 158) C.1 C.2.1 dX11_serves_158 (lv_at hl 0 rfl) ?_
    refine lv_iconst (pc := 160) (v := mm_I 2) C.1 C.2.1 dX11_serves_160 rfl ?_
    refine g_iadd (pc := 161) C dX11_serves_161 ?_
    refine lv_iload (pc := 162) C.1 C.2.1 dX11_serves_162 (lv_at hl 5 rfl) ?_
    obtain ⟨hi, hw⟩ := hw
    refine g_iast (pc := 164) C w (ro_X11_36 h0) hi  dX11_serves_164 (fun s_19 H locs es_19 w => ?_)
    have hw := hw s_19 es_19
    refine lv_aload_n (pc := 165) C.1 C.2.1 dX11_serves_165 rfl (lv_at hl 1 rfl) ?_
    refine g_getr (pc := 166) C w h0 ff_X11_36 lk_X11_70 dX11_serves_166 ?_
    refine lv_iload (pc := 169) C.1 C.2.1 dX11_serves_169 (lv_at hl 0 rfl) ?_
    refine lv_iconst (pc := 171) (v := mm_I 3) C.1 C.2.1 dX11_serves_171 rfl ?_
    refine g_iadd (pc := 172) C dX11_serves_172 ?_
    refine lv_iload_n (pc := 173) C.1 C.2.1 dX11_serves_173 rfl (lv_at hl 3 rfl) ?_
    obtain ⟨hi, hw⟩ := hw
    refine g_iast (pc := 174) C w (ro_X11_36 h0) hi  dX11_serves_174 (fun s_20 H locs es_20 w => ?_)
    have hw := hw s_20 es_20
    refine lv_aload_n (pc := 175) C.1 C.2.1 dX11_serves_175 rfl (lv_at hl 1 rfl) ?_
    refine g_getr (pc := 176) C w h0 ff_X11_36 lk_X11_70 dX11_serves_176 ?_
    refine lv_iload (pc := 179) C.1 C.2.1 dX11_serves_179 (lv_at hl 0 rfl) ?_
    refine lv_iconst (pc := 181) (v := mm_I 4) C.1 C.2.1 dX11_serves_181 rfl ?_
    refine g_iadd (pc := 182) C dX11_serves_182 ?_
    refine lv_iload (pc := 183) C.1 C.2.1 dX11_serves_183 (lv_at hl 4 rfl) ?_
    obtain ⟨hi, hw⟩ := hw
    refine g_iast (pc := 185) C w (ro_X11_36 h0) hi  dX11_serves_185 (fun s_21 H locs es_21 w => ?_)
    have hw := hw s_21 es_21
    refine lv_aload_n (pc := 186) C.1 C.2.1 dX11_serves_186 rfl (lv_at hl 1 rfl) ?_
    refine lv_dup (pc := 187) C.1 C.2.1 dX11_serves_187 rfl ?_
    refine g_geti (pc := 188) C w h0 ff_X11_35 lk_X11_303 dX11_serves_188 ?_
    refine lv_iconst (pc := 191) (v := mm_I 1) C.1 C.2.1 dX11_serves_191 rfl ?_
    refine g_iadd (pc := 192) C dX11_serves_192 ?_
    refine g_puti (pc := 193) C w h0 ff_X11_35 fw_X11_35 lk_X11_303 dX11_serves_193 (fun s_22 H locs es_22 w => ?_)
    have hw := hw s_22 es_22
    refine lv_aload_n (pc := 196) C.1 C.2.1 dX11_serves_196 rfl (lv_at hl 1 rfl) ?_
    refine lv_iload (pc := 197) C.1 C.2.1 dX11_serves_197 (lv_at hl 5 rfl) ?_
    refine g_callv (pc := 199) w (mm_runV (ci := 11) (q := (RX11, TX11, 65)) (As := [.int (mm_I v5)]) (rest := []) C w (c_X11_leavesRow l G this v5 h0 s_22 _ hw) h0 rfl rfl cv_X11_leavesRow ml_X11_356 ⟨Nat.le_of_ble_eq_true rfl, Nat.le_of_ble_eq_true rfl⟩ ⟨Nat.le_of_ble_eq_true rfl, Nat.le_of_ble_eq_true rfl⟩ rfl hl.1 rfl (Nat.le_of_ble_eq_true rfl) dX11_serves_199) (fun s_23 H locs hw w => ?_)
    refine lv_aload_n (pc := 202) C.1 C.2.1 dX11_serves_202 rfl (lv_at hl 1 rfl) ?_
    refine lv_iload (pc := 203) C.1 C.2.1 dX11_serves_203 (lv_at hl 5 rfl) ?_
    refine lv_iconst (pc := 205) (v := mm_I 2) C.1 C.2.1 dX11_serves_205 rfl ?_
    refine lv_iconst (pc := 206) (v := mm_I (-1)) C.1 C.2.1 dX11_serves_206 rfl ?_
    refine g_callv (pc := 207) w (mm_runV (ci := 11) (q := (RX11, TX11, 65)) (As := [.int (mm_I v5), .int (mm_I 2), .int (mm_I (-1))]) (rest := []) C w (c_X11_sets l G this v5 2 (-1) h0 s_23 _ hw) h0 rfl rfl cv_X11_sets ml_X11_343 ⟨Nat.le_of_ble_eq_true rfl, Nat.le_of_ble_eq_true rfl⟩ ⟨Nat.le_of_ble_eq_true rfl, Nat.le_of_ble_eq_true rfl⟩ rfl hl.1 rfl (Nat.le_of_ble_eq_true rfl) dX11_serves_207) (fun s_25 H locs hw w => ?_)
    refine lv_aload_n (pc := 210) C.1 C.2.1 dX11_serves_210 rfl (lv_at hl 1 rfl) ?_
    refine g_getr (pc := 211) C w h0 ff_X11_29 lk_X11_52 dX11_serves_211 ?_
    refine lv_iload_n (pc := 214) C.1 C.2.1 dX11_serves_214 rfl (lv_at hl 2 rfl) ?_
    refine lv_dup2_11 (pc := 215) C.1 C.2.1 dX11_serves_215 rfl rfl ?_
    obtain ⟨hi, hw⟩ := hw
    refine g_iald (pc := 216) C w (ro_X11_29 h0) hi dX11_serves_216 ?_
    refine lv_iconst (pc := 217) (v := mm_I 1) C.1 C.2.1 dX11_serves_217 rfl ?_
    refine g_isub (pc := 218) C dX11_serves_218 ?_
    obtain ⟨hi, hw⟩ := hw
    refine g_iast (pc := 219) C w (ro_X11_29 h0) hi  dX11_serves_219 (fun s_27 H locs es_27 w => ?_)
    have hw := hw s_27 es_27
    refine lv_aload_n (pc := 220) C.1 C.2.1 dX11_serves_220 rfl (lv_at hl 1 rfl) ?_
    refine g_getr (pc := 221) C w h0 ff_X11_30 lk_X11_55 dX11_serves_221 ?_
    refine lv_iload_n (pc := 224) C.1 C.2.1 dX11_serves_224 rfl (lv_at hl 2 rfl) ?_
    refine lv_aload_n (pc := 225) C.1 C.2.1 dX11_serves_225 rfl (lv_at hl 1 rfl) ?_
    refine g_geti (pc := 226) C w h0 ff_X11_28 lk_X11_301 dX11_serves_226 ?_
    refine lv_aload_n (pc := 229) C.1 C.2.1 dX11_serves_229 rfl (lv_at hl 1 rfl) ?_
    refine g_getr (pc := 230) C w h0 ff_X11_13 lk_X11_27 dX11_serves_230 ?_
    refine lv_iconst (pc := 233) (v := mm_I 3) C.1 C.2.1 dX11_serves_233 rfl ?_
    refine lv_iload_n (pc := 234) C.1 C.2.1 dX11_serves_234 rfl (lv_at hl 2 rfl) ?_
    refine g_imul (pc := 235) C dX11_serves_235 ?_
    refine lv_iconst (pc := 236) (v := mm_I 1) C.1 C.2.1 dX11_serves_236 rfl ?_
    refine g_iadd (pc := 237) C dX11_serves_237 ?_
    obtain ⟨hi, hw⟩ := hw
    refine g_iald (pc := 238) C w (ro_X11_13 h0) hi dX11_serves_238 ?_
    refine g_iadd (pc := 239) C dX11_serves_239 ?_
    obtain ⟨hi, hw⟩ := hw
    refine g_iast (pc := 240) C w (ro_X11_30 h0) hi  dX11_serves_240 (fun s_28 H locs es_28 w => ?_)
    have hw := hw s_28 es_28
    refine lv_aload_n (pc := 241) C.1 C.2.1 dX11_serves_241 rfl (lv_at hl 1 rfl) ?_
    refine lv_iload (pc := 242) C.1 C.2.1 dX11_serves_242 (lv_at hl 6 rfl) ?_
    refine lv_iconst (pc := 244) (v := mm_I 1) C.1 C.2.1 dX11_serves_244 rfl ?_
    refine lv_iconst (pc := 245) (v := mm_I 1) C.1 C.2.1 dX11_serves_245 rfl ?_
    refine g_callv (pc := 246) w (mm_runV (ci := 11) (q := (RX11, TX11, 65)) (As := [.int (mm_I v6), .int (mm_I 1), .int (mm_I 1)]) (rest := []) C w (c_X11_tells l G this v6 1 1 h0 s_28 _ hw) h0 rfl rfl cv_X11_tells ml_X11_347 ⟨Nat.le_of_ble_eq_true rfl, Nat.le_of_ble_eq_true rfl⟩ ⟨Nat.le_of_ble_eq_true rfl, Nat.le_of_ble_eq_true rfl⟩ rfl hl.1 rfl (Nat.le_of_ble_eq_true rfl) dX11_serves_246) (fun s_29 H locs hw w => ?_)
    refine lv_aload_n (pc := 249) C.1 C.2.1 dX11_serves_249 rfl (lv_at hl 1 rfl) ?_
    refine lv_iload (pc := 250) C.1 C.2.1 dX11_serves_250 (lv_at hl 6 rfl) ?_
    refine lv_iconst (pc := 252) (v := mm_I 3) C.1 C.2.1 dX11_serves_252 rfl ?_
    refine lv_iload (pc := 253) C.1 C.2.1 dX11_serves_253 (lv_at hl 7 rfl) ?_
    refine g_callv (pc := 255) w (mm_runV (ci := 11) (q := (RX11, TX11, 65)) (As := [.int (mm_I v6), .int (mm_I 3), .int (mm_I v7)]) (rest := []) C w (c_X11_tells l G this v6 3 v7 h0 s_29 _ hw) h0 rfl rfl cv_X11_tells ml_X11_347 ⟨Nat.le_of_ble_eq_true rfl, Nat.le_of_ble_eq_true rfl⟩ ⟨Nat.le_of_ble_eq_true rfl, Nat.le_of_ble_eq_true rfl⟩ rfl hl.1 rfl (Nat.le_of_ble_eq_true rfl) dX11_serves_255) (fun s_31 H locs hw w => ?_)
    refine lv_aload_n (pc := 258) C.1 C.2.1 dX11_serves_258 rfl (lv_at hl 1 rfl) ?_
    refine lv_iload (pc := 259) C.1 C.2.1 dX11_serves_259 (lv_at hl 6 rfl) ?_
    refine lv_iconst (pc := 261) (v := mm_I 4) C.1 C.2.1 dX11_serves_261 rfl ?_
    refine lv_iload (pc := 262) C.1 C.2.1 dX11_serves_262 (lv_at hl 7 rfl) ?_
    refine lv_iload (pc := 264) C.1 C.2.1 dX11_serves_264 (lv_at hl 7 rfl) ?_
    refine g_imul (pc := 266) C dX11_serves_266 ?_
    refine g_callv (pc := 267) w (mm_runV (ci := 11) (q := (RX11, TX11, 65)) (As := [.int (mm_I v6), .int (mm_I 4), .int (mm_I (v7 * v7))]) (rest := []) C w (c_X11_tells l G this v6 4 (v7 * v7) h0 s_31 _ hw) h0 rfl rfl cv_X11_tells ml_X11_347 ⟨Nat.le_of_ble_eq_true rfl, Nat.le_of_ble_eq_true rfl⟩ ⟨Nat.le_of_ble_eq_true rfl, Nat.le_of_ble_eq_true rfl⟩ rfl hl.1 rfl (Nat.le_of_ble_eq_true rfl) dX11_serves_267) (fun s_33 H locs hw w => ?_)
    refine lv_aload_n (pc := 270) C.1 C.2.1 dX11_serves_270 rfl (lv_at hl 1 rfl) ?_
    refine g_getr (pc := 271) C w h0 ff_X11_34 lk_X11_67 dX11_serves_271 ?_
    refine lv_bipush (pc := 274) C.1 C.2.1 dX11_serves_274 mb_7 ?_
    refine lv_iload (pc := 276) C.1 C.2.1 dX11_serves_276 (lv_at hl 6 rfl) ?_
    refine g_imul (pc := 278) C dX11_serves_278 ?_
    refine lv_iconst (pc := 279) (v := mm_I 5) C.1 C.2.1 dX11_serves_279 rfl ?_
    refine g_iadd (pc := 280) C dX11_serves_280 ?_
    refine lv_aload_n (pc := 281) C.1 C.2.1 dX11_serves_281 rfl (lv_at hl 1 rfl) ?_
    refine g_getr (pc := 282) C w h0 ff_X11_34 lk_X11_67 dX11_serves_282 ?_
    refine lv_bipush (pc := 285) C.1 C.2.1 dX11_serves_285 mb_7 ?_
    refine lv_iload (pc := 287) C.1 C.2.1 dX11_serves_287 (lv_at hl 6 rfl) ?_
    refine g_imul (pc := 289) C dX11_serves_289 ?_
    refine lv_iconst (pc := 290) (v := mm_I 5) C.1 C.2.1 dX11_serves_290 rfl ?_
    refine g_iadd (pc := 291) C dX11_serves_291 ?_
    obtain ⟨hi, hw⟩ := hw
    refine g_iald (pc := 292) C w (ro_X11_34 h0) hi dX11_serves_292 ?_
    refine lv_iload (pc := 293) C.1 C.2.1 dX11_serves_293 (lv_at hl 7 rfl) ?_
    refine g_max (pc := 295) C hl.1 ml_X11_395 mv_max ⟨Nat.le_of_ble_eq_true rfl, Nat.le_of_ble_eq_true rfl⟩ ⟨Nat.le_of_ble_eq_true rfl, Nat.le_of_ble_eq_true rfl⟩ dX11_serves_295 ?_
    obtain ⟨hi, hw⟩ := hw
    refine g_iast (pc := 298) C w (ro_X11_34 h0) hi  dX11_serves_298 (fun s_35 H locs es_35 w => ?_)
    have hw := hw s_35 es_35
    refine lv_aload_n (pc := 299) C.1 C.2.1 dX11_serves_299 rfl (lv_at hl 1 rfl) ?_
    refine lv_iload (pc := 300) C.1 C.2.1 dX11_serves_300 (lv_at hl 6 rfl) ?_
    refine lv_bipush (pc := 302) C.1 C.2.1 dX11_serves_302 mb_6 ?_
    refine lv_aload_n (pc := 304) C.1 C.2.1 dX11_serves_304 rfl (lv_at hl 1 rfl) ?_
    refine lv_iload (pc := 305) C.1 C.2.1 dX11_serves_305 (lv_at hl 6 rfl) ?_
    refine lv_iconst (pc := 307) (v := mm_I 1) C.1 C.2.1 dX11_serves_307 rfl ?_
    refine g_calli (pc := 308) w (mm_runV (ci := 11) (q := (RX11, TX11, 65)) (As := [.int (mm_I v6), .int (mm_I 1)]) (rest := [.int (mm_I 6), .int (mm_I v6), .ref (mm_ad G this)]) C w (c_X11_sortHas l G this v6 1 h0 s_35 _ hw) h0 rfl rfl cv_X11_sortHas ml_X11_327 ⟨Nat.le_of_ble_eq_true rfl, Nat.le_of_ble_eq_true rfl⟩ ⟨Nat.le_of_ble_eq_true rfl, Nat.le_of_ble_eq_true rfl⟩ rfl hl.1 rfl (Nat.le_of_ble_eq_true rfl) dX11_serves_308) (fun r_37 s_36 H locs hw w => ?_)
    refine g_callv (pc := 311) w (mm_runV (ci := 11) (q := (RX11, TX11, 65)) (As := [.int (mm_I v6), .int (mm_I 6), .int (mm_I r_37)]) (rest := []) C w (c_X11_tells l G this v6 6 r_37 h0 s_36 _ hw) h0 rfl rfl cv_X11_tells ml_X11_347 ⟨Nat.le_of_ble_eq_true rfl, Nat.le_of_ble_eq_true rfl⟩ ⟨Nat.le_of_ble_eq_true rfl, Nat.le_of_ble_eq_true rfl⟩ rfl hl.1 rfl (Nat.le_of_ble_eq_true rfl) dX11_serves_311) (fun s_38 H locs hw w => ?_)
    exact g_vret (pc := 314) C w hr hk hw dX11_serves_314)
  intro H locs ls w hl
  have hl : lv_has ls 9 [(0, .ref (mm_ad G this)), (1, .int (mm_I a1))] := hl
  refine lv_aload_n (pc := 0) C.1 C.2.1 dX11_serves_0 rfl (lv_at hl 0 rfl) ?_
  refine g_getr (pc := 1) C w h0 ff_X11_13 lk_X11_27 dX11_serves_1 ?_
  refine lv_iconst (pc := 4) (v := mm_I 3) C.1 C.2.1 dX11_serves_4 rfl ?_
  refine lv_iload_n (pc := 5) C.1 C.2.1 dX11_serves_5 rfl (lv_at hl 1 rfl) ?_
  refine g_imul (pc := 6) C dX11_serves_6 ?_
  obtain ⟨hi, hw⟩ := hw
  refine g_iald (pc := 7) C w (ro_X11_13 h0) hi dX11_serves_7 ?_
  refine g_istore_n (pc := 8) C dX11_serves_8 rfl hl (by decide) (fun v2_1 ev2_1 ls hl => ?_)
  have hw := hw v2_1 ev2_1
  have hl : lv_has ls 9 [(2, .int (mm_I v2_1)), (0, .ref (mm_ad G this)), (1, .int (mm_I a1))] := hl
  refine lv_aload_n (pc := 9) C.1 C.2.1 dX11_serves_9 rfl (lv_at hl 1 rfl) ?_
  refine g_getr (pc := 10) C w h0 ff_X11_31 lk_X11_58 dX11_serves_10 ?_
  refine lv_iload_n (pc := 13) C.1 C.2.1 dX11_serves_13 rfl (lv_at hl 2 rfl) ?_
  obtain ⟨hi, hw⟩ := hw
  refine g_iald (pc := 14) C w (ro_X11_31 h0) hi dX11_serves_14 ?_
  refine g_istore_n (pc := 15) C dX11_serves_15 rfl hl (by decide) (fun v3_2 ev3_2 ls hl => ?_)
  have hw := hw v3_2 ev3_2
  have hl : lv_has ls 9 [(3, .int (mm_I v3_2)), (2, .int (mm_I v2_1)), (0, .ref (mm_ad G this)), (1, .int (mm_I a1))] := hl
  refine lv_iload_n (pc := 16) C.1 C.2.1 dX11_serves_16 rfl (lv_at hl 1 rfl) ?_
  refine lv_iconst (pc := 17) (v := mm_I 3) C.1 C.2.1 dX11_serves_17 rfl ?_
  refine g_icmp_ne (pc := 18) (tgt := 29) C rfl mn_3 dX11_serves_18 (by decide) (fun hc => ?_) (fun hc => ?_)
  · have hw := hw.1 hc
    refine lv_aload_n (pc := 29) C.1 C.2.1 dX11_serves_29 rfl (lv_at hl 2 rfl) ?_
    refine lv_iload_n (pc := 30) C.1 C.2.1 dX11_serves_30 rfl (lv_at hl 3 rfl) ?_
    refine lv_iload_n (pc := 31) C.1 C.2.1 dX11_serves_31 rfl (lv_at hl 1 rfl) ?_
    refine g_calli (pc := 32) w (mm_runV (ci := 11) (q := (RX11, TX11, 65)) (As := [.int (mm_I a1), .int (mm_I v2_1)]) (rest := []) C w (c_X11_placeNext l G this a1 v2_1 h0 s0 _ hw) h0 rfl rfl cv_X11_placeNext ml_X11_389 ⟨Nat.le_of_ble_eq_true rfl, Nat.le_of_ble_eq_true rfl⟩ ⟨Nat.le_of_ble_eq_true rfl, Nat.le_of_ble_eq_true rfl⟩ rfl hl.1 rfl (Nat.le_of_ble_eq_true rfl) dX11_serves_32) (fun r_4 s_3 H locs hw w => ?_)
    exact hw  _ _ _ w (lv_sub hl [2, 3, 0] rfl)
  · have hw := hw.2 hc
    refine lv_aload_n (pc := 21) C.1 C.2.1 dX11_serves_21 rfl (lv_at hl 2 rfl) ?_
    refine lv_iload_n (pc := 22) C.1 C.2.1 dX11_serves_22 rfl (lv_at hl 0 rfl) ?_
    refine g_calli (pc := 23) w (mm_runV (ci := 11) (q := (RX11, TX11, 65)) (As := [.int (mm_I v3_2)]) (rest := []) C w (c_X11_draws l G this v3_2 h0 s0 _ hw) h0 rfl rfl cv_X11_draws ml_X11_392 ⟨Nat.le_of_ble_eq_true rfl, Nat.le_of_ble_eq_true rfl⟩ ⟨Nat.le_of_ble_eq_true rfl, Nat.le_of_ble_eq_true rfl⟩ rfl hl.1 rfl (Nat.le_of_ble_eq_true rfl) dX11_serves_23) (fun r_6 s_5 H locs hw w => ?_)
    refine lv_goto (pc := 26) (tgt := 35) C.1 C.2.1 dX11_serves_26 (by decide) ?_
    exact hw  _ _ _ w (lv_sub hl [2, 3, 0] rfl)
theorem cv_X11_somebodyComes : mm_V yX11_somebodyComes cX11_somebodyComes 5 none 1 := ⟨(mt_7 192 rfl rfl), (mt_7 191 rfl rfl), (mp_6 2 rfl rfl), (mt_1 12 rfl rfl), by decide, by decide, by decide +kernel⟩
theorem ml_X11_400 : Cond.methodLink RX11 400 yX11_somebodyComes ∈ mm_ws := (mt_7 189 rfl rfl)
theorem cv_X11_serves : mm_V yX11_serves cX11_serves 9 none 1 := ⟨(mt_7 204 rfl rfl), (mt_7 203 rfl rfl), (mp_6 4 rfl rfl), (mt_1 12 rfl rfl), by decide, by decide, by decide +kernel⟩
theorem ml_X11_403 : Cond.methodLink RX11 403 yX11_serves ∈ mm_ws := (mt_7 201 rfl rfl)
def wp_X11_minuteGoes (this : Nat) (s0 : mm_M) (post : mm_M → Prop) : Prop :=
  ∀ (L2 : Int → mm_M → Prop), ∀ (L23 : Int → mm_M → Prop), ∀ (L53 : Int → mm_M → Prop), ∀ (L82 : Int → Int → mm_M → Prop), ∀ (L100 : Int → mm_M → Prop), ∀ (L164 : Int → mm_M → Prop), ∀ (L226 : Int → mm_M → Prop), ∀ (L283 : Int → mm_M → Prop), ∀ (L321 : Int → Int → Int → Int → mm_M → Prop), 
  (∀ (v1 : Int) (s1 : mm_M), ((n32 (s1 this 14) ≤ n32 v1 → L23 0 s1) ∧ (¬ n32 (s1 this 14) ≤ n32 v1 → (wp_X11_somebodyComes this v1 s1 (fun s_3 => (∀ v1_5 : Int, v1_5 = v1 + 1 → L2 v1_5 s_3))))) → L2 v1 s1) →
  (∀ (v1 : Int) (s1 : mm_M), ((30 ≤ n32 v1 → L100 0 s1) ∧ (¬ 30 ≤ n32 v1 → (wp_X11_of this v1 2 s1 (fun r_8 s_7 => ((¬ n32 r_8 = 2 → L53 v1 s_7) ∧ (n32 r_8 = 2 → (wp_X11_of this v1 1 s_7 (fun r_10 s_9 => ((0 ≤ r_10 ∧ r_10 < 3) ∧ ((n32 (s_9 (mm_rt this 31) r_10) = 0 → L82 v1 1 s_9) ∧ (¬ n32 (s_9 (mm_rt this 31) r_10) = 0 → L53 v1 s_9))))))))))) → L23 v1 s1) →
  (∀ (v1 : Int) (s1 : mm_M), (wp_X11_of this v1 2 s1 (fun r_29 s_28 => ((¬ n32 r_29 = 1 → L82 v1 0 s_28) ∧ (n32 r_29 = 1 → (wp_X11_of this v1 6 s_28 (fun r_31 s_30 => ((n32 (s_30 this 28) < n32 r_31 → L82 v1 0 s_30) ∧ (¬ n32 (s_30 this 28) < n32 r_31 → L82 v1 1 s_30)))))))) → L53 v1 s1) →
  (∀ (v1 : Int) (q0 : Int) (s1 : mm_M), (∀ v2_32 : Int, v2_32 = q0 → ((n32 v2_32 = 0 → (∀ v1_33 : Int, v1_33 = v1 + 1 → L23 v1_33 s1)) ∧ (¬ n32 v2_32 = 0 → (wp_X11_entersAt this v1 s1 (fun s_34 => (∀ v1_36 : Int, v1_36 = v1 + 1 → L23 v1_36 s_34)))))) → L82 v1 q0 s1) →
  (∀ (v1 : Int) (s1 : mm_M), ((30 ≤ n32 v1 → L164 0 s1) ∧ (¬ 30 ≤ n32 v1 → (wp_X11_of this v1 2 s1 (fun r_13 s_12 => ((¬ n32 r_13 = 0 → (∀ v1_14 : Int, v1_14 = v1 + 1 → L100 v1_14 s_12)) ∧ (n32 r_13 = 0 → (wp_X11_of this v1 0 s_12 (fun r_16 s_15 => (wp_X11_sortHas this r_16 5 s_15 (fun r_18 s_17 => ((¬ n32 r_18 = 1 → (∀ v1_19 : Int, v1_19 = v1 + 1 → L100 v1_19 s_17)) ∧ (n32 r_18 = 1 → (wp_X11_placeOf this v1 s_17 (fun r_21 s_20 => (wp_X11_of this v1 1 s_20 (fun r_23 s_22 => ((0 ≤ r_23 ∧ r_23 < 3) ∧ ((n32 ((s_22 (mm_rt this 31) r_23) - 1) ≤ n32 r_21 → (∀ v1_24 : Int, v1_24 = v1 + 1 → L100 v1_24 s_22)) ∧ (¬ n32 ((s_22 (mm_rt this 31) r_23) - 1) ≤ n32 r_21 → (wp_X11_turns this v1 s_22 (fun s_25 => (∀ v1_27 : Int, v1_27 = v1 + 1 → L100 v1_27 s_25)))))))))))))))))))))) → L100 v1 s1) →
  (∀ (v1 : Int) (s1 : mm_M), ((n32 (s1 this 12) ≤ n32 v1 → (∀ s_37 : mm_M, s_37 = mm_up s1 this 28 ((s1 this 28) + 1) → L226 0 s_37)) ∧ (¬ n32 (s1 this 12) ≤ n32 v1 → ((0 ≤ v1 ∧ v1 < 3) ∧ ((n32 (s1 this 28) < n32 (s1 (mm_rt this 30) v1) → (∀ v1_39 : Int, v1_39 = v1 + 1 → L164 v1_39 s1)) ∧ (¬ n32 (s1 this 28) < n32 (s1 (mm_rt this 30) v1) → ((0 ≤ v1 ∧ v1 < 3) ∧ ((n32 (s1 (mm_rt this 29) v1) ≤ 0 → (∀ v1_40 : Int, v1_40 = v1 + 1 → L164 v1_40 s1)) ∧ (¬ n32 (s1 (mm_rt this 29) v1) ≤ 0 → ((0 ≤ v1 ∧ v1 < 3) ∧ ((n32 (s1 (mm_rt this 31) v1) ≤ 0 → (∀ v1_41 : Int, v1_41 = v1 + 1 → L164 v1_41 s1)) ∧ (¬ n32 (s1 (mm_rt this 31) v1) ≤ 0 → (wp_X11_serves this v1 s1 (fun s_42 => (∀ v1_44 : Int, v1_44 = v1 + 1 → L164 v1_44 s_42)))))))))))))) → L164 v1 s1) →
  (∀ (v1 : Int) (s1 : mm_M), ((30 ≤ n32 v1 → post s1) ∧ (¬ 30 ≤ n32 v1 → (wp_X11_of this v1 2 s1 (fun r_46 s_45 => ((¬ n32 r_46 = (-1) → (wp_X11_of this v1 0 s_45 (fun r_48 s_47 => (∀ v2_49 : Int, v2_49 = r_48 → (wp_X11_of this v1 3 s_47 (fun r_51 s_50 => (wp_X11_sortHas this v2_49 2 s_50 (fun r_53 s_52 => ((n32 r_53 ≤ n32 ((s_47 this 28) - r_51) → L283 v1 s_52) ∧ (¬ n32 r_53 ≤ n32 ((s_47 this 28) - r_51) → ((¬ n32 (s_52 this 28) = n32 (s_52 this 16) → (wp_X11_of this v1 2 s_52 (fun r_55 s_54 => ((¬ n32 r_55 = 0 → (wp_X11_sortHas this v2_49 4 s_54 (fun r_57 s_56 => L321 v1 (-r_57) 6 v2_49 s_56))) ∧ (n32 r_55 = 0 → (wp_X11_sortHas this v2_49 3 s_54 (fun r_59 s_58 => L321 v1 (-r_59) 6 v2_49 s_58))))))) ∧ (n32 (s_52 this 28) = n32 (s_52 this 16) → L283 v1 s_52)))))))))))) ∧ (n32 r_46 = (-1) → (∀ v1_60 : Int, v1_60 = v1 + 1 → L226 v1_60 s_45))))))) → L226 v1 s1) →
  (∀ (v1 : Int) (s1 : mm_M), (wp_X11_givesUp this v1 s1 (fun s_61 => (∀ v1_63 : Int, v1_63 = v1 + 1 → L226 v1_63 s_61))) → L283 v1 s1) →
  (∀ (v1 : Int) (q0 : Int) (q1 : Int) (q2 : Int) (s1 : mm_M), (wp_X11_tells this q2 q1 q0 s1 (fun s_64 => (∀ v1_66 : Int, v1_66 = v1 + 1 → L226 v1_66 s_64))) → L321 v1 q0 q1 q2 s1) →
  L2 0 s0
set_option maxRecDepth 100000 in
set_option maxHeartbeats 4000000 in
theorem c_X11_minuteGoes (l : Launch) (G : mm_G) (this : Nat) (h0 : mm_ok this 21 0) (s0 : mm_M) (post : mm_M → Prop) (hw : wp_X11_minuteGoes this s0 post) : Met l yX11_minuteGoes (mm_wm yX11_minuteGoes cX11_minuteGoes 3 none) (mm_rm 6) (va_Pc [.ref (mm_ad G this)] (mm_pre G s0)) (mm_Qv G post) 0 0 (mm_A G) := by
  refine mm_met (own := RX11) (by decide) rfl (Nat.le_of_ble_eq_true rfl) ?_
  intro p e s m args below meth c C hr hk
  unfold wp_X11_minuteGoes at hw
  have hw := hw (fun (v1 : Int) (u : mm_M) => mm_X p l e (mm_rm 6) s m args below meth c (MQ below (mm_Qv G post) args s 0 0 (mm_A G)) G (mm_A G) 3 2 [(0, .ref (mm_ad G this)), (1, .int (mm_I v1))] [] u)
  have hw := hw (fun (v1 : Int) (u : mm_M) => mm_X p l e (mm_rm 6) s m args below meth c (MQ below (mm_Qv G post) args s 0 0 (mm_A G)) G (mm_A G) 3 23 [(0, .ref (mm_ad G this)), (1, .int (mm_I v1))] [] u)
  have hw := hw (fun (v1 : Int) (u : mm_M) => mm_X p l e (mm_rm 6) s m args below meth c (MQ below (mm_Qv G post) args s 0 0 (mm_A G)) G (mm_A G) 3 53 [(0, .ref (mm_ad G this)), (1, .int (mm_I v1))] [] u)
  have hw := hw (fun (v1 : Int) (q0 : Int) (u : mm_M) => mm_X p l e (mm_rm 6) s m args below meth c (MQ below (mm_Qv G post) args s 0 0 (mm_A G)) G (mm_A G) 3 82 [(0, .ref (mm_ad G this)), (1, .int (mm_I v1))] [.int (mm_I q0)] u)
  have hw := hw (fun (v1 : Int) (u : mm_M) => mm_X p l e (mm_rm 6) s m args below meth c (MQ below (mm_Qv G post) args s 0 0 (mm_A G)) G (mm_A G) 3 100 [(0, .ref (mm_ad G this)), (1, .int (mm_I v1))] [] u)
  have hw := hw (fun (v1 : Int) (u : mm_M) => mm_X p l e (mm_rm 6) s m args below meth c (MQ below (mm_Qv G post) args s 0 0 (mm_A G)) G (mm_A G) 3 164 [(0, .ref (mm_ad G this)), (1, .int (mm_I v1))] [] u)
  have hw := hw (fun (v1 : Int) (u : mm_M) => mm_X p l e (mm_rm 6) s m args below meth c (MQ below (mm_Qv G post) args s 0 0 (mm_A G)) G (mm_A G) 3 226 [(0, .ref (mm_ad G this)), (1, .int (mm_I v1))] [] u)
  have hw := hw (fun (v1 : Int) (u : mm_M) => mm_X p l e (mm_rm 6) s m args below meth c (MQ below (mm_Qv G post) args s 0 0 (mm_A G)) G (mm_A G) 3 283 [(0, .ref (mm_ad G this)), (1, .int (mm_I v1))] [] u)
  have hw := hw (fun (v1 : Int) (q0 : Int) (q1 : Int) (q2 : Int) (u : mm_M) => mm_X p l e (mm_rm 6) s m args below meth c (MQ below (mm_Qv G post) args s 0 0 (mm_A G)) G (mm_A G) 3 321 [(0, .ref (mm_ad G this)), (1, .int (mm_I v1))] [.int (mm_I q0), .int (mm_I q1), .int (mm_I q2), .ref (mm_ad G this)] u)
  have hw := hw (by
    intro v1 s1 hw  H locs ls w hl
    refine lv_iload_n (pc := 2) C.1 C.2.1 dX11_minuteGoes_2 rfl (lv_at hl 1 rfl) ?_
    refine lv_aload_n (pc := 3) C.1 C.2.1 dX11_minuteGoes_3 rfl (lv_at hl 0 rfl) ?_
    refine g_geti (pc := 4) C w h0 ff_X11_14 lk_X11_291 dX11_minuteGoes_4 ?_
    refine g_icmp_ge (pc := 7) (tgt := 21) C rfl rfl dX11_minuteGoes_7 (by decide) (fun hc => ?_) (fun hc => ?_)
    · have hw := hw.1 hc
      refine lv_iconst (pc := 21) (v := mm_I 0) C.1 C.2.1 dX11_minuteGoes_21 rfl ?_
      refine lv_istore_n (pc := 22) (lv' := [(1, .int (mm_I 0)), (0, .ref (mm_ad G this))]) C.1 C.2.1 dX11_minuteGoes_22 rfl hl (by decide) rfl (fun ls hl => ?_)
      exact hw  _ _ _ w (lv_sub hl [1, 0] rfl)
    · have hw := hw.2 hc
      refine lv_aload_n (pc := 10) C.1 C.2.1 dX11_minuteGoes_10 rfl (lv_at hl 0 rfl) ?_
      refine lv_iload_n (pc := 11) C.1 C.2.1 dX11_minuteGoes_11 rfl (lv_at hl 1 rfl) ?_
      refine g_callv (pc := 12) w (mm_runV (ci := 11) (q := (RX11, TX11, 65)) (As := [.int (mm_I v1)]) (rest := []) C w (c_X11_somebodyComes l G this v1 h0 s1 _ hw) h0 rfl rfl cv_X11_somebodyComes ml_X11_400 ⟨Nat.le_of_ble_eq_true rfl, Nat.le_of_ble_eq_true rfl⟩ ⟨Nat.le_of_ble_eq_true rfl, Nat.le_of_ble_eq_true rfl⟩ rfl hl.1 rfl (Nat.le_of_ble_eq_true rfl) dX11_minuteGoes_12) (fun s_3 H locs hw w => ?_)
      refine g_iinc (pc := 15) (k := 1) C dX11_minuteGoes_15 hl rfl (by decide) (fun v1_5 ev1_5 ls hl => ?_)
      have hw := hw v1_5 ev1_5
      have hl : lv_has ls 3 [(1, .int (mm_I v1_5)), (0, .ref (mm_ad G this))] := hl
      refine lv_goto (pc := 18) (tgt := 2) C.1 C.2.1 dX11_minuteGoes_18 (by decide) ?_
      exact hw  _ _ _ w (lv_sub hl [1, 0] rfl))
  have hw := hw (by
    intro v1 s1 hw  H locs ls w hl
    refine lv_iload_n (pc := 23) C.1 C.2.1 dX11_minuteGoes_23 rfl (lv_at hl 1 rfl) ?_
    refine lv_bipush (pc := 24) C.1 C.2.1 dX11_minuteGoes_24 mb_30 ?_
    refine g_icmp_ge (pc := 26) (tgt := 98) C rfl mn_30 dX11_minuteGoes_26 (by decide) (fun hc => ?_) (fun hc => ?_)
    · have hw := hw.1 hc
      refine lv_iconst (pc := 98) (v := mm_I 0) C.1 C.2.1 dX11_minuteGoes_98 rfl ?_
      refine lv_istore_n (pc := 99) (lv' := [(1, .int (mm_I 0)), (0, .ref (mm_ad G this))]) C.1 C.2.1 dX11_minuteGoes_99 rfl hl (by decide) rfl (fun ls hl => ?_)
      exact hw  _ _ _ w (lv_sub hl [1, 0] rfl)
    · have hw := hw.2 hc
      refine lv_aload_n (pc := 29) C.1 C.2.1 dX11_minuteGoes_29 rfl (lv_at hl 0 rfl) ?_
      refine lv_iload_n (pc := 30) C.1 C.2.1 dX11_minuteGoes_30 rfl (lv_at hl 1 rfl) ?_
      refine lv_iconst (pc := 31) (v := mm_I 2) C.1 C.2.1 dX11_minuteGoes_31 rfl ?_
      refine g_calli (pc := 32) w (mm_runV (ci := 11) (q := (RX11, TX11, 65)) (As := [.int (mm_I v1), .int (mm_I 2)]) (rest := []) C w (c_X11_of l G this v1 2 h0 s1 _ hw) h0 rfl rfl cv_X11_of ml_X11_317 ⟨Nat.le_of_ble_eq_true rfl, Nat.le_of_ble_eq_true rfl⟩ ⟨Nat.le_of_ble_eq_true rfl, Nat.le_of_ble_eq_true rfl⟩ rfl hl.1 rfl (Nat.le_of_ble_eq_true rfl) dX11_minuteGoes_32) (fun r_8 s_7 H locs hw w => ?_)
      refine lv_iconst (pc := 35) (v := mm_I 2) C.1 C.2.1 dX11_minuteGoes_35 rfl ?_
      refine g_icmp_ne (pc := 36) (tgt := 53) C rfl mn_2 dX11_minuteGoes_36 (by decide) (fun hc => ?_) (fun hc => ?_)
      · have hw := hw.1 hc
        exact hw  _ _ _ w (lv_sub hl [0, 1] rfl)
      · have hw := hw.2 hc
        refine lv_aload_n (pc := 39) C.1 C.2.1 dX11_minuteGoes_39 rfl (lv_at hl 0 rfl) ?_
        refine g_getr (pc := 40) C w h0 ff_X11_31 lk_X11_58 dX11_minuteGoes_40 ?_
        refine lv_aload_n (pc := 43) C.1 C.2.1 dX11_minuteGoes_43 rfl (lv_at hl 0 rfl) ?_
        refine lv_iload_n (pc := 44) C.1 C.2.1 dX11_minuteGoes_44 rfl (lv_at hl 1 rfl) ?_
        refine lv_iconst (pc := 45) (v := mm_I 1) C.1 C.2.1 dX11_minuteGoes_45 rfl ?_
        refine g_calli (pc := 46) w (mm_runV (ci := 11) (q := (RX11, TX11, 65)) (As := [.int (mm_I v1), .int (mm_I 1)]) (rest := [.ref (mm_ad G (mm_rt this 31))]) C w (c_X11_of l G this v1 1 h0 s_7 _ hw) h0 rfl rfl cv_X11_of ml_X11_317 ⟨Nat.le_of_ble_eq_true rfl, Nat.le_of_ble_eq_true rfl⟩ ⟨Nat.le_of_ble_eq_true rfl, Nat.le_of_ble_eq_true rfl⟩ rfl hl.1 rfl (Nat.le_of_ble_eq_true rfl) dX11_minuteGoes_46) (fun r_10 s_9 H locs hw w => ?_)
        obtain ⟨hi, hw⟩ := hw
        refine g_iald (pc := 49) C w (ro_X11_31 h0) hi dX11_minuteGoes_49 ?_
        refine g_if_eq (pc := 50) (tgt := 77) C rfl dX11_minuteGoes_50 (by decide) (fun hc => ?_) (fun hc => ?_)
        · have hw := hw.1 hc
          refine lv_iconst (pc := 77) (v := mm_I 1) C.1 C.2.1 dX11_minuteGoes_77 rfl ?_
          refine lv_goto (pc := 78) (tgt := 82) C.1 C.2.1 dX11_minuteGoes_78 (by decide) ?_
          exact hw  _ _ _ w (lv_sub hl [0, 1] rfl)
        · have hw := hw.2 hc
          exact hw  _ _ _ w (lv_sub hl [0, 1] rfl))
  have hw := hw (by
    intro v1 s1 hw  H locs ls w hl
    refine lv_aload_n (pc := 53) C.1 C.2.1 dX11_minuteGoes_53 rfl (lv_at hl 0 rfl) ?_
    refine lv_iload_n (pc := 54) C.1 C.2.1 dX11_minuteGoes_54 rfl (lv_at hl 1 rfl) ?_
    refine lv_iconst (pc := 55) (v := mm_I 2) C.1 C.2.1 dX11_minuteGoes_55 rfl ?_
    refine g_calli (pc := 56) w (mm_runV (ci := 11) (q := (RX11, TX11, 65)) (As := [.int (mm_I v1), .int (mm_I 2)]) (rest := []) C w (c_X11_of l G this v1 2 h0 s1 _ hw) h0 rfl rfl cv_X11_of ml_X11_317 ⟨Nat.le_of_ble_eq_true rfl, Nat.le_of_ble_eq_true rfl⟩ ⟨Nat.le_of_ble_eq_true rfl, Nat.le_of_ble_eq_true rfl⟩ rfl hl.1 rfl (Nat.le_of_ble_eq_true rfl) dX11_minuteGoes_56) (fun r_29 s_28 H locs hw w => ?_)
    refine lv_iconst (pc := 59) (v := mm_I 1) C.1 C.2.1 dX11_minuteGoes_59 rfl ?_
    refine g_icmp_ne (pc := 60) (tgt := 81) C rfl mn_1 dX11_minuteGoes_60 (by decide) (fun hc => ?_) (fun hc => ?_)
    · have hw := hw.1 hc
      refine lv_iconst (pc := 81) (v := mm_I 0) C.1 C.2.1 dX11_minuteGoes_81 rfl ?_
      exact hw  _ _ _ w (lv_sub hl [0, 1] rfl)
    · have hw := hw.2 hc
      refine lv_aload_n (pc := 63) C.1 C.2.1 dX11_minuteGoes_63 rfl (lv_at hl 0 rfl) ?_
      refine lv_iload_n (pc := 64) C.1 C.2.1 dX11_minuteGoes_64 rfl (lv_at hl 1 rfl) ?_
      refine lv_bipush (pc := 65) C.1 C.2.1 dX11_minuteGoes_65 mb_6 ?_
      refine g_calli (pc := 67) w (mm_runV (ci := 11) (q := (RX11, TX11, 65)) (As := [.int (mm_I v1), .int (mm_I 6)]) (rest := []) C w (c_X11_of l G this v1 6 h0 s_28 _ hw) h0 rfl rfl cv_X11_of ml_X11_317 ⟨Nat.le_of_ble_eq_true rfl, Nat.le_of_ble_eq_true rfl⟩ ⟨Nat.le_of_ble_eq_true rfl, Nat.le_of_ble_eq_true rfl⟩ rfl hl.1 rfl (Nat.le_of_ble_eq_true rfl) dX11_minuteGoes_67) (fun r_31 s_30 H locs hw w => ?_)
      refine lv_aload_n (pc := 70) C.1 C.2.1 dX11_minuteGoes_70 rfl (lv_at hl 0 rfl) ?_
      refine g_geti (pc := 71) C w h0 ff_X11_28 lk_X11_301 dX11_minuteGoes_71 ?_
      refine g_icmp_gt (pc := 74) (tgt := 81) C rfl rfl dX11_minuteGoes_74 (by decide) (fun hc => ?_) (fun hc => ?_)
      · have hw := hw.1 hc
        refine lv_iconst (pc := 81) (v := mm_I 0) C.1 C.2.1 dX11_minuteGoes_81 rfl ?_
        exact hw  _ _ _ w (lv_sub hl [0, 1] rfl)
      · have hw := hw.2 hc
        refine lv_iconst (pc := 77) (v := mm_I 1) C.1 C.2.1 dX11_minuteGoes_77 rfl ?_
        refine lv_goto (pc := 78) (tgt := 82) C.1 C.2.1 dX11_minuteGoes_78 (by decide) ?_
        exact hw  _ _ _ w (lv_sub hl [0, 1] rfl))
  have hw := hw (by
    intro v1 q0 s1 hw  H locs ls w hl
    refine g_istore_n (pc := 82) C dX11_minuteGoes_82 rfl hl (by decide) (fun v2_32 ev2_32 ls hl => ?_)
    have hw := hw v2_32 ev2_32
    have hl : lv_has ls 3 [(2, .int (mm_I v2_32)), (0, .ref (mm_ad G this)), (1, .int (mm_I v1))] := hl
    refine lv_iload_n (pc := 83) C.1 C.2.1 dX11_minuteGoes_83 rfl (lv_at hl 0 rfl) ?_
    refine g_if_eq (pc := 84) (tgt := 92) C rfl dX11_minuteGoes_84 (by decide) (fun hc => ?_) (fun hc => ?_)
    · have hw := hw.1 hc
      refine g_iinc (pc := 92) (k := 2) C dX11_minuteGoes_92 hl rfl (by decide) (fun v1_33 ev1_33 ls hl => ?_)
      have hw := hw v1_33 ev1_33
      have hl : lv_has ls 3 [(1, .int (mm_I v1_33)), (2, .int (mm_I v2_32)), (0, .ref (mm_ad G this))] := hl
      refine lv_goto (pc := 95) (tgt := 23) C.1 C.2.1 dX11_minuteGoes_95 (by decide) ?_
      exact hw  _ _ _ w (lv_sub hl [2, 0] rfl)
    · have hw := hw.2 hc
      refine lv_aload_n (pc := 87) C.1 C.2.1 dX11_minuteGoes_87 rfl (lv_at hl 1 rfl) ?_
      refine lv_iload_n (pc := 88) C.1 C.2.1 dX11_minuteGoes_88 rfl (lv_at hl 2 rfl) ?_
      refine g_callv (pc := 89) w (mm_runV (ci := 11) (q := (RX11, TX11, 65)) (As := [.int (mm_I v1)]) (rest := []) C w (c_X11_entersAt l G this v1 h0 s1 _ hw) h0 rfl rfl cv_X11_entersAt ml_X11_350 ⟨Nat.le_of_ble_eq_true rfl, Nat.le_of_ble_eq_true rfl⟩ ⟨Nat.le_of_ble_eq_true rfl, Nat.le_of_ble_eq_true rfl⟩ rfl hl.1 rfl (Nat.le_of_ble_eq_true rfl) dX11_minuteGoes_89) (fun s_34 H locs hw w => ?_)
      refine g_iinc (pc := 92) (k := 2) C dX11_minuteGoes_92 hl rfl (by decide) (fun v1_36 ev1_36 ls hl => ?_)
      have hw := hw v1_36 ev1_36
      have hl : lv_has ls 3 [(1, .int (mm_I v1_36)), (2, .int (mm_I v2_32)), (0, .ref (mm_ad G this))] := hl
      refine lv_goto (pc := 95) (tgt := 23) C.1 C.2.1 dX11_minuteGoes_95 (by decide) ?_
      exact hw  _ _ _ w (lv_sub hl [2, 0] rfl))
  have hw := hw (by
    intro v1 s1 hw  H locs ls w hl
    refine lv_iload_n (pc := 100) C.1 C.2.1 dX11_minuteGoes_100 rfl (lv_at hl 1 rfl) ?_
    refine lv_bipush (pc := 101) C.1 C.2.1 dX11_minuteGoes_101 mb_30 ?_
    refine g_icmp_ge (pc := 103) (tgt := 162) C rfl mn_30 dX11_minuteGoes_103 (by decide) (fun hc => ?_) (fun hc => ?_)
    · have hw := hw.1 hc
      refine lv_iconst (pc := 162) (v := mm_I 0) C.1 C.2.1 dX11_minuteGoes_162 rfl ?_
      refine lv_istore_n (pc := 163) (lv' := [(1, .int (mm_I 0)), (0, .ref (mm_ad G this))]) C.1 C.2.1 dX11_minuteGoes_163 rfl hl (by decide) rfl (fun ls hl => ?_)
      exact hw  _ _ _ w (lv_sub hl [1, 0] rfl)
    · have hw := hw.2 hc
      refine lv_aload_n (pc := 106) C.1 C.2.1 dX11_minuteGoes_106 rfl (lv_at hl 0 rfl) ?_
      refine lv_iload_n (pc := 107) C.1 C.2.1 dX11_minuteGoes_107 rfl (lv_at hl 1 rfl) ?_
      refine lv_iconst (pc := 108) (v := mm_I 2) C.1 C.2.1 dX11_minuteGoes_108 rfl ?_
      refine g_calli (pc := 109) w (mm_runV (ci := 11) (q := (RX11, TX11, 65)) (As := [.int (mm_I v1), .int (mm_I 2)]) (rest := []) C w (c_X11_of l G this v1 2 h0 s1 _ hw) h0 rfl rfl cv_X11_of ml_X11_317 ⟨Nat.le_of_ble_eq_true rfl, Nat.le_of_ble_eq_true rfl⟩ ⟨Nat.le_of_ble_eq_true rfl, Nat.le_of_ble_eq_true rfl⟩ rfl hl.1 rfl (Nat.le_of_ble_eq_true rfl) dX11_minuteGoes_109) (fun r_13 s_12 H locs hw w => ?_)
      refine g_if_ne (pc := 112) (tgt := 156) C rfl dX11_minuteGoes_112 (by decide) (fun hc => ?_) (fun hc => ?_)
      · have hw := hw.1 hc
        refine g_iinc (pc := 156) (k := 1) C dX11_minuteGoes_156 hl rfl (by decide) (fun v1_14 ev1_14 ls hl => ?_)
        have hw := hw v1_14 ev1_14
        have hl : lv_has ls 3 [(1, .int (mm_I v1_14)), (0, .ref (mm_ad G this))] := hl
        refine lv_goto (pc := 159) (tgt := 100) C.1 C.2.1 dX11_minuteGoes_159 (by decide) ?_
        exact hw  _ _ _ w (lv_sub hl [1, 0] rfl)
      · have hw := hw.2 hc
        refine lv_aload_n (pc := 115) C.1 C.2.1 dX11_minuteGoes_115 rfl (lv_at hl 0 rfl) ?_
        refine lv_aload_n (pc := 116) C.1 C.2.1 dX11_minuteGoes_116 rfl (lv_at hl 0 rfl) ?_
        refine lv_iload_n (pc := 117) C.1 C.2.1 dX11_minuteGoes_117 rfl (lv_at hl 1 rfl) ?_
        refine lv_iconst (pc := 118) (v := mm_I 0) C.1 C.2.1 dX11_minuteGoes_118 rfl ?_
        refine g_calli (pc := 119) w (mm_runV (ci := 11) (q := (RX11, TX11, 65)) (As := [.int (mm_I v1), .int (mm_I 0)]) (rest := [.ref (mm_ad G this)]) C w (c_X11_of l G this v1 0 h0 s_12 _ hw) h0 rfl rfl cv_X11_of ml_X11_317 ⟨Nat.le_of_ble_eq_true rfl, Nat.le_of_ble_eq_true rfl⟩ ⟨Nat.le_of_ble_eq_true rfl, Nat.le_of_ble_eq_true rfl⟩ rfl hl.1 rfl (Nat.le_of_ble_eq_true rfl) dX11_minuteGoes_119) (fun r_16 s_15 H locs hw w => ?_)
        refine lv_iconst (pc := 122) (v := mm_I 5) C.1 C.2.1 dX11_minuteGoes_122 rfl ?_
        refine g_calli (pc := 123) w (mm_runV (ci := 11) (q := (RX11, TX11, 65)) (As := [.int (mm_I r_16), .int (mm_I 5)]) (rest := []) C w (c_X11_sortHas l G this r_16 5 h0 s_15 _ hw) h0 rfl rfl cv_X11_sortHas ml_X11_327 ⟨Nat.le_of_ble_eq_true rfl, Nat.le_of_ble_eq_true rfl⟩ ⟨Nat.le_of_ble_eq_true rfl, Nat.le_of_ble_eq_true rfl⟩ rfl hl.1 rfl (Nat.le_of_ble_eq_true rfl) dX11_minuteGoes_123) (fun r_18 s_17 H locs hw w => ?_)
        refine lv_iconst (pc := 126) (v := mm_I 1) C.1 C.2.1 dX11_minuteGoes_126 rfl ?_
        refine g_icmp_ne (pc := 127) (tgt := 156) C rfl mn_1 dX11_minuteGoes_127 (by decide) (fun hc => ?_) (fun hc => ?_)
        · have hw := hw.1 hc
          refine g_iinc (pc := 156) (k := 1) C dX11_minuteGoes_156 hl rfl (by decide) (fun v1_19 ev1_19 ls hl => ?_)
          have hw := hw v1_19 ev1_19
          have hl : lv_has ls 3 [(1, .int (mm_I v1_19)), (0, .ref (mm_ad G this))] := hl
          refine lv_goto (pc := 159) (tgt := 100) C.1 C.2.1 dX11_minuteGoes_159 (by decide) ?_
          exact hw  _ _ _ w (lv_sub hl [1, 0] rfl)
        · have hw := hw.2 hc
          refine lv_aload_n (pc := 130) C.1 C.2.1 dX11_minuteGoes_130 rfl (lv_at hl 0 rfl) ?_
          refine lv_iload_n (pc := 131) C.1 C.2.1 dX11_minuteGoes_131 rfl (lv_at hl 1 rfl) ?_
          refine g_calli (pc := 132) w (mm_runV (ci := 11) (q := (RX11, TX11, 65)) (As := [.int (mm_I v1)]) (rest := []) C w (c_X11_placeOf l G this v1 h0 s_17 _ hw) h0 rfl rfl cv_X11_placeOf ml_X11_353 ⟨Nat.le_of_ble_eq_true rfl, Nat.le_of_ble_eq_true rfl⟩ ⟨Nat.le_of_ble_eq_true rfl, Nat.le_of_ble_eq_true rfl⟩ rfl hl.1 rfl (Nat.le_of_ble_eq_true rfl) dX11_minuteGoes_132) (fun r_21 s_20 H locs hw w => ?_)
          refine lv_aload_n (pc := 135) C.1 C.2.1 dX11_minuteGoes_135 rfl (lv_at hl 0 rfl) ?_
          refine g_getr (pc := 136) C w h0 ff_X11_31 lk_X11_58 dX11_minuteGoes_136 ?_
          refine lv_aload_n (pc := 139) C.1 C.2.1 dX11_minuteGoes_139 rfl (lv_at hl 0 rfl) ?_
          refine lv_iload_n (pc := 140) C.1 C.2.1 dX11_minuteGoes_140 rfl (lv_at hl 1 rfl) ?_
          refine lv_iconst (pc := 141) (v := mm_I 1) C.1 C.2.1 dX11_minuteGoes_141 rfl ?_
          refine g_calli (pc := 142) w (mm_runV (ci := 11) (q := (RX11, TX11, 65)) (As := [.int (mm_I v1), .int (mm_I 1)]) (rest := [.ref (mm_ad G (mm_rt this 31)), .int (mm_I r_21)]) C w (c_X11_of l G this v1 1 h0 s_20 _ hw) h0 rfl rfl cv_X11_of ml_X11_317 ⟨Nat.le_of_ble_eq_true rfl, Nat.le_of_ble_eq_true rfl⟩ ⟨Nat.le_of_ble_eq_true rfl, Nat.le_of_ble_eq_true rfl⟩ rfl hl.1 rfl (Nat.le_of_ble_eq_true rfl) dX11_minuteGoes_142) (fun r_23 s_22 H locs hw w => ?_)
          obtain ⟨hi, hw⟩ := hw
          refine g_iald (pc := 145) C w (ro_X11_31 h0) hi dX11_minuteGoes_145 ?_
          refine lv_iconst (pc := 146) (v := mm_I 1) C.1 C.2.1 dX11_minuteGoes_146 rfl ?_
          refine g_isub (pc := 147) C dX11_minuteGoes_147 ?_
          refine g_icmp_ge (pc := 148) (tgt := 156) C rfl rfl dX11_minuteGoes_148 (by decide) (fun hc => ?_) (fun hc => ?_)
          · have hw := hw.1 hc
            refine g_iinc (pc := 156) (k := 1) C dX11_minuteGoes_156 hl rfl (by decide) (fun v1_24 ev1_24 ls hl => ?_)
            have hw := hw v1_24 ev1_24
            have hl : lv_has ls 3 [(1, .int (mm_I v1_24)), (0, .ref (mm_ad G this))] := hl
            refine lv_goto (pc := 159) (tgt := 100) C.1 C.2.1 dX11_minuteGoes_159 (by decide) ?_
            exact hw  _ _ _ w (lv_sub hl [1, 0] rfl)
          · have hw := hw.2 hc
            refine lv_aload_n (pc := 151) C.1 C.2.1 dX11_minuteGoes_151 rfl (lv_at hl 0 rfl) ?_
            refine lv_iload_n (pc := 152) C.1 C.2.1 dX11_minuteGoes_152 rfl (lv_at hl 1 rfl) ?_
            refine g_callv (pc := 153) w (mm_runV (ci := 11) (q := (RX11, TX11, 65)) (As := [.int (mm_I v1)]) (rest := []) C w (c_X11_turns l G this v1 h0 s_22 _ hw) h0 rfl rfl cv_X11_turns ml_X11_369 ⟨Nat.le_of_ble_eq_true rfl, Nat.le_of_ble_eq_true rfl⟩ ⟨Nat.le_of_ble_eq_true rfl, Nat.le_of_ble_eq_true rfl⟩ rfl hl.1 rfl (Nat.le_of_ble_eq_true rfl) dX11_minuteGoes_153) (fun s_25 H locs hw w => ?_)
            refine g_iinc (pc := 156) (k := 1) C dX11_minuteGoes_156 hl rfl (by decide) (fun v1_27 ev1_27 ls hl => ?_)
            have hw := hw v1_27 ev1_27
            have hl : lv_has ls 3 [(1, .int (mm_I v1_27)), (0, .ref (mm_ad G this))] := hl
            refine lv_goto (pc := 159) (tgt := 100) C.1 C.2.1 dX11_minuteGoes_159 (by decide) ?_
            exact hw  _ _ _ w (lv_sub hl [1, 0] rfl))
  have hw := hw (by
    intro v1 s1 hw  H locs ls w hl
    refine lv_iload_n (pc := 164) C.1 C.2.1 dX11_minuteGoes_164 rfl (lv_at hl 1 rfl) ?_
    refine lv_aload_n (pc := 165) C.1 C.2.1 dX11_minuteGoes_165 rfl (lv_at hl 0 rfl) ?_
    refine g_geti (pc := 166) C w h0 ff_X11_12 lk_X11_288 dX11_minuteGoes_166 ?_
    refine g_icmp_ge (pc := 169) (tgt := 214) C rfl rfl dX11_minuteGoes_169 (by decide) (fun hc => ?_) (fun hc => ?_)
    · have hw := hw.1 hc
      refine lv_aload_n (pc := 214) C.1 C.2.1 dX11_minuteGoes_214 rfl (lv_at hl 0 rfl) ?_
      refine lv_dup (pc := 215) C.1 C.2.1 dX11_minuteGoes_215 rfl ?_
      refine g_geti (pc := 216) C w h0 ff_X11_28 lk_X11_301 dX11_minuteGoes_216 ?_
      refine lv_iconst (pc := 219) (v := mm_I 1) C.1 C.2.1 dX11_minuteGoes_219 rfl ?_
      refine g_iadd (pc := 220) C dX11_minuteGoes_220 ?_
      refine g_puti (pc := 221) C w h0 ff_X11_28 fw_X11_28 lk_X11_301 dX11_minuteGoes_221 (fun s_37 H locs es_37 w => ?_)
      have hw := hw s_37 es_37
      refine lv_iconst (pc := 224) (v := mm_I 0) C.1 C.2.1 dX11_minuteGoes_224 rfl ?_
      refine lv_istore_n (pc := 225) (lv' := [(1, .int (mm_I 0)), (0, .ref (mm_ad G this))]) C.1 C.2.1 dX11_minuteGoes_225 rfl hl (by decide) rfl (fun ls hl => ?_)
      exact hw  _ _ _ w (lv_sub hl [1, 0] rfl)
    · have hw := hw.2 hc
      refine lv_aload_n (pc := 172) C.1 C.2.1 dX11_minuteGoes_172 rfl (lv_at hl 0 rfl) ?_
      refine g_getr (pc := 173) C w h0 ff_X11_30 lk_X11_55 dX11_minuteGoes_173 ?_
      refine lv_iload_n (pc := 176) C.1 C.2.1 dX11_minuteGoes_176 rfl (lv_at hl 1 rfl) ?_
      obtain ⟨hi, hw⟩ := hw
      refine g_iald (pc := 177) C w (ro_X11_30 h0) hi dX11_minuteGoes_177 ?_
      refine lv_aload_n (pc := 178) C.1 C.2.1 dX11_minuteGoes_178 rfl (lv_at hl 0 rfl) ?_
      refine g_geti (pc := 179) C w h0 ff_X11_28 lk_X11_301 dX11_minuteGoes_179 ?_
      refine g_icmp_gt (pc := 182) (tgt := 208) C rfl rfl dX11_minuteGoes_182 (by decide) (fun hc => ?_) (fun hc => ?_)
      · have hw := hw.1 hc
        refine g_iinc (pc := 208) (k := 1) C dX11_minuteGoes_208 hl rfl (by decide) (fun v1_39 ev1_39 ls hl => ?_)
        have hw := hw v1_39 ev1_39
        have hl : lv_has ls 3 [(1, .int (mm_I v1_39)), (0, .ref (mm_ad G this))] := hl
        refine lv_goto (pc := 211) (tgt := 164) C.1 C.2.1 dX11_minuteGoes_211 (by decide) ?_
        exact hw  _ _ _ w (lv_sub hl [1, 0] rfl)
      · have hw := hw.2 hc
        refine lv_aload_n (pc := 185) C.1 C.2.1 dX11_minuteGoes_185 rfl (lv_at hl 0 rfl) ?_
        refine g_getr (pc := 186) C w h0 ff_X11_29 lk_X11_52 dX11_minuteGoes_186 ?_
        refine lv_iload_n (pc := 189) C.1 C.2.1 dX11_minuteGoes_189 rfl (lv_at hl 1 rfl) ?_
        obtain ⟨hi, hw⟩ := hw
        refine g_iald (pc := 190) C w (ro_X11_29 h0) hi dX11_minuteGoes_190 ?_
        refine g_if_le (pc := 191) (tgt := 208) C rfl dX11_minuteGoes_191 (by decide) (fun hc => ?_) (fun hc => ?_)
        · have hw := hw.1 hc
          refine g_iinc (pc := 208) (k := 1) C dX11_minuteGoes_208 hl rfl (by decide) (fun v1_40 ev1_40 ls hl => ?_)
          have hw := hw v1_40 ev1_40
          have hl : lv_has ls 3 [(1, .int (mm_I v1_40)), (0, .ref (mm_ad G this))] := hl
          refine lv_goto (pc := 211) (tgt := 164) C.1 C.2.1 dX11_minuteGoes_211 (by decide) ?_
          exact hw  _ _ _ w (lv_sub hl [1, 0] rfl)
        · have hw := hw.2 hc
          refine lv_aload_n (pc := 194) C.1 C.2.1 dX11_minuteGoes_194 rfl (lv_at hl 0 rfl) ?_
          refine g_getr (pc := 195) C w h0 ff_X11_31 lk_X11_58 dX11_minuteGoes_195 ?_
          refine lv_iload_n (pc := 198) C.1 C.2.1 dX11_minuteGoes_198 rfl (lv_at hl 1 rfl) ?_
          obtain ⟨hi, hw⟩ := hw
          refine g_iald (pc := 199) C w (ro_X11_31 h0) hi dX11_minuteGoes_199 ?_
          refine g_if_le (pc := 200) (tgt := 208) C rfl dX11_minuteGoes_200 (by decide) (fun hc => ?_) (fun hc => ?_)
          · have hw := hw.1 hc
            refine g_iinc (pc := 208) (k := 1) C dX11_minuteGoes_208 hl rfl (by decide) (fun v1_41 ev1_41 ls hl => ?_)
            have hw := hw v1_41 ev1_41
            have hl : lv_has ls 3 [(1, .int (mm_I v1_41)), (0, .ref (mm_ad G this))] := hl
            refine lv_goto (pc := 211) (tgt := 164) C.1 C.2.1 dX11_minuteGoes_211 (by decide) ?_
            exact hw  _ _ _ w (lv_sub hl [1, 0] rfl)
          · have hw := hw.2 hc
            refine lv_aload_n (pc := 203) C.1 C.2.1 dX11_minuteGoes_203 rfl (lv_at hl 0 rfl) ?_
            refine lv_iload_n (pc := 204) C.1 C.2.1 dX11_minuteGoes_204 rfl (lv_at hl 1 rfl) ?_
            refine g_callv (pc := 205) w (mm_runV (ci := 11) (q := (RX11, TX11, 65)) (As := [.int (mm_I v1)]) (rest := []) C w (c_X11_serves l G this v1 h0 s1 _ hw) h0 rfl rfl cv_X11_serves ml_X11_403 ⟨Nat.le_of_ble_eq_true rfl, Nat.le_of_ble_eq_true rfl⟩ ⟨Nat.le_of_ble_eq_true rfl, Nat.le_of_ble_eq_true rfl⟩ rfl hl.1 rfl (Nat.le_of_ble_eq_true rfl) dX11_minuteGoes_205) (fun s_42 H locs hw w => ?_)
            refine g_iinc (pc := 208) (k := 1) C dX11_minuteGoes_208 hl rfl (by decide) (fun v1_44 ev1_44 ls hl => ?_)
            have hw := hw v1_44 ev1_44
            have hl : lv_has ls 3 [(1, .int (mm_I v1_44)), (0, .ref (mm_ad G this))] := hl
            refine lv_goto (pc := 211) (tgt := 164) C.1 C.2.1 dX11_minuteGoes_211 (by decide) ?_
            exact hw  _ _ _ w (lv_sub hl [1, 0] rfl))
  have hw := hw (by
    intro v1 s1 hw  H locs ls w hl
    refine lv_iload_n (pc := 226) C.1 C.2.1 dX11_minuteGoes_226 rfl (lv_at hl 1 rfl) ?_
    refine lv_bipush (pc := 227) C.1 C.2.1 dX11_minuteGoes_227 mb_30 ?_
    refine g_icmp_ge (pc := 229) (tgt := 330) C rfl mn_30 dX11_minuteGoes_229 (by decide) (fun hc => ?_) (fun hc => ?_)
    · have hw := hw.1 hc
      exact g_vret (pc := 330) C w hr hk hw dX11_minuteGoes_330
    · have hw := hw.2 hc
      refine lv_aload_n (pc := 232) C.1 C.2.1 dX11_minuteGoes_232 rfl (lv_at hl 0 rfl) ?_
      refine lv_iload_n (pc := 233) C.1 C.2.1 dX11_minuteGoes_233 rfl (lv_at hl 1 rfl) ?_
      refine lv_iconst (pc := 234) (v := mm_I 2) C.1 C.2.1 dX11_minuteGoes_234 rfl ?_
      refine g_calli (pc := 235) w (mm_runV (ci := 11) (q := (RX11, TX11, 65)) (As := [.int (mm_I v1), .int (mm_I 2)]) (rest := []) C w (c_X11_of l G this v1 2 h0 s1 _ hw) h0 rfl rfl cv_X11_of ml_X11_317 ⟨Nat.le_of_ble_eq_true rfl, Nat.le_of_ble_eq_true rfl⟩ ⟨Nat.le_of_ble_eq_true rfl, Nat.le_of_ble_eq_true rfl⟩ rfl hl.1 rfl (Nat.le_of_ble_eq_true rfl) dX11_minuteGoes_235) (fun r_46 s_45 H locs hw w => ?_)
      refine lv_iconst (pc := 238) (v := mm_I (-1)) C.1 C.2.1 dX11_minuteGoes_238 rfl ?_
      refine g_icmp_ne (pc := 239) (tgt := 245) C rfl mn_m1 dX11_minuteGoes_239 (by decide) (fun hc => ?_) (fun hc => ?_)
      · have hw := hw.1 hc
        refine lv_aload_n (pc := 245) C.1 C.2.1 dX11_minuteGoes_245 rfl (lv_at hl 0 rfl) ?_
        refine lv_iload_n (pc := 246) C.1 C.2.1 dX11_minuteGoes_246 rfl (lv_at hl 1 rfl) ?_
        refine lv_iconst (pc := 247) (v := mm_I 0) C.1 C.2.1 dX11_minuteGoes_247 rfl ?_
        refine g_calli (pc := 248) w (mm_runV (ci := 11) (q := (RX11, TX11, 65)) (As := [.int (mm_I v1), .int (mm_I 0)]) (rest := []) C w (c_X11_of l G this v1 0 h0 s_45 _ hw) h0 rfl rfl cv_X11_of ml_X11_317 ⟨Nat.le_of_ble_eq_true rfl, Nat.le_of_ble_eq_true rfl⟩ ⟨Nat.le_of_ble_eq_true rfl, Nat.le_of_ble_eq_true rfl⟩ rfl hl.1 rfl (Nat.le_of_ble_eq_true rfl) dX11_minuteGoes_248) (fun r_48 s_47 H locs hw w => ?_)
        refine g_istore_n (pc := 251) C dX11_minuteGoes_251 rfl hl (by decide) (fun v2_49 ev2_49 ls hl => ?_)
        have hw := hw v2_49 ev2_49
        have hl : lv_has ls 3 [(2, .int (mm_I v2_49)), (0, .ref (mm_ad G this)), (1, .int (mm_I v1))] := hl
        refine lv_aload_n (pc := 252) C.1 C.2.1 dX11_minuteGoes_252 rfl (lv_at hl 1 rfl) ?_
        refine g_geti (pc := 253) C w h0 ff_X11_28 lk_X11_301 dX11_minuteGoes_253 ?_
        refine lv_aload_n (pc := 256) C.1 C.2.1 dX11_minuteGoes_256 rfl (lv_at hl 1 rfl) ?_
        refine lv_iload_n (pc := 257) C.1 C.2.1 dX11_minuteGoes_257 rfl (lv_at hl 2 rfl) ?_
        refine lv_iconst (pc := 258) (v := mm_I 3) C.1 C.2.1 dX11_minuteGoes_258 rfl ?_
        refine g_calli (pc := 259) w (mm_runV (ci := 11) (q := (RX11, TX11, 65)) (As := [.int (mm_I v1), .int (mm_I 3)]) (rest := [.int (mm_I (s_47 this 28))]) C w (c_X11_of l G this v1 3 h0 s_47 _ hw) h0 rfl rfl cv_X11_of ml_X11_317 ⟨Nat.le_of_ble_eq_true rfl, Nat.le_of_ble_eq_true rfl⟩ ⟨Nat.le_of_ble_eq_true rfl, Nat.le_of_ble_eq_true rfl⟩ rfl hl.1 rfl (Nat.le_of_ble_eq_true rfl) dX11_minuteGoes_259) (fun r_51 s_50 H locs hw w => ?_)
        refine g_isub (pc := 262) C dX11_minuteGoes_262 ?_
        refine lv_aload_n (pc := 263) C.1 C.2.1 dX11_minuteGoes_263 rfl (lv_at hl 1 rfl) ?_
        refine lv_iload_n (pc := 264) C.1 C.2.1 dX11_minuteGoes_264 rfl (lv_at hl 0 rfl) ?_
        refine lv_iconst (pc := 265) (v := mm_I 2) C.1 C.2.1 dX11_minuteGoes_265 rfl ?_
        refine g_calli (pc := 266) w (mm_runV (ci := 11) (q := (RX11, TX11, 65)) (As := [.int (mm_I v2_49), .int (mm_I 2)]) (rest := [.int (mm_I ((s_47 this 28) - r_51))]) C w (c_X11_sortHas l G this v2_49 2 h0 s_50 _ hw) h0 rfl rfl cv_X11_sortHas ml_X11_327 ⟨Nat.le_of_ble_eq_true rfl, Nat.le_of_ble_eq_true rfl⟩ ⟨Nat.le_of_ble_eq_true rfl, Nat.le_of_ble_eq_true rfl⟩ rfl hl.1 rfl (Nat.le_of_ble_eq_true rfl) dX11_minuteGoes_266) (fun r_53 s_52 H locs hw w => ?_)
        refine g_icmp_ge (pc := 269) (tgt := 283) C rfl rfl dX11_minuteGoes_269 (by decide) (fun hc => ?_) (fun hc => ?_)
        · have hw := hw.1 hc
          exact hw  _ _ _ w (lv_sub hl [1, 2] rfl)
        · have hw := hw.2 hc
          refine lv_aload_n (pc := 272) C.1 C.2.1 dX11_minuteGoes_272 rfl (lv_at hl 1 rfl) ?_
          refine g_geti (pc := 273) C w h0 ff_X11_28 lk_X11_301 dX11_minuteGoes_273 ?_
          refine lv_aload_n (pc := 276) C.1 C.2.1 dX11_minuteGoes_276 rfl (lv_at hl 1 rfl) ?_
          refine g_geti (pc := 277) C w h0 ff_X11_16 lk_X11_294 dX11_minuteGoes_277 ?_
          refine g_icmp_ne (pc := 280) (tgt := 291) C rfl rfl dX11_minuteGoes_280 (by decide) (fun hc => ?_) (fun hc => ?_)
          · have hw := hw.1 hc
            refine lv_aload_n (pc := 291) C.1 C.2.1 dX11_minuteGoes_291 rfl (lv_at hl 1 rfl) ?_
            refine lv_iload_n (pc := 292) C.1 C.2.1 dX11_minuteGoes_292 rfl (lv_at hl 0 rfl) ?_
            refine lv_bipush (pc := 293) C.1 C.2.1 dX11_minuteGoes_293 mb_6 ?_
            refine lv_aload_n (pc := 295) C.1 C.2.1 dX11_minuteGoes_295 rfl (lv_at hl 1 rfl) ?_
            refine lv_iload_n (pc := 296) C.1 C.2.1 dX11_minuteGoes_296 rfl (lv_at hl 2 rfl) ?_
            refine lv_iconst (pc := 297) (v := mm_I 2) C.1 C.2.1 dX11_minuteGoes_297 rfl ?_
            refine g_calli (pc := 298) w (mm_runV (ci := 11) (q := (RX11, TX11, 65)) (As := [.int (mm_I v1), .int (mm_I 2)]) (rest := [.int (mm_I 6), .int (mm_I v2_49), .ref (mm_ad G this)]) C w (c_X11_of l G this v1 2 h0 s_52 _ hw) h0 rfl rfl cv_X11_of ml_X11_317 ⟨Nat.le_of_ble_eq_true rfl, Nat.le_of_ble_eq_true rfl⟩ ⟨Nat.le_of_ble_eq_true rfl, Nat.le_of_ble_eq_true rfl⟩ rfl hl.1 rfl (Nat.le_of_ble_eq_true rfl) dX11_minuteGoes_298) (fun r_55 s_54 H locs hw w => ?_)
            refine g_if_ne (pc := 301) (tgt := 314) C rfl dX11_minuteGoes_301 (by decide) (fun hc => ?_) (fun hc => ?_)
            · have hw := hw.1 hc
              refine lv_aload_n (pc := 314) C.1 C.2.1 dX11_minuteGoes_314 rfl (lv_at hl 1 rfl) ?_
              refine lv_iload_n (pc := 315) C.1 C.2.1 dX11_minuteGoes_315 rfl (lv_at hl 0 rfl) ?_
              refine lv_iconst (pc := 316) (v := mm_I 4) C.1 C.2.1 dX11_minuteGoes_316 rfl ?_
              refine g_calli (pc := 317) w (mm_runV (ci := 11) (q := (RX11, TX11, 65)) (As := [.int (mm_I v2_49), .int (mm_I 4)]) (rest := [.int (mm_I 6), .int (mm_I v2_49), .ref (mm_ad G this)]) C w (c_X11_sortHas l G this v2_49 4 h0 s_54 _ hw) h0 rfl rfl cv_X11_sortHas ml_X11_327 ⟨Nat.le_of_ble_eq_true rfl, Nat.le_of_ble_eq_true rfl⟩ ⟨Nat.le_of_ble_eq_true rfl, Nat.le_of_ble_eq_true rfl⟩ rfl hl.1 rfl (Nat.le_of_ble_eq_true rfl) dX11_minuteGoes_317) (fun r_57 s_56 H locs hw w => ?_)
              refine g_ineg (pc := 320) C dX11_minuteGoes_320 ?_
              exact hw  _ _ _ w (lv_sub hl [1, 2] rfl)
            · have hw := hw.2 hc
              refine lv_aload_n (pc := 304) C.1 C.2.1 dX11_minuteGoes_304 rfl (lv_at hl 1 rfl) ?_
              refine lv_iload_n (pc := 305) C.1 C.2.1 dX11_minuteGoes_305 rfl (lv_at hl 0 rfl) ?_
              refine lv_iconst (pc := 306) (v := mm_I 3) C.1 C.2.1 dX11_minuteGoes_306 rfl ?_
              refine g_calli (pc := 307) w (mm_runV (ci := 11) (q := (RX11, TX11, 65)) (As := [.int (mm_I v2_49), .int (mm_I 3)]) (rest := [.int (mm_I 6), .int (mm_I v2_49), .ref (mm_ad G this)]) C w (c_X11_sortHas l G this v2_49 3 h0 s_54 _ hw) h0 rfl rfl cv_X11_sortHas ml_X11_327 ⟨Nat.le_of_ble_eq_true rfl, Nat.le_of_ble_eq_true rfl⟩ ⟨Nat.le_of_ble_eq_true rfl, Nat.le_of_ble_eq_true rfl⟩ rfl hl.1 rfl (Nat.le_of_ble_eq_true rfl) dX11_minuteGoes_307) (fun r_59 s_58 H locs hw w => ?_)
              refine g_ineg (pc := 310) C dX11_minuteGoes_310 ?_
              refine lv_goto (pc := 311) (tgt := 321) C.1 C.2.1 dX11_minuteGoes_311 (by decide) ?_
              exact hw  _ _ _ w (lv_sub hl [1, 2] rfl)
          · have hw := hw.2 hc
            exact hw  _ _ _ w (lv_sub hl [1, 2] rfl)
      · have hw := hw.2 hc
        refine lv_goto (pc := 242) (tgt := 324) C.1 C.2.1 dX11_minuteGoes_242 (by decide) ?_
        refine g_iinc (pc := 324) (k := 1) C dX11_minuteGoes_324 hl rfl (by decide) (fun v1_60 ev1_60 ls hl => ?_)
        have hw := hw v1_60 ev1_60
        have hl : lv_has ls 3 [(1, .int (mm_I v1_60)), (0, .ref (mm_ad G this))] := hl
        refine lv_goto (pc := 327) (tgt := 226) C.1 C.2.1 dX11_minuteGoes_327 (by decide) ?_
        exact hw  _ _ _ w (lv_sub hl [1, 0] rfl))
  have hw := hw (by
    intro v1 s1 hw  H locs ls w hl
    refine lv_aload_n (pc := 283) C.1 C.2.1 dX11_minuteGoes_283 rfl (lv_at hl 0 rfl) ?_
    refine lv_iload_n (pc := 284) C.1 C.2.1 dX11_minuteGoes_284 rfl (lv_at hl 1 rfl) ?_
    refine g_callv (pc := 285) w (mm_runV (ci := 11) (q := (RX11, TX11, 65)) (As := [.int (mm_I v1)]) (rest := []) C w (c_X11_givesUp l G this v1 h0 s1 _ hw) h0 rfl rfl cv_X11_givesUp ml_X11_371 ⟨Nat.le_of_ble_eq_true rfl, Nat.le_of_ble_eq_true rfl⟩ ⟨Nat.le_of_ble_eq_true rfl, Nat.le_of_ble_eq_true rfl⟩ rfl hl.1 rfl (Nat.le_of_ble_eq_true rfl) dX11_minuteGoes_285) (fun s_61 H locs hw w => ?_)
    refine lv_goto (pc := 288) (tgt := 324) C.1 C.2.1 dX11_minuteGoes_288 (by decide) ?_
    refine g_iinc (pc := 324) (k := 1) C dX11_minuteGoes_324 hl rfl (by decide) (fun v1_63 ev1_63 ls hl => ?_)
    have hw := hw v1_63 ev1_63
    have hl : lv_has ls 3 [(1, .int (mm_I v1_63)), (0, .ref (mm_ad G this))] := hl
    refine lv_goto (pc := 327) (tgt := 226) C.1 C.2.1 dX11_minuteGoes_327 (by decide) ?_
    exact hw  _ _ _ w (lv_sub hl [1, 0] rfl))
  have hw := hw (by
    intro v1 q0 q1 q2 s1 hw  H locs ls w hl
    refine g_callv (pc := 321) w (mm_runV (ci := 11) (q := (RX11, TX11, 65)) (As := [.int (mm_I q2), .int (mm_I q1), .int (mm_I q0)]) (rest := []) C w (c_X11_tells l G this q2 q1 q0 h0 s1 _ hw) h0 rfl rfl cv_X11_tells ml_X11_347 ⟨Nat.le_of_ble_eq_true rfl, Nat.le_of_ble_eq_true rfl⟩ ⟨Nat.le_of_ble_eq_true rfl, Nat.le_of_ble_eq_true rfl⟩ rfl hl.1 rfl (Nat.le_of_ble_eq_true rfl) dX11_minuteGoes_321) (fun s_64 H locs hw w => ?_)
    refine g_iinc (pc := 324) (k := 1) C dX11_minuteGoes_324 hl rfl (by decide) (fun v1_66 ev1_66 ls hl => ?_)
    have hw := hw v1_66 ev1_66
    have hl : lv_has ls 3 [(1, .int (mm_I v1_66)), (0, .ref (mm_ad G this))] := hl
    refine lv_goto (pc := 327) (tgt := 226) C.1 C.2.1 dX11_minuteGoes_327 (by decide) ?_
    exact hw  _ _ _ w (lv_sub hl [1, 0] rfl))
  intro H locs ls w hl
  have hl : lv_has ls 3 [(0, .ref (mm_ad G this))] := hl
  refine lv_iconst (pc := 0) (v := mm_I 0) C.1 C.2.1 dX11_minuteGoes_0 rfl ?_
  refine lv_istore_n (pc := 1) (lv' := [(1, .int (mm_I 0)), (0, .ref (mm_ad G this))]) C.1 C.2.1 dX11_minuteGoes_1 rfl hl (by decide) rfl (fun ls hl => ?_)
  exact hw  _ _ _ w (lv_sub hl [1, 0] rfl)
theorem cv_X11_minuteGoes : mm_V yX11_minuteGoes cX11_minuteGoes 3 none 0 := ⟨(mt_7 188 rfl rfl), (mt_7 187 rfl rfl), (mp_6 1 rfl rfl), (mt_1 12 rfl rfl), by decide, by decide, by decide +kernel⟩
theorem ml_X11_406 : Cond.methodLink RX11 406 yX11_minuteGoes ∈ mm_ws := (mt_7 185 rfl rfl)
def wp_X11_go (this : Nat) (a1 : Int) (s0 : mm_M) (post : Int → mm_M → Prop) : Prop :=
  ∀ (L22 : Int → mm_M → Prop), 
  (∀ (v2 : Int) (s1 : mm_M), ((n32 a1 ≤ n32 v2 → post (s1 this 28) s1) ∧ (¬ n32 a1 ≤ n32 v2 → ((n32 (s1 this 16) ≤ n32 (s1 this 28) → post (s1 this 28) s1) ∧ (¬ n32 (s1 this 16) ≤ n32 (s1 this 28) → (wp_X11_minuteGoes this s1 (fun s_4 => (∀ v2_6 : Int, v2_6 = v2 + 1 → L22 v2_6 s_4))))))) → L22 v2 s1) →
  ((n32 (s0 this 12) = 0 → post (-1) s0) ∧ (¬ n32 (s0 this 12) = 0 → (wp_X11_in a1 1 240 s0 (fun r_2 s_1 => ((¬ n32 r_2 = 0 → L22 0 s_1) ∧ (n32 r_2 = 0 → post (-1) s_1))))))
set_option maxRecDepth 100000 in
set_option maxHeartbeats 4000000 in
theorem c_X11_go (l : Launch) (G : mm_G) (this : Nat) (a1 : Int) (h0 : mm_ok this 21 0) (s0 : mm_M) (post : Int → mm_M → Prop) (hw : wp_X11_go this a1 s0 post) : Met l yX11_go (mm_wm yX11_go cX11_go 3 (some .int)) (mm_rm 7) (va_Pc [.ref (mm_ad G this), .int (mm_I a1)] (mm_pre G s0)) (mm_Qi G post) 0 0 (mm_A G) := by
  refine mm_met (own := RX11) (by decide) rfl (Nat.le_of_ble_eq_true rfl) ?_
  intro p e s m args below meth c C hr hk
  unfold wp_X11_go at hw
  have hw := hw (fun (v2 : Int) (u : mm_M) => mm_X p l e (mm_rm 7) s m args below meth c (MQ below (mm_Qi G post) args s 0 0 (mm_A G)) G (mm_A G) 3 22 [(0, .ref (mm_ad G this)), (1, .int (mm_I a1)), (2, .int (mm_I v2))] [] u)
  have hw := hw (by
    intro v2 s1 hw  H locs ls w hl
    refine lv_iload_n (pc := 22) C.1 C.2.1 dX11_go_22 rfl (lv_at hl 2 rfl) ?_
    refine lv_iload_n (pc := 23) C.1 C.2.1 dX11_go_23 rfl (lv_at hl 1 rfl) ?_
    refine g_icmp_ge (pc := 24) (tgt := 48) C rfl rfl dX11_go_24 (by decide) (fun hc => ?_) (fun hc => ?_)
    · have hw := hw.1 hc
      refine lv_aload_n (pc := 48) C.1 C.2.1 dX11_go_48 rfl (lv_at hl 0 rfl) ?_
      refine g_geti (pc := 49) C w h0 ff_X11_28 lk_X11_301 dX11_go_49 ?_
      exact g_iret (pc := 52) C w hr hk hw dX11_go_52
    · have hw := hw.2 hc
      refine lv_aload_n (pc := 27) C.1 C.2.1 dX11_go_27 rfl (lv_at hl 0 rfl) ?_
      refine g_geti (pc := 28) C w h0 ff_X11_28 lk_X11_301 dX11_go_28 ?_
      refine lv_aload_n (pc := 31) C.1 C.2.1 dX11_go_31 rfl (lv_at hl 0 rfl) ?_
      refine g_geti (pc := 32) C w h0 ff_X11_16 lk_X11_294 dX11_go_32 ?_
      refine g_icmp_ge (pc := 35) (tgt := 48) C rfl rfl dX11_go_35 (by decide) (fun hc => ?_) (fun hc => ?_)
      · have hw := hw.1 hc
        refine lv_aload_n (pc := 48) C.1 C.2.1 dX11_go_48 rfl (lv_at hl 0 rfl) ?_
        refine g_geti (pc := 49) C w h0 ff_X11_28 lk_X11_301 dX11_go_49 ?_
        exact g_iret (pc := 52) C w hr hk hw dX11_go_52
      · have hw := hw.2 hc
        refine lv_aload_n (pc := 38) C.1 C.2.1 dX11_go_38 rfl (lv_at hl 0 rfl) ?_
        refine g_callv (pc := 39) w (mm_runV (ci := 11) (q := (RX11, TX11, 65)) (As := []) (rest := []) C w (c_X11_minuteGoes l G this h0 s1 _ hw) h0 rfl rfl cv_X11_minuteGoes ml_X11_406 ⟨Nat.le_of_ble_eq_true rfl, Nat.le_of_ble_eq_true rfl⟩ ⟨Nat.le_of_ble_eq_true rfl, Nat.le_of_ble_eq_true rfl⟩ rfl hl.1 rfl (Nat.le_of_ble_eq_true rfl) dX11_go_39) (fun s_4 H locs hw w => ?_)
        refine g_iinc (pc := 42) (k := 2) C dX11_go_42 hl rfl (by decide) (fun v2_6 ev2_6 ls hl => ?_)
        have hw := hw v2_6 ev2_6
        have hl : lv_has ls 3 [(2, .int (mm_I v2_6)), (0, .ref (mm_ad G this)), (1, .int (mm_I a1))] := hl
        refine lv_goto (pc := 45) (tgt := 22) C.1 C.2.1 dX11_go_45 (by decide) ?_
        exact hw  _ _ _ w (lv_sub hl [1, 2, 0] rfl))
  intro H locs ls w hl
  have hl : lv_has ls 3 [(0, .ref (mm_ad G this)), (1, .int (mm_I a1))] := hl
  refine lv_aload_n (pc := 0) C.1 C.2.1 dX11_go_0 rfl (lv_at hl 0 rfl) ?_
  refine g_geti (pc := 1) C w h0 ff_X11_12 lk_X11_288 dX11_go_1 ?_
  refine g_if_eq (pc := 4) (tgt := 18) C rfl dX11_go_4 (by decide) (fun hc => ?_) (fun hc => ?_)
  · have hw := hw.1 hc
    refine lv_iconst (pc := 18) (v := mm_I (-1)) C.1 C.2.1 dX11_go_18 rfl ?_
    exact g_iret (pc := 19) C w hr hk hw dX11_go_19
  · have hw := hw.2 hc
    refine lv_iload_n (pc := 7) C.1 C.2.1 dX11_go_7 rfl (lv_at hl 1 rfl) ?_
    refine lv_iconst (pc := 8) (v := mm_I 1) C.1 C.2.1 dX11_go_8 rfl ?_
    refine lv_sipush (pc := 9) C.1 C.2.1 dX11_go_9 ms_240 ?_
    refine g_calli (pc := 12) w (mm_runS (As := [.int (mm_I a1), .int (mm_I 1), .int (mm_I 240)]) (rest := []) C w (c_X11_in l G a1 1 240  s0 _ hw) cs_X11_in ml_X11_122 ⟨Nat.le_of_ble_eq_true rfl, Nat.le_of_ble_eq_true rfl⟩ ⟨Nat.le_of_ble_eq_true rfl, Nat.le_of_ble_eq_true rfl⟩ rfl hl.1 rfl (Nat.le_of_ble_eq_true rfl) dX11_go_12) (fun r_2 s_1 H locs hw w => ?_)
    refine g_if_ne (pc := 15) (tgt := 20) C rfl dX11_go_15 (by decide) (fun hc => ?_) (fun hc => ?_)
    · have hw := hw.1 hc
      refine lv_iconst (pc := 20) (v := mm_I 0) C.1 C.2.1 dX11_go_20 rfl ?_
      refine lv_istore_n (pc := 21) (lv' := [(2, .int (mm_I 0)), (0, .ref (mm_ad G this)), (1, .int (mm_I a1))]) C.1 C.2.1 dX11_go_21 rfl hl (by decide) rfl (fun ls hl => ?_)
      exact hw  _ _ _ w (lv_sub hl [1, 2, 0] rfl)
    · have hw := hw.2 hc
      refine lv_iconst (pc := 18) (v := mm_I (-1)) C.1 C.2.1 dX11_go_18 rfl ?_
      exact g_iret (pc := 19) C w hr hk hw dX11_go_19
theorem lk_X11_409 : Cond.fieldLink RX11 409 "LastServedModel" "comers" "I" ∈ mm_ws := (mt_6 2 rfl rfl)
theorem ff_X11_38 : mm_F 11 38 0 RX11 TX11 65 := ⟨rfl, by decide, fk_X11, rfl, rfl⟩
theorem lk_X11_73 : Cond.fieldLink RX11 73 "LastServedModel" "comes" "[I" ∈ mm_ws := (mt_6 3 rfl rfl)
theorem ff_X11_39 : mm_F 11 39 1 RX11 TX11 65 := ⟨rfl, by decide, fk_X11, rfl, rfl⟩
theorem ro_X11_39 {i : Nat} (h : mm_ok i 21 0) : mm_ok (mm_rt i 39) 0 8 := by
  have q : ∀ i, i < mm_N → mm_kd i = 21 → mm_rt i 39 < mm_N ∧ mm_kd (mm_rt i 39) = 0 ∧ mm_ln (mm_rt i 39) = 8 := by decide +kernel
  exact q i h.1 h.2.1
theorem lk_X11_76 : Cond.fieldLink RX11 76 "LastServedModel" "takes" "[I" ∈ mm_ws := (mt_6 4 rfl rfl)
theorem ff_X11_40 : mm_F 11 40 1 RX11 TX11 65 := ⟨rfl, by decide, fk_X11, rfl, rfl⟩
theorem ro_X11_40 {i : Nat} (h : mm_ok i 21 0) : mm_ok (mm_rt i 40) 0 8 := by
  have q : ∀ i, i < mm_N → mm_kd i = 21 → mm_rt i 40 < mm_N ∧ mm_kd (mm_rt i 40) = 0 ∧ mm_ln (mm_rt i 40) = 8 := by decide +kernel
  exact q i h.1 h.2.1
theorem fw_X11_38 : mm_Fw 11 38 TX11 65 .int := ⟨⟨tyX11, tyX11_ok⟩, nmX11, rfl, by decide +kernel⟩
def wp_X11_comer (this : Nat) (a1 : Int) (a2 : Int) (s0 : mm_M) (post : Int → mm_M → Prop) : Prop :=
  ∀ (L54 : mm_M → Prop), 
  (∀  (s1 : mm_M), ((0 ≤ s1 this 38 ∧ s1 this 38 < 8) ∧ (∀ s_5 : mm_M, s_5 = mm_up s1 (mm_rt this 39) (s1 this 38) a1 → ((0 ≤ s_5 this 38 ∧ s_5 this 38 < 8) ∧ (∀ s_6 : mm_M, s_6 = mm_up s_5 (mm_rt this 40) (s_5 this 38) a2 → (∀ s_7 : mm_M, s_7 = mm_up s_6 this 38 ((s_6 this 38) + 1) → post (s_7 this 38) s_7))))) → L54 s1) →
  (wp_X11_in a1 0 200 s0 (fun r_2 s_1 => ((n32 r_2 = 0 → post (-1) s_1) ∧ (¬ n32 r_2 = 0 → (wp_X11_in a2 1 20 s_1 (fun r_4 s_3 => ((n32 r_4 = 0 → post (-1) s_3) ∧ (¬ n32 r_4 = 0 → ((n32 (s_3 this 38) = 8 → post (-1) s_3) ∧ (¬ n32 (s_3 this 38) = 8 → ((n32 (s_3 this 38) ≤ 0 → L54 s_3) ∧ (¬ n32 (s_3 this 38) ≤ 0 → ((0 ≤ (s_3 this 38) - 1 ∧ (s_3 this 38) - 1 < 8) ∧ ((n32 (s_3 (mm_rt this 39) ((s_3 this 38) - 1)) ≤ n32 a1 → L54 s_3) ∧ (¬ n32 (s_3 (mm_rt this 39) ((s_3 this 38) - 1)) ≤ n32 a1 → post (-1) s_3)))))))))))))))
set_option maxRecDepth 100000 in
set_option maxHeartbeats 4000000 in
theorem c_X11_comer (l : Launch) (G : mm_G) (this : Nat) (a1 : Int) (a2 : Int) (h0 : mm_ok this 21 0) (s0 : mm_M) (post : Int → mm_M → Prop) (hw : wp_X11_comer this a1 a2 s0 post) : Met l yX11_comer (mm_wm yX11_comer cX11_comer 3 (some .int)) (mm_rm 2) (va_Pc [.ref (mm_ad G this), .int (mm_I a1), .int (mm_I a2)] (mm_pre G s0)) (mm_Qi G post) 0 0 (mm_A G) := by
  refine mm_met (own := RX11) (by decide) rfl (Nat.le_of_ble_eq_true rfl) ?_
  intro p e s m args below meth c C hr hk
  unfold wp_X11_comer at hw
  have hw := hw (fun  (u : mm_M) => mm_X p l e (mm_rm 2) s m args below meth c (MQ below (mm_Qi G post) args s 0 0 (mm_A G)) G (mm_A G) 3 54 [(0, .ref (mm_ad G this)), (1, .int (mm_I a1)), (2, .int (mm_I a2))] [] u)
  have hw := hw (by
    intro  s1 hw  H locs ls w hl
    refine lv_aload_n (pc := 54) C.1 C.2.1 dX11_comer_54 rfl (lv_at hl 0 rfl) ?_
    refine g_getr (pc := 55) C w h0 ff_X11_39 lk_X11_73 dX11_comer_55 ?_
    refine lv_aload_n (pc := 58) C.1 C.2.1 dX11_comer_58 rfl (lv_at hl 0 rfl) ?_
    refine g_geti (pc := 59) C w h0 ff_X11_38 lk_X11_409 dX11_comer_59 ?_
    refine lv_iload_n (pc := 62) C.1 C.2.1 dX11_comer_62 rfl (lv_at hl 1 rfl) ?_
    obtain ⟨hi, hw⟩ := hw
    refine g_iast (pc := 63) C w (ro_X11_39 h0) hi  dX11_comer_63 (fun s_5 H locs es_5 w => ?_)
    have hw := hw s_5 es_5
    refine lv_aload_n (pc := 64) C.1 C.2.1 dX11_comer_64 rfl (lv_at hl 0 rfl) ?_
    refine g_getr (pc := 65) C w h0 ff_X11_40 lk_X11_76 dX11_comer_65 ?_
    refine lv_aload_n (pc := 68) C.1 C.2.1 dX11_comer_68 rfl (lv_at hl 0 rfl) ?_
    refine g_geti (pc := 69) C w h0 ff_X11_38 lk_X11_409 dX11_comer_69 ?_
    refine lv_iload_n (pc := 72) C.1 C.2.1 dX11_comer_72 rfl (lv_at hl 2 rfl) ?_
    obtain ⟨hi, hw⟩ := hw
    refine g_iast (pc := 73) C w (ro_X11_40 h0) hi  dX11_comer_73 (fun s_6 H locs es_6 w => ?_)
    have hw := hw s_6 es_6
    refine lv_aload_n (pc := 74) C.1 C.2.1 dX11_comer_74 rfl (lv_at hl 0 rfl) ?_
    refine lv_dup (pc := 75) C.1 C.2.1 dX11_comer_75 rfl ?_
    refine g_geti (pc := 76) C w h0 ff_X11_38 lk_X11_409 dX11_comer_76 ?_
    refine lv_iconst (pc := 79) (v := mm_I 1) C.1 C.2.1 dX11_comer_79 rfl ?_
    refine g_iadd (pc := 80) C dX11_comer_80 ?_
    refine g_puti (pc := 81) C w h0 ff_X11_38 fw_X11_38 lk_X11_409 dX11_comer_81 (fun s_7 H locs es_7 w => ?_)
    have hw := hw s_7 es_7
    refine lv_aload_n (pc := 84) C.1 C.2.1 dX11_comer_84 rfl (lv_at hl 0 rfl) ?_
    refine g_geti (pc := 85) C w h0 ff_X11_38 lk_X11_409 dX11_comer_85 ?_
    exact g_iret (pc := 88) C w hr hk hw dX11_comer_88)
  intro H locs ls w hl
  have hl : lv_has ls 3 [(0, .ref (mm_ad G this)), (1, .int (mm_I a1)), (2, .int (mm_I a2))] := hl
  refine lv_iload_n (pc := 0) C.1 C.2.1 dX11_comer_0 rfl (lv_at hl 1 rfl) ?_
  refine lv_iconst (pc := 1) (v := mm_I 0) C.1 C.2.1 dX11_comer_1 rfl ?_
  refine lv_sipush (pc := 2) C.1 C.2.1 dX11_comer_2 ms_200 ?_
  refine g_calli (pc := 5) w (mm_runS (As := [.int (mm_I a1), .int (mm_I 0), .int (mm_I 200)]) (rest := []) C w (c_X11_in l G a1 0 200  s0 _ hw) cs_X11_in ml_X11_122 ⟨Nat.le_of_ble_eq_true rfl, Nat.le_of_ble_eq_true rfl⟩ ⟨Nat.le_of_ble_eq_true rfl, Nat.le_of_ble_eq_true rfl⟩ rfl hl.1 rfl (Nat.le_of_ble_eq_true rfl) dX11_comer_5) (fun r_2 s_1 H locs hw w => ?_)
  refine g_if_eq (pc := 8) (tgt := 52) C rfl dX11_comer_8 (by decide) (fun hc => ?_) (fun hc => ?_)
  · have hw := hw.1 hc
    refine lv_iconst (pc := 52) (v := mm_I (-1)) C.1 C.2.1 dX11_comer_52 rfl ?_
    exact g_iret (pc := 53) C w hr hk hw dX11_comer_53
  · have hw := hw.2 hc
    refine lv_iload_n (pc := 11) C.1 C.2.1 dX11_comer_11 rfl (lv_at hl 2 rfl) ?_
    refine lv_iconst (pc := 12) (v := mm_I 1) C.1 C.2.1 dX11_comer_12 rfl ?_
    refine lv_bipush (pc := 13) C.1 C.2.1 dX11_comer_13 mb_20 ?_
    refine g_calli (pc := 15) w (mm_runS (As := [.int (mm_I a2), .int (mm_I 1), .int (mm_I 20)]) (rest := []) C w (c_X11_in l G a2 1 20  s_1 _ hw) cs_X11_in ml_X11_122 ⟨Nat.le_of_ble_eq_true rfl, Nat.le_of_ble_eq_true rfl⟩ ⟨Nat.le_of_ble_eq_true rfl, Nat.le_of_ble_eq_true rfl⟩ rfl hl.1 rfl (Nat.le_of_ble_eq_true rfl) dX11_comer_15) (fun r_4 s_3 H locs hw w => ?_)
    refine g_if_eq (pc := 18) (tgt := 52) C rfl dX11_comer_18 (by decide) (fun hc => ?_) (fun hc => ?_)
    · have hw := hw.1 hc
      refine lv_iconst (pc := 52) (v := mm_I (-1)) C.1 C.2.1 dX11_comer_52 rfl ?_
      exact g_iret (pc := 53) C w hr hk hw dX11_comer_53
    · have hw := hw.2 hc
      refine lv_aload_n (pc := 21) C.1 C.2.1 dX11_comer_21 rfl (lv_at hl 0 rfl) ?_
      refine g_geti (pc := 22) C w h0 ff_X11_38 lk_X11_409 dX11_comer_22 ?_
      refine lv_bipush (pc := 25) C.1 C.2.1 dX11_comer_25 mb_8 ?_
      refine g_icmp_eq (pc := 27) (tgt := 52) C rfl mn_8 dX11_comer_27 (by decide) (fun hc => ?_) (fun hc => ?_)
      · have hw := hw.1 hc
        refine lv_iconst (pc := 52) (v := mm_I (-1)) C.1 C.2.1 dX11_comer_52 rfl ?_
        exact g_iret (pc := 53) C w hr hk hw dX11_comer_53
      · have hw := hw.2 hc
        refine lv_aload_n (pc := 30) C.1 C.2.1 dX11_comer_30 rfl (lv_at hl 0 rfl) ?_
        refine g_geti (pc := 31) C w h0 ff_X11_38 lk_X11_409 dX11_comer_31 ?_
        refine g_if_le (pc := 34) (tgt := 54) C rfl dX11_comer_34 (by decide) (fun hc => ?_) (fun hc => ?_)
        · have hw := hw.1 hc
          exact hw  _ _ _ w (lv_sub hl [0, 1, 2] rfl)
        · have hw := hw.2 hc
          refine lv_iload_n (pc := 37) C.1 C.2.1 dX11_comer_37 rfl (lv_at hl 1 rfl) ?_
          refine lv_aload_n (pc := 38) C.1 C.2.1 dX11_comer_38 rfl (lv_at hl 0 rfl) ?_
          refine g_getr (pc := 39) C w h0 ff_X11_39 lk_X11_73 dX11_comer_39 ?_
          refine lv_aload_n (pc := 42) C.1 C.2.1 dX11_comer_42 rfl (lv_at hl 0 rfl) ?_
          refine g_geti (pc := 43) C w h0 ff_X11_38 lk_X11_409 dX11_comer_43 ?_
          refine lv_iconst (pc := 46) (v := mm_I 1) C.1 C.2.1 dX11_comer_46 rfl ?_
          refine g_isub (pc := 47) C dX11_comer_47 ?_
          obtain ⟨hi, hw⟩ := hw
          refine g_iald (pc := 48) C w (ro_X11_39 h0) hi dX11_comer_48 ?_
          refine g_icmp_ge (pc := 49) (tgt := 54) C rfl rfl dX11_comer_49 (by decide) (fun hc => ?_) (fun hc => ?_)
          · have hw := hw.1 hc
            exact hw  _ _ _ w (lv_sub hl [0, 1, 2] rfl)
          · have hw := hw.2 hc
            refine lv_iconst (pc := 52) (v := mm_I (-1)) C.1 C.2.1 dX11_comer_52 rfl ?_
            exact g_iret (pc := 53) C w hr hk hw dX11_comer_53
def wp_X11_clear (this : Nat) (s0 : mm_M) (post : Int → mm_M → Prop) : Prop :=
  (∀ v1_1 : Int, v1_1 = s0 this 38 → (∀ s_2 : mm_M, s_2 = mm_up s0 this 38 0 → post v1_1 s_2))
set_option maxRecDepth 100000 in
set_option maxHeartbeats 4000000 in
theorem c_X11_clear (l : Launch) (G : mm_G) (this : Nat) (h0 : mm_ok this 21 0) (s0 : mm_M) (post : Int → mm_M → Prop) (hw : wp_X11_clear this s0 post) : Met l yX11_clear (mm_wm yX11_clear cX11_clear 2 (some .int)) (mm_rm 1) (va_Pc [.ref (mm_ad G this)] (mm_pre G s0)) (mm_Qi G post) 0 0 (mm_A G) := by
  refine mm_met (own := RX11) (by decide) rfl (Nat.le_of_ble_eq_true rfl) ?_
  intro p e s m args below meth c C hr hk
  unfold wp_X11_clear at hw
  intro H locs ls w hl
  have hl : lv_has ls 2 [(0, .ref (mm_ad G this))] := hl
  refine lv_aload_n (pc := 0) C.1 C.2.1 dX11_clear_0 rfl (lv_at hl 0 rfl) ?_
  refine g_geti (pc := 1) C w h0 ff_X11_38 lk_X11_409 dX11_clear_1 ?_
  refine g_istore_n (pc := 4) C dX11_clear_4 rfl hl (by decide) (fun v1_1 ev1_1 ls hl => ?_)
  have hw := hw v1_1 ev1_1
  have hl : lv_has ls 2 [(1, .int (mm_I v1_1)), (0, .ref (mm_ad G this))] := hl
  refine lv_aload_n (pc := 5) C.1 C.2.1 dX11_clear_5 rfl (lv_at hl 1 rfl) ?_
  refine lv_iconst (pc := 6) (v := mm_I 0) C.1 C.2.1 dX11_clear_6 rfl ?_
  refine g_puti (pc := 7) C w h0 ff_X11_38 fw_X11_38 lk_X11_409 dX11_clear_7 (fun s_2 H locs es_2 w => ?_)
  have hw := hw s_2 es_2
  refine lv_iload_n (pc := 10) C.1 C.2.1 dX11_clear_10 rfl (lv_at hl 0 rfl) ?_
  exact g_iret (pc := 11) C w hr hk hw dX11_clear_11
theorem lk_X11_412 : Cond.fieldLink RX11 412 "LastServedModel" "hereMany" "I" ∈ mm_ws := (mt_6 15 rfl rfl)
theorem ff_X11_51 : mm_F 11 51 0 RX11 TX11 65 := ⟨rfl, by decide, fk_X11, rfl, rfl⟩
theorem fw_X11_51 : mm_Fw 11 51 TX11 65 .int := ⟨⟨tyX11, tyX11_ok⟩, nmX11, rfl, by decide +kernel⟩
theorem lk_X11_100 : Cond.fieldLink RX11 100 "LastServedModel" "here" "[I" ∈ mm_ws := (mt_6 14 rfl rfl)
theorem ff_X11_50 : mm_F 11 50 1 RX11 TX11 65 := ⟨rfl, by decide, fk_X11, rfl, rfl⟩
theorem ro_X11_50 {i : Nat} (h : mm_ok i 21 0) : mm_ok (mm_rt i 50) 0 8 := by
  have q : ∀ i, i < mm_N → mm_kd i = 21 → mm_rt i 50 < mm_N ∧ mm_kd (mm_rt i 50) = 0 ∧ mm_ln (mm_rt i 50) = 8 := by decide +kernel
  exact q i h.1 h.2.1
def wp_X11_gathers (this : Nat) (a1 : Int) (a2 : Int) (s0 : mm_M) (post : mm_M → Prop) : Prop :=
  ∀ (L7 : Int → mm_M → Prop), 
  (∀ (v3 : Int) (s1 : mm_M), ((n32 (s1 this 38) ≤ n32 v3 → post s1) ∧ (¬ n32 (s1 this 38) ≤ n32 v3 → ((n32 (mm_and (mm_shr a1 v3) 1) = 1 → (∀ v3_3 : Int, v3_3 = v3 + 1 → L7 v3_3 s1)) ∧ (¬ n32 (mm_and (mm_shr a1 v3) 1) = 1 → ((0 ≤ v3 ∧ v3 < 8) ∧ ((n32 (s1 (mm_rt this 39) v3) ≤ n32 a2 → ((0 ≤ s1 this 51 ∧ s1 this 51 < 8) ∧ (∀ s_4 : mm_M, s_4 = mm_up s1 (mm_rt this 50) (s1 this 51) v3 → (∀ s_5 : mm_M, s_5 = mm_up s_4 this 51 ((s_4 this 51) + 1) → (∀ v3_6 : Int, v3_6 = v3 + 1 → L7 v3_6 s_5))))) ∧ (¬ n32 (s1 (mm_rt this 39) v3) ≤ n32 a2 → (∀ v3_7 : Int, v3_7 = v3 + 1 → L7 v3_7 s1)))))))) → L7 v3 s1) →
  (∀ s_1 : mm_M, s_1 = mm_up s0 this 51 0 → L7 0 s_1)
set_option maxRecDepth 100000 in
set_option maxHeartbeats 4000000 in
theorem c_X11_gathers (l : Launch) (G : mm_G) (this : Nat) (a1 : Int) (a2 : Int) (h0 : mm_ok this 21 0) (s0 : mm_M) (post : mm_M → Prop) (hw : wp_X11_gathers this a1 a2 s0 post) : Met l yX11_gathers (mm_wm yX11_gathers cX11_gathers 4 none) (mm_rm 1) (va_Pc [.ref (mm_ad G this), .int (mm_I a1), .int (mm_I a2)] (mm_pre G s0)) (mm_Qv G post) 0 0 (mm_A G) := by
  refine mm_met (own := RX11) (by decide) rfl (Nat.le_of_ble_eq_true rfl) ?_
  intro p e s m args below meth c C hr hk
  unfold wp_X11_gathers at hw
  have hw := hw (fun (v3 : Int) (u : mm_M) => mm_X p l e (mm_rm 1) s m args below meth c (MQ below (mm_Qv G post) args s 0 0 (mm_A G)) G (mm_A G) 4 7 [(0, .ref (mm_ad G this)), (1, .int (mm_I a1)), (2, .int (mm_I a2)), (3, .int (mm_I v3))] [] u)
  have hw := hw (by
    intro v3 s1 hw  H locs ls w hl
    refine lv_iload_n (pc := 7) C.1 C.2.1 dX11_gathers_7 rfl (lv_at hl 3 rfl) ?_
    refine lv_aload_n (pc := 8) C.1 C.2.1 dX11_gathers_8 rfl (lv_at hl 0 rfl) ?_
    refine g_geti (pc := 9) C w h0 ff_X11_38 lk_X11_409 dX11_gathers_9 ?_
    refine g_icmp_ge (pc := 12) (tgt := 63) C rfl rfl dX11_gathers_12 (by decide) (fun hc => ?_) (fun hc => ?_)
    · have hw := hw.1 hc
      exact g_vret (pc := 63) C w hr hk hw dX11_gathers_63
    · have hw := hw.2 hc
      refine lv_iload_n (pc := 15) C.1 C.2.1 dX11_gathers_15 rfl (lv_at hl 1 rfl) ?_
      refine lv_iload_n (pc := 16) C.1 C.2.1 dX11_gathers_16 rfl (lv_at hl 3 rfl) ?_
      refine g_ishr (pc := 17) C dX11_gathers_17 ?_
      refine lv_iconst (pc := 18) (v := mm_I 1) C.1 C.2.1 dX11_gathers_18 rfl ?_
      refine g_iand (pc := 19) C dX11_gathers_19 ?_
      refine lv_iconst (pc := 20) (v := mm_I 1) C.1 C.2.1 dX11_gathers_20 rfl ?_
      refine g_icmp_eq (pc := 21) (tgt := 57) C rfl mn_1 dX11_gathers_21 (by decide) (fun hc => ?_) (fun hc => ?_)
      · have hw := hw.1 hc
        refine g_iinc (pc := 57) (k := 3) C dX11_gathers_57 hl rfl (by decide) (fun v3_3 ev3_3 ls hl => ?_)
        have hw := hw v3_3 ev3_3
        have hl : lv_has ls 4 [(3, .int (mm_I v3_3)), (0, .ref (mm_ad G this)), (1, .int (mm_I a1)), (2, .int (mm_I a2))] := hl
        refine lv_goto (pc := 60) (tgt := 7) C.1 C.2.1 dX11_gathers_60 (by decide) ?_
        exact hw  _ _ _ w (lv_sub hl [1, 2, 3, 0] rfl)
      · have hw := hw.2 hc
        refine lv_aload_n (pc := 24) C.1 C.2.1 dX11_gathers_24 rfl (lv_at hl 0 rfl) ?_
        refine g_getr (pc := 25) C w h0 ff_X11_39 lk_X11_73 dX11_gathers_25 ?_
        refine lv_iload_n (pc := 28) C.1 C.2.1 dX11_gathers_28 rfl (lv_at hl 3 rfl) ?_
        obtain ⟨hi, hw⟩ := hw
        refine g_iald (pc := 29) C w (ro_X11_39 h0) hi dX11_gathers_29 ?_
        refine lv_iload_n (pc := 30) C.1 C.2.1 dX11_gathers_30 rfl (lv_at hl 2 rfl) ?_
        refine g_icmp_le (pc := 31) (tgt := 37) C rfl rfl dX11_gathers_31 (by decide) (fun hc => ?_) (fun hc => ?_)
        · have hw := hw.1 hc
          refine lv_aload_n (pc := 37) C.1 C.2.1 dX11_gathers_37 rfl (lv_at hl 0 rfl) ?_
          refine g_getr (pc := 38) C w h0 ff_X11_50 lk_X11_100 dX11_gathers_38 ?_
          refine lv_aload_n (pc := 41) C.1 C.2.1 dX11_gathers_41 rfl (lv_at hl 0 rfl) ?_
          refine g_geti (pc := 42) C w h0 ff_X11_51 lk_X11_412 dX11_gathers_42 ?_
          refine lv_iload_n (pc := 45) C.1 C.2.1 dX11_gathers_45 rfl (lv_at hl 3 rfl) ?_
          obtain ⟨hi, hw⟩ := hw
          refine g_iast (pc := 46) C w (ro_X11_50 h0) hi  dX11_gathers_46 (fun s_4 H locs es_4 w => ?_)
          have hw := hw s_4 es_4
          refine lv_aload_n (pc := 47) C.1 C.2.1 dX11_gathers_47 rfl (lv_at hl 0 rfl) ?_
          refine lv_dup (pc := 48) C.1 C.2.1 dX11_gathers_48 rfl ?_
          refine g_geti (pc := 49) C w h0 ff_X11_51 lk_X11_412 dX11_gathers_49 ?_
          refine lv_iconst (pc := 52) (v := mm_I 1) C.1 C.2.1 dX11_gathers_52 rfl ?_
          refine g_iadd (pc := 53) C dX11_gathers_53 ?_
          refine g_puti (pc := 54) C w h0 ff_X11_51 fw_X11_51 lk_X11_412 dX11_gathers_54 (fun s_5 H locs es_5 w => ?_)
          have hw := hw s_5 es_5
          refine g_iinc (pc := 57) (k := 3) C dX11_gathers_57 hl rfl (by decide) (fun v3_6 ev3_6 ls hl => ?_)
          have hw := hw v3_6 ev3_6
          have hl : lv_has ls 4 [(3, .int (mm_I v3_6)), (0, .ref (mm_ad G this)), (1, .int (mm_I a1)), (2, .int (mm_I a2))] := hl
          refine lv_goto (pc := 60) (tgt := 7) C.1 C.2.1 dX11_gathers_60 (by decide) ?_
          exact hw  _ _ _ w (lv_sub hl [1, 2, 3, 0] rfl)
        · have hw := hw.2 hc
          refine lv_goto (pc := 34) (tgt := 57) C.1 C.2.1 dX11_gathers_34 (by decide) ?_
          refine g_iinc (pc := 57) (k := 3) C dX11_gathers_57 hl rfl (by decide) (fun v3_7 ev3_7 ls hl => ?_)
          have hw := hw v3_7 ev3_7
          have hl : lv_has ls 4 [(3, .int (mm_I v3_7)), (0, .ref (mm_ad G this)), (1, .int (mm_I a1)), (2, .int (mm_I a2))] := hl
          refine lv_goto (pc := 60) (tgt := 7) C.1 C.2.1 dX11_gathers_60 (by decide) ?_
          exact hw  _ _ _ w (lv_sub hl [1, 2, 3, 0] rfl))
  intro H locs ls w hl
  have hl : lv_has ls 4 [(0, .ref (mm_ad G this)), (1, .int (mm_I a1)), (2, .int (mm_I a2))] := hl
  refine lv_aload_n (pc := 0) C.1 C.2.1 dX11_gathers_0 rfl (lv_at hl 0 rfl) ?_
  refine lv_iconst (pc := 1) (v := mm_I 0) C.1 C.2.1 dX11_gathers_1 rfl ?_
  refine g_puti (pc := 2) C w h0 ff_X11_51 fw_X11_51 lk_X11_412 dX11_gathers_2 (fun s_1 H locs es_1 w => ?_)
  have hw := hw s_1 es_1
  refine lv_iconst (pc := 5) (v := mm_I 0) C.1 C.2.1 dX11_gathers_5 rfl ?_
  refine lv_istore_n (pc := 6) (lv' := [(3, .int (mm_I 0)), (0, .ref (mm_ad G this)), (1, .int (mm_I a1)), (2, .int (mm_I a2))]) C.1 C.2.1 dX11_gathers_6 rfl hl (by decide) rfl (fun ls hl => ?_)
  exact hw  _ _ _ w (lv_sub hl [1, 2, 3, 0] rfl)
