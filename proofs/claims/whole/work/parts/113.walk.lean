theorem lc_X11_309 : Cond.constantLong RX11 309 (mm_L (-1000000)) ∈ mm_ws := (mt_7 168 rfl rfl)
theorem lc_X11_311 : Cond.constantLong RX11 311 (mm_L 1000000) ∈ mm_ws := (mt_7 169 rfl rfl)
def wp_X11_brought (a1 : Int) (s0 : mm_M) (post : Int → mm_M → Prop) : Prop :=
  ((n64 (-1000000) ≤ n64 a1 → ((n64 a1 ≤ n64 1000000 → post a1 s0) ∧ (¬ n64 a1 ≤ n64 1000000 → post 1000000 s0))) ∧ (¬ n64 (-1000000) ≤ n64 a1 → post (-1000000) s0))
set_option maxRecDepth 100000 in
set_option maxHeartbeats 4000000 in
theorem c_X11_brought (l : Launch) (G : mm_G) (a1 : Int)  (s0 : mm_M) (post : Int → mm_M → Prop) (hw : wp_X11_brought a1 s0 post) : Met l yX11_brought (mm_wm yX11_brought cX11_brought 2 (some .int)) (mm_rm 1) (va_Pc [.long (mm_L a1)] (mm_pre G s0)) (mm_Qi G post) 0 0 (mm_A G) := by
  refine mm_met (own := RX11) (by decide) rfl (Nat.le_of_ble_eq_true rfl) ?_
  intro p e s m args below meth c C hr hk
  unfold wp_X11_brought at hw
  intro H locs ls w hl
  have hl : lv_has ls 2 [(0, .long (mm_L a1))] := hl
  refine lv_lload_n (pc := 0) C.1 C.2.1 dX11_brought_0 rfl (lv_at hl 0 rfl) ?_
  refine lv_ldc2 (pc := 1) C.1 C.2.1 C.2.2.2.1 (C.2.2.2.2 _ lc_X11_309) dX11_brought_1 ?_
  refine g_lcmp (pc := 4) C dX11_brought_4 ?_
  refine g_lif_ge (pc := 5) (tgt := 14) C rfl rfl dX11_brought_5 (by decide) (fun hc => ?_) (fun hc => ?_)
  · have hw := hw.1 hc
    refine lv_lload_n (pc := 14) C.1 C.2.1 dX11_brought_14 rfl (lv_at hl 0 rfl) ?_
    refine lv_ldc2 (pc := 15) C.1 C.2.1 C.2.2.2.1 (C.2.2.2.2 _ lc_X11_311) dX11_brought_15 ?_
    refine g_lcmp (pc := 18) C dX11_brought_18 ?_
    refine g_lif_le (pc := 19) (tgt := 28) C rfl rfl dX11_brought_19 (by decide) (fun hc => ?_) (fun hc => ?_)
    · have hw := hw.1 hc
      refine lv_lload_n (pc := 28) C.1 C.2.1 dX11_brought_28 rfl (lv_at hl 0 rfl) ?_
      refine g_l2i (pc := 29) C dX11_brought_29 ?_
      exact g_iret (pc := 30) C w hr hk hw dX11_brought_30
    · have hw := hw.2 hc
      refine lv_ldc2 (pc := 22) C.1 C.2.1 C.2.2.2.1 (C.2.2.2.2 _ lc_X11_311) dX11_brought_22 ?_
      refine lv_goto (pc := 25) (tgt := 29) C.1 C.2.1 dX11_brought_25 (by decide) ?_
      refine g_l2i (pc := 29) C dX11_brought_29 ?_
      exact g_iret (pc := 30) C w hr hk hw dX11_brought_30
  · have hw := hw.2 hc
    refine lv_ldc2 (pc := 8) C.1 C.2.1 C.2.2.2.1 (C.2.2.2.2 _ lc_X11_309) dX11_brought_8 ?_
    refine lv_goto (pc := 11) (tgt := 29) C.1 C.2.1 dX11_brought_11 (by decide) ?_
    refine g_l2i (pc := 29) C dX11_brought_29 ?_
    exact g_iret (pc := 30) C w hr hk hw dX11_brought_30
theorem lk_X11_97 : Cond.fieldLink RX11 97 "LastServedModel" "stack" "[I" ∈ mm_ws := (mt_6 13 rfl rfl)
theorem ff_X11_49 : mm_F 11 49 1 RX11 TX11 65 := ⟨rfl, by decide, fk_X11, rfl, rfl⟩
theorem ro_X11_49 {i : Nat} (h : mm_ok i 21 0) : mm_ok (mm_rt i 49) 0 600 := by
  have q : ∀ i, i < mm_N → mm_kd i = 21 → mm_rt i 49 < mm_N ∧ mm_kd (mm_rt i 49) = 0 ∧ mm_ln (mm_rt i 49) = 600 := by decide +kernel
  exact q i h.1 h.2.1
theorem lk_X11_94 : Cond.fieldLink RX11 94 "LastServedModel" "names" "[I" ∈ mm_ws := (mt_6 12 rfl rfl)
theorem ff_X11_48 : mm_F 11 48 1 RX11 TX11 65 := ⟨rfl, by decide, fk_X11, rfl, rfl⟩
theorem ro_X11_48 {i : Nat} (h : mm_ok i 21 0) : mm_ok (mm_rt i 48) 0 10 := by
  have q : ∀ i, i < mm_N → mm_kd i = 21 → mm_rt i 48 < mm_N ∧ mm_kd (mm_rt i 48) = 0 ∧ mm_ln (mm_rt i 48) = 10 := by decide +kernel
  exact q i h.1 h.2.1
theorem cs_X11_brought : mm_S yX11_brought cX11_brought 2 (some .int) 1 := ⟨(mt_7 167 rfl rfl), (mt_7 166 rfl rfl), (mt_1 12 rfl rfl), by decide, by decide, by decide +kernel⟩
theorem ml_X11_313 : Cond.methodLink RX11 313 yX11_brought ∈ mm_ws := (mt_7 165 rfl rfl)
def wp_X11_says (this : Nat) (a1 : Int) (s0 : mm_M) (post : Int → mm_M → Prop) : Prop :=
  ∀ (L9 : Int → Int → mm_M → Prop), ∀ (L42 : Int → Int → Int → mm_M → Prop), ∀ (L197 : Int → Int → Int → Int → mm_M → Prop), 
  (∀ (v2 : Int) (v3 : Int) (s1 : mm_M), ((0 ≤ a1 + 1 ∧ a1 + 1 < 6) ∧ ((n32 (s1 (mm_rt this 26) (a1 + 1)) ≤ n32 v3 → post (s1 (mm_rt this 49) 0) s1) ∧ (¬ n32 (s1 (mm_rt this 26) (a1 + 1)) ≤ n32 v3 → ((0 ≤ 2 * v3 ∧ 2 * v3 < 1200) ∧ (∀ v4_3 : Int, v4_3 = s1 (mm_rt this 25) (2 * v3) → ((n32 v4_3 = 0 → L42 v2 v3 v4_3 s1) ∧ (¬ n32 v4_3 = 0 → ((¬ n32 v4_3 = 1 → ((0 ≤ v2 - 2 ∧ v2 - 2 < 600) ∧ (∀ v5_4 : Int, v5_4 = n32 (s1 (mm_rt this 49) (v2 - 2)) → ((0 ≤ v2 - 1 ∧ v2 - 1 < 600) ∧ (∀ v7_5 : Int, v7_5 = n32 (s1 (mm_rt this 49) (v2 - 1)) → (∀ v2_6 : Int, v2_6 = v2 + (-1) → ((¬ n32 v4_3 = 5 → ((¬ n32 v4_3 = 6 → ((¬ n32 v4_3 = 2 → ((¬ n32 v4_3 = 3 → L197 v2_6 v3 (v5_4 * v7_5) (v2_6 - 1) s1) ∧ (n32 v4_3 = 3 → L197 v2_6 v3 (v5_4 - v7_5) (v2_6 - 1) s1))) ∧ (n32 v4_3 = 2 → L197 v2_6 v3 (v5_4 + v7_5) (v2_6 - 1) s1))) ∧ (n32 v4_3 = 6 → ((¬ n64 v5_4 = n64 v7_5 → ((0 ≤ v2_6 - 1 ∧ v2_6 - 1 < 600) ∧ (∀ s_7 : mm_M, s_7 = mm_up s1 (mm_rt this 49) (v2_6 - 1) 0 → (∀ v3_8 : Int, v3_8 = v3 + 1 → L9 v2_6 v3_8 s_7)))) ∧ (n64 v5_4 = n64 v7_5 → ((0 ≤ v2_6 - 1 ∧ v2_6 - 1 < 600) ∧ (∀ s_9 : mm_M, s_9 = mm_up s1 (mm_rt this 49) (v2_6 - 1) 1 → (∀ v3_10 : Int, v3_10 = v3 + 1 → L9 v2_6 v3_10 s_9)))))))) ∧ (n32 v4_3 = 5 → ((n64 v7_5 ≤ n64 v5_4 → ((0 ≤ v2_6 - 1 ∧ v2_6 - 1 < 600) ∧ (∀ s_11 : mm_M, s_11 = mm_up s1 (mm_rt this 49) (v2_6 - 1) 0 → (∀ v3_12 : Int, v3_12 = v3 + 1 → L9 v2_6 v3_12 s_11)))) ∧ (¬ n64 v7_5 ≤ n64 v5_4 → ((0 ≤ v2_6 - 1 ∧ v2_6 - 1 < 600) ∧ (∀ s_13 : mm_M, s_13 = mm_up s1 (mm_rt this 49) (v2_6 - 1) 1 → (∀ v3_14 : Int, v3_14 = v3 + 1 → L9 v2_6 v3_14 s_13))))))))))))) ∧ (n32 v4_3 = 1 → L42 v2 v3 v4_3 s1))))))))) → L9 v2 v3 s1) →
  (∀ (v2 : Int) (v3 : Int) (v4 : Int) (s1 : mm_M), ((¬ n32 v4 = 0 → ((0 ≤ (2 * v3) + 1 ∧ (2 * v3) + 1 < 1200) ∧ ((0 ≤ s1 (mm_rt this 25) ((2 * v3) + 1) ∧ s1 (mm_rt this 25) ((2 * v3) + 1) < 10) ∧ ((0 ≤ v2 ∧ v2 < 600) ∧ (∀ s_15 : mm_M, s_15 = mm_up s1 (mm_rt this 49) v2 (s1 (mm_rt this 48) (s1 (mm_rt this 25) ((2 * v3) + 1))) → (∀ v2_16 : Int, v2_16 = v2 + 1 → (∀ v3_17 : Int, v3_17 = v3 + 1 → L9 v2_16 v3_17 s_15))))))) ∧ (n32 v4 = 0 → ((0 ≤ (2 * v3) + 1 ∧ (2 * v3) + 1 < 1200) ∧ ((0 ≤ v2 ∧ v2 < 600) ∧ (∀ s_18 : mm_M, s_18 = mm_up s1 (mm_rt this 49) v2 (s1 (mm_rt this 25) ((2 * v3) + 1)) → (∀ v2_19 : Int, v2_19 = v2 + 1 → (∀ v3_20 : Int, v3_20 = v3 + 1 → L9 v2_19 v3_20 s_18))))))) → L42 v2 v3 v4 s1) →
  (∀ (v2 : Int) (v3 : Int) (q0 : Int) (q1 : Int) (s1 : mm_M), (wp_X11_brought q0 s1 (fun r_22 s_21 => ((0 ≤ q1 ∧ q1 < 600) ∧ (∀ s_23 : mm_M, s_23 = mm_up s_21 (mm_rt this 49) q1 r_22 → (∀ v3_24 : Int, v3_24 = v3 + 1 → L9 v2 v3_24 s_23))))) → L197 v2 v3 q0 q1 s1) →
  ((0 ≤ a1 ∧ a1 < 6) ∧ (∀ v3_2 : Int, v3_2 = s0 (mm_rt this 26) a1 → L9 0 v3_2 s0))
set_option maxRecDepth 100000 in
set_option maxHeartbeats 4000000 in
theorem c_X11_says (l : Launch) (G : mm_G) (this : Nat) (a1 : Int) (h0 : mm_ok this 21 0) (s0 : mm_M) (post : Int → mm_M → Prop) (hw : wp_X11_says this a1 s0 post) : Met l yX11_says (mm_wm yX11_says cX11_says 9 (some .int)) (mm_rm 2) (va_Pc [.ref (mm_ad G this), .int (mm_I a1)] (mm_pre G s0)) (mm_Qi G post) 0 0 (mm_A G) := by
  refine mm_met (own := RX11) (by decide) rfl (Nat.le_of_ble_eq_true rfl) ?_
  intro p e s m args below meth c C hr hk
  unfold wp_X11_says at hw
  have hw := hw (fun (v2 : Int) (v3 : Int) (u : mm_M) => mm_X p l e (mm_rm 2) s m args below meth c (MQ below (mm_Qi G post) args s 0 0 (mm_A G)) G (mm_A G) 9 9 [(0, .ref (mm_ad G this)), (1, .int (mm_I a1)), (2, .int (mm_I v2)), (3, .int (mm_I v3))] [] u)
  have hw := hw (fun (v2 : Int) (v3 : Int) (v4 : Int) (u : mm_M) => mm_X p l e (mm_rm 2) s m args below meth c (MQ below (mm_Qi G post) args s 0 0 (mm_A G)) G (mm_A G) 9 42 [(0, .ref (mm_ad G this)), (1, .int (mm_I a1)), (2, .int (mm_I v2)), (3, .int (mm_I v3)), (4, .int (mm_I v4))] [] u)
  have hw := hw (fun (v2 : Int) (v3 : Int) (q0 : Int) (q1 : Int) (u : mm_M) => mm_X p l e (mm_rm 2) s m args below meth c (MQ below (mm_Qi G post) args s 0 0 (mm_A G)) G (mm_A G) 9 197 [(0, .ref (mm_ad G this)), (1, .int (mm_I a1)), (2, .int (mm_I v2)), (3, .int (mm_I v3))] [.long (mm_L q0), .int (mm_I q1), .ref (mm_ad G (mm_rt this 49))] u)
  have hw := hw (by
    intro v2 v3 s1 hw  H locs ls w hl
    refine lv_iload_n (pc := 9) C.1 C.2.1 dX11_says_9 rfl (lv_at hl 3 rfl) ?_
    refine lv_aload_n (pc := 10) C.1 C.2.1 dX11_says_10 rfl (lv_at hl 0 rfl) ?_
    refine g_getr (pc := 11) C w h0 ff_X11_26 lk_X11_46 dX11_says_11 ?_
    refine lv_iload_n (pc := 14) C.1 C.2.1 dX11_says_14 rfl (lv_at hl 1 rfl) ?_
    refine lv_iconst (pc := 15) (v := mm_I 1) C.1 C.2.1 dX11_says_15 rfl ?_
    refine g_iadd (pc := 16) C dX11_says_16 ?_
    obtain ⟨hi, hw⟩ := hw
    refine g_iald (pc := 17) C w (ro_X11_26 h0) hi dX11_says_17 ?_
    refine g_icmp_ge (pc := 18) (tgt := 207) C rfl rfl dX11_says_18 (by decide) (fun hc => ?_) (fun hc => ?_)
    · have hw := hw.1 hc
      refine lv_aload_n (pc := 207) C.1 C.2.1 dX11_says_207 rfl (lv_at hl 0 rfl) ?_
      refine g_getr (pc := 208) C w h0 ff_X11_49 lk_X11_97 dX11_says_208 ?_
      refine lv_iconst (pc := 211) (v := mm_I 0) C.1 C.2.1 dX11_says_211 rfl ?_
      refine g_iald (pc := 212) C w (ro_X11_49 h0) ⟨by decide, by decide⟩ dX11_says_212 ?_
      exact g_iret (pc := 213) C w hr hk hw dX11_says_213
    · have hw := hw.2 hc
      refine lv_aload_n (pc := 21) C.1 C.2.1 dX11_says_21 rfl (lv_at hl 0 rfl) ?_
      refine g_getr (pc := 22) C w h0 ff_X11_25 lk_X11_43 dX11_says_22 ?_
      refine lv_iconst (pc := 25) (v := mm_I 2) C.1 C.2.1 dX11_says_25 rfl ?_
      refine lv_iload_n (pc := 26) C.1 C.2.1 dX11_says_26 rfl (lv_at hl 3 rfl) ?_
      refine g_imul (pc := 27) C dX11_says_27 ?_
      obtain ⟨hi, hw⟩ := hw
      refine g_iald (pc := 28) C w (ro_X11_25 h0) hi dX11_says_28 ?_
      refine g_istore (pc := 29) C dX11_says_29 hl (by decide) (fun v4_3 ev4_3 ls hl => ?_)
      have hw := hw v4_3 ev4_3
      have hl : lv_has ls 9 [(4, .int (mm_I v4_3)), (0, .ref (mm_ad G this)), (1, .int (mm_I a1)), (2, .int (mm_I v2)), (3, .int (mm_I v3))] := hl
      refine lv_iload (pc := 31) C.1 C.2.1 dX11_says_31 (lv_at hl 0 rfl) ?_
      refine g_if_eq (pc := 33) (tgt := 42) C rfl dX11_says_33 (by decide) (fun hc => ?_) (fun hc => ?_)
      · have hw := hw.1 hc
        exact hw  _ _ _ w (lv_sub hl [1, 2, 3, 4, 0] rfl)
      · have hw := hw.2 hc
        refine lv_iload (pc := 36) C.1 C.2.1 dX11_says_36 (lv_at hl 0 rfl) ?_
        refine lv_iconst (pc := 38) (v := mm_I 1) C.1 C.2.1 dX11_says_38 rfl ?_
        refine g_icmp_ne (pc := 39) (tgt := 87) C rfl mn_1 dX11_says_39 (by decide) (fun hc => ?_) (fun hc => ?_)
        · have hw := hw.1 hc
          refine lv_aload_n (pc := 87) C.1 C.2.1 dX11_says_87 rfl (lv_at hl 1 rfl) ?_
          refine g_getr (pc := 88) C w h0 ff_X11_49 lk_X11_97 dX11_says_88 ?_
          refine lv_iload_n (pc := 91) C.1 C.2.1 dX11_says_91 rfl (lv_at hl 3 rfl) ?_
          refine lv_iconst (pc := 92) (v := mm_I 2) C.1 C.2.1 dX11_says_92 rfl ?_
          refine g_isub (pc := 93) C dX11_says_93 ?_
          obtain ⟨hi, hw⟩ := hw
          refine g_iald (pc := 94) C w (ro_X11_49 h0) hi dX11_says_94 ?_
          refine g_i2l (pc := 95) C rfl dX11_says_95 ?_
          refine g_lstore (pc := 96) C dX11_says_96 hl (by decide) (fun v5_4 ev5_4 ls hl => ?_)
          have hw := hw v5_4 ev5_4
          have hl : lv_has ls 9 [(5, .long (mm_L v5_4)), (4, .int (mm_I v4_3)), (0, .ref (mm_ad G this)), (1, .int (mm_I a1)), (2, .int (mm_I v2)), (3, .int (mm_I v3))] := hl
          refine lv_aload_n (pc := 98) C.1 C.2.1 dX11_says_98 rfl (lv_at hl 2 rfl) ?_
          refine g_getr (pc := 99) C w h0 ff_X11_49 lk_X11_97 dX11_says_99 ?_
          refine lv_iload_n (pc := 102) C.1 C.2.1 dX11_says_102 rfl (lv_at hl 4 rfl) ?_
          refine lv_iconst (pc := 103) (v := mm_I 1) C.1 C.2.1 dX11_says_103 rfl ?_
          refine g_isub (pc := 104) C dX11_says_104 ?_
          obtain ⟨hi, hw⟩ := hw
          refine g_iald (pc := 105) C w (ro_X11_49 h0) hi dX11_says_105 ?_
          refine g_i2l (pc := 106) C rfl dX11_says_106 ?_
          refine g_lstore (pc := 107) C dX11_says_107 hl (by decide) (fun v7_5 ev7_5 ls hl => ?_)
          have hw := hw v7_5 ev7_5
          have hl : lv_has ls 9 [(7, .long (mm_L v7_5)), (5, .long (mm_L v5_4)), (4, .int (mm_I v4_3)), (0, .ref (mm_ad G this)), (1, .int (mm_I a1)), (2, .int (mm_I v2)), (3, .int (mm_I v3))] := hl
          refine g_iinc (pc := 109) (k := 5) C dX11_says_109 hl rfl (by decide) (fun v2_6 ev2_6 ls hl => ?_)
          have hw := hw v2_6 ev2_6
          have hl : lv_has ls 9 [(2, .int (mm_I v2_6)), (7, .long (mm_L v7_5)), (5, .long (mm_L v5_4)), (4, .int (mm_I v4_3)), (0, .ref (mm_ad G this)), (1, .int (mm_I a1)), (3, .int (mm_I v3))] := hl
          refine lv_aload_n (pc := 112) C.1 C.2.1 dX11_says_112 rfl (lv_at hl 4 rfl) ?_
          refine g_getr (pc := 113) C w h0 ff_X11_49 lk_X11_97 dX11_says_113 ?_
          refine lv_iload_n (pc := 116) C.1 C.2.1 dX11_says_116 rfl (lv_at hl 0 rfl) ?_
          refine lv_iconst (pc := 117) (v := mm_I 1) C.1 C.2.1 dX11_says_117 rfl ?_
          refine g_isub (pc := 118) C dX11_says_118 ?_
          refine lv_iload (pc := 119) C.1 C.2.1 dX11_says_119 (lv_at hl 3 rfl) ?_
          refine lv_iconst (pc := 121) (v := mm_I 5) C.1 C.2.1 dX11_says_121 rfl ?_
          refine g_icmp_ne (pc := 122) (tgt := 141) C rfl mn_5 dX11_says_122 (by decide) (fun hc => ?_) (fun hc => ?_)
          · have hw := hw.1 hc
            refine lv_iload (pc := 141) C.1 C.2.1 dX11_says_141 (lv_at hl 3 rfl) ?_
            refine lv_bipush (pc := 143) C.1 C.2.1 dX11_says_143 mb_6 ?_
            refine g_icmp_ne (pc := 145) (tgt := 164) C rfl mn_6 dX11_says_145 (by decide) (fun hc => ?_) (fun hc => ?_)
            · have hw := hw.1 hc
              refine lv_iload (pc := 164) C.1 C.2.1 dX11_says_164 (lv_at hl 3 rfl) ?_
              refine lv_iconst (pc := 166) (v := mm_I 2) C.1 C.2.1 dX11_says_166 rfl ?_
              refine g_icmp_ne (pc := 167) (tgt := 178) C rfl mn_2 dX11_says_167 (by decide) (fun hc => ?_) (fun hc => ?_)
              · have hw := hw.1 hc
                refine lv_iload (pc := 178) C.1 C.2.1 dX11_says_178 (lv_at hl 3 rfl) ?_
                refine lv_iconst (pc := 180) (v := mm_I 3) C.1 C.2.1 dX11_says_180 rfl ?_
                refine g_icmp_ne (pc := 181) (tgt := 192) C rfl mn_3 dX11_says_181 (by decide) (fun hc => ?_) (fun hc => ?_)
                · have hw := hw.1 hc
                  refine lv_lload (pc := 192) C.1 C.2.1 dX11_says_192 (lv_at hl 2 rfl) ?_
                  refine lv_lload (pc := 194) C.1 C.2.1 dX11_says_194 (lv_at hl 1 rfl) ?_
                  refine g_lmul (pc := 196) C dX11_says_196 ?_
                  exact hw  _ _ _ w (lv_sub hl [4, 5, 0, 6] rfl)
                · have hw := hw.2 hc
                  refine lv_lload (pc := 184) C.1 C.2.1 dX11_says_184 (lv_at hl 2 rfl) ?_
                  refine lv_lload (pc := 186) C.1 C.2.1 dX11_says_186 (lv_at hl 1 rfl) ?_
                  refine g_lsub (pc := 188) C dX11_says_188 ?_
                  refine lv_goto (pc := 189) (tgt := 197) C.1 C.2.1 dX11_says_189 (by decide) ?_
                  exact hw  _ _ _ w (lv_sub hl [4, 5, 0, 6] rfl)
              · have hw := hw.2 hc
                refine lv_lload (pc := 170) C.1 C.2.1 dX11_says_170 (lv_at hl 2 rfl) ?_
                refine lv_lload (pc := 172) C.1 C.2.1 dX11_says_172 (lv_at hl 1 rfl) ?_
                refine g_ladd (pc := 174) C dX11_says_174 ?_
                refine lv_goto (pc := 175) (tgt := 197) C.1 C.2.1 dX11_says_175 (by decide) ?_
                exact hw  _ _ _ w (lv_sub hl [4, 5, 0, 6] rfl)
            · have hw := hw.2 hc
              refine lv_lload (pc := 148) C.1 C.2.1 dX11_says_148 (lv_at hl 2 rfl) ?_
              refine lv_lload (pc := 150) C.1 C.2.1 dX11_says_150 (lv_at hl 1 rfl) ?_
              refine g_lcmp (pc := 152) C dX11_says_152 ?_
              refine g_lif_ne (pc := 153) (tgt := 160) C rfl rfl dX11_says_153 (by decide) (fun hc => ?_) (fun hc => ?_)
              · have hw := hw.1 hc
                refine lv_iconst (pc := 160) (v := mm_I 0) C.1 C.2.1 dX11_says_160 rfl ?_
                refine lv_goto (pc := 161) (tgt := 200) C.1 C.2.1 dX11_says_161 (by decide) ?_
                obtain ⟨hi, hw⟩ := hw
                refine g_iast (pc := 200) C w (ro_X11_49 h0) hi  dX11_says_200 (fun s_7 H locs es_7 w => ?_)
                have hw := hw s_7 es_7
                refine g_iinc (pc := 201) (k := 6) C dX11_says_201 hl rfl (by decide) (fun v3_8 ev3_8 ls hl => ?_)
                have hw := hw v3_8 ev3_8
                have hl : lv_has ls 9 [(3, .int (mm_I v3_8)), (2, .int (mm_I v2_6)), (7, .long (mm_L v7_5)), (5, .long (mm_L v5_4)), (4, .int (mm_I v4_3)), (0, .ref (mm_ad G this)), (1, .int (mm_I a1))] := hl
                refine lv_goto (pc := 204) (tgt := 9) C.1 C.2.1 dX11_says_204 (by decide) ?_
                exact hw  _ _ _ w (lv_sub hl [5, 6, 1, 0] rfl)
              · have hw := hw.2 hc
                refine lv_iconst (pc := 156) (v := mm_I 1) C.1 C.2.1 dX11_says_156 rfl ?_
                refine lv_goto (pc := 157) (tgt := 200) C.1 C.2.1 dX11_says_157 (by decide) ?_
                obtain ⟨hi, hw⟩ := hw
                refine g_iast (pc := 200) C w (ro_X11_49 h0) hi  dX11_says_200 (fun s_9 H locs es_9 w => ?_)
                have hw := hw s_9 es_9
                refine g_iinc (pc := 201) (k := 6) C dX11_says_201 hl rfl (by decide) (fun v3_10 ev3_10 ls hl => ?_)
                have hw := hw v3_10 ev3_10
                have hl : lv_has ls 9 [(3, .int (mm_I v3_10)), (2, .int (mm_I v2_6)), (7, .long (mm_L v7_5)), (5, .long (mm_L v5_4)), (4, .int (mm_I v4_3)), (0, .ref (mm_ad G this)), (1, .int (mm_I a1))] := hl
                refine lv_goto (pc := 204) (tgt := 9) C.1 C.2.1 dX11_says_204 (by decide) ?_
                exact hw  _ _ _ w (lv_sub hl [5, 6, 1, 0] rfl)
          · have hw := hw.2 hc
            refine lv_lload (pc := 125) C.1 C.2.1 dX11_says_125 (lv_at hl 2 rfl) ?_
            refine lv_lload (pc := 127) C.1 C.2.1 dX11_says_127 (lv_at hl 1 rfl) ?_
            refine g_lcmp (pc := 129) C dX11_says_129 ?_
            refine g_lif_ge (pc := 130) (tgt := 137) C rfl rfl dX11_says_130 (by decide) (fun hc => ?_) (fun hc => ?_)
            · have hw := hw.1 hc
              refine lv_iconst (pc := 137) (v := mm_I 0) C.1 C.2.1 dX11_says_137 rfl ?_
              refine lv_goto (pc := 138) (tgt := 200) C.1 C.2.1 dX11_says_138 (by decide) ?_
              obtain ⟨hi, hw⟩ := hw
              refine g_iast (pc := 200) C w (ro_X11_49 h0) hi  dX11_says_200 (fun s_11 H locs es_11 w => ?_)
              have hw := hw s_11 es_11
              refine g_iinc (pc := 201) (k := 6) C dX11_says_201 hl rfl (by decide) (fun v3_12 ev3_12 ls hl => ?_)
              have hw := hw v3_12 ev3_12
              have hl : lv_has ls 9 [(3, .int (mm_I v3_12)), (2, .int (mm_I v2_6)), (7, .long (mm_L v7_5)), (5, .long (mm_L v5_4)), (4, .int (mm_I v4_3)), (0, .ref (mm_ad G this)), (1, .int (mm_I a1))] := hl
              refine lv_goto (pc := 204) (tgt := 9) C.1 C.2.1 dX11_says_204 (by decide) ?_
              exact hw  _ _ _ w (lv_sub hl [5, 6, 1, 0] rfl)
            · have hw := hw.2 hc
              refine lv_iconst (pc := 133) (v := mm_I 1) C.1 C.2.1 dX11_says_133 rfl ?_
              refine lv_goto (pc := 134) (tgt := 200) C.1 C.2.1 dX11_says_134 (by decide) ?_
              obtain ⟨hi, hw⟩ := hw
              refine g_iast (pc := 200) C w (ro_X11_49 h0) hi  dX11_says_200 (fun s_13 H locs es_13 w => ?_)
              have hw := hw s_13 es_13
              refine g_iinc (pc := 201) (k := 6) C dX11_says_201 hl rfl (by decide) (fun v3_14 ev3_14 ls hl => ?_)
              have hw := hw v3_14 ev3_14
              have hl : lv_has ls 9 [(3, .int (mm_I v3_14)), (2, .int (mm_I v2_6)), (7, .long (mm_L v7_5)), (5, .long (mm_L v5_4)), (4, .int (mm_I v4_3)), (0, .ref (mm_ad G this)), (1, .int (mm_I a1))] := hl
              refine lv_goto (pc := 204) (tgt := 9) C.1 C.2.1 dX11_says_204 (by decide) ?_
              exact hw  _ _ _ w (lv_sub hl [5, 6, 1, 0] rfl)
        · have hw := hw.2 hc
          exact hw  _ _ _ w (lv_sub hl [1, 2, 3, 4, 0] rfl))
  have hw := hw (by
    intro v2 v3 v4 s1 hw  H locs ls w hl
    refine lv_aload_n (pc := 42) C.1 C.2.1 dX11_says_42 rfl (lv_at hl 0 rfl) ?_
    refine g_getr (pc := 43) C w h0 ff_X11_49 lk_X11_97 dX11_says_43 ?_
    refine lv_iload_n (pc := 46) C.1 C.2.1 dX11_says_46 rfl (lv_at hl 2 rfl) ?_
    refine lv_iload (pc := 47) C.1 C.2.1 dX11_says_47 (lv_at hl 4 rfl) ?_
    refine g_if_ne (pc := 49) (tgt := 65) C rfl dX11_says_49 (by decide) (fun hc => ?_) (fun hc => ?_)
    · have hw := hw.1 hc
      refine lv_aload_n (pc := 65) C.1 C.2.1 dX11_says_65 rfl (lv_at hl 0 rfl) ?_
      refine g_getr (pc := 66) C w h0 ff_X11_48 lk_X11_94 dX11_says_66 ?_
      refine lv_aload_n (pc := 69) C.1 C.2.1 dX11_says_69 rfl (lv_at hl 0 rfl) ?_
      refine g_getr (pc := 70) C w h0 ff_X11_25 lk_X11_43 dX11_says_70 ?_
      refine lv_iconst (pc := 73) (v := mm_I 2) C.1 C.2.1 dX11_says_73 rfl ?_
      refine lv_iload_n (pc := 74) C.1 C.2.1 dX11_says_74 rfl (lv_at hl 3 rfl) ?_
      refine g_imul (pc := 75) C dX11_says_75 ?_
      refine lv_iconst (pc := 76) (v := mm_I 1) C.1 C.2.1 dX11_says_76 rfl ?_
      refine g_iadd (pc := 77) C dX11_says_77 ?_
      obtain ⟨hi, hw⟩ := hw
      refine g_iald (pc := 78) C w (ro_X11_25 h0) hi dX11_says_78 ?_
      obtain ⟨hi, hw⟩ := hw
      refine g_iald (pc := 79) C w (ro_X11_48 h0) hi dX11_says_79 ?_
      obtain ⟨hi, hw⟩ := hw
      refine g_iast (pc := 80) C w (ro_X11_49 h0) hi  dX11_says_80 (fun s_15 H locs es_15 w => ?_)
      have hw := hw s_15 es_15
      refine g_iinc (pc := 81) (k := 2) C dX11_says_81 hl rfl (by decide) (fun v2_16 ev2_16 ls hl => ?_)
      have hw := hw v2_16 ev2_16
      have hl : lv_has ls 9 [(2, .int (mm_I v2_16)), (0, .ref (mm_ad G this)), (1, .int (mm_I a1)), (3, .int (mm_I v3)), (4, .int (mm_I v4))] := hl
      refine lv_goto (pc := 84) (tgt := 201) C.1 C.2.1 dX11_says_84 (by decide) ?_
      refine g_iinc (pc := 201) (k := 3) C dX11_says_201 hl rfl (by decide) (fun v3_17 ev3_17 ls hl => ?_)
      have hw := hw v3_17 ev3_17
      have hl : lv_has ls 9 [(3, .int (mm_I v3_17)), (2, .int (mm_I v2_16)), (0, .ref (mm_ad G this)), (1, .int (mm_I a1)), (4, .int (mm_I v4))] := hl
      refine lv_goto (pc := 204) (tgt := 9) C.1 C.2.1 dX11_says_204 (by decide) ?_
      exact hw  _ _ _ w (lv_sub hl [2, 3, 1, 0] rfl)
    · have hw := hw.2 hc
      refine lv_aload_n (pc := 52) C.1 C.2.1 dX11_says_52 rfl (lv_at hl 0 rfl) ?_
      refine g_getr (pc := 53) C w h0 ff_X11_25 lk_X11_43 dX11_says_53 ?_
      refine lv_iconst (pc := 56) (v := mm_I 2) C.1 C.2.1 dX11_says_56 rfl ?_
      refine lv_iload_n (pc := 57) C.1 C.2.1 dX11_says_57 rfl (lv_at hl 3 rfl) ?_
      refine g_imul (pc := 58) C dX11_says_58 ?_
      refine lv_iconst (pc := 59) (v := mm_I 1) C.1 C.2.1 dX11_says_59 rfl ?_
      refine g_iadd (pc := 60) C dX11_says_60 ?_
      obtain ⟨hi, hw⟩ := hw
      refine g_iald (pc := 61) C w (ro_X11_25 h0) hi dX11_says_61 ?_
      refine lv_goto (pc := 62) (tgt := 80) C.1 C.2.1 dX11_says_62 (by decide) ?_
      obtain ⟨hi, hw⟩ := hw
      refine g_iast (pc := 80) C w (ro_X11_49 h0) hi  dX11_says_80 (fun s_18 H locs es_18 w => ?_)
      have hw := hw s_18 es_18
      refine g_iinc (pc := 81) (k := 2) C dX11_says_81 hl rfl (by decide) (fun v2_19 ev2_19 ls hl => ?_)
      have hw := hw v2_19 ev2_19
      have hl : lv_has ls 9 [(2, .int (mm_I v2_19)), (0, .ref (mm_ad G this)), (1, .int (mm_I a1)), (3, .int (mm_I v3)), (4, .int (mm_I v4))] := hl
      refine lv_goto (pc := 84) (tgt := 201) C.1 C.2.1 dX11_says_84 (by decide) ?_
      refine g_iinc (pc := 201) (k := 3) C dX11_says_201 hl rfl (by decide) (fun v3_20 ev3_20 ls hl => ?_)
      have hw := hw v3_20 ev3_20
      have hl : lv_has ls 9 [(3, .int (mm_I v3_20)), (2, .int (mm_I v2_19)), (0, .ref (mm_ad G this)), (1, .int (mm_I a1)), (4, .int (mm_I v4))] := hl
      refine lv_goto (pc := 204) (tgt := 9) C.1 C.2.1 dX11_says_204 (by decide) ?_
      exact hw  _ _ _ w (lv_sub hl [2, 3, 1, 0] rfl))
  have hw := hw (by
    intro v2 v3 q0 q1 s1 hw  H locs ls w hl
    refine g_calli (pc := 197) w (mm_runS (As := [.long (mm_L q0)]) (rest := [.int (mm_I q1), .ref (mm_ad G (mm_rt this 49))]) C w (c_X11_brought l G q0  s1 _ hw) cs_X11_brought ml_X11_313 ⟨Nat.le_of_ble_eq_true rfl, Nat.le_of_ble_eq_true rfl⟩ ⟨Nat.le_of_ble_eq_true rfl, Nat.le_of_ble_eq_true rfl⟩ rfl hl.1 rfl (Nat.le_of_ble_eq_true rfl) dX11_says_197) (fun r_22 s_21 H locs hw w => ?_)
    obtain ⟨hi, hw⟩ := hw
    refine g_iast (pc := 200) C w (ro_X11_49 h0) hi  dX11_says_200 (fun s_23 H locs es_23 w => ?_)
    have hw := hw s_23 es_23
    refine g_iinc (pc := 201) (k := 3) C dX11_says_201 hl rfl (by decide) (fun v3_24 ev3_24 ls hl => ?_)
    have hw := hw v3_24 ev3_24
    have hl : lv_has ls 9 [(3, .int (mm_I v3_24)), (0, .ref (mm_ad G this)), (1, .int (mm_I a1)), (2, .int (mm_I v2))] := hl
    refine lv_goto (pc := 204) (tgt := 9) C.1 C.2.1 dX11_says_204 (by decide) ?_
    exact hw  _ _ _ w (lv_sub hl [1, 2, 3, 0] rfl))
  intro H locs ls w hl
  have hl : lv_has ls 9 [(0, .ref (mm_ad G this)), (1, .int (mm_I a1))] := hl
  refine lv_iconst (pc := 0) (v := mm_I 0) C.1 C.2.1 dX11_says_0 rfl ?_
  refine lv_istore_n (pc := 1) (lv' := [(2, .int (mm_I 0)), (0, .ref (mm_ad G this)), (1, .int (mm_I a1))]) C.1 C.2.1 dX11_says_1 rfl hl (by decide) rfl (fun ls hl => ?_)
  refine lv_aload_n (pc := 2) C.1 C.2.1 dX11_says_2 rfl (lv_at hl 1 rfl) ?_
  refine g_getr (pc := 3) C w h0 ff_X11_26 lk_X11_46 dX11_says_3 ?_
  refine lv_iload_n (pc := 6) C.1 C.2.1 dX11_says_6 rfl (lv_at hl 2 rfl) ?_
  obtain ⟨hi, hw⟩ := hw
  refine g_iald (pc := 7) C w (ro_X11_26 h0) hi dX11_says_7 ?_
  refine g_istore_n (pc := 8) C dX11_says_8 rfl hl (by decide) (fun v3_2 ev3_2 ls hl => ?_)
  have hw := hw v3_2 ev3_2
  have hl : lv_has ls 9 [(3, .int (mm_I v3_2)), (2, .int (mm_I 0)), (0, .ref (mm_ad G this)), (1, .int (mm_I a1))] := hl
  exact hw  _ _ _ w (lv_sub hl [2, 3, 1, 0] rfl)
def wp_X11_isNext (this : Nat) (a1 : Int) (a2 : Int) (a3 : Int) (s0 : mm_M) (post : Int → mm_M → Prop) : Prop :=
  ((0 ≤ a1 ∧ a1 < 5) ∧ ((n32 (s0 (mm_rt this 27) a1) = 0 → ((n32 a3 < n32 a2 → post 0 s0) ∧ (¬ n32 a3 < n32 a2 → post 1 s0))) ∧ (¬ n32 (s0 (mm_rt this 27) a1) = 0 → ((n32 a2 < n32 a3 → post 0 s0) ∧ (¬ n32 a2 < n32 a3 → post 1 s0)))))
set_option maxRecDepth 100000 in
set_option maxHeartbeats 4000000 in
theorem c_X11_isNext (l : Launch) (G : mm_G) (this : Nat) (a1 : Int) (a2 : Int) (a3 : Int) (h0 : mm_ok this 21 0) (s0 : mm_M) (post : Int → mm_M → Prop) (hw : wp_X11_isNext this a1 a2 a3 s0 post) : Met l yX11_isNext (mm_wm yX11_isNext cX11_isNext 4 (some .boolean)) (mm_rm 1) (va_Pc [.ref (mm_ad G this), .int (mm_I a1), .int (mm_I a2), .int (mm_I a3)] (mm_pre G s0)) (mm_Qi G post) 0 0 (mm_A G) := by
  refine mm_met (own := RX11) (by decide) rfl (Nat.le_of_ble_eq_true rfl) ?_
  intro p e s m args below meth c C hr hk
  unfold wp_X11_isNext at hw
  intro H locs ls w hl
  have hl : lv_has ls 4 [(0, .ref (mm_ad G this)), (1, .int (mm_I a1)), (2, .int (mm_I a2)), (3, .int (mm_I a3))] := hl
  refine lv_aload_n (pc := 0) C.1 C.2.1 dX11_isNext_0 rfl (lv_at hl 0 rfl) ?_
  refine g_getr (pc := 1) C w h0 ff_X11_27 lk_X11_49 dX11_isNext_1 ?_
  refine lv_iload_n (pc := 4) C.1 C.2.1 dX11_isNext_4 rfl (lv_at hl 1 rfl) ?_
  obtain ⟨hi, hw⟩ := hw
  refine g_zald (pc := 5) C w (ro_X11_27 h0) hi dX11_isNext_5 ?_
  refine g_if_eq (pc := 6) (tgt := 22) C rfl dX11_isNext_6 (by decide) (fun hc => ?_) (fun hc => ?_)
  · have hw := hw.1 hc
    refine lv_iload_n (pc := 22) C.1 C.2.1 dX11_isNext_22 rfl (lv_at hl 2 rfl) ?_
    refine lv_iload_n (pc := 23) C.1 C.2.1 dX11_isNext_23 rfl (lv_at hl 3 rfl) ?_
    refine g_icmp_gt (pc := 24) (tgt := 31) C rfl rfl dX11_isNext_24 (by decide) (fun hc => ?_) (fun hc => ?_)
    · have hw := hw.1 hc
      refine lv_iconst (pc := 31) (v := mm_I 0) C.1 C.2.1 dX11_isNext_31 rfl ?_
      exact g_zret (pc := 32) C w hr hk (by decide) hw dX11_isNext_32
    · have hw := hw.2 hc
      refine lv_iconst (pc := 27) (v := mm_I 1) C.1 C.2.1 dX11_isNext_27 rfl ?_
      refine lv_goto (pc := 28) (tgt := 32) C.1 C.2.1 dX11_isNext_28 (by decide) ?_
      exact g_zret (pc := 32) C w hr hk (by decide) hw dX11_isNext_32
  · have hw := hw.2 hc
    refine lv_iload_n (pc := 9) C.1 C.2.1 dX11_isNext_9 rfl (lv_at hl 2 rfl) ?_
    refine lv_iload_n (pc := 10) C.1 C.2.1 dX11_isNext_10 rfl (lv_at hl 3 rfl) ?_
    refine g_icmp_lt (pc := 11) (tgt := 18) C rfl rfl dX11_isNext_11 (by decide) (fun hc => ?_) (fun hc => ?_)
    · have hw := hw.1 hc
      refine lv_iconst (pc := 18) (v := mm_I 0) C.1 C.2.1 dX11_isNext_18 rfl ?_
      refine lv_goto (pc := 19) (tgt := 32) C.1 C.2.1 dX11_isNext_19 (by decide) ?_
      exact g_zret (pc := 32) C w hr hk (by decide) hw dX11_isNext_32
    · have hw := hw.2 hc
      refine lv_iconst (pc := 14) (v := mm_I 1) C.1 C.2.1 dX11_isNext_14 rfl ?_
      refine lv_goto (pc := 15) (tgt := 32) C.1 C.2.1 dX11_isNext_15 (by decide) ?_
      exact g_zret (pc := 32) C w hr hk (by decide) hw dX11_isNext_32
def wp_X11_placeBy (a1 : Int) (a2 : Int) (s0 : mm_M) (post : Int → mm_M → Prop) : Prop :=
  ((¬ n32 a1 = 0 → ((¬ n32 a1 = 2 → post (a2 - 1) s0) ∧ (n32 a1 = 2 → post (Int.tdiv (n32 a2) 2) s0))) ∧ (n32 a1 = 0 → post 0 s0))
set_option maxRecDepth 100000 in
set_option maxHeartbeats 4000000 in
theorem c_X11_placeBy (l : Launch) (G : mm_G) (a1 : Int) (a2 : Int)  (s0 : mm_M) (post : Int → mm_M → Prop) (hw : wp_X11_placeBy a1 a2 s0 post) : Met l yX11_placeBy (mm_wm yX11_placeBy cX11_placeBy 2 (some .int)) (mm_rm 1) (va_Pc [.int (mm_I a1), .int (mm_I a2)] (mm_pre G s0)) (mm_Qi G post) 0 0 (mm_A G) := by
  refine mm_met (own := RX11) (by decide) rfl (Nat.le_of_ble_eq_true rfl) ?_
  intro p e s m args below meth c C hr hk
  unfold wp_X11_placeBy at hw
  intro H locs ls w hl
  have hl : lv_has ls 2 [(0, .int (mm_I a1)), (1, .int (mm_I a2))] := hl
  refine lv_iload_n (pc := 0) C.1 C.2.1 dX11_placeBy_0 rfl (lv_at hl 0 rfl) ?_
  refine g_if_ne (pc := 1) (tgt := 8) C rfl dX11_placeBy_1 (by decide) (fun hc => ?_) (fun hc => ?_)
  · have hw := hw.1 hc
    refine lv_iload_n (pc := 8) C.1 C.2.1 dX11_placeBy_8 rfl (lv_at hl 0 rfl) ?_
    refine lv_iconst (pc := 9) (v := mm_I 2) C.1 C.2.1 dX11_placeBy_9 rfl ?_
    refine g_icmp_ne (pc := 10) (tgt := 19) C rfl mn_2 dX11_placeBy_10 (by decide) (fun hc => ?_) (fun hc => ?_)
    · have hw := hw.1 hc
      refine lv_iload_n (pc := 19) C.1 C.2.1 dX11_placeBy_19 rfl (lv_at hl 1 rfl) ?_
      refine lv_iconst (pc := 20) (v := mm_I 1) C.1 C.2.1 dX11_placeBy_20 rfl ?_
      refine g_isub (pc := 21) C dX11_placeBy_21 ?_
      exact g_iret (pc := 22) C w hr hk hw dX11_placeBy_22
    · have hw := hw.2 hc
      refine lv_iload_n (pc := 13) C.1 C.2.1 dX11_placeBy_13 rfl (lv_at hl 1 rfl) ?_
      refine lv_iconst (pc := 14) (v := mm_I 2) C.1 C.2.1 dX11_placeBy_14 rfl ?_
      refine g_idiv (pc := 15) C rfl mn_2 (by decide) dX11_placeBy_15 ?_
      refine lv_goto (pc := 16) (tgt := 22) C.1 C.2.1 dX11_placeBy_16 (by decide) ?_
      exact g_iret (pc := 22) C w hr hk hw dX11_placeBy_22
  · have hw := hw.2 hc
    refine lv_iconst (pc := 4) (v := mm_I 0) C.1 C.2.1 dX11_placeBy_4 rfl ?_
    refine lv_goto (pc := 5) (tgt := 22) C.1 C.2.1 dX11_placeBy_5 (by decide) ?_
    exact g_iret (pc := 22) C w hr hk hw dX11_placeBy_22
def wp_X11_isTold (this : Nat) (a1 : Int) (s0 : mm_M) (post : Int → mm_M → Prop) : Prop :=
  ((n32 a1 < 4 → post 0 s0) ∧ (¬ n32 a1 < 4 → ((n32 (s0 this 24) ≤ n32 (a1 - 4) → post 0 s0) ∧ (¬ n32 (s0 this 24) ≤ n32 (a1 - 4) → post 1 s0))))
set_option maxRecDepth 100000 in
set_option maxHeartbeats 4000000 in
theorem c_X11_isTold (l : Launch) (G : mm_G) (this : Nat) (a1 : Int) (h0 : mm_ok this 21 0) (s0 : mm_M) (post : Int → mm_M → Prop) (hw : wp_X11_isTold this a1 s0 post) : Met l yX11_isTold (mm_wm yX11_isTold cX11_isTold 2 (some .boolean)) (mm_rm 1) (va_Pc [.ref (mm_ad G this), .int (mm_I a1)] (mm_pre G s0)) (mm_Qi G post) 0 0 (mm_A G) := by
  refine mm_met (own := RX11) (by decide) rfl (Nat.le_of_ble_eq_true rfl) ?_
  intro p e s m args below meth c C hr hk
  unfold wp_X11_isTold at hw
  intro H locs ls w hl
  have hl : lv_has ls 2 [(0, .ref (mm_ad G this)), (1, .int (mm_I a1))] := hl
  refine lv_iload_n (pc := 0) C.1 C.2.1 dX11_isTold_0 rfl (lv_at hl 1 rfl) ?_
  refine lv_iconst (pc := 1) (v := mm_I 4) C.1 C.2.1 dX11_isTold_1 rfl ?_
  refine g_icmp_lt (pc := 2) (tgt := 19) C rfl mn_4 dX11_isTold_2 (by decide) (fun hc => ?_) (fun hc => ?_)
  · have hw := hw.1 hc
    refine lv_iconst (pc := 19) (v := mm_I 0) C.1 C.2.1 dX11_isTold_19 rfl ?_
    exact g_zret (pc := 20) C w hr hk (by decide) hw dX11_isTold_20
  · have hw := hw.2 hc
    refine lv_iload_n (pc := 5) C.1 C.2.1 dX11_isTold_5 rfl (lv_at hl 1 rfl) ?_
    refine lv_iconst (pc := 6) (v := mm_I 4) C.1 C.2.1 dX11_isTold_6 rfl ?_
    refine g_isub (pc := 7) C dX11_isTold_7 ?_
    refine lv_aload_n (pc := 8) C.1 C.2.1 dX11_isTold_8 rfl (lv_at hl 0 rfl) ?_
    refine g_geti (pc := 9) C w h0 ff_X11_24 lk_X11_285 dX11_isTold_9 ?_
    refine g_icmp_ge (pc := 12) (tgt := 19) C rfl rfl dX11_isTold_12 (by decide) (fun hc => ?_) (fun hc => ?_)
    · have hw := hw.1 hc
      refine lv_iconst (pc := 19) (v := mm_I 0) C.1 C.2.1 dX11_isTold_19 rfl ?_
      exact g_zret (pc := 20) C w hr hk (by decide) hw dX11_isTold_20
    · have hw := hw.2 hc
      refine lv_iconst (pc := 15) (v := mm_I 1) C.1 C.2.1 dX11_isTold_15 rfl ?_
      refine lv_goto (pc := 16) (tgt := 20) C.1 C.2.1 dX11_isTold_16 (by decide) ?_
      exact g_zret (pc := 20) C w hr hk (by decide) hw dX11_isTold_20
def wp_X11_of (this : Nat) (a1 : Int) (a2 : Int) (s0 : mm_M) (post : Int → mm_M → Prop) : Prop :=
  ((0 ≤ (7 * a1) + a2 ∧ (7 * a1) + a2 < 210) ∧ post (s0 (mm_rt this 33) ((7 * a1) + a2)) s0)
set_option maxRecDepth 100000 in
set_option maxHeartbeats 4000000 in
theorem c_X11_of (l : Launch) (G : mm_G) (this : Nat) (a1 : Int) (a2 : Int) (h0 : mm_ok this 21 0) (s0 : mm_M) (post : Int → mm_M → Prop) (hw : wp_X11_of this a1 a2 s0 post) : Met l yX11_of (mm_wm yX11_of cX11_of 3 (some .int)) (mm_rm 1) (va_Pc [.ref (mm_ad G this), .int (mm_I a1), .int (mm_I a2)] (mm_pre G s0)) (mm_Qi G post) 0 0 (mm_A G) := by
  refine mm_met (own := RX11) (by decide) rfl (Nat.le_of_ble_eq_true rfl) ?_
  intro p e s m args below meth c C hr hk
  unfold wp_X11_of at hw
  intro H locs ls w hl
  have hl : lv_has ls 3 [(0, .ref (mm_ad G this)), (1, .int (mm_I a1)), (2, .int (mm_I a2))] := hl
  refine lv_aload_n (pc := 0) C.1 C.2.1 dX11_of_0 rfl (lv_at hl 0 rfl) ?_
  refine g_getr (pc := 1) C w h0 ff_X11_33 lk_X11_64 dX11_of_1 ?_
  refine lv_bipush (pc := 4) C.1 C.2.1 dX11_of_4 mb_7 ?_
  refine lv_iload_n (pc := 6) C.1 C.2.1 dX11_of_6 rfl (lv_at hl 1 rfl) ?_
  refine g_imul (pc := 7) C dX11_of_7 ?_
  refine lv_iload_n (pc := 8) C.1 C.2.1 dX11_of_8 rfl (lv_at hl 2 rfl) ?_
  refine g_iadd (pc := 9) C dX11_of_9 ?_
  obtain ⟨hi, hw⟩ := hw
  refine g_iald (pc := 10) C w (ro_X11_33 h0) hi dX11_of_10 ?_
  exact g_iret (pc := 11) C w hr hk hw dX11_of_11
def wp_X11_sets (this : Nat) (a1 : Int) (a2 : Int) (a3 : Int) (s0 : mm_M) (post : mm_M → Prop) : Prop :=
  ((0 ≤ (7 * a1) + a2 ∧ (7 * a1) + a2 < 210) ∧ (∀ s_1 : mm_M, s_1 = mm_up s0 (mm_rt this 33) ((7 * a1) + a2) a3 → post s_1))
set_option maxRecDepth 100000 in
set_option maxHeartbeats 4000000 in
theorem c_X11_sets (l : Launch) (G : mm_G) (this : Nat) (a1 : Int) (a2 : Int) (a3 : Int) (h0 : mm_ok this 21 0) (s0 : mm_M) (post : mm_M → Prop) (hw : wp_X11_sets this a1 a2 a3 s0 post) : Met l yX11_sets (mm_wm yX11_sets cX11_sets 4 none) (mm_rm 1) (va_Pc [.ref (mm_ad G this), .int (mm_I a1), .int (mm_I a2), .int (mm_I a3)] (mm_pre G s0)) (mm_Qv G post) 0 0 (mm_A G) := by
  refine mm_met (own := RX11) (by decide) rfl (Nat.le_of_ble_eq_true rfl) ?_
  intro p e s m args below meth c C hr hk
  unfold wp_X11_sets at hw
  intro H locs ls w hl
  have hl : lv_has ls 4 [(0, .ref (mm_ad G this)), (1, .int (mm_I a1)), (2, .int (mm_I a2)), (3, .int (mm_I a3))] := hl
  refine lv_aload_n (pc := 0) C.1 C.2.1 dX11_sets_0 rfl (lv_at hl 0 rfl) ?_
  refine g_getr (pc := 1) C w h0 ff_X11_33 lk_X11_64 dX11_sets_1 ?_
  refine lv_bipush (pc := 4) C.1 C.2.1 dX11_sets_4 mb_7 ?_
  refine lv_iload_n (pc := 6) C.1 C.2.1 dX11_sets_6 rfl (lv_at hl 1 rfl) ?_
  refine g_imul (pc := 7) C dX11_sets_7 ?_
  refine lv_iload_n (pc := 8) C.1 C.2.1 dX11_sets_8 rfl (lv_at hl 2 rfl) ?_
  refine g_iadd (pc := 9) C dX11_sets_9 ?_
  refine lv_iload_n (pc := 10) C.1 C.2.1 dX11_sets_10 rfl (lv_at hl 3 rfl) ?_
  obtain ⟨hi, hw⟩ := hw
  refine g_iast (pc := 11) C w (ro_X11_33 h0) hi  dX11_sets_11 (fun s_1 H locs es_1 w => ?_)
  have hw := hw s_1 es_1
  exact g_vret (pc := 12) C w hr hk hw dX11_sets_12
def wp_X11_sortHas (this : Nat) (a1 : Int) (a2 : Int) (s0 : mm_M) (post : Int → mm_M → Prop) : Prop :=
  ((0 ≤ (6 * a1) + a2 ∧ (6 * a1) + a2 < 30) ∧ post (s0 (mm_rt this 15) ((6 * a1) + a2)) s0)
set_option maxRecDepth 100000 in
set_option maxHeartbeats 4000000 in
theorem c_X11_sortHas (l : Launch) (G : mm_G) (this : Nat) (a1 : Int) (a2 : Int) (h0 : mm_ok this 21 0) (s0 : mm_M) (post : Int → mm_M → Prop) (hw : wp_X11_sortHas this a1 a2 s0 post) : Met l yX11_sortHas (mm_wm yX11_sortHas cX11_sortHas 3 (some .int)) (mm_rm 1) (va_Pc [.ref (mm_ad G this), .int (mm_I a1), .int (mm_I a2)] (mm_pre G s0)) (mm_Qi G post) 0 0 (mm_A G) := by
  refine mm_met (own := RX11) (by decide) rfl (Nat.le_of_ble_eq_true rfl) ?_
  intro p e s m args below meth c C hr hk
  unfold wp_X11_sortHas at hw
  intro H locs ls w hl
  have hl : lv_has ls 3 [(0, .ref (mm_ad G this)), (1, .int (mm_I a1)), (2, .int (mm_I a2))] := hl
  refine lv_aload_n (pc := 0) C.1 C.2.1 dX11_sortHas_0 rfl (lv_at hl 0 rfl) ?_
  refine g_getr (pc := 1) C w h0 ff_X11_15 lk_X11_30 dX11_sortHas_1 ?_
  refine lv_bipush (pc := 4) C.1 C.2.1 dX11_sortHas_4 mb_6 ?_
  refine lv_iload_n (pc := 6) C.1 C.2.1 dX11_sortHas_6 rfl (lv_at hl 1 rfl) ?_
  refine g_imul (pc := 7) C dX11_sortHas_7 ?_
  refine lv_iload_n (pc := 8) C.1 C.2.1 dX11_sortHas_8 rfl (lv_at hl 2 rfl) ?_
  refine g_iadd (pc := 9) C dX11_sortHas_9 ?_
  obtain ⟨hi, hw⟩ := hw
  refine g_iald (pc := 10) C w (ro_X11_15 h0) hi dX11_sortHas_10 ?_
  exact g_iret (pc := 11) C w hr hk hw dX11_sortHas_11
def wp_X11_tells (this : Nat) (a1 : Int) (a2 : Int) (a3 : Int) (s0 : mm_M) (post : mm_M → Prop) : Prop :=
  ((0 ≤ (7 * a1) + a2 ∧ (7 * a1) + a2 < 35) ∧ ((0 ≤ (7 * a1) + a2 ∧ (7 * a1) + a2 < 35) ∧ (∀ s_1 : mm_M, s_1 = mm_up s0 (mm_rt this 34) ((7 * a1) + a2) ((s0 (mm_rt this 34) ((7 * a1) + a2)) + a3) → post s_1)))
set_option maxRecDepth 100000 in
set_option maxHeartbeats 4000000 in
theorem c_X11_tells (l : Launch) (G : mm_G) (this : Nat) (a1 : Int) (a2 : Int) (a3 : Int) (h0 : mm_ok this 21 0) (s0 : mm_M) (post : mm_M → Prop) (hw : wp_X11_tells this a1 a2 a3 s0 post) : Met l yX11_tells (mm_wm yX11_tells cX11_tells 4 none) (mm_rm 1) (va_Pc [.ref (mm_ad G this), .int (mm_I a1), .int (mm_I a2), .int (mm_I a3)] (mm_pre G s0)) (mm_Qv G post) 0 0 (mm_A G) := by
  refine mm_met (own := RX11) (by decide) rfl (Nat.le_of_ble_eq_true rfl) ?_
  intro p e s m args below meth c C hr hk
  unfold wp_X11_tells at hw
  intro H locs ls w hl
  have hl : lv_has ls 4 [(0, .ref (mm_ad G this)), (1, .int (mm_I a1)), (2, .int (mm_I a2)), (3, .int (mm_I a3))] := hl
  refine lv_aload_n (pc := 0) C.1 C.2.1 dX11_tells_0 rfl (lv_at hl 0 rfl) ?_
  refine g_getr (pc := 1) C w h0 ff_X11_34 lk_X11_67 dX11_tells_1 ?_
  refine lv_bipush (pc := 4) C.1 C.2.1 dX11_tells_4 mb_7 ?_
  refine lv_iload_n (pc := 6) C.1 C.2.1 dX11_tells_6 rfl (lv_at hl 1 rfl) ?_
  refine g_imul (pc := 7) C dX11_tells_7 ?_
  refine lv_iload_n (pc := 8) C.1 C.2.1 dX11_tells_8 rfl (lv_at hl 2 rfl) ?_
  refine g_iadd (pc := 9) C dX11_tells_9 ?_
  refine lv_dup2_11 (pc := 10) C.1 C.2.1 dX11_tells_10 rfl rfl ?_
  obtain ⟨hi, hw⟩ := hw
  refine g_iald (pc := 11) C w (ro_X11_34 h0) hi dX11_tells_11 ?_
  refine lv_iload_n (pc := 12) C.1 C.2.1 dX11_tells_12 rfl (lv_at hl 3 rfl) ?_
  refine g_iadd (pc := 13) C dX11_tells_13 ?_
  obtain ⟨hi, hw⟩ := hw
  refine g_iast (pc := 14) C w (ro_X11_34 h0) hi  dX11_tells_14 (fun s_1 H locs es_1 w => ?_)
  have hw := hw s_1 es_1
  exact g_vret (pc := 15) C w hr hk hw dX11_tells_15
def wp_X11_isSort (this : Nat) (a1 : Int) (s0 : mm_M) (post : Int → mm_M → Prop) : Prop :=
  (wp_X11_in a1 0 ((s0 this 14) - 1) s0 (fun r_2 s_1 => ((r_2 = 0 ∨ r_2 = 1) ∧ post r_2 s_1)))
set_option maxRecDepth 100000 in
set_option maxHeartbeats 4000000 in
theorem c_X11_isSort (l : Launch) (G : mm_G) (this : Nat) (a1 : Int) (h0 : mm_ok this 21 0) (s0 : mm_M) (post : Int → mm_M → Prop) (hw : wp_X11_isSort this a1 s0 post) : Met l yX11_isSort (mm_wm yX11_isSort cX11_isSort 2 (some .boolean)) (mm_rm 2) (va_Pc [.ref (mm_ad G this), .int (mm_I a1)] (mm_pre G s0)) (mm_Qi G post) 0 0 (mm_A G) := by
  refine mm_met (own := RX11) (by decide) rfl (Nat.le_of_ble_eq_true rfl) ?_
  intro p e s m args below meth c C hr hk
  unfold wp_X11_isSort at hw
  intro H locs ls w hl
  have hl : lv_has ls 2 [(0, .ref (mm_ad G this)), (1, .int (mm_I a1))] := hl
  refine lv_iload_n (pc := 0) C.1 C.2.1 dX11_isSort_0 rfl (lv_at hl 1 rfl) ?_
  refine lv_iconst (pc := 1) (v := mm_I 0) C.1 C.2.1 dX11_isSort_1 rfl ?_
  refine lv_aload_n (pc := 2) C.1 C.2.1 dX11_isSort_2 rfl (lv_at hl 0 rfl) ?_
  refine g_geti (pc := 3) C w h0 ff_X11_14 lk_X11_291 dX11_isSort_3 ?_
  refine lv_iconst (pc := 6) (v := mm_I 1) C.1 C.2.1 dX11_isSort_6 rfl ?_
  refine g_isub (pc := 7) C dX11_isSort_7 ?_
  refine g_calli (pc := 8) w (mm_runS (As := [.int (mm_I a1), .int (mm_I 0), .int (mm_I ((s0 this 14) - 1))]) (rest := []) C w (c_X11_in l G a1 0 ((s0 this 14) - 1)  s0 _ hw) cs_X11_in ml_X11_122 ⟨Nat.le_of_ble_eq_true rfl, Nat.le_of_ble_eq_true rfl⟩ ⟨Nat.le_of_ble_eq_true rfl, Nat.le_of_ble_eq_true rfl⟩ rfl hl.1 rfl (Nat.le_of_ble_eq_true rfl) dX11_isSort_8) (fun r_2 s_1 H locs hw w => ?_)
  obtain ⟨hb, hw⟩ := hw
  exact g_zret (pc := 11) C w hr hk hb hw dX11_isSort_11
def wp_X11_isCounter (this : Nat) (a1 : Int) (s0 : mm_M) (post : Int → mm_M → Prop) : Prop :=
  (wp_X11_in a1 0 ((s0 this 12) - 1) s0 (fun r_2 s_1 => ((r_2 = 0 ∨ r_2 = 1) ∧ post r_2 s_1)))
set_option maxRecDepth 100000 in
set_option maxHeartbeats 4000000 in
theorem c_X11_isCounter (l : Launch) (G : mm_G) (this : Nat) (a1 : Int) (h0 : mm_ok this 21 0) (s0 : mm_M) (post : Int → mm_M → Prop) (hw : wp_X11_isCounter this a1 s0 post) : Met l yX11_isCounter (mm_wm yX11_isCounter cX11_isCounter 2 (some .boolean)) (mm_rm 2) (va_Pc [.ref (mm_ad G this), .int (mm_I a1)] (mm_pre G s0)) (mm_Qi G post) 0 0 (mm_A G) := by
  refine mm_met (own := RX11) (by decide) rfl (Nat.le_of_ble_eq_true rfl) ?_
  intro p e s m args below meth c C hr hk
  unfold wp_X11_isCounter at hw
  intro H locs ls w hl
  have hl : lv_has ls 2 [(0, .ref (mm_ad G this)), (1, .int (mm_I a1))] := hl
  refine lv_iload_n (pc := 0) C.1 C.2.1 dX11_isCounter_0 rfl (lv_at hl 1 rfl) ?_
  refine lv_iconst (pc := 1) (v := mm_I 0) C.1 C.2.1 dX11_isCounter_1 rfl ?_
  refine lv_aload_n (pc := 2) C.1 C.2.1 dX11_isCounter_2 rfl (lv_at hl 0 rfl) ?_
  refine g_geti (pc := 3) C w h0 ff_X11_12 lk_X11_288 dX11_isCounter_3 ?_
  refine lv_iconst (pc := 6) (v := mm_I 1) C.1 C.2.1 dX11_isCounter_6 rfl ?_
  refine g_isub (pc := 7) C dX11_isCounter_7 ?_
  refine g_calli (pc := 8) w (mm_runS (As := [.int (mm_I a1), .int (mm_I 0), .int (mm_I ((s0 this 12) - 1))]) (rest := []) C w (c_X11_in l G a1 0 ((s0 this 12) - 1)  s0 _ hw) cs_X11_in ml_X11_122 ⟨Nat.le_of_ble_eq_true rfl, Nat.le_of_ble_eq_true rfl⟩ ⟨Nat.le_of_ble_eq_true rfl, Nat.le_of_ble_eq_true rfl⟩ rfl hl.1 rfl (Nat.le_of_ble_eq_true rfl) dX11_isCounter_8) (fun r_2 s_1 H locs hw w => ?_)
  obtain ⟨hb, hw⟩ := hw
  exact g_zret (pc := 11) C w hr hk hb hw dX11_isCounter_11
theorem cv_X11_of : mm_V yX11_of cX11_of 3 (some .int) 2 := ⟨(mt_7 96 rfl rfl), (mt_7 95 rfl rfl), (mp_5 2 rfl rfl), (mt_1 12 rfl rfl), by decide, by decide, by decide +kernel⟩
theorem ml_X11_317 : Cond.methodLink RX11 317 yX11_of ∈ mm_ws := (mt_7 93 rfl rfl)
def wp_X11_isHere (this : Nat) (a1 : Int) (s0 : mm_M) (post : Int → mm_M → Prop) : Prop :=
  ((n32 (s0 this 12) ≤ 0 → post 0 s0) ∧ (¬ n32 (s0 this 12) ≤ 0 → (wp_X11_in a1 0 29 s0 (fun r_2 s_1 => ((n32 r_2 = 0 → post 0 s_1) ∧ (¬ n32 r_2 = 0 → (wp_X11_of this a1 2 s_1 (fun r_4 s_3 => ((n32 r_4 = (-1) → post 0 s_3) ∧ (¬ n32 r_4 = (-1) → post 1 s_3))))))))))
set_option maxRecDepth 100000 in
set_option maxHeartbeats 4000000 in
theorem c_X11_isHere (l : Launch) (G : mm_G) (this : Nat) (a1 : Int) (h0 : mm_ok this 21 0) (s0 : mm_M) (post : Int → mm_M → Prop) (hw : wp_X11_isHere this a1 s0 post) : Met l yX11_isHere (mm_wm yX11_isHere cX11_isHere 2 (some .boolean)) (mm_rm 2) (va_Pc [.ref (mm_ad G this), .int (mm_I a1)] (mm_pre G s0)) (mm_Qi G post) 0 0 (mm_A G) := by
  refine mm_met (own := RX11) (by decide) rfl (Nat.le_of_ble_eq_true rfl) ?_
  intro p e s m args below meth c C hr hk
  unfold wp_X11_isHere at hw
  intro H locs ls w hl
  have hl : lv_has ls 2 [(0, .ref (mm_ad G this)), (1, .int (mm_I a1))] := hl
  refine lv_aload_n (pc := 0) C.1 C.2.1 dX11_isHere_0 rfl (lv_at hl 0 rfl) ?_
  refine g_geti (pc := 1) C w h0 ff_X11_12 lk_X11_288 dX11_isHere_1 ?_
  refine g_if_le (pc := 4) (tgt := 31) C rfl dX11_isHere_4 (by decide) (fun hc => ?_) (fun hc => ?_)
  · have hw := hw.1 hc
    refine lv_iconst (pc := 31) (v := mm_I 0) C.1 C.2.1 dX11_isHere_31 rfl ?_
    exact g_zret (pc := 32) C w hr hk (by decide) hw dX11_isHere_32
  · have hw := hw.2 hc
    refine lv_iload_n (pc := 7) C.1 C.2.1 dX11_isHere_7 rfl (lv_at hl 1 rfl) ?_
    refine lv_iconst (pc := 8) (v := mm_I 0) C.1 C.2.1 dX11_isHere_8 rfl ?_
    refine lv_bipush (pc := 9) C.1 C.2.1 dX11_isHere_9 mb_29 ?_
    refine g_calli (pc := 11) w (mm_runS (As := [.int (mm_I a1), .int (mm_I 0), .int (mm_I 29)]) (rest := []) C w (c_X11_in l G a1 0 29  s0 _ hw) cs_X11_in ml_X11_122 ⟨Nat.le_of_ble_eq_true rfl, Nat.le_of_ble_eq_true rfl⟩ ⟨Nat.le_of_ble_eq_true rfl, Nat.le_of_ble_eq_true rfl⟩ rfl hl.1 rfl (Nat.le_of_ble_eq_true rfl) dX11_isHere_11) (fun r_2 s_1 H locs hw w => ?_)
    refine g_if_eq (pc := 14) (tgt := 31) C rfl dX11_isHere_14 (by decide) (fun hc => ?_) (fun hc => ?_)
    · have hw := hw.1 hc
      refine lv_iconst (pc := 31) (v := mm_I 0) C.1 C.2.1 dX11_isHere_31 rfl ?_
      exact g_zret (pc := 32) C w hr hk (by decide) hw dX11_isHere_32
    · have hw := hw.2 hc
      refine lv_aload_n (pc := 17) C.1 C.2.1 dX11_isHere_17 rfl (lv_at hl 0 rfl) ?_
      refine lv_iload_n (pc := 18) C.1 C.2.1 dX11_isHere_18 rfl (lv_at hl 1 rfl) ?_
      refine lv_iconst (pc := 19) (v := mm_I 2) C.1 C.2.1 dX11_isHere_19 rfl ?_
      refine g_calli (pc := 20) w (mm_runV (ci := 11) (q := (RX11, TX11, 65)) (As := [.int (mm_I a1), .int (mm_I 2)]) (rest := []) C w (c_X11_of l G this a1 2 h0 s_1 _ hw) h0 rfl rfl cv_X11_of ml_X11_317 ⟨Nat.le_of_ble_eq_true rfl, Nat.le_of_ble_eq_true rfl⟩ ⟨Nat.le_of_ble_eq_true rfl, Nat.le_of_ble_eq_true rfl⟩ rfl hl.1 rfl (Nat.le_of_ble_eq_true rfl) dX11_isHere_20) (fun r_4 s_3 H locs hw w => ?_)
      refine lv_iconst (pc := 23) (v := mm_I (-1)) C.1 C.2.1 dX11_isHere_23 rfl ?_
      refine g_icmp_eq (pc := 24) (tgt := 31) C rfl mn_m1 dX11_isHere_24 (by decide) (fun hc => ?_) (fun hc => ?_)
      · have hw := hw.1 hc
        refine lv_iconst (pc := 31) (v := mm_I 0) C.1 C.2.1 dX11_isHere_31 rfl ?_
        exact g_zret (pc := 32) C w hr hk (by decide) hw dX11_isHere_32
      · have hw := hw.2 hc
        refine lv_iconst (pc := 27) (v := mm_I 1) C.1 C.2.1 dX11_isHere_27 rfl ?_
        refine lv_goto (pc := 28) (tgt := 32) C.1 C.2.1 dX11_isHere_28 (by decide) ?_
        exact g_zret (pc := 32) C w hr hk (by decide) hw dX11_isHere_32
theorem cv_X11_isCounter : mm_V yX11_isCounter cX11_isCounter 2 (some .boolean) 1 := ⟨(mt_7 64 rfl rfl), (mt_7 63 rfl rfl), (mp_4 14 rfl rfl), (mt_1 12 rfl rfl), by decide, by decide, by decide +kernel⟩
theorem ml_X11_321 : Cond.methodLink RX11 321 yX11_isCounter ∈ mm_ws := (mt_7 61 rfl rfl)
def wp_X11_counter (this : Nat) (a1 : Int) (a2 : Int) (s0 : mm_M) (post : Int → mm_M → Prop) : Prop :=
  (wp_X11_isCounter this a1 s0 (fun r_2 s_1 => ((¬ n32 r_2 = 0 → ((n32 a2 = 0 → ((0 ≤ 3 * a1 ∧ 3 * a1 < 9) ∧ post (s_1 (mm_rt this 13) (3 * a1)) s_1)) ∧ (¬ n32 a2 = 0 → ((n32 a2 = 1 → ((0 ≤ (3 * a1) + 1 ∧ (3 * a1) + 1 < 9) ∧ post (s_1 (mm_rt this 13) ((3 * a1) + 1)) s_1)) ∧ (¬ n32 a2 = 1 → ((n32 a2 = 2 → ((0 ≤ a1 ∧ a1 < 3) ∧ post (s_1 (mm_rt this 29) a1) s_1)) ∧ (¬ n32 a2 = 2 → ((n32 a2 = 3 → ((0 ≤ a1 ∧ a1 < 3) ∧ post (s_1 (mm_rt this 31) a1) s_1)) ∧ (¬ n32 a2 = 3 → ((n32 a2 = 4 → ((0 ≤ a1 ∧ a1 < 3) ∧ post (s_1 (mm_rt this 30) a1) s_1)) ∧ (¬ n32 a2 = 4 → post (-1) s_1))))))))))) ∧ (n32 r_2 = 0 → post (-1) s_1))))
set_option maxRecDepth 100000 in
set_option maxHeartbeats 4000000 in
theorem c_X11_counter (l : Launch) (G : mm_G) (this : Nat) (a1 : Int) (a2 : Int) (h0 : mm_ok this 21 0) (s0 : mm_M) (post : Int → mm_M → Prop) (hw : wp_X11_counter this a1 a2 s0 post) : Met l yX11_counter (mm_wm yX11_counter cX11_counter 3 (some .int)) (mm_rm 3) (va_Pc [.ref (mm_ad G this), .int (mm_I a1), .int (mm_I a2)] (mm_pre G s0)) (mm_Qi G post) 0 0 (mm_A G) := by
  refine mm_met (own := RX11) (by decide) rfl (Nat.le_of_ble_eq_true rfl) ?_
  intro p e s m args below meth c C hr hk
  unfold wp_X11_counter at hw
  intro H locs ls w hl
  have hl : lv_has ls 3 [(0, .ref (mm_ad G this)), (1, .int (mm_I a1)), (2, .int (mm_I a2))] := hl
  refine lv_aload_n (pc := 0) C.1 C.2.1 dX11_counter_0 rfl (lv_at hl 0 rfl) ?_
  refine lv_iload_n (pc := 1) C.1 C.2.1 dX11_counter_1 rfl (lv_at hl 1 rfl) ?_
  refine g_calli (pc := 2) w (mm_runV (ci := 11) (q := (RX11, TX11, 65)) (As := [.int (mm_I a1)]) (rest := []) C w (c_X11_isCounter l G this a1 h0 s0 _ hw) h0 rfl rfl cv_X11_isCounter ml_X11_321 ⟨Nat.le_of_ble_eq_true rfl, Nat.le_of_ble_eq_true rfl⟩ ⟨Nat.le_of_ble_eq_true rfl, Nat.le_of_ble_eq_true rfl⟩ rfl hl.1 rfl (Nat.le_of_ble_eq_true rfl) dX11_counter_2) (fun r_2 s_1 H locs hw w => ?_)
  refine g_if_ne (pc := 5) (tgt := 10) C rfl dX11_counter_5 (by decide) (fun hc => ?_) (fun hc => ?_)
  · have hw := hw.1 hc
    refine lv_iload_n (pc := 10) C.1 C.2.1 dX11_counter_10 rfl (lv_at hl 2 rfl) ?_
    by_cases hc0 : n32 a2 = 0
    · have hw := hw.1 hc0
      refine lv_tableIn (pc := 11) (tgt := 44) C.1 C.2.1 dX11_counter_11 (by rw [show (mm_I a2).toInt = 0 from hc0]; decide) (by rw [show (mm_I a2).toInt = 0 from hc0]; decide) (by rw [show (mm_I a2).toInt = 0 from hc0]; first | done | rfl) (by decide) ?_
      refine lv_aload_n (pc := 44) C.1 C.2.1 dX11_counter_44 rfl (lv_at hl 0 rfl) ?_
      refine g_getr (pc := 45) C w h0 ff_X11_13 lk_X11_27 dX11_counter_45 ?_
      refine lv_iconst (pc := 48) (v := mm_I 3) C.1 C.2.1 dX11_counter_48 rfl ?_
      refine lv_iload_n (pc := 49) C.1 C.2.1 dX11_counter_49 rfl (lv_at hl 1 rfl) ?_
      refine g_imul (pc := 50) C dX11_counter_50 ?_
      obtain ⟨hi, hw⟩ := hw
      refine g_iald (pc := 51) C w (ro_X11_13 h0) hi dX11_counter_51 ?_
      exact g_iret (pc := 52) C w hr hk hw dX11_counter_52
    have hw := hw.2 hc0
    by_cases hc1 : n32 a2 = 1
    · have hw := hw.1 hc1
      refine lv_tableIn (pc := 11) (tgt := 53) C.1 C.2.1 dX11_counter_11 (by rw [show (mm_I a2).toInt = 1 from hc1]; decide) (by rw [show (mm_I a2).toInt = 1 from hc1]; decide) (by rw [show (mm_I a2).toInt = 1 from hc1]; first | done | rfl) (by decide) ?_
      refine lv_aload_n (pc := 53) C.1 C.2.1 dX11_counter_53 rfl (lv_at hl 0 rfl) ?_
      refine g_getr (pc := 54) C w h0 ff_X11_13 lk_X11_27 dX11_counter_54 ?_
      refine lv_iconst (pc := 57) (v := mm_I 3) C.1 C.2.1 dX11_counter_57 rfl ?_
      refine lv_iload_n (pc := 58) C.1 C.2.1 dX11_counter_58 rfl (lv_at hl 1 rfl) ?_
      refine g_imul (pc := 59) C dX11_counter_59 ?_
      refine lv_iconst (pc := 60) (v := mm_I 1) C.1 C.2.1 dX11_counter_60 rfl ?_
      refine g_iadd (pc := 61) C dX11_counter_61 ?_
      obtain ⟨hi, hw⟩ := hw
      refine g_iald (pc := 62) C w (ro_X11_13 h0) hi dX11_counter_62 ?_
      exact g_iret (pc := 63) C w hr hk hw dX11_counter_63
    have hw := hw.2 hc1
    by_cases hc2 : n32 a2 = 2
    · have hw := hw.1 hc2
      refine lv_tableIn (pc := 11) (tgt := 64) C.1 C.2.1 dX11_counter_11 (by rw [show (mm_I a2).toInt = 2 from hc2]; decide) (by rw [show (mm_I a2).toInt = 2 from hc2]; decide) (by rw [show (mm_I a2).toInt = 2 from hc2]; first | done | rfl) (by decide) ?_
      refine lv_aload_n (pc := 64) C.1 C.2.1 dX11_counter_64 rfl (lv_at hl 0 rfl) ?_
      refine g_getr (pc := 65) C w h0 ff_X11_29 lk_X11_52 dX11_counter_65 ?_
      refine lv_iload_n (pc := 68) C.1 C.2.1 dX11_counter_68 rfl (lv_at hl 1 rfl) ?_
      obtain ⟨hi, hw⟩ := hw
      refine g_iald (pc := 69) C w (ro_X11_29 h0) hi dX11_counter_69 ?_
      exact g_iret (pc := 70) C w hr hk hw dX11_counter_70
    have hw := hw.2 hc2
    by_cases hc3 : n32 a2 = 3
    · have hw := hw.1 hc3
      refine lv_tableIn (pc := 11) (tgt := 71) C.1 C.2.1 dX11_counter_11 (by rw [show (mm_I a2).toInt = 3 from hc3]; decide) (by rw [show (mm_I a2).toInt = 3 from hc3]; decide) (by rw [show (mm_I a2).toInt = 3 from hc3]; first | done | rfl) (by decide) ?_
      refine lv_aload_n (pc := 71) C.1 C.2.1 dX11_counter_71 rfl (lv_at hl 0 rfl) ?_
      refine g_getr (pc := 72) C w h0 ff_X11_31 lk_X11_58 dX11_counter_72 ?_
      refine lv_iload_n (pc := 75) C.1 C.2.1 dX11_counter_75 rfl (lv_at hl 1 rfl) ?_
      obtain ⟨hi, hw⟩ := hw
      refine g_iald (pc := 76) C w (ro_X11_31 h0) hi dX11_counter_76 ?_
      exact g_iret (pc := 77) C w hr hk hw dX11_counter_77
    have hw := hw.2 hc3
    by_cases hc4 : n32 a2 = 4
    · have hw := hw.1 hc4
      refine lv_tableIn (pc := 11) (tgt := 78) C.1 C.2.1 dX11_counter_11 (by rw [show (mm_I a2).toInt = 4 from hc4]; decide) (by rw [show (mm_I a2).toInt = 4 from hc4]; decide) (by rw [show (mm_I a2).toInt = 4 from hc4]; first | done | rfl) (by decide) ?_
      refine lv_aload_n (pc := 78) C.1 C.2.1 dX11_counter_78 rfl (lv_at hl 0 rfl) ?_
      refine g_getr (pc := 79) C w h0 ff_X11_30 lk_X11_55 dX11_counter_79 ?_
      refine lv_iload_n (pc := 82) C.1 C.2.1 dX11_counter_82 rfl (lv_at hl 1 rfl) ?_
      obtain ⟨hi, hw⟩ := hw
      refine g_iald (pc := 83) C w (ro_X11_30 h0) hi dX11_counter_83 ?_
      exact g_iret (pc := 84) C w hr hk hw dX11_counter_84
    have hw := hw.2 hc4
    refine lv_tableOut (pc := 11) (tgt := 85) C.1 C.2.1 dX11_counter_11 (mo_0_4 hc0 hc1 hc2 hc3 hc4) (by decide) ?_
    refine lv_iconst (pc := 85) (v := mm_I (-1)) C.1 C.2.1 dX11_counter_85 rfl ?_
    exact g_iret (pc := 86) C w hr hk hw dX11_counter_86
  · have hw := hw.2 hc
    refine lv_iconst (pc := 8) (v := mm_I (-1)) C.1 C.2.1 dX11_counter_8 rfl ?_
    exact g_iret (pc := 9) C w hr hk hw dX11_counter_9
def wp_X11_unlikeOf (a1 : Int) (a2 : Int) (a3 : Int) (s0 : mm_M) (post : Int → mm_M → Prop) : Prop :=
  (n64 (a1 * a1) ≠ 0 ∧ post (Int.tdiv (n64 ((a1 * a2) - (a3 * a3))) (n64 (a1 * a1))) s0)
set_option maxRecDepth 100000 in
set_option maxHeartbeats 4000000 in
theorem c_X11_unlikeOf (l : Launch) (G : mm_G) (a1 : Int) (a2 : Int) (a3 : Int)  (s0 : mm_M) (post : Int → mm_M → Prop) (hw : wp_X11_unlikeOf a1 a2 a3 s0 post) : Met l yX11_unlikeOf (mm_wm yX11_unlikeOf cX11_unlikeOf 6 (some .int)) (mm_rm 1) (va_Pc [.long (mm_L a1), .long (mm_L a2), .long (mm_L a3)] (mm_pre G s0)) (mm_Qi G post) 0 0 (mm_A G) := by
  refine mm_met (own := RX11) (by decide) rfl (Nat.le_of_ble_eq_true rfl) ?_
  intro p e s m args below meth c C hr hk
  unfold wp_X11_unlikeOf at hw
  intro H locs ls w hl
  have hl : lv_has ls 6 [(0, .long (mm_L a1)), (2, .long (mm_L a2)), (4, .long (mm_L a3))] := hl
  refine lv_lload_n (pc := 0) C.1 C.2.1 dX11_unlikeOf_0 rfl (lv_at hl 0 rfl) ?_
  refine lv_lload_n (pc := 1) C.1 C.2.1 dX11_unlikeOf_1 rfl (lv_at hl 1 rfl) ?_
  refine g_lmul (pc := 2) C dX11_unlikeOf_2 ?_
  refine lv_lload (pc := 3) C.1 C.2.1 dX11_unlikeOf_3 (lv_at hl 2 rfl) ?_
  refine lv_lload (pc := 5) C.1 C.2.1 dX11_unlikeOf_5 (lv_at hl 2 rfl) ?_
  refine g_lmul (pc := 7) C dX11_unlikeOf_7 ?_
  refine g_lsub (pc := 8) C dX11_unlikeOf_8 ?_
  refine lv_lload_n (pc := 9) C.1 C.2.1 dX11_unlikeOf_9 rfl (lv_at hl 0 rfl) ?_
  refine lv_lload_n (pc := 10) C.1 C.2.1 dX11_unlikeOf_10 rfl (lv_at hl 0 rfl) ?_
  refine g_lmul (pc := 11) C dX11_unlikeOf_11 ?_
  obtain ⟨hz, hw⟩ := hw
  refine g_ldiv (pc := 12) C hz dX11_unlikeOf_12 ?_
  refine g_l2i (pc := 13) C dX11_unlikeOf_13 ?_
  exact g_iret (pc := 14) C w hr hk hw dX11_unlikeOf_14
theorem cv_X11_isSort : mm_V yX11_isSort cX11_isSort 2 (some .boolean) 1 := ⟨(mt_7 72 rfl rfl), (mt_7 71 rfl rfl), (mp_4 15 rfl rfl), (mt_1 12 rfl rfl), by decide, by decide, by decide +kernel⟩
theorem ml_X11_324 : Cond.methodLink RX11 324 yX11_isSort ∈ mm_ws := (mt_7 69 rfl rfl)
theorem cs_X11_unlikeOf : mm_S yX11_unlikeOf cX11_unlikeOf 6 (some .int) 3 := ⟨(mt_7 79 rfl rfl), (mt_7 78 rfl rfl), (mt_1 12 rfl rfl), by decide, by decide, by decide +kernel⟩
theorem ml_X11_330 : Cond.methodLink RX11 330 yX11_unlikeOf ∈ mm_ws := (mt_7 77 rfl rfl)
theorem cv_X11_sortHas : mm_V yX11_sortHas cX11_sortHas 3 (some .int) 2 := ⟨(mt_7 76 rfl rfl), (mt_7 75 rfl rfl), (mp_5 0 rfl rfl), (mt_1 12 rfl rfl), by decide, by decide, by decide +kernel⟩
theorem ml_X11_327 : Cond.methodLink RX11 327 yX11_sortHas ∈ mm_ws := (mt_7 73 rfl rfl)
def wp_X11_sort (this : Nat) (a1 : Int) (a2 : Int) (s0 : mm_M) (post : Int → mm_M → Prop) : Prop :=
  (wp_X11_isSort this a1 s0 (fun r_2 s_1 => ((¬ n32 r_2 = 0 → (wp_X11_in a2 0 5 s_1 (fun r_4 s_3 => ((n32 r_4 = 0 → (wp_X11_in a2 10 16 s_3 (fun r_6 s_5 => ((n32 r_6 = 0 → ((0 ≤ (7 * a1) + 1 ∧ (7 * a1) + 1 < 35) ∧ (∀ v3_7 : Int, v3_7 = s_5 (mm_rt this 34) ((7 * a1) + 1) → ((¬ n32 a2 = 17 → post (-2147483648) s_5) ∧ (n32 a2 = 17 → ((¬ n32 v3_7 = 0 → ((0 ≤ (7 * a1) + 4 ∧ (7 * a1) + 4 < 35) ∧ ((0 ≤ (7 * a1) + 3 ∧ (7 * a1) + 3 < 35) ∧ (wp_X11_unlikeOf (n32 v3_7) (n32 (s_5 (mm_rt this 34) ((7 * a1) + 4))) (n32 (s_5 (mm_rt this 34) ((7 * a1) + 3))) s_5 (fun r_9 s_8 => post r_9 s_8))))) ∧ (n32 v3_7 = 0 → post (-2147483648) s_5))))))) ∧ (¬ n32 r_6 = 0 → ((0 ≤ ((7 * a1) + a2) - 10 ∧ ((7 * a1) + a2) - 10 < 35) ∧ post (s_5 (mm_rt this 34) (((7 * a1) + a2) - 10)) s_5)))))) ∧ (¬ n32 r_4 = 0 → (wp_X11_sortHas this a1 a2 s_3 (fun r_11 s_10 => post r_11 s_10))))))) ∧ (n32 r_2 = 0 → post (-2147483648) s_1))))
set_option maxRecDepth 100000 in
set_option maxHeartbeats 4000000 in
theorem c_X11_sort (l : Launch) (G : mm_G) (this : Nat) (a1 : Int) (a2 : Int) (h0 : mm_ok this 21 0) (s0 : mm_M) (post : Int → mm_M → Prop) (hw : wp_X11_sort this a1 a2 s0 post) : Met l yX11_sort (mm_wm yX11_sort cX11_sort 4 (some .int)) (mm_rm 3) (va_Pc [.ref (mm_ad G this), .int (mm_I a1), .int (mm_I a2)] (mm_pre G s0)) (mm_Qi G post) 0 0 (mm_A G) := by
  refine mm_met (own := RX11) (by decide) rfl (Nat.le_of_ble_eq_true rfl) ?_
  intro p e s m args below meth c C hr hk
  unfold wp_X11_sort at hw
  intro H locs ls w hl
  have hl : lv_has ls 4 [(0, .ref (mm_ad G this)), (1, .int (mm_I a1)), (2, .int (mm_I a2))] := hl
  refine lv_aload_n (pc := 0) C.1 C.2.1 dX11_sort_0 rfl (lv_at hl 0 rfl) ?_
  refine lv_iload_n (pc := 1) C.1 C.2.1 dX11_sort_1 rfl (lv_at hl 1 rfl) ?_
  refine g_calli (pc := 2) w (mm_runV (ci := 11) (q := (RX11, TX11, 65)) (As := [.int (mm_I a1)]) (rest := []) C w (c_X11_isSort l G this a1 h0 s0 _ hw) h0 rfl rfl cv_X11_isSort ml_X11_324 ⟨Nat.le_of_ble_eq_true rfl, Nat.le_of_ble_eq_true rfl⟩ ⟨Nat.le_of_ble_eq_true rfl, Nat.le_of_ble_eq_true rfl⟩ rfl hl.1 rfl (Nat.le_of_ble_eq_true rfl) dX11_sort_2) (fun r_2 s_1 H locs hw w => ?_)
  refine g_if_ne (pc := 5) (tgt := 12) C rfl dX11_sort_5 (by decide) (fun hc => ?_) (fun hc => ?_)
  · have hw := hw.1 hc
    refine lv_iload_n (pc := 12) C.1 C.2.1 dX11_sort_12 rfl (lv_at hl 2 rfl) ?_
    refine lv_iconst (pc := 13) (v := mm_I 0) C.1 C.2.1 dX11_sort_13 rfl ?_
    refine lv_iconst (pc := 14) (v := mm_I 5) C.1 C.2.1 dX11_sort_14 rfl ?_
    refine g_calli (pc := 15) w (mm_runS (As := [.int (mm_I a2), .int (mm_I 0), .int (mm_I 5)]) (rest := []) C w (c_X11_in l G a2 0 5  s_1 _ hw) cs_X11_in ml_X11_122 ⟨Nat.le_of_ble_eq_true rfl, Nat.le_of_ble_eq_true rfl⟩ ⟨Nat.le_of_ble_eq_true rfl, Nat.le_of_ble_eq_true rfl⟩ rfl hl.1 rfl (Nat.le_of_ble_eq_true rfl) dX11_sort_15) (fun r_4 s_3 H locs hw w => ?_)
    refine g_if_eq (pc := 18) (tgt := 28) C rfl dX11_sort_18 (by decide) (fun hc => ?_) (fun hc => ?_)
    · have hw := hw.1 hc
      refine lv_iload_n (pc := 28) C.1 C.2.1 dX11_sort_28 rfl (lv_at hl 2 rfl) ?_
      refine lv_bipush (pc := 29) C.1 C.2.1 dX11_sort_29 mb_10 ?_
      refine lv_bipush (pc := 31) C.1 C.2.1 dX11_sort_31 mb_16 ?_
      refine g_calli (pc := 33) w (mm_runS (As := [.int (mm_I a2), .int (mm_I 10), .int (mm_I 16)]) (rest := []) C w (c_X11_in l G a2 10 16  s_3 _ hw) cs_X11_in ml_X11_122 ⟨Nat.le_of_ble_eq_true rfl, Nat.le_of_ble_eq_true rfl⟩ ⟨Nat.le_of_ble_eq_true rfl, Nat.le_of_ble_eq_true rfl⟩ rfl hl.1 rfl (Nat.le_of_ble_eq_true rfl) dX11_sort_33) (fun r_6 s_5 H locs hw w => ?_)
      refine g_if_eq (pc := 36) (tgt := 54) C rfl dX11_sort_36 (by decide) (fun hc => ?_) (fun hc => ?_)
      · have hw := hw.1 hc
        refine lv_aload_n (pc := 54) C.1 C.2.1 dX11_sort_54 rfl (lv_at hl 0 rfl) ?_
        refine g_getr (pc := 55) C w h0 ff_X11_34 lk_X11_67 dX11_sort_55 ?_
        refine lv_bipush (pc := 58) C.1 C.2.1 dX11_sort_58 mb_7 ?_
        refine lv_iload_n (pc := 60) C.1 C.2.1 dX11_sort_60 rfl (lv_at hl 1 rfl) ?_
        refine g_imul (pc := 61) C dX11_sort_61 ?_
        refine lv_iconst (pc := 62) (v := mm_I 1) C.1 C.2.1 dX11_sort_62 rfl ?_
        refine g_iadd (pc := 63) C dX11_sort_63 ?_
        obtain ⟨hi, hw⟩ := hw
        refine g_iald (pc := 64) C w (ro_X11_34 h0) hi dX11_sort_64 ?_
        refine g_istore_n (pc := 65) C dX11_sort_65 rfl hl (by decide) (fun v3_7 ev3_7 ls hl => ?_)
        have hw := hw v3_7 ev3_7
        have hl : lv_has ls 4 [(3, .int (mm_I v3_7)), (0, .ref (mm_ad G this)), (1, .int (mm_I a1)), (2, .int (mm_I a2))] := hl
        refine lv_iload_n (pc := 66) C.1 C.2.1 dX11_sort_66 rfl (lv_at hl 3 rfl) ?_
        refine lv_bipush (pc := 67) C.1 C.2.1 dX11_sort_67 mb_17 ?_
        refine g_icmp_ne (pc := 69) (tgt := 76) C rfl mn_17 dX11_sort_69 (by decide) (fun hc => ?_) (fun hc => ?_)
        · have hw := hw.1 hc
          refine lv_ldcw (pc := 76) C.1 C.2.1 C.2.2.2.1 (C.2.2.2.2 _ lc_X11_284) dX11_sort_76 ?_
          refine lv_goto (pc := 79) (tgt := 111) C.1 C.2.1 dX11_sort_79 (by decide) ?_
          exact g_iret (pc := 111) C w hr hk hw dX11_sort_111
        · have hw := hw.2 hc
          refine lv_iload_n (pc := 72) C.1 C.2.1 dX11_sort_72 rfl (lv_at hl 0 rfl) ?_
          refine g_if_ne (pc := 73) (tgt := 82) C rfl dX11_sort_73 (by decide) (fun hc => ?_) (fun hc => ?_)
          · have hw := hw.1 hc
            refine lv_iload_n (pc := 82) C.1 C.2.1 dX11_sort_82 rfl (lv_at hl 0 rfl) ?_
            refine g_i2l (pc := 83) C rfl dX11_sort_83 ?_
            refine lv_aload_n (pc := 84) C.1 C.2.1 dX11_sort_84 rfl (lv_at hl 1 rfl) ?_
            refine g_getr (pc := 85) C w h0 ff_X11_34 lk_X11_67 dX11_sort_85 ?_
            refine lv_bipush (pc := 88) C.1 C.2.1 dX11_sort_88 mb_7 ?_
            refine lv_iload_n (pc := 90) C.1 C.2.1 dX11_sort_90 rfl (lv_at hl 2 rfl) ?_
            refine g_imul (pc := 91) C dX11_sort_91 ?_
            refine lv_iconst (pc := 92) (v := mm_I 4) C.1 C.2.1 dX11_sort_92 rfl ?_
            refine g_iadd (pc := 93) C dX11_sort_93 ?_
            obtain ⟨hi, hw⟩ := hw
            refine g_iald (pc := 94) C w (ro_X11_34 h0) hi dX11_sort_94 ?_
            refine g_i2l (pc := 95) C rfl dX11_sort_95 ?_
            refine lv_aload_n (pc := 96) C.1 C.2.1 dX11_sort_96 rfl (lv_at hl 1 rfl) ?_
            refine g_getr (pc := 97) C w h0 ff_X11_34 lk_X11_67 dX11_sort_97 ?_
            refine lv_bipush (pc := 100) C.1 C.2.1 dX11_sort_100 mb_7 ?_
            refine lv_iload_n (pc := 102) C.1 C.2.1 dX11_sort_102 rfl (lv_at hl 2 rfl) ?_
            refine g_imul (pc := 103) C dX11_sort_103 ?_
            refine lv_iconst (pc := 104) (v := mm_I 3) C.1 C.2.1 dX11_sort_104 rfl ?_
            refine g_iadd (pc := 105) C dX11_sort_105 ?_
            obtain ⟨hi, hw⟩ := hw
            refine g_iald (pc := 106) C w (ro_X11_34 h0) hi dX11_sort_106 ?_
            refine g_i2l (pc := 107) C rfl dX11_sort_107 ?_
            refine g_calli (pc := 108) w (mm_runS (As := [.long (mm_L (n32 v3_7)), .long (mm_L (n32 (s_5 (mm_rt this 34) ((7 * a1) + 4)))), .long (mm_L (n32 (s_5 (mm_rt this 34) ((7 * a1) + 3))))]) (rest := []) C w (c_X11_unlikeOf l G (n32 v3_7) (n32 (s_5 (mm_rt this 34) ((7 * a1) + 4))) (n32 (s_5 (mm_rt this 34) ((7 * a1) + 3)))  s_5 _ hw) cs_X11_unlikeOf ml_X11_330 ⟨Nat.le_of_ble_eq_true rfl, Nat.le_of_ble_eq_true rfl⟩ ⟨Nat.le_of_ble_eq_true rfl, Nat.le_of_ble_eq_true rfl⟩ rfl hl.1 rfl (Nat.le_of_ble_eq_true rfl) dX11_sort_108) (fun r_9 s_8 H locs hw w => ?_)
            exact g_iret (pc := 111) C w hr hk hw dX11_sort_111
          · have hw := hw.2 hc
            refine lv_ldcw (pc := 76) C.1 C.2.1 C.2.2.2.1 (C.2.2.2.2 _ lc_X11_284) dX11_sort_76 ?_
            refine lv_goto (pc := 79) (tgt := 111) C.1 C.2.1 dX11_sort_79 (by decide) ?_
            exact g_iret (pc := 111) C w hr hk hw dX11_sort_111
      · have hw := hw.2 hc
        refine lv_aload_n (pc := 39) C.1 C.2.1 dX11_sort_39 rfl (lv_at hl 0 rfl) ?_
        refine g_getr (pc := 40) C w h0 ff_X11_34 lk_X11_67 dX11_sort_40 ?_
        refine lv_bipush (pc := 43) C.1 C.2.1 dX11_sort_43 mb_7 ?_
        refine lv_iload_n (pc := 45) C.1 C.2.1 dX11_sort_45 rfl (lv_at hl 1 rfl) ?_
        refine g_imul (pc := 46) C dX11_sort_46 ?_
        refine lv_iload_n (pc := 47) C.1 C.2.1 dX11_sort_47 rfl (lv_at hl 2 rfl) ?_
        refine g_iadd (pc := 48) C dX11_sort_48 ?_
        refine lv_bipush (pc := 49) C.1 C.2.1 dX11_sort_49 mb_10 ?_
        refine g_isub (pc := 51) C dX11_sort_51 ?_
        obtain ⟨hi, hw⟩ := hw
        refine g_iald (pc := 52) C w (ro_X11_34 h0) hi dX11_sort_52 ?_
        exact g_iret (pc := 53) C w hr hk hw dX11_sort_53
    · have hw := hw.2 hc
      refine lv_aload_n (pc := 21) C.1 C.2.1 dX11_sort_21 rfl (lv_at hl 0 rfl) ?_
      refine lv_iload_n (pc := 22) C.1 C.2.1 dX11_sort_22 rfl (lv_at hl 1 rfl) ?_
      refine lv_iload_n (pc := 23) C.1 C.2.1 dX11_sort_23 rfl (lv_at hl 2 rfl) ?_
      refine g_calli (pc := 24) w (mm_runV (ci := 11) (q := (RX11, TX11, 65)) (As := [.int (mm_I a1), .int (mm_I a2)]) (rest := []) C w (c_X11_sortHas l G this a1 a2 h0 s_3 _ hw) h0 rfl rfl cv_X11_sortHas ml_X11_327 ⟨Nat.le_of_ble_eq_true rfl, Nat.le_of_ble_eq_true rfl⟩ ⟨Nat.le_of_ble_eq_true rfl, Nat.le_of_ble_eq_true rfl⟩ rfl hl.1 rfl (Nat.le_of_ble_eq_true rfl) dX11_sort_24) (fun r_11 s_10 H locs hw w => ?_)
      exact g_iret (pc := 27) C w hr hk hw dX11_sort_27
  · have hw := hw.2 hc
    refine lv_ldcw (pc := 8) C.1 C.2.1 C.2.2.2.1 (C.2.2.2.2 _ lc_X11_284) dX11_sort_8 ?_
    exact g_iret (pc := 11) C w hr hk hw dX11_sort_11
theorem lc_X11_334 : Cond.constant RX11 334 (mm_I 1000000) ∈ mm_ws := (mt_7 84 rfl rfl)
def wp_X11_seed (this : Nat) (a1 : Int) (s0 : mm_M) (post : Int → mm_M → Prop) : Prop :=
  (wp_X11_in a1 0 1000000 s0 (fun r_2 s_1 => ((¬ n32 r_2 = 0 → (∀ s_3 : mm_M, s_3 = mm_up s_1 this 37 (n32 a1) → post 1 s_3)) ∧ (n32 r_2 = 0 → post 0 s_1))))
set_option maxRecDepth 100000 in
set_option maxHeartbeats 4000000 in
theorem c_X11_seed (l : Launch) (G : mm_G) (this : Nat) (a1 : Int) (h0 : mm_ok this 21 0) (s0 : mm_M) (post : Int → mm_M → Prop) (hw : wp_X11_seed this a1 s0 post) : Met l yX11_seed (mm_wm yX11_seed cX11_seed 2 (some .boolean)) (mm_rm 2) (va_Pc [.ref (mm_ad G this), .int (mm_I a1)] (mm_pre G s0)) (mm_Qi G post) 0 0 (mm_A G) := by
  refine mm_met (own := RX11) (by decide) rfl (Nat.le_of_ble_eq_true rfl) ?_
  intro p e s m args below meth c C hr hk
  unfold wp_X11_seed at hw
  intro H locs ls w hl
  have hl : lv_has ls 2 [(0, .ref (mm_ad G this)), (1, .int (mm_I a1))] := hl
  refine lv_iload_n (pc := 0) C.1 C.2.1 dX11_seed_0 rfl (lv_at hl 1 rfl) ?_
  refine lv_iconst (pc := 1) (v := mm_I 0) C.1 C.2.1 dX11_seed_1 rfl ?_
  refine lv_ldcw (pc := 2) C.1 C.2.1 C.2.2.2.1 (C.2.2.2.2 _ lc_X11_334) dX11_seed_2 ?_
  refine g_calli (pc := 5) w (mm_runS (As := [.int (mm_I a1), .int (mm_I 0), .int (mm_I 1000000)]) (rest := []) C w (c_X11_in l G a1 0 1000000  s0 _ hw) cs_X11_in ml_X11_122 ⟨Nat.le_of_ble_eq_true rfl, Nat.le_of_ble_eq_true rfl⟩ ⟨Nat.le_of_ble_eq_true rfl, Nat.le_of_ble_eq_true rfl⟩ rfl hl.1 rfl (Nat.le_of_ble_eq_true rfl) dX11_seed_5) (fun r_2 s_1 H locs hw w => ?_)
  refine g_if_ne (pc := 8) (tgt := 13) C rfl dX11_seed_8 (by decide) (fun hc => ?_) (fun hc => ?_)
  · have hw := hw.1 hc
    refine lv_aload_n (pc := 13) C.1 C.2.1 dX11_seed_13 rfl (lv_at hl 0 rfl) ?_
    refine lv_iload_n (pc := 14) C.1 C.2.1 dX11_seed_14 rfl (lv_at hl 1 rfl) ?_
    refine g_i2l (pc := 15) C rfl dX11_seed_15 ?_
    refine g_putl (pc := 16) C w h0 ff_X11_37 fw_X11_37 lk_X11_306 dX11_seed_16 (fun s_3 H locs es_3 w => ?_)
    have hw := hw s_3 es_3
    refine lv_iconst (pc := 19) (v := mm_I 1) C.1 C.2.1 dX11_seed_19 rfl ?_
    exact g_zret (pc := 20) C w hr hk (by decide) hw dX11_seed_20
  · have hw := hw.2 hc
    refine lv_iconst (pc := 11) (v := mm_I 0) C.1 C.2.1 dX11_seed_11 rfl ?_
    exact g_zret (pc := 12) C w hr hk (by decide) hw dX11_seed_12
theorem lc_X11_335 : Cond.constantLong RX11 335 (mm_L 1103515245) ∈ mm_ws := (mt_7 197 rfl rfl)
theorem lc_X11_337 : Cond.constantLong RX11 337 (mm_L 12345) ∈ mm_ws := (mt_7 198 rfl rfl)
theorem lc_X11_339 : Cond.constantLong RX11 339 (mm_L 2147483647) ∈ mm_ws := (mt_7 199 rfl rfl)
theorem lc_X11_341 : Cond.constantLong RX11 341 (mm_L 256) ∈ mm_ws := (mt_7 200 rfl rfl)
def wp_X11_draws (this : Nat) (a1 : Int) (s0 : mm_M) (post : Int → mm_M → Prop) : Prop :=
  (∀ s_1 : mm_M, s_1 = mm_up s0 this 37 (mm_landL (((s0 this 37) * 1103515245) + 12345) 2147483647) → (n64 256 ≠ 0 ∧ (n64 (n32 a1) ≠ 0 ∧ post (Int.tmod (n64 (Int.tdiv (n64 (s_1 this 37)) (n64 256))) (n64 (n32 a1))) s_1)))
set_option maxRecDepth 100000 in
set_option maxHeartbeats 4000000 in
theorem c_X11_draws (l : Launch) (G : mm_G) (this : Nat) (a1 : Int) (h0 : mm_ok this 21 0) (s0 : mm_M) (post : Int → mm_M → Prop) (hw : wp_X11_draws this a1 s0 post) : Met l yX11_draws (mm_wm yX11_draws cX11_draws 2 (some .int)) (mm_rm 1) (va_Pc [.ref (mm_ad G this), .int (mm_I a1)] (mm_pre G s0)) (mm_Qi G post) 0 0 (mm_A G) := by
  refine mm_met (own := RX11) (by decide) rfl (Nat.le_of_ble_eq_true rfl) ?_
  intro p e s m args below meth c C hr hk
  unfold wp_X11_draws at hw
  intro H locs ls w hl
  have hl : lv_has ls 2 [(0, .ref (mm_ad G this)), (1, .int (mm_I a1))] := hl
  refine lv_aload_n (pc := 0) C.1 C.2.1 dX11_draws_0 rfl (lv_at hl 0 rfl) ?_
  refine lv_aload_n (pc := 1) C.1 C.2.1 dX11_draws_1 rfl (lv_at hl 0 rfl) ?_
  refine g_getl (pc := 2) C w h0 ff_X11_37 lk_X11_306 dX11_draws_2 ?_
  refine lv_ldc2 (pc := 5) C.1 C.2.1 C.2.2.2.1 (C.2.2.2.2 _ lc_X11_335) dX11_draws_5 ?_
  refine g_lmul (pc := 8) C dX11_draws_8 ?_
  refine lv_ldc2 (pc := 9) C.1 C.2.1 C.2.2.2.1 (C.2.2.2.2 _ lc_X11_337) dX11_draws_9 ?_
  refine g_ladd (pc := 12) C dX11_draws_12 ?_
  refine lv_ldc2 (pc := 13) C.1 C.2.1 C.2.2.2.1 (C.2.2.2.2 _ lc_X11_339) dX11_draws_13 ?_
  refine g_land (pc := 16) C dX11_draws_16 ?_
  refine g_putl (pc := 17) C w h0 ff_X11_37 fw_X11_37 lk_X11_306 dX11_draws_17 (fun s_1 H locs es_1 w => ?_)
  have hw := hw s_1 es_1
  refine lv_aload_n (pc := 20) C.1 C.2.1 dX11_draws_20 rfl (lv_at hl 0 rfl) ?_
  refine g_getl (pc := 21) C w h0 ff_X11_37 lk_X11_306 dX11_draws_21 ?_
  refine lv_ldc2 (pc := 24) C.1 C.2.1 C.2.2.2.1 (C.2.2.2.2 _ lc_X11_341) dX11_draws_24 ?_
  obtain ⟨hz, hw⟩ := hw
  refine g_ldiv (pc := 27) C hz dX11_draws_27 ?_
  refine lv_iload_n (pc := 28) C.1 C.2.1 dX11_draws_28 rfl (lv_at hl 1 rfl) ?_
  refine g_i2l (pc := 29) C rfl dX11_draws_29 ?_
  obtain ⟨hz, hw⟩ := hw
  refine g_lrem (pc := 30) C hz dX11_draws_30 ?_
  refine g_l2i (pc := 31) C dX11_draws_31 ?_
  exact g_iret (pc := 32) C w hr hk hw dX11_draws_32
def wp_X11_free (this : Nat) (s0 : mm_M) (post : Int → mm_M → Prop) : Prop :=
  ∀ (L2 : Int → mm_M → Prop), ∀ (L24 : Int → mm_M → Prop), 
  (∀ (v1 : Int) (s1 : mm_M), ((30 ≤ n32 v1 → L24 v1 s1) ∧ (¬ 30 ≤ n32 v1 → (wp_X11_of this v1 2 s1 (fun r_3 s_2 => ((n32 r_3 = (-1) → L24 v1 s_2) ∧ (¬ n32 r_3 = (-1) → (∀ v1_4 : Int, v1_4 = v1 + 1 → L2 v1_4 s_2))))))) → L2 v1 s1) →
  (∀ (v1 : Int) (s1 : mm_M), ((30 ≤ n32 v1 → post (-1) s1) ∧ (¬ 30 ≤ n32 v1 → post v1 s1)) → L24 v1 s1) →
  L2 0 s0
set_option maxRecDepth 100000 in
set_option maxHeartbeats 4000000 in
theorem c_X11_free (l : Launch) (G : mm_G) (this : Nat) (h0 : mm_ok this 21 0) (s0 : mm_M) (post : Int → mm_M → Prop) (hw : wp_X11_free this s0 post) : Met l yX11_free (mm_wm yX11_free cX11_free 2 (some .int)) (mm_rm 2) (va_Pc [.ref (mm_ad G this)] (mm_pre G s0)) (mm_Qi G post) 0 0 (mm_A G) := by
  refine mm_met (own := RX11) (by decide) rfl (Nat.le_of_ble_eq_true rfl) ?_
  intro p e s m args below meth c C hr hk
  unfold wp_X11_free at hw
  have hw := hw (fun (v1 : Int) (u : mm_M) => mm_X p l e (mm_rm 2) s m args below meth c (MQ below (mm_Qi G post) args s 0 0 (mm_A G)) G (mm_A G) 2 2 [(0, .ref (mm_ad G this)), (1, .int (mm_I v1))] [] u)
  have hw := hw (fun (v1 : Int) (u : mm_M) => mm_X p l e (mm_rm 2) s m args below meth c (MQ below (mm_Qi G post) args s 0 0 (mm_A G)) G (mm_A G) 2 24 [(1, .int (mm_I v1))] [] u)
  have hw := hw (by
    intro v1 s1 hw  H locs ls w hl
    refine lv_iload_n (pc := 2) C.1 C.2.1 dX11_free_2 rfl (lv_at hl 1 rfl) ?_
    refine lv_bipush (pc := 3) C.1 C.2.1 dX11_free_3 mb_30 ?_
    refine g_icmp_ge (pc := 5) (tgt := 24) C rfl mn_30 dX11_free_5 (by decide) (fun hc => ?_) (fun hc => ?_)
    · have hw := hw.1 hc
      exact hw  _ _ _ w (lv_sub hl [1] rfl)
    · have hw := hw.2 hc
      refine lv_aload_n (pc := 8) C.1 C.2.1 dX11_free_8 rfl (lv_at hl 0 rfl) ?_
      refine lv_iload_n (pc := 9) C.1 C.2.1 dX11_free_9 rfl (lv_at hl 1 rfl) ?_
      refine lv_iconst (pc := 10) (v := mm_I 2) C.1 C.2.1 dX11_free_10 rfl ?_
      refine g_calli (pc := 11) w (mm_runV (ci := 11) (q := (RX11, TX11, 65)) (As := [.int (mm_I v1), .int (mm_I 2)]) (rest := []) C w (c_X11_of l G this v1 2 h0 s1 _ hw) h0 rfl rfl cv_X11_of ml_X11_317 ⟨Nat.le_of_ble_eq_true rfl, Nat.le_of_ble_eq_true rfl⟩ ⟨Nat.le_of_ble_eq_true rfl, Nat.le_of_ble_eq_true rfl⟩ rfl hl.1 rfl (Nat.le_of_ble_eq_true rfl) dX11_free_11) (fun r_3 s_2 H locs hw w => ?_)
      refine lv_iconst (pc := 14) (v := mm_I (-1)) C.1 C.2.1 dX11_free_14 rfl ?_
      refine g_icmp_eq (pc := 15) (tgt := 24) C rfl mn_m1 dX11_free_15 (by decide) (fun hc => ?_) (fun hc => ?_)
      · have hw := hw.1 hc
        exact hw  _ _ _ w (lv_sub hl [1] rfl)
      · have hw := hw.2 hc
        refine g_iinc (pc := 18) (k := 1) C dX11_free_18 hl rfl (by decide) (fun v1_4 ev1_4 ls hl => ?_)
        have hw := hw v1_4 ev1_4
        have hl : lv_has ls 2 [(1, .int (mm_I v1_4)), (0, .ref (mm_ad G this))] := hl
        refine lv_goto (pc := 21) (tgt := 2) C.1 C.2.1 dX11_free_21 (by decide) ?_
        exact hw  _ _ _ w (lv_sub hl [1, 0] rfl))
  have hw := hw (by
    intro v1 s1 hw  H locs ls w hl
    refine lv_iload_n (pc := 24) C.1 C.2.1 dX11_free_24 rfl (lv_at hl 0 rfl) ?_
    refine lv_bipush (pc := 25) C.1 C.2.1 dX11_free_25 mb_30 ?_
    refine g_icmp_ge (pc := 27) (tgt := 34) C rfl mn_30 dX11_free_27 (by decide) (fun hc => ?_) (fun hc => ?_)
    · have hw := hw.1 hc
      refine lv_iconst (pc := 34) (v := mm_I (-1)) C.1 C.2.1 dX11_free_34 rfl ?_
      exact g_iret (pc := 35) C w hr hk hw dX11_free_35
    · have hw := hw.2 hc
      refine lv_iload_n (pc := 30) C.1 C.2.1 dX11_free_30 rfl (lv_at hl 0 rfl) ?_
      refine lv_goto (pc := 31) (tgt := 35) C.1 C.2.1 dX11_free_31 (by decide) ?_
      exact g_iret (pc := 35) C w hr hk hw dX11_free_35)
  intro H locs ls w hl
  have hl : lv_has ls 2 [(0, .ref (mm_ad G this))] := hl
  refine lv_iconst (pc := 0) (v := mm_I 0) C.1 C.2.1 dX11_free_0 rfl ?_
  refine lv_istore_n (pc := 1) (lv' := [(1, .int (mm_I 0)), (0, .ref (mm_ad G this))]) C.1 C.2.1 dX11_free_1 rfl hl (by decide) rfl (fun ls hl => ?_)
  exact hw  _ _ _ w (lv_sub hl [1, 0] rfl)
theorem lk_X11_61 : Cond.fieldLink RX11 61 "LastServedModel" "row" "[I" ∈ mm_ws := (mt_5 236 rfl rfl)
theorem ff_X11_32 : mm_F 11 32 1 RX11 TX11 65 := ⟨rfl, by decide, fk_X11, rfl, rfl⟩
theorem ro_X11_32 {i : Nat} (h : mm_ok i 21 0) : mm_ok (mm_rt i 32) 0 90 := by
  have q : ∀ i, i < mm_N → mm_kd i = 21 → mm_rt i 32 < mm_N ∧ mm_kd (mm_rt i 32) = 0 ∧ mm_ln (mm_rt i 32) = 90 := by decide +kernel
  exact q i h.1 h.2.1
theorem cv_X11_sets : mm_V yX11_sets cX11_sets 4 none 3 := ⟨(mt_7 104 rfl rfl), (mt_7 103 rfl rfl), (mp_5 4 rfl rfl), (mt_1 12 rfl rfl), by decide, by decide, by decide +kernel⟩
theorem ml_X11_343 : Cond.methodLink RX11 343 yX11_sets ∈ mm_ws := (mt_7 101 rfl rfl)
theorem cv_X11_tells : mm_V yX11_tells cX11_tells 4 none 3 := ⟨(mt_7 108 rfl rfl), (mt_7 107 rfl rfl), (mp_5 5 rfl rfl), (mt_1 12 rfl rfl), by decide, by decide, by decide +kernel⟩
theorem ml_X11_347 : Cond.methodLink RX11 347 yX11_tells ∈ mm_ws := (mt_7 105 rfl rfl)
def wp_X11_entersAt (this : Nat) (a1 : Int) (s0 : mm_M) (post : mm_M → Prop) : Prop :=
  (wp_X11_of this a1 1 s0 (fun r_2 s_1 => (∀ v2_3 : Int, v2_3 = r_2 → ((0 ≤ v2_3 ∧ v2_3 < 3) ∧ ((0 ≤ (30 * v2_3) + (s_1 (mm_rt this 31) v2_3) ∧ (30 * v2_3) + (s_1 (mm_rt this 31) v2_3) < 90) ∧ (∀ s_4 : mm_M, s_4 = mm_up s_1 (mm_rt this 32) ((30 * v2_3) + (s_1 (mm_rt this 31) v2_3)) a1 → ((0 ≤ v2_3 ∧ v2_3 < 3) ∧ ((0 ≤ v2_3 ∧ v2_3 < 3) ∧ (∀ s_5 : mm_M, s_5 = mm_up s_4 (mm_rt this 31) v2_3 ((s_4 (mm_rt this 31) v2_3) + 1) → (wp_X11_sets this a1 2 0 s_5 (fun s_6 => (wp_X11_sets this a1 4 (s_6 this 28) s_6 (fun s_8 => (wp_X11_sets this a1 6 (-1) s_8 (fun s_10 => (wp_X11_of this a1 0 s_10 (fun r_13 s_12 => (wp_X11_tells this r_13 6 (-(s_12 this 17)) s_12 (fun s_14 => post s_14)))))))))))))))))))
set_option maxRecDepth 100000 in
set_option maxHeartbeats 4000000 in
theorem c_X11_entersAt (l : Launch) (G : mm_G) (this : Nat) (a1 : Int) (h0 : mm_ok this 21 0) (s0 : mm_M) (post : mm_M → Prop) (hw : wp_X11_entersAt this a1 s0 post) : Met l yX11_entersAt (mm_wm yX11_entersAt cX11_entersAt 3 none) (mm_rm 2) (va_Pc [.ref (mm_ad G this), .int (mm_I a1)] (mm_pre G s0)) (mm_Qv G post) 0 0 (mm_A G) := by
  refine mm_met (own := RX11) (by decide) rfl (Nat.le_of_ble_eq_true rfl) ?_
  intro p e s m args below meth c C hr hk
  unfold wp_X11_entersAt at hw
  intro H locs ls w hl
  have hl : lv_has ls 3 [(0, .ref (mm_ad G this)), (1, .int (mm_I a1))] := hl
  refine lv_aload_n (pc := 0) C.1 C.2.1 dX11_entersAt_0 rfl (lv_at hl 0 rfl) ?_
  refine lv_iload_n (pc := 1) C.1 C.2.1 dX11_entersAt_1 rfl (lv_at hl 1 rfl) ?_
  refine lv_iconst (pc := 2) (v := mm_I 1) C.1 C.2.1 dX11_entersAt_2 rfl ?_
  refine g_calli (pc := 3) w (mm_runV (ci := 11) (q := (RX11, TX11, 65)) (As := [.int (mm_I a1), .int (mm_I 1)]) (rest := []) C w (c_X11_of l G this a1 1 h0 s0 _ hw) h0 rfl rfl cv_X11_of ml_X11_317 ⟨Nat.le_of_ble_eq_true rfl, Nat.le_of_ble_eq_true rfl⟩ ⟨Nat.le_of_ble_eq_true rfl, Nat.le_of_ble_eq_true rfl⟩ rfl hl.1 rfl (Nat.le_of_ble_eq_true rfl) dX11_entersAt_3) (fun r_2 s_1 H locs hw w => ?_)
  refine g_istore_n (pc := 6) C dX11_entersAt_6 rfl hl (by decide) (fun v2_3 ev2_3 ls hl => ?_)
  have hw := hw v2_3 ev2_3
  have hl : lv_has ls 3 [(2, .int (mm_I v2_3)), (0, .ref (mm_ad G this)), (1, .int (mm_I a1))] := hl
  refine lv_aload_n (pc := 7) C.1 C.2.1 dX11_entersAt_7 rfl (lv_at hl 1 rfl) ?_
  refine g_getr (pc := 8) C w h0 ff_X11_32 lk_X11_61 dX11_entersAt_8 ?_
  refine lv_bipush (pc := 11) C.1 C.2.1 dX11_entersAt_11 mb_30 ?_
  refine lv_iload_n (pc := 13) C.1 C.2.1 dX11_entersAt_13 rfl (lv_at hl 0 rfl) ?_
  refine g_imul (pc := 14) C dX11_entersAt_14 ?_
  refine lv_aload_n (pc := 15) C.1 C.2.1 dX11_entersAt_15 rfl (lv_at hl 1 rfl) ?_
  refine g_getr (pc := 16) C w h0 ff_X11_31 lk_X11_58 dX11_entersAt_16 ?_
  refine lv_iload_n (pc := 19) C.1 C.2.1 dX11_entersAt_19 rfl (lv_at hl 0 rfl) ?_
  obtain ⟨hi, hw⟩ := hw
  refine g_iald (pc := 20) C w (ro_X11_31 h0) hi dX11_entersAt_20 ?_
  refine g_iadd (pc := 21) C dX11_entersAt_21 ?_
  refine lv_iload_n (pc := 22) C.1 C.2.1 dX11_entersAt_22 rfl (lv_at hl 2 rfl) ?_
  obtain ⟨hi, hw⟩ := hw
  refine g_iast (pc := 23) C w (ro_X11_32 h0) hi  dX11_entersAt_23 (fun s_4 H locs es_4 w => ?_)
  have hw := hw s_4 es_4
  refine lv_aload_n (pc := 24) C.1 C.2.1 dX11_entersAt_24 rfl (lv_at hl 1 rfl) ?_
  refine g_getr (pc := 25) C w h0 ff_X11_31 lk_X11_58 dX11_entersAt_25 ?_
  refine lv_iload_n (pc := 28) C.1 C.2.1 dX11_entersAt_28 rfl (lv_at hl 0 rfl) ?_
  refine lv_dup2_11 (pc := 29) C.1 C.2.1 dX11_entersAt_29 rfl rfl ?_
  obtain ⟨hi, hw⟩ := hw
  refine g_iald (pc := 30) C w (ro_X11_31 h0) hi dX11_entersAt_30 ?_
  refine lv_iconst (pc := 31) (v := mm_I 1) C.1 C.2.1 dX11_entersAt_31 rfl ?_
  refine g_iadd (pc := 32) C dX11_entersAt_32 ?_
  obtain ⟨hi, hw⟩ := hw
  refine g_iast (pc := 33) C w (ro_X11_31 h0) hi  dX11_entersAt_33 (fun s_5 H locs es_5 w => ?_)
  have hw := hw s_5 es_5
  refine lv_aload_n (pc := 34) C.1 C.2.1 dX11_entersAt_34 rfl (lv_at hl 1 rfl) ?_
  refine lv_iload_n (pc := 35) C.1 C.2.1 dX11_entersAt_35 rfl (lv_at hl 2 rfl) ?_
  refine lv_iconst (pc := 36) (v := mm_I 2) C.1 C.2.1 dX11_entersAt_36 rfl ?_
  refine lv_iconst (pc := 37) (v := mm_I 0) C.1 C.2.1 dX11_entersAt_37 rfl ?_
  refine g_callv (pc := 38) w (mm_runV (ci := 11) (q := (RX11, TX11, 65)) (As := [.int (mm_I a1), .int (mm_I 2), .int (mm_I 0)]) (rest := []) C w (c_X11_sets l G this a1 2 0 h0 s_5 _ hw) h0 rfl rfl cv_X11_sets ml_X11_343 ⟨Nat.le_of_ble_eq_true rfl, Nat.le_of_ble_eq_true rfl⟩ ⟨Nat.le_of_ble_eq_true rfl, Nat.le_of_ble_eq_true rfl⟩ rfl hl.1 rfl (Nat.le_of_ble_eq_true rfl) dX11_entersAt_38) (fun s_6 H locs hw w => ?_)
  refine lv_aload_n (pc := 41) C.1 C.2.1 dX11_entersAt_41 rfl (lv_at hl 1 rfl) ?_
  refine lv_iload_n (pc := 42) C.1 C.2.1 dX11_entersAt_42 rfl (lv_at hl 2 rfl) ?_
  refine lv_iconst (pc := 43) (v := mm_I 4) C.1 C.2.1 dX11_entersAt_43 rfl ?_
  refine lv_aload_n (pc := 44) C.1 C.2.1 dX11_entersAt_44 rfl (lv_at hl 1 rfl) ?_
  refine g_geti (pc := 45) C w h0 ff_X11_28 lk_X11_301 dX11_entersAt_45 ?_
  refine g_callv (pc := 48) w (mm_runV (ci := 11) (q := (RX11, TX11, 65)) (As := [.int (mm_I a1), .int (mm_I 4), .int (mm_I (s_6 this 28))]) (rest := []) C w (c_X11_sets l G this a1 4 (s_6 this 28) h0 s_6 _ hw) h0 rfl rfl cv_X11_sets ml_X11_343 ⟨Nat.le_of_ble_eq_true rfl, Nat.le_of_ble_eq_true rfl⟩ ⟨Nat.le_of_ble_eq_true rfl, Nat.le_of_ble_eq_true rfl⟩ rfl hl.1 rfl (Nat.le_of_ble_eq_true rfl) dX11_entersAt_48) (fun s_8 H locs hw w => ?_)
  refine lv_aload_n (pc := 51) C.1 C.2.1 dX11_entersAt_51 rfl (lv_at hl 1 rfl) ?_
  refine lv_iload_n (pc := 52) C.1 C.2.1 dX11_entersAt_52 rfl (lv_at hl 2 rfl) ?_
  refine lv_bipush (pc := 53) C.1 C.2.1 dX11_entersAt_53 mb_6 ?_
  refine lv_iconst (pc := 55) (v := mm_I (-1)) C.1 C.2.1 dX11_entersAt_55 rfl ?_
  refine g_callv (pc := 56) w (mm_runV (ci := 11) (q := (RX11, TX11, 65)) (As := [.int (mm_I a1), .int (mm_I 6), .int (mm_I (-1))]) (rest := []) C w (c_X11_sets l G this a1 6 (-1) h0 s_8 _ hw) h0 rfl rfl cv_X11_sets ml_X11_343 ⟨Nat.le_of_ble_eq_true rfl, Nat.le_of_ble_eq_true rfl⟩ ⟨Nat.le_of_ble_eq_true rfl, Nat.le_of_ble_eq_true rfl⟩ rfl hl.1 rfl (Nat.le_of_ble_eq_true rfl) dX11_entersAt_56) (fun s_10 H locs hw w => ?_)
  refine lv_aload_n (pc := 59) C.1 C.2.1 dX11_entersAt_59 rfl (lv_at hl 1 rfl) ?_
  refine lv_aload_n (pc := 60) C.1 C.2.1 dX11_entersAt_60 rfl (lv_at hl 1 rfl) ?_
  refine lv_iload_n (pc := 61) C.1 C.2.1 dX11_entersAt_61 rfl (lv_at hl 2 rfl) ?_
  refine lv_iconst (pc := 62) (v := mm_I 0) C.1 C.2.1 dX11_entersAt_62 rfl ?_
  refine g_calli (pc := 63) w (mm_runV (ci := 11) (q := (RX11, TX11, 65)) (As := [.int (mm_I a1), .int (mm_I 0)]) (rest := [.ref (mm_ad G this)]) C w (c_X11_of l G this a1 0 h0 s_10 _ hw) h0 rfl rfl cv_X11_of ml_X11_317 ⟨Nat.le_of_ble_eq_true rfl, Nat.le_of_ble_eq_true rfl⟩ ⟨Nat.le_of_ble_eq_true rfl, Nat.le_of_ble_eq_true rfl⟩ rfl hl.1 rfl (Nat.le_of_ble_eq_true rfl) dX11_entersAt_63) (fun r_13 s_12 H locs hw w => ?_)
  refine lv_bipush (pc := 66) C.1 C.2.1 dX11_entersAt_66 mb_6 ?_
  refine lv_aload_n (pc := 68) C.1 C.2.1 dX11_entersAt_68 rfl (lv_at hl 1 rfl) ?_
  refine g_geti (pc := 69) C w h0 ff_X11_17 lk_X11_297 dX11_entersAt_69 ?_
  refine g_ineg (pc := 72) C dX11_entersAt_72 ?_
  refine g_callv (pc := 73) w (mm_runV (ci := 11) (q := (RX11, TX11, 65)) (As := [.int (mm_I r_13), .int (mm_I 6), .int (mm_I (-(s_12 this 17)))]) (rest := []) C w (c_X11_tells l G this r_13 6 (-(s_12 this 17)) h0 s_12 _ hw) h0 rfl rfl cv_X11_tells ml_X11_347 ⟨Nat.le_of_ble_eq_true rfl, Nat.le_of_ble_eq_true rfl⟩ ⟨Nat.le_of_ble_eq_true rfl, Nat.le_of_ble_eq_true rfl⟩ rfl hl.1 rfl (Nat.le_of_ble_eq_true rfl) dX11_entersAt_73) (fun s_14 H locs hw w => ?_)
  exact g_vret (pc := 76) C w hr hk hw dX11_entersAt_76
