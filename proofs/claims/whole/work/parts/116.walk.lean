def wp_X11_comerBy (this : Nat) (a1 : Int) (a2 : Int) (s0 : mm_M) (post : Int → mm_M → Prop) : Prop :=
  ∀ (L30 : Int → Int → Int → mm_M → Prop), 
  (∀ (v3 : Int) (v4 : Int) (v5 : Int) (s1 : mm_M), ((n32 (s1 this 51) ≤ n32 v5 → ((0 ≤ v3 ∧ v3 < 8) ∧ post (s1 (mm_rt this 50) v3) s1)) ∧ (¬ n32 (s1 this 51) ≤ n32 v5 → ((0 ≤ v5 ∧ v5 < 8) ∧ ((0 ≤ s1 (mm_rt this 50) v5 ∧ s1 (mm_rt this 50) v5 < 8) ∧ (∀ s_8 : mm_M, s_8 = mm_up s1 (mm_rt this 48) 0 (s1 (mm_rt this 39) (s1 (mm_rt this 50) v5)) → ((0 ≤ v5 ∧ v5 < 8) ∧ ((0 ≤ s_8 (mm_rt this 50) v5 ∧ s_8 (mm_rt this 50) v5 < 8) ∧ (∀ s_9 : mm_M, s_9 = mm_up s_8 (mm_rt this 48) 1 (a2 - (s_8 (mm_rt this 39) (s_8 (mm_rt this 50) v5))) → ((0 ≤ v5 ∧ v5 < 8) ∧ ((0 ≤ s_9 (mm_rt this 50) v5 ∧ s_9 (mm_rt this 50) v5 < 8) ∧ (∀ s_10 : mm_M, s_10 = mm_up s_9 (mm_rt this 48) 2 (s_9 (mm_rt this 40) (s_9 (mm_rt this 50) v5)) → (∀ s_11 : mm_M, s_11 = mm_up s_10 (mm_rt this 48) 3 0 → (∀ s_12 : mm_M, s_12 = mm_up s_11 (mm_rt this 48) 4 v5 → (∀ s_13 : mm_M, s_13 = mm_up s_12 (mm_rt this 48) 5 (((s_12 this 51) - 1) - v5) → (∀ s_14 : mm_M, s_14 = mm_up s_13 (mm_rt this 48) 6 (s_13 this 51) → (∀ s_15 : mm_M, s_15 = mm_up s_14 (mm_rt this 48) 7 a2 → (∀ s_16 : mm_M, s_16 = mm_up s_15 (mm_rt this 48) 8 (200 - a2) → (∀ s_17 : mm_M, s_17 = mm_up s_16 (mm_rt this 48) 9 0 → (wp_X11_says this (a1 - 4) s_17 (fun r_19 s_18 => (∀ v6_20 : Int, v6_20 = r_19 → ((n32 v5 ≤ 0 → (∀ v3_21 : Int, v3_21 = v5 → (∀ v4_22 : Int, v4_22 = v6_20 → (∀ v5_23 : Int, v5_23 = v5 + 1 → L30 v3_21 v4_22 v5_23 s_18)))) ∧ (¬ n32 v5 ≤ 0 → (wp_X11_isNext this (a1 - 4) v6_20 v4 s_18 (fun r_25 s_24 => ((¬ n32 r_25 = 0 → (∀ v3_26 : Int, v3_26 = v5 → (∀ v4_27 : Int, v4_27 = v6_20 → (∀ v5_28 : Int, v5_28 = v5 + 1 → L30 v3_26 v4_27 v5_28 s_24)))) ∧ (n32 r_25 = 0 → (∀ v5_29 : Int, v5_29 = v5 + 1 → L30 v3 v4 v5_29 s_24)))))))))))))))))))))))))))) → L30 v3 v4 v5 s1) →
  (wp_X11_isTold this a1 s0 (fun r_2 s_1 => ((¬ n32 r_2 = 0 → L30 0 0 0 s_1) ∧ (n32 r_2 = 0 → (wp_X11_placeBy a1 (s_1 this 51) s_1 (fun r_7 s_6 => ((0 ≤ r_7 ∧ r_7 < 8) ∧ post (s_6 (mm_rt this 50) r_7) s_6)))))))
set_option maxRecDepth 100000 in
set_option maxHeartbeats 4000000 in
theorem c_X11_comerBy (l : Launch) (G : mm_G) (this : Nat) (a1 : Int) (a2 : Int) (h0 : mm_ok this 21 0) (s0 : mm_M) (post : Int → mm_M → Prop) (hw : wp_X11_comerBy this a1 a2 s0 post) : Met l yX11_comerBy (mm_wm yX11_comerBy cX11_comerBy 7 (some .int)) (mm_rm 3) (va_Pc [.ref (mm_ad G this), .int (mm_I a1), .int (mm_I a2)] (mm_pre G s0)) (mm_Qi G post) 0 0 (mm_A G) := by
  refine mm_met (own := RX11) (by decide) rfl (Nat.le_of_ble_eq_true rfl) ?_
  intro p e s m args below meth c C hr hk
  unfold wp_X11_comerBy at hw
  have hw := hw (fun (v3 : Int) (v4 : Int) (v5 : Int) (u : mm_M) => mm_X p l e (mm_rm 3) s m args below meth c (MQ below (mm_Qi G post) args s 0 0 (mm_A G)) G (mm_A G) 7 30 [(0, .ref (mm_ad G this)), (1, .int (mm_I a1)), (2, .int (mm_I a2)), (3, .int (mm_I v3)), (4, .int (mm_I v4)), (5, .int (mm_I v5))] [] u)
  have hw := hw (by
    intro v3 v4 v5 s1 hw  H locs ls w hl
    refine lv_iload (pc := 30) C.1 C.2.1 dX11_comerBy_30 (lv_at hl 5 rfl) ?_
    refine lv_aload_n (pc := 32) C.1 C.2.1 dX11_comerBy_32 rfl (lv_at hl 0 rfl) ?_
    refine g_geti (pc := 33) C w h0 ff_X11_51 lk_X11_412 dX11_comerBy_33 ?_
    refine g_icmp_ge (pc := 36) (tgt := 208) C rfl rfl dX11_comerBy_36 (by decide) (fun hc => ?_) (fun hc => ?_)
    · have hw := hw.1 hc
      refine lv_aload_n (pc := 208) C.1 C.2.1 dX11_comerBy_208 rfl (lv_at hl 0 rfl) ?_
      refine g_getr (pc := 209) C w h0 ff_X11_50 lk_X11_100 dX11_comerBy_209 ?_
      refine lv_iload_n (pc := 212) C.1 C.2.1 dX11_comerBy_212 rfl (lv_at hl 3 rfl) ?_
      obtain ⟨hi, hw⟩ := hw
      refine g_iald (pc := 213) C w (ro_X11_50 h0) hi dX11_comerBy_213 ?_
      exact g_iret (pc := 214) C w hr hk hw dX11_comerBy_214
    · have hw := hw.2 hc
      refine lv_aload_n (pc := 39) C.1 C.2.1 dX11_comerBy_39 rfl (lv_at hl 0 rfl) ?_
      refine g_getr (pc := 40) C w h0 ff_X11_48 lk_X11_94 dX11_comerBy_40 ?_
      refine lv_iconst (pc := 43) (v := mm_I 0) C.1 C.2.1 dX11_comerBy_43 rfl ?_
      refine lv_aload_n (pc := 44) C.1 C.2.1 dX11_comerBy_44 rfl (lv_at hl 0 rfl) ?_
      refine g_getr (pc := 45) C w h0 ff_X11_39 lk_X11_73 dX11_comerBy_45 ?_
      refine lv_aload_n (pc := 48) C.1 C.2.1 dX11_comerBy_48 rfl (lv_at hl 0 rfl) ?_
      refine g_getr (pc := 49) C w h0 ff_X11_50 lk_X11_100 dX11_comerBy_49 ?_
      refine lv_iload (pc := 52) C.1 C.2.1 dX11_comerBy_52 (lv_at hl 5 rfl) ?_
      obtain ⟨hi, hw⟩ := hw
      refine g_iald (pc := 54) C w (ro_X11_50 h0) hi dX11_comerBy_54 ?_
      obtain ⟨hi, hw⟩ := hw
      refine g_iald (pc := 55) C w (ro_X11_39 h0) hi dX11_comerBy_55 ?_
      refine g_iast (pc := 56) C w (ro_X11_48 h0) ⟨by decide, by decide⟩  dX11_comerBy_56 (fun s_8 H locs es_8 w => ?_)
      have hw := hw s_8 es_8
      refine lv_aload_n (pc := 57) C.1 C.2.1 dX11_comerBy_57 rfl (lv_at hl 0 rfl) ?_
      refine g_getr (pc := 58) C w h0 ff_X11_48 lk_X11_94 dX11_comerBy_58 ?_
      refine lv_iconst (pc := 61) (v := mm_I 1) C.1 C.2.1 dX11_comerBy_61 rfl ?_
      refine lv_iload_n (pc := 62) C.1 C.2.1 dX11_comerBy_62 rfl (lv_at hl 2 rfl) ?_
      refine lv_aload_n (pc := 63) C.1 C.2.1 dX11_comerBy_63 rfl (lv_at hl 0 rfl) ?_
      refine g_getr (pc := 64) C w h0 ff_X11_39 lk_X11_73 dX11_comerBy_64 ?_
      refine lv_aload_n (pc := 67) C.1 C.2.1 dX11_comerBy_67 rfl (lv_at hl 0 rfl) ?_
      refine g_getr (pc := 68) C w h0 ff_X11_50 lk_X11_100 dX11_comerBy_68 ?_
      refine lv_iload (pc := 71) C.1 C.2.1 dX11_comerBy_71 (lv_at hl 5 rfl) ?_
      obtain ⟨hi, hw⟩ := hw
      refine g_iald (pc := 73) C w (ro_X11_50 h0) hi dX11_comerBy_73 ?_
      obtain ⟨hi, hw⟩ := hw
      refine g_iald (pc := 74) C w (ro_X11_39 h0) hi dX11_comerBy_74 ?_
      refine g_isub (pc := 75) C dX11_comerBy_75 ?_
      refine g_iast (pc := 76) C w (ro_X11_48 h0) ⟨by decide, by decide⟩  dX11_comerBy_76 (fun s_9 H locs es_9 w => ?_)
      have hw := hw s_9 es_9
      refine lv_aload_n (pc := 77) C.1 C.2.1 dX11_comerBy_77 rfl (lv_at hl 0 rfl) ?_
      refine g_getr (pc := 78) C w h0 ff_X11_48 lk_X11_94 dX11_comerBy_78 ?_
      refine lv_iconst (pc := 81) (v := mm_I 2) C.1 C.2.1 dX11_comerBy_81 rfl ?_
      refine lv_aload_n (pc := 82) C.1 C.2.1 dX11_comerBy_82 rfl (lv_at hl 0 rfl) ?_
      refine g_getr (pc := 83) C w h0 ff_X11_40 lk_X11_76 dX11_comerBy_83 ?_
      refine lv_aload_n (pc := 86) C.1 C.2.1 dX11_comerBy_86 rfl (lv_at hl 0 rfl) ?_
      refine g_getr (pc := 87) C w h0 ff_X11_50 lk_X11_100 dX11_comerBy_87 ?_
      refine lv_iload (pc := 90) C.1 C.2.1 dX11_comerBy_90 (lv_at hl 5 rfl) ?_
      obtain ⟨hi, hw⟩ := hw
      refine g_iald (pc := 92) C w (ro_X11_50 h0) hi dX11_comerBy_92 ?_
      obtain ⟨hi, hw⟩ := hw
      refine g_iald (pc := 93) C w (ro_X11_40 h0) hi dX11_comerBy_93 ?_
      refine g_iast (pc := 94) C w (ro_X11_48 h0) ⟨by decide, by decide⟩  dX11_comerBy_94 (fun s_10 H locs es_10 w => ?_)
      have hw := hw s_10 es_10
      refine lv_aload_n (pc := 95) C.1 C.2.1 dX11_comerBy_95 rfl (lv_at hl 0 rfl) ?_
      refine g_getr (pc := 96) C w h0 ff_X11_48 lk_X11_94 dX11_comerBy_96 ?_
      refine lv_iconst (pc := 99) (v := mm_I 3) C.1 C.2.1 dX11_comerBy_99 rfl ?_
      refine lv_iconst (pc := 100) (v := mm_I 0) C.1 C.2.1 dX11_comerBy_100 rfl ?_
      refine g_iast (pc := 101) C w (ro_X11_48 h0) ⟨by decide, by decide⟩  dX11_comerBy_101 (fun s_11 H locs es_11 w => ?_)
      have hw := hw s_11 es_11
      refine lv_aload_n (pc := 102) C.1 C.2.1 dX11_comerBy_102 rfl (lv_at hl 0 rfl) ?_
      refine g_getr (pc := 103) C w h0 ff_X11_48 lk_X11_94 dX11_comerBy_103 ?_
      refine lv_iconst (pc := 106) (v := mm_I 4) C.1 C.2.1 dX11_comerBy_106 rfl ?_
      refine lv_iload (pc := 107) C.1 C.2.1 dX11_comerBy_107 (lv_at hl 5 rfl) ?_
      refine g_iast (pc := 109) C w (ro_X11_48 h0) ⟨by decide, by decide⟩  dX11_comerBy_109 (fun s_12 H locs es_12 w => ?_)
      have hw := hw s_12 es_12
      refine lv_aload_n (pc := 110) C.1 C.2.1 dX11_comerBy_110 rfl (lv_at hl 0 rfl) ?_
      refine g_getr (pc := 111) C w h0 ff_X11_48 lk_X11_94 dX11_comerBy_111 ?_
      refine lv_iconst (pc := 114) (v := mm_I 5) C.1 C.2.1 dX11_comerBy_114 rfl ?_
      refine lv_aload_n (pc := 115) C.1 C.2.1 dX11_comerBy_115 rfl (lv_at hl 0 rfl) ?_
      refine g_geti (pc := 116) C w h0 ff_X11_51 lk_X11_412 dX11_comerBy_116 ?_
      refine lv_iconst (pc := 119) (v := mm_I 1) C.1 C.2.1 dX11_comerBy_119 rfl ?_
      refine g_isub (pc := 120) C dX11_comerBy_120 ?_
      refine lv_iload (pc := 121) C.1 C.2.1 dX11_comerBy_121 (lv_at hl 5 rfl) ?_
      refine g_isub (pc := 123) C dX11_comerBy_123 ?_
      refine g_iast (pc := 124) C w (ro_X11_48 h0) ⟨by decide, by decide⟩  dX11_comerBy_124 (fun s_13 H locs es_13 w => ?_)
      have hw := hw s_13 es_13
      refine lv_aload_n (pc := 125) C.1 C.2.1 dX11_comerBy_125 rfl (lv_at hl 0 rfl) ?_
      refine g_getr (pc := 126) C w h0 ff_X11_48 lk_X11_94 dX11_comerBy_126 ?_
      refine lv_bipush (pc := 129) C.1 C.2.1 dX11_comerBy_129 mb_6 ?_
      refine lv_aload_n (pc := 131) C.1 C.2.1 dX11_comerBy_131 rfl (lv_at hl 0 rfl) ?_
      refine g_geti (pc := 132) C w h0 ff_X11_51 lk_X11_412 dX11_comerBy_132 ?_
      refine g_iast (pc := 135) C w (ro_X11_48 h0) ⟨by decide, by decide⟩  dX11_comerBy_135 (fun s_14 H locs es_14 w => ?_)
      have hw := hw s_14 es_14
      refine lv_aload_n (pc := 136) C.1 C.2.1 dX11_comerBy_136 rfl (lv_at hl 0 rfl) ?_
      refine g_getr (pc := 137) C w h0 ff_X11_48 lk_X11_94 dX11_comerBy_137 ?_
      refine lv_bipush (pc := 140) C.1 C.2.1 dX11_comerBy_140 mb_7 ?_
      refine lv_iload_n (pc := 142) C.1 C.2.1 dX11_comerBy_142 rfl (lv_at hl 2 rfl) ?_
      refine g_iast (pc := 143) C w (ro_X11_48 h0) ⟨by decide, by decide⟩  dX11_comerBy_143 (fun s_15 H locs es_15 w => ?_)
      have hw := hw s_15 es_15
      refine lv_aload_n (pc := 144) C.1 C.2.1 dX11_comerBy_144 rfl (lv_at hl 0 rfl) ?_
      refine g_getr (pc := 145) C w h0 ff_X11_48 lk_X11_94 dX11_comerBy_145 ?_
      refine lv_bipush (pc := 148) C.1 C.2.1 dX11_comerBy_148 mb_8 ?_
      refine lv_sipush (pc := 150) C.1 C.2.1 dX11_comerBy_150 ms_200 ?_
      refine lv_iload_n (pc := 153) C.1 C.2.1 dX11_comerBy_153 rfl (lv_at hl 2 rfl) ?_
      refine g_isub (pc := 154) C dX11_comerBy_154 ?_
      refine g_iast (pc := 155) C w (ro_X11_48 h0) ⟨by decide, by decide⟩  dX11_comerBy_155 (fun s_16 H locs es_16 w => ?_)
      have hw := hw s_16 es_16
      refine lv_aload_n (pc := 156) C.1 C.2.1 dX11_comerBy_156 rfl (lv_at hl 0 rfl) ?_
      refine g_getr (pc := 157) C w h0 ff_X11_48 lk_X11_94 dX11_comerBy_157 ?_
      refine lv_bipush (pc := 160) C.1 C.2.1 dX11_comerBy_160 mb_9 ?_
      refine lv_iconst (pc := 162) (v := mm_I 0) C.1 C.2.1 dX11_comerBy_162 rfl ?_
      refine g_iast (pc := 163) C w (ro_X11_48 h0) ⟨by decide, by decide⟩  dX11_comerBy_163 (fun s_17 H locs es_17 w => ?_)
      have hw := hw s_17 es_17
      refine lv_aload_n (pc := 164) C.1 C.2.1 dX11_comerBy_164 rfl (lv_at hl 0 rfl) ?_
      refine lv_iload_n (pc := 165) C.1 C.2.1 dX11_comerBy_165 rfl (lv_at hl 1 rfl) ?_
      refine lv_iconst (pc := 166) (v := mm_I 4) C.1 C.2.1 dX11_comerBy_166 rfl ?_
      refine g_isub (pc := 167) C dX11_comerBy_167 ?_
      refine g_calli (pc := 168) w (mm_runV (ci := 11) (q := (RX11, TX11, 65)) (As := [.int (mm_I (a1 - 4))]) (rest := []) C w (c_X11_says l G this (a1 - 4) h0 s_17 _ hw) h0 rfl rfl cv_X11_says ml_X11_374 ⟨Nat.le_of_ble_eq_true rfl, Nat.le_of_ble_eq_true rfl⟩ ⟨Nat.le_of_ble_eq_true rfl, Nat.le_of_ble_eq_true rfl⟩ rfl hl.1 rfl (Nat.le_of_ble_eq_true rfl) dX11_comerBy_168) (fun r_19 s_18 H locs hw w => ?_)
      refine g_istore (pc := 171) C dX11_comerBy_171 hl (by decide) (fun v6_20 ev6_20 ls hl => ?_)
      have hw := hw v6_20 ev6_20
      have hl : lv_has ls 7 [(6, .int (mm_I v6_20)), (0, .ref (mm_ad G this)), (1, .int (mm_I a1)), (2, .int (mm_I a2)), (3, .int (mm_I v3)), (4, .int (mm_I v4)), (5, .int (mm_I v5))] := hl
      refine lv_iload (pc := 173) C.1 C.2.1 dX11_comerBy_173 (lv_at hl 6 rfl) ?_
      refine g_if_le (pc := 175) (tgt := 195) C rfl dX11_comerBy_175 (by decide) (fun hc => ?_) (fun hc => ?_)
      · have hw := hw.1 hc
        refine lv_iload (pc := 195) C.1 C.2.1 dX11_comerBy_195 (lv_at hl 6 rfl) ?_
        refine g_istore_n (pc := 197) C dX11_comerBy_197 rfl hl (by decide) (fun v3_21 ev3_21 ls hl => ?_)
        have hw := hw v3_21 ev3_21
        have hl : lv_has ls 7 [(3, .int (mm_I v3_21)), (6, .int (mm_I v6_20)), (0, .ref (mm_ad G this)), (1, .int (mm_I a1)), (2, .int (mm_I a2)), (4, .int (mm_I v4)), (5, .int (mm_I v5))] := hl
        refine lv_iload (pc := 198) C.1 C.2.1 dX11_comerBy_198 (lv_at hl 1 rfl) ?_
        refine g_istore (pc := 200) C dX11_comerBy_200 hl (by decide) (fun v4_22 ev4_22 ls hl => ?_)
        have hw := hw v4_22 ev4_22
        have hl : lv_has ls 7 [(4, .int (mm_I v4_22)), (3, .int (mm_I v3_21)), (6, .int (mm_I v6_20)), (0, .ref (mm_ad G this)), (1, .int (mm_I a1)), (2, .int (mm_I a2)), (5, .int (mm_I v5))] := hl
        refine g_iinc (pc := 202) (k := 6) C dX11_comerBy_202 hl rfl (by decide) (fun v5_23 ev5_23 ls hl => ?_)
        have hw := hw v5_23 ev5_23
        have hl : lv_has ls 7 [(5, .int (mm_I v5_23)), (4, .int (mm_I v4_22)), (3, .int (mm_I v3_21)), (6, .int (mm_I v6_20)), (0, .ref (mm_ad G this)), (1, .int (mm_I a1)), (2, .int (mm_I a2))] := hl
        refine lv_goto (pc := 205) (tgt := 30) C.1 C.2.1 dX11_comerBy_205 (by decide) ?_
        exact hw  _ _ _ w (lv_sub hl [4, 5, 6, 2, 1, 0] rfl)
      · have hw := hw.2 hc
        refine lv_aload_n (pc := 178) C.1 C.2.1 dX11_comerBy_178 rfl (lv_at hl 1 rfl) ?_
        refine lv_iload_n (pc := 179) C.1 C.2.1 dX11_comerBy_179 rfl (lv_at hl 2 rfl) ?_
        refine lv_iconst (pc := 180) (v := mm_I 4) C.1 C.2.1 dX11_comerBy_180 rfl ?_
        refine g_isub (pc := 181) C dX11_comerBy_181 ?_
        refine lv_iload (pc := 182) C.1 C.2.1 dX11_comerBy_182 (lv_at hl 0 rfl) ?_
        refine lv_iload (pc := 184) C.1 C.2.1 dX11_comerBy_184 (lv_at hl 5 rfl) ?_
        refine g_calli (pc := 186) w (mm_runV (ci := 11) (q := (RX11, TX11, 65)) (As := [.int (mm_I (a1 - 4)), .int (mm_I v6_20), .int (mm_I v4)]) (rest := []) C w (c_X11_isNext l G this (a1 - 4) v6_20 v4 h0 s_18 _ hw) h0 rfl rfl cv_X11_isNext ml_X11_377 ⟨Nat.le_of_ble_eq_true rfl, Nat.le_of_ble_eq_true rfl⟩ ⟨Nat.le_of_ble_eq_true rfl, Nat.le_of_ble_eq_true rfl⟩ rfl hl.1 rfl (Nat.le_of_ble_eq_true rfl) dX11_comerBy_186) (fun r_25 s_24 H locs hw w => ?_)
        refine g_if_ne (pc := 189) (tgt := 195) C rfl dX11_comerBy_189 (by decide) (fun hc => ?_) (fun hc => ?_)
        · have hw := hw.1 hc
          refine lv_iload (pc := 195) C.1 C.2.1 dX11_comerBy_195 (lv_at hl 6 rfl) ?_
          refine g_istore_n (pc := 197) C dX11_comerBy_197 rfl hl (by decide) (fun v3_26 ev3_26 ls hl => ?_)
          have hw := hw v3_26 ev3_26
          have hl : lv_has ls 7 [(3, .int (mm_I v3_26)), (6, .int (mm_I v6_20)), (0, .ref (mm_ad G this)), (1, .int (mm_I a1)), (2, .int (mm_I a2)), (4, .int (mm_I v4)), (5, .int (mm_I v5))] := hl
          refine lv_iload (pc := 198) C.1 C.2.1 dX11_comerBy_198 (lv_at hl 1 rfl) ?_
          refine g_istore (pc := 200) C dX11_comerBy_200 hl (by decide) (fun v4_27 ev4_27 ls hl => ?_)
          have hw := hw v4_27 ev4_27
          have hl : lv_has ls 7 [(4, .int (mm_I v4_27)), (3, .int (mm_I v3_26)), (6, .int (mm_I v6_20)), (0, .ref (mm_ad G this)), (1, .int (mm_I a1)), (2, .int (mm_I a2)), (5, .int (mm_I v5))] := hl
          refine g_iinc (pc := 202) (k := 6) C dX11_comerBy_202 hl rfl (by decide) (fun v5_28 ev5_28 ls hl => ?_)
          have hw := hw v5_28 ev5_28
          have hl : lv_has ls 7 [(5, .int (mm_I v5_28)), (4, .int (mm_I v4_27)), (3, .int (mm_I v3_26)), (6, .int (mm_I v6_20)), (0, .ref (mm_ad G this)), (1, .int (mm_I a1)), (2, .int (mm_I a2))] := hl
          refine lv_goto (pc := 205) (tgt := 30) C.1 C.2.1 dX11_comerBy_205 (by decide) ?_
          exact hw  _ _ _ w (lv_sub hl [4, 5, 6, 2, 1, 0] rfl)
        · have hw := hw.2 hc
          refine lv_goto (pc := 192) (tgt := 202) C.1 C.2.1 dX11_comerBy_192 (by decide) ?_
          refine g_iinc (pc := 202) (k := 6) C dX11_comerBy_202 hl rfl (by decide) (fun v5_29 ev5_29 ls hl => ?_)
          have hw := hw v5_29 ev5_29
          have hl : lv_has ls 7 [(5, .int (mm_I v5_29)), (6, .int (mm_I v6_20)), (0, .ref (mm_ad G this)), (1, .int (mm_I a1)), (2, .int (mm_I a2)), (3, .int (mm_I v3)), (4, .int (mm_I v4))] := hl
          refine lv_goto (pc := 205) (tgt := 30) C.1 C.2.1 dX11_comerBy_205 (by decide) ?_
          exact hw  _ _ _ w (lv_sub hl [2, 3, 4, 5, 6, 0] rfl))
  intro H locs ls w hl
  have hl : lv_has ls 7 [(0, .ref (mm_ad G this)), (1, .int (mm_I a1)), (2, .int (mm_I a2))] := hl
  refine lv_aload_n (pc := 0) C.1 C.2.1 dX11_comerBy_0 rfl (lv_at hl 0 rfl) ?_
  refine lv_iload_n (pc := 1) C.1 C.2.1 dX11_comerBy_1 rfl (lv_at hl 1 rfl) ?_
  refine g_calli (pc := 2) w (mm_runV (ci := 11) (q := (RX11, TX11, 65)) (As := [.int (mm_I a1)]) (rest := []) C w (c_X11_isTold l G this a1 h0 s0 _ hw) h0 rfl rfl cv_X11_isTold ml_X11_380 ⟨Nat.le_of_ble_eq_true rfl, Nat.le_of_ble_eq_true rfl⟩ ⟨Nat.le_of_ble_eq_true rfl, Nat.le_of_ble_eq_true rfl⟩ rfl hl.1 rfl (Nat.le_of_ble_eq_true rfl) dX11_comerBy_2) (fun r_2 s_1 H locs hw w => ?_)
  refine g_if_ne (pc := 5) (tgt := 22) C rfl dX11_comerBy_5 (by decide) (fun hc => ?_) (fun hc => ?_)
  · have hw := hw.1 hc
    refine lv_iconst (pc := 22) (v := mm_I 0) C.1 C.2.1 dX11_comerBy_22 rfl ?_
    refine lv_istore_n (pc := 23) (lv' := [(3, .int (mm_I 0)), (0, .ref (mm_ad G this)), (1, .int (mm_I a1)), (2, .int (mm_I a2))]) C.1 C.2.1 dX11_comerBy_23 rfl hl (by decide) rfl (fun ls hl => ?_)
    refine lv_iconst (pc := 24) (v := mm_I 0) C.1 C.2.1 dX11_comerBy_24 rfl ?_
    refine lv_istore (pc := 25) (lv' := [(4, .int (mm_I 0)), (3, .int (mm_I 0)), (0, .ref (mm_ad G this)), (1, .int (mm_I a1)), (2, .int (mm_I a2))]) C.1 C.2.1 dX11_comerBy_25 hl (by decide) rfl (fun ls hl => ?_)
    refine lv_iconst (pc := 27) (v := mm_I 0) C.1 C.2.1 dX11_comerBy_27 rfl ?_
    refine lv_istore (pc := 28) (lv' := [(5, .int (mm_I 0)), (4, .int (mm_I 0)), (3, .int (mm_I 0)), (0, .ref (mm_ad G this)), (1, .int (mm_I a1)), (2, .int (mm_I a2))]) C.1 C.2.1 dX11_comerBy_28 hl (by decide) rfl (fun ls hl => ?_)
    exact hw  _ _ _ w (lv_sub hl [3, 4, 5, 2, 1, 0] rfl)
  · have hw := hw.2 hc
    refine lv_aload_n (pc := 8) C.1 C.2.1 dX11_comerBy_8 rfl (lv_at hl 0 rfl) ?_
    refine g_getr (pc := 9) C w h0 ff_X11_50 lk_X11_100 dX11_comerBy_9 ?_
    refine lv_iload_n (pc := 12) C.1 C.2.1 dX11_comerBy_12 rfl (lv_at hl 1 rfl) ?_
    refine lv_aload_n (pc := 13) C.1 C.2.1 dX11_comerBy_13 rfl (lv_at hl 0 rfl) ?_
    refine g_geti (pc := 14) C w h0 ff_X11_51 lk_X11_412 dX11_comerBy_14 ?_
    refine g_calli (pc := 17) w (mm_runS (As := [.int (mm_I a1), .int (mm_I (s_1 this 51))]) (rest := [.ref (mm_ad G (mm_rt this 50))]) C w (c_X11_placeBy l G a1 (s_1 this 51)  s_1 _ hw) cs_X11_placeBy ml_X11_386 ⟨Nat.le_of_ble_eq_true rfl, Nat.le_of_ble_eq_true rfl⟩ ⟨Nat.le_of_ble_eq_true rfl, Nat.le_of_ble_eq_true rfl⟩ rfl hl.1 rfl (Nat.le_of_ble_eq_true rfl) dX11_comerBy_17) (fun r_7 s_6 H locs hw w => ?_)
    obtain ⟨hi, hw⟩ := hw
    refine g_iald (pc := 20) C w (ro_X11_50 h0) hi dX11_comerBy_20 ?_
    exact g_iret (pc := 21) C w hr hk hw dX11_comerBy_21
theorem cv_X11_gathers : mm_V yX11_gathers cX11_gathers 4 none 2 := ⟨(mt_7 229 rfl rfl), (mt_7 228 rfl rfl), (mp_6 7 rfl rfl), (mt_1 12 rfl rfl), by decide, by decide, by decide +kernel⟩
theorem ml_X11_415 : Cond.methodLink RX11 415 yX11_gathers ∈ mm_ws := (mt_7 226 rfl rfl)
def wp_X11_nextMinute (this : Nat) (a1 : Int) (a2 : Int) (s0 : mm_M) (post : Int → mm_M → Prop) : Prop :=
  ∀ (L11 : Int → Int → mm_M → Prop), 
  (∀ (v3 : Int) (v4 : Int) (s1 : mm_M), ((n32 (s1 this 38) ≤ n32 v4 → post v3 s1) ∧ (¬ n32 (s1 this 38) ≤ n32 v4 → ((¬ n32 (s1 this 51) = 0 → post v3 s1) ∧ (n32 (s1 this 51) = 0 → ((¬ n32 (mm_and (mm_shr a1 v4) 1) = 1 → ((0 ≤ v4 ∧ v4 < 8) ∧ (∀ v3_5 : Int, v3_5 = s1 (mm_rt this 39) v4 → (wp_X11_gathers this a1 v3_5 s1 (fun s_6 => (∀ v4_8 : Int, v4_8 = v4 + 1 → L11 v3_5 v4_8 s_6)))))) ∧ (n32 (mm_and (mm_shr a1 v4) 1) = 1 → (∀ v4_9 : Int, v4_9 = v4 + 1 → L11 v3 v4_9 s1))))))) → L11 v3 v4 s1) →
  (∀ v3_1 : Int, v3_1 = a2 → (wp_X11_gathers this a1 v3_1 s0 (fun s_2 => L11 v3_1 0 s_2)))
set_option maxRecDepth 100000 in
set_option maxHeartbeats 4000000 in
theorem c_X11_nextMinute (l : Launch) (G : mm_G) (this : Nat) (a1 : Int) (a2 : Int) (h0 : mm_ok this 21 0) (s0 : mm_M) (post : Int → mm_M → Prop) (hw : wp_X11_nextMinute this a1 a2 s0 post) : Met l yX11_nextMinute (mm_wm yX11_nextMinute cX11_nextMinute 5 (some .int)) (mm_rm 2) (va_Pc [.ref (mm_ad G this), .int (mm_I a1), .int (mm_I a2)] (mm_pre G s0)) (mm_Qi G post) 0 0 (mm_A G) := by
  refine mm_met (own := RX11) (by decide) rfl (Nat.le_of_ble_eq_true rfl) ?_
  intro p e s m args below meth c C hr hk
  unfold wp_X11_nextMinute at hw
  have hw := hw (fun (v3 : Int) (v4 : Int) (u : mm_M) => mm_X p l e (mm_rm 2) s m args below meth c (MQ below (mm_Qi G post) args s 0 0 (mm_A G)) G (mm_A G) 5 11 [(0, .ref (mm_ad G this)), (1, .int (mm_I a1)), (3, .int (mm_I v3)), (4, .int (mm_I v4))] [] u)
  have hw := hw (by
    intro v3 v4 s1 hw  H locs ls w hl
    refine lv_iload (pc := 11) C.1 C.2.1 dX11_nextMinute_11 (lv_at hl 3 rfl) ?_
    refine lv_aload_n (pc := 13) C.1 C.2.1 dX11_nextMinute_13 rfl (lv_at hl 0 rfl) ?_
    refine g_geti (pc := 14) C w h0 ff_X11_38 lk_X11_409 dX11_nextMinute_14 ?_
    refine g_icmp_ge (pc := 17) (tgt := 60) C rfl rfl dX11_nextMinute_17 (by decide) (fun hc => ?_) (fun hc => ?_)
    · have hw := hw.1 hc
      refine lv_iload_n (pc := 60) C.1 C.2.1 dX11_nextMinute_60 rfl (lv_at hl 2 rfl) ?_
      exact g_iret (pc := 61) C w hr hk hw dX11_nextMinute_61
    · have hw := hw.2 hc
      refine lv_aload_n (pc := 20) C.1 C.2.1 dX11_nextMinute_20 rfl (lv_at hl 0 rfl) ?_
      refine g_geti (pc := 21) C w h0 ff_X11_51 lk_X11_412 dX11_nextMinute_21 ?_
      refine g_if_ne (pc := 24) (tgt := 60) C rfl dX11_nextMinute_24 (by decide) (fun hc => ?_) (fun hc => ?_)
      · have hw := hw.1 hc
        refine lv_iload_n (pc := 60) C.1 C.2.1 dX11_nextMinute_60 rfl (lv_at hl 2 rfl) ?_
        exact g_iret (pc := 61) C w hr hk hw dX11_nextMinute_61
      · have hw := hw.2 hc
        refine lv_iload_n (pc := 27) C.1 C.2.1 dX11_nextMinute_27 rfl (lv_at hl 1 rfl) ?_
        refine lv_iload (pc := 28) C.1 C.2.1 dX11_nextMinute_28 (lv_at hl 3 rfl) ?_
        refine g_ishr (pc := 30) C dX11_nextMinute_30 ?_
        refine lv_iconst (pc := 31) (v := mm_I 1) C.1 C.2.1 dX11_nextMinute_31 rfl ?_
        refine g_iand (pc := 32) C dX11_nextMinute_32 ?_
        refine lv_iconst (pc := 33) (v := mm_I 1) C.1 C.2.1 dX11_nextMinute_33 rfl ?_
        refine g_icmp_ne (pc := 34) (tgt := 40) C rfl mn_1 dX11_nextMinute_34 (by decide) (fun hc => ?_) (fun hc => ?_)
        · have hw := hw.1 hc
          refine lv_aload_n (pc := 40) C.1 C.2.1 dX11_nextMinute_40 rfl (lv_at hl 0 rfl) ?_
          refine g_getr (pc := 41) C w h0 ff_X11_39 lk_X11_73 dX11_nextMinute_41 ?_
          refine lv_iload (pc := 44) C.1 C.2.1 dX11_nextMinute_44 (lv_at hl 3 rfl) ?_
          obtain ⟨hi, hw⟩ := hw
          refine g_iald (pc := 46) C w (ro_X11_39 h0) hi dX11_nextMinute_46 ?_
          refine g_istore_n (pc := 47) C dX11_nextMinute_47 rfl hl (by decide) (fun v3_5 ev3_5 ls hl => ?_)
          have hw := hw v3_5 ev3_5
          have hl : lv_has ls 5 [(3, .int (mm_I v3_5)), (0, .ref (mm_ad G this)), (1, .int (mm_I a1)), (4, .int (mm_I v4))] := hl
          refine lv_aload_n (pc := 48) C.1 C.2.1 dX11_nextMinute_48 rfl (lv_at hl 1 rfl) ?_
          refine lv_iload_n (pc := 49) C.1 C.2.1 dX11_nextMinute_49 rfl (lv_at hl 2 rfl) ?_
          refine lv_iload_n (pc := 50) C.1 C.2.1 dX11_nextMinute_50 rfl (lv_at hl 0 rfl) ?_
          refine g_callv (pc := 51) w (mm_runV (ci := 11) (q := (RX11, TX11, 65)) (As := [.int (mm_I a1), .int (mm_I v3_5)]) (rest := []) C w (c_X11_gathers l G this a1 v3_5 h0 s1 _ hw) h0 rfl rfl cv_X11_gathers ml_X11_415 ⟨Nat.le_of_ble_eq_true rfl, Nat.le_of_ble_eq_true rfl⟩ ⟨Nat.le_of_ble_eq_true rfl, Nat.le_of_ble_eq_true rfl⟩ rfl hl.1 rfl (Nat.le_of_ble_eq_true rfl) dX11_nextMinute_51) (fun s_6 H locs hw w => ?_)
          refine g_iinc (pc := 54) (k := 3) C dX11_nextMinute_54 hl rfl (by decide) (fun v4_8 ev4_8 ls hl => ?_)
          have hw := hw v4_8 ev4_8
          have hl : lv_has ls 5 [(4, .int (mm_I v4_8)), (3, .int (mm_I v3_5)), (0, .ref (mm_ad G this)), (1, .int (mm_I a1))] := hl
          refine lv_goto (pc := 57) (tgt := 11) C.1 C.2.1 dX11_nextMinute_57 (by decide) ?_
          exact hw  _ _ _ w (lv_sub hl [2, 3, 1, 0] rfl)
        · have hw := hw.2 hc
          refine lv_goto (pc := 37) (tgt := 54) C.1 C.2.1 dX11_nextMinute_37 (by decide) ?_
          refine g_iinc (pc := 54) (k := 3) C dX11_nextMinute_54 hl rfl (by decide) (fun v4_9 ev4_9 ls hl => ?_)
          have hw := hw v4_9 ev4_9
          have hl : lv_has ls 5 [(4, .int (mm_I v4_9)), (0, .ref (mm_ad G this)), (1, .int (mm_I a1)), (3, .int (mm_I v3))] := hl
          refine lv_goto (pc := 57) (tgt := 11) C.1 C.2.1 dX11_nextMinute_57 (by decide) ?_
          exact hw  _ _ _ w (lv_sub hl [1, 2, 3, 0] rfl))
  intro H locs ls w hl
  have hl : lv_has ls 5 [(0, .ref (mm_ad G this)), (1, .int (mm_I a1)), (2, .int (mm_I a2))] := hl
  refine lv_iload_n (pc := 0) C.1 C.2.1 dX11_nextMinute_0 rfl (lv_at hl 2 rfl) ?_
  refine g_istore_n (pc := 1) C dX11_nextMinute_1 rfl hl (by decide) (fun v3_1 ev3_1 ls hl => ?_)
  have hw := hw v3_1 ev3_1
  have hl : lv_has ls 5 [(3, .int (mm_I v3_1)), (0, .ref (mm_ad G this)), (1, .int (mm_I a1)), (2, .int (mm_I a2))] := hl
  refine lv_aload_n (pc := 2) C.1 C.2.1 dX11_nextMinute_2 rfl (lv_at hl 1 rfl) ?_
  refine lv_iload_n (pc := 3) C.1 C.2.1 dX11_nextMinute_3 rfl (lv_at hl 2 rfl) ?_
  refine lv_iload_n (pc := 4) C.1 C.2.1 dX11_nextMinute_4 rfl (lv_at hl 0 rfl) ?_
  refine g_callv (pc := 5) w (mm_runV (ci := 11) (q := (RX11, TX11, 65)) (As := [.int (mm_I a1), .int (mm_I v3_1)]) (rest := []) C w (c_X11_gathers l G this a1 v3_1 h0 s0 _ hw) h0 rfl rfl cv_X11_gathers ml_X11_415 ⟨Nat.le_of_ble_eq_true rfl, Nat.le_of_ble_eq_true rfl⟩ ⟨Nat.le_of_ble_eq_true rfl, Nat.le_of_ble_eq_true rfl⟩ rfl hl.1 rfl (Nat.le_of_ble_eq_true rfl) dX11_nextMinute_5) (fun s_2 H locs hw w => ?_)
  refine lv_iconst (pc := 8) (v := mm_I 0) C.1 C.2.1 dX11_nextMinute_8 rfl ?_
  refine lv_istore (pc := 9) (lv' := [(4, .int (mm_I 0)), (3, .int (mm_I v3_1)), (0, .ref (mm_ad G this)), (1, .int (mm_I a1)), (2, .int (mm_I a2))]) C.1 C.2.1 dX11_nextMinute_9 hl (by decide) rfl (fun ls hl => ?_)
  exact hw  _ _ _ w (lv_sub hl [2, 3, 1, 0] rfl)
theorem lk_X11_418 : Cond.fieldLink RX11 418 "LastServedModel" "waitsAll" "I" ∈ mm_ws := (mt_6 18 rfl rfl)
theorem ff_X11_54 : mm_F 11 54 0 RX11 TX11 65 := ⟨rfl, by decide, fk_X11, rfl, rfl⟩
theorem fw_X11_54 : mm_Fw 11 54 TX11 65 .int := ⟨⟨tyX11, tyX11_ok⟩, nmX11, rfl, by decide +kernel⟩
theorem lk_X11_421 : Cond.fieldLink RX11 421 "LastServedModel" "waitsLongest" "I" ∈ mm_ws := (mt_6 19 rfl rfl)
theorem ff_X11_55 : mm_F 11 55 0 RX11 TX11 65 := ⟨rfl, by decide, fk_X11, rfl, rfl⟩
theorem fw_X11_55 : mm_Fw 11 55 TX11 65 .int := ⟨⟨tyX11, tyX11_ok⟩, nmX11, rfl, by decide +kernel⟩
theorem cv_X11_nextMinute : mm_V yX11_nextMinute cX11_nextMinute 5 (some .int) 2 := ⟨(mt_7 225 rfl rfl), (mt_7 224 rfl rfl), (mp_6 6 rfl rfl), (mt_1 12 rfl rfl), by decide, by decide, by decide +kernel⟩
theorem ml_X11_424 : Cond.methodLink RX11 424 yX11_nextMinute ∈ mm_ws := (mt_7 222 rfl rfl)
theorem cv_X11_comerBy : mm_V yX11_comerBy cX11_comerBy 7 (some .int) 2 := ⟨(mt_7 233 rfl rfl), (mt_7 232 rfl rfl), (mp_6 8 rfl rfl), (mt_1 12 rfl rfl), by decide, by decide, by decide +kernel⟩
theorem ml_X11_427 : Cond.methodLink RX11 427 yX11_comerBy ∈ mm_ws := (mt_7 230 rfl rfl)
theorem lk_X11_103 : Cond.fieldLink RX11 103 "LastServedModel" "order" "[I" ∈ mm_ws := (mt_6 16 rfl rfl)
theorem ff_X11_52 : mm_F 11 52 1 RX11 TX11 65 := ⟨rfl, by decide, fk_X11, rfl, rfl⟩
theorem ro_X11_52 {i : Nat} (h : mm_ok i 21 0) : mm_ok (mm_rt i 52) 0 8 := by
  have q : ∀ i, i < mm_N → mm_kd i = 21 → mm_rt i 52 < mm_N ∧ mm_kd (mm_rt i 52) = 0 ∧ mm_ln (mm_rt i 52) = 8 := by decide +kernel
  exact q i h.1 h.2.1
theorem lk_X11_106 : Cond.fieldLink RX11 106 "LastServedModel" "waited0" "[I" ∈ mm_ws := (mt_6 17 rfl rfl)
theorem ff_X11_53 : mm_F 11 53 1 RX11 TX11 65 := ⟨rfl, by decide, fk_X11, rfl, rfl⟩
theorem ro_X11_53 {i : Nat} (h : mm_ok i 21 0) : mm_ok (mm_rt i 53) 0 8 := by
  have q : ∀ i, i < mm_N → mm_kd i = 21 → mm_rt i 53 < mm_N ∧ mm_kd (mm_rt i 53) = 0 ∧ mm_ln (mm_rt i 53) = 8 := by decide +kernel
  exact q i h.1 h.2.1
def wp_X11_runs (this : Nat) (a1 : Int) (s0 : mm_M) (post : mm_M → Prop) : Prop :=
  ∀ (L17 : Int → Int → Int → mm_M → Prop), 
  (∀ (v2 : Int) (v3 : Int) (v4 : Int) (s1 : mm_M), ((n32 (s1 this 38) ≤ n32 v4 → post s1) ∧ (¬ n32 (s1 this 38) ≤ n32 v4 → (wp_X11_nextMinute this v2 v3 s1 (fun r_7 s_6 => (∀ v3_8 : Int, v3_8 = r_7 → (wp_X11_comerBy this a1 v3_8 s_6 (fun r_10 s_9 => (∀ v5_11 : Int, v5_11 = r_10 → ((0 ≤ v4 ∧ v4 < 8) ∧ (∀ s_12 : mm_M, s_12 = mm_up s_9 (mm_rt this 52) v4 v5_11 → ((0 ≤ v5_11 ∧ v5_11 < 8) ∧ ((0 ≤ v5_11 ∧ v5_11 < 8) ∧ (∀ s_13 : mm_M, s_13 = mm_up s_12 (mm_rt this 53) v5_11 (v3_8 - (s_12 (mm_rt this 39) v5_11)) → ((0 ≤ v5_11 ∧ v5_11 < 8) ∧ (∀ s_14 : mm_M, s_14 = mm_up s_13 this 54 ((s_13 this 54) + (s_13 (mm_rt this 53) v5_11)) → ((0 ≤ v5_11 ∧ v5_11 < 8) ∧ (∀ s_15 : mm_M, s_15 = mm_up s_14 this 55 (mm_max (s_14 this 55) (s_14 (mm_rt this 53) v5_11)) → (∀ v2_16 : Int, v2_16 = mm_or v2 (mm_shl 1 v5_11) → ((0 ≤ v5_11 ∧ v5_11 < 8) ∧ (∀ v3_17 : Int, v3_17 = v3_8 + (s_15 (mm_rt this 40) v5_11) → (∀ v4_18 : Int, v4_18 = v4 + 1 → L17 v2_16 v3_17 v4_18 s_15))))))))))))))))))))) → L17 v2 v3 v4 s1) →
  (∀ s_3 : mm_M, s_3 = mm_up s0 this 54 0 → (∀ s_4 : mm_M, s_4 = mm_up s_3 this 55 0 → L17 0 0 0 s_4))
set_option maxRecDepth 100000 in
set_option maxHeartbeats 4000000 in
theorem c_X11_runs (l : Launch) (G : mm_G) (this : Nat) (a1 : Int) (h0 : mm_ok this 21 0) (s0 : mm_M) (post : mm_M → Prop) (hw : wp_X11_runs this a1 s0 post) : Met l yX11_runs (mm_wm yX11_runs cX11_runs 6 none) (mm_rm 4) (va_Pc [.ref (mm_ad G this), .int (mm_I a1)] (mm_pre G s0)) (mm_Qv G post) 0 0 (mm_A G) := by
  refine mm_met (own := RX11) (by decide) rfl (Nat.le_of_ble_eq_true rfl) ?_
  intro p e s m args below meth c C hr hk
  unfold wp_X11_runs at hw
  have hw := hw (fun (v2 : Int) (v3 : Int) (v4 : Int) (u : mm_M) => mm_X p l e (mm_rm 4) s m args below meth c (MQ below (mm_Qv G post) args s 0 0 (mm_A G)) G (mm_A G) 6 17 [(0, .ref (mm_ad G this)), (1, .int (mm_I a1)), (2, .int (mm_I v2)), (3, .int (mm_I v3)), (4, .int (mm_I v4))] [] u)
  have hw := hw (by
    intro v2 v3 v4 s1 hw  H locs ls w hl
    refine lv_iload (pc := 17) C.1 C.2.1 dX11_runs_17 (lv_at hl 4 rfl) ?_
    refine lv_aload_n (pc := 19) C.1 C.2.1 dX11_runs_19 rfl (lv_at hl 0 rfl) ?_
    refine g_geti (pc := 20) C w h0 ff_X11_38 lk_X11_409 dX11_runs_20 ?_
    refine g_icmp_ge (pc := 23) (tgt := 123) C rfl rfl dX11_runs_23 (by decide) (fun hc => ?_) (fun hc => ?_)
    · have hw := hw.1 hc
      exact g_vret (pc := 123) C w hr hk hw dX11_runs_123
    · have hw := hw.2 hc
      refine lv_aload_n (pc := 26) C.1 C.2.1 dX11_runs_26 rfl (lv_at hl 0 rfl) ?_
      refine lv_iload_n (pc := 27) C.1 C.2.1 dX11_runs_27 rfl (lv_at hl 2 rfl) ?_
      refine lv_iload_n (pc := 28) C.1 C.2.1 dX11_runs_28 rfl (lv_at hl 3 rfl) ?_
      refine g_calli (pc := 29) w (mm_runV (ci := 11) (q := (RX11, TX11, 65)) (As := [.int (mm_I v2), .int (mm_I v3)]) (rest := []) C w (c_X11_nextMinute l G this v2 v3 h0 s1 _ hw) h0 rfl rfl cv_X11_nextMinute ml_X11_424 ⟨Nat.le_of_ble_eq_true rfl, Nat.le_of_ble_eq_true rfl⟩ ⟨Nat.le_of_ble_eq_true rfl, Nat.le_of_ble_eq_true rfl⟩ rfl hl.1 rfl (Nat.le_of_ble_eq_true rfl) dX11_runs_29) (fun r_7 s_6 H locs hw w => ?_)
      refine g_istore_n (pc := 32) C dX11_runs_32 rfl hl (by decide) (fun v3_8 ev3_8 ls hl => ?_)
      have hw := hw v3_8 ev3_8
      have hl : lv_has ls 6 [(3, .int (mm_I v3_8)), (0, .ref (mm_ad G this)), (1, .int (mm_I a1)), (2, .int (mm_I v2)), (4, .int (mm_I v4))] := hl
      refine lv_aload_n (pc := 33) C.1 C.2.1 dX11_runs_33 rfl (lv_at hl 1 rfl) ?_
      refine lv_iload_n (pc := 34) C.1 C.2.1 dX11_runs_34 rfl (lv_at hl 2 rfl) ?_
      refine lv_iload_n (pc := 35) C.1 C.2.1 dX11_runs_35 rfl (lv_at hl 0 rfl) ?_
      refine g_calli (pc := 36) w (mm_runV (ci := 11) (q := (RX11, TX11, 65)) (As := [.int (mm_I a1), .int (mm_I v3_8)]) (rest := []) C w (c_X11_comerBy l G this a1 v3_8 h0 s_6 _ hw) h0 rfl rfl cv_X11_comerBy ml_X11_427 ⟨Nat.le_of_ble_eq_true rfl, Nat.le_of_ble_eq_true rfl⟩ ⟨Nat.le_of_ble_eq_true rfl, Nat.le_of_ble_eq_true rfl⟩ rfl hl.1 rfl (Nat.le_of_ble_eq_true rfl) dX11_runs_36) (fun r_10 s_9 H locs hw w => ?_)
      refine g_istore (pc := 39) C dX11_runs_39 hl (by decide) (fun v5_11 ev5_11 ls hl => ?_)
      have hw := hw v5_11 ev5_11
      have hl : lv_has ls 6 [(5, .int (mm_I v5_11)), (3, .int (mm_I v3_8)), (0, .ref (mm_ad G this)), (1, .int (mm_I a1)), (2, .int (mm_I v2)), (4, .int (mm_I v4))] := hl
      refine lv_aload_n (pc := 41) C.1 C.2.1 dX11_runs_41 rfl (lv_at hl 2 rfl) ?_
      refine g_getr (pc := 42) C w h0 ff_X11_52 lk_X11_103 dX11_runs_42 ?_
      refine lv_iload (pc := 45) C.1 C.2.1 dX11_runs_45 (lv_at hl 5 rfl) ?_
      refine lv_iload (pc := 47) C.1 C.2.1 dX11_runs_47 (lv_at hl 0 rfl) ?_
      obtain ⟨hi, hw⟩ := hw
      refine g_iast (pc := 49) C w (ro_X11_52 h0) hi  dX11_runs_49 (fun s_12 H locs es_12 w => ?_)
      have hw := hw s_12 es_12
      refine lv_aload_n (pc := 50) C.1 C.2.1 dX11_runs_50 rfl (lv_at hl 2 rfl) ?_
      refine g_getr (pc := 51) C w h0 ff_X11_53 lk_X11_106 dX11_runs_51 ?_
      refine lv_iload (pc := 54) C.1 C.2.1 dX11_runs_54 (lv_at hl 0 rfl) ?_
      refine lv_iload_n (pc := 56) C.1 C.2.1 dX11_runs_56 rfl (lv_at hl 1 rfl) ?_
      refine lv_aload_n (pc := 57) C.1 C.2.1 dX11_runs_57 rfl (lv_at hl 2 rfl) ?_
      refine g_getr (pc := 58) C w h0 ff_X11_39 lk_X11_73 dX11_runs_58 ?_
      refine lv_iload (pc := 61) C.1 C.2.1 dX11_runs_61 (lv_at hl 0 rfl) ?_
      obtain ⟨hi, hw⟩ := hw
      refine g_iald (pc := 63) C w (ro_X11_39 h0) hi dX11_runs_63 ?_
      refine g_isub (pc := 64) C dX11_runs_64 ?_
      obtain ⟨hi, hw⟩ := hw
      refine g_iast (pc := 65) C w (ro_X11_53 h0) hi  dX11_runs_65 (fun s_13 H locs es_13 w => ?_)
      have hw := hw s_13 es_13
      refine lv_aload_n (pc := 66) C.1 C.2.1 dX11_runs_66 rfl (lv_at hl 2 rfl) ?_
      refine lv_dup (pc := 67) C.1 C.2.1 dX11_runs_67 rfl ?_
      refine g_geti (pc := 68) C w h0 ff_X11_54 lk_X11_418 dX11_runs_68 ?_
      refine lv_aload_n (pc := 71) C.1 C.2.1 dX11_runs_71 rfl (lv_at hl 2 rfl) ?_
      refine g_getr (pc := 72) C w h0 ff_X11_53 lk_X11_106 dX11_runs_72 ?_
      refine lv_iload (pc := 75) C.1 C.2.1 dX11_runs_75 (lv_at hl 0 rfl) ?_
      obtain ⟨hi, hw⟩ := hw
      refine g_iald (pc := 77) C w (ro_X11_53 h0) hi dX11_runs_77 ?_
      refine g_iadd (pc := 78) C dX11_runs_78 ?_
      refine g_puti (pc := 79) C w h0 ff_X11_54 fw_X11_54 lk_X11_418 dX11_runs_79 (fun s_14 H locs es_14 w => ?_)
      have hw := hw s_14 es_14
      refine lv_aload_n (pc := 82) C.1 C.2.1 dX11_runs_82 rfl (lv_at hl 2 rfl) ?_
      refine lv_aload_n (pc := 83) C.1 C.2.1 dX11_runs_83 rfl (lv_at hl 2 rfl) ?_
      refine g_geti (pc := 84) C w h0 ff_X11_55 lk_X11_421 dX11_runs_84 ?_
      refine lv_aload_n (pc := 87) C.1 C.2.1 dX11_runs_87 rfl (lv_at hl 2 rfl) ?_
      refine g_getr (pc := 88) C w h0 ff_X11_53 lk_X11_106 dX11_runs_88 ?_
      refine lv_iload (pc := 91) C.1 C.2.1 dX11_runs_91 (lv_at hl 0 rfl) ?_
      obtain ⟨hi, hw⟩ := hw
      refine g_iald (pc := 93) C w (ro_X11_53 h0) hi dX11_runs_93 ?_
      refine g_max (pc := 94) C hl.1 ml_X11_395 mv_max ⟨Nat.le_of_ble_eq_true rfl, Nat.le_of_ble_eq_true rfl⟩ ⟨Nat.le_of_ble_eq_true rfl, Nat.le_of_ble_eq_true rfl⟩ dX11_runs_94 ?_
      refine g_puti (pc := 97) C w h0 ff_X11_55 fw_X11_55 lk_X11_421 dX11_runs_97 (fun s_15 H locs es_15 w => ?_)
      have hw := hw s_15 es_15
      refine lv_iload_n (pc := 100) C.1 C.2.1 dX11_runs_100 rfl (lv_at hl 4 rfl) ?_
      refine lv_iconst (pc := 101) (v := mm_I 1) C.1 C.2.1 dX11_runs_101 rfl ?_
      refine lv_iload (pc := 102) C.1 C.2.1 dX11_runs_102 (lv_at hl 0 rfl) ?_
      refine g_ishl (pc := 104) C dX11_runs_104 ?_
      refine g_ior (pc := 105) C dX11_runs_105 ?_
      refine g_istore_n (pc := 106) C dX11_runs_106 rfl hl (by decide) (fun v2_16 ev2_16 ls hl => ?_)
      have hw := hw v2_16 ev2_16
      have hl : lv_has ls 6 [(2, .int (mm_I v2_16)), (5, .int (mm_I v5_11)), (3, .int (mm_I v3_8)), (0, .ref (mm_ad G this)), (1, .int (mm_I a1)), (4, .int (mm_I v4))] := hl
      refine lv_iload_n (pc := 107) C.1 C.2.1 dX11_runs_107 rfl (lv_at hl 2 rfl) ?_
      refine lv_aload_n (pc := 108) C.1 C.2.1 dX11_runs_108 rfl (lv_at hl 3 rfl) ?_
      refine g_getr (pc := 109) C w h0 ff_X11_40 lk_X11_76 dX11_runs_109 ?_
      refine lv_iload (pc := 112) C.1 C.2.1 dX11_runs_112 (lv_at hl 1 rfl) ?_
      obtain ⟨hi, hw⟩ := hw
      refine g_iald (pc := 114) C w (ro_X11_40 h0) hi dX11_runs_114 ?_
      refine g_iadd (pc := 115) C dX11_runs_115 ?_
      refine g_istore_n (pc := 116) C dX11_runs_116 rfl hl (by decide) (fun v3_17 ev3_17 ls hl => ?_)
      have hw := hw v3_17 ev3_17
      have hl : lv_has ls 6 [(3, .int (mm_I v3_17)), (2, .int (mm_I v2_16)), (5, .int (mm_I v5_11)), (0, .ref (mm_ad G this)), (1, .int (mm_I a1)), (4, .int (mm_I v4))] := hl
      refine g_iinc (pc := 117) (k := 5) C dX11_runs_117 hl rfl (by decide) (fun v4_18 ev4_18 ls hl => ?_)
      have hw := hw v4_18 ev4_18
      have hl : lv_has ls 6 [(4, .int (mm_I v4_18)), (3, .int (mm_I v3_17)), (2, .int (mm_I v2_16)), (5, .int (mm_I v5_11)), (0, .ref (mm_ad G this)), (1, .int (mm_I a1))] := hl
      refine lv_goto (pc := 120) (tgt := 17) C.1 C.2.1 dX11_runs_120 (by decide) ?_
      exact hw  _ _ _ w (lv_sub hl [4, 5, 2, 1, 0] rfl))
  intro H locs ls w hl
  have hl : lv_has ls 6 [(0, .ref (mm_ad G this)), (1, .int (mm_I a1))] := hl
  refine lv_iconst (pc := 0) (v := mm_I 0) C.1 C.2.1 dX11_runs_0 rfl ?_
  refine lv_istore_n (pc := 1) (lv' := [(2, .int (mm_I 0)), (0, .ref (mm_ad G this)), (1, .int (mm_I a1))]) C.1 C.2.1 dX11_runs_1 rfl hl (by decide) rfl (fun ls hl => ?_)
  refine lv_iconst (pc := 2) (v := mm_I 0) C.1 C.2.1 dX11_runs_2 rfl ?_
  refine lv_istore_n (pc := 3) (lv' := [(3, .int (mm_I 0)), (2, .int (mm_I 0)), (0, .ref (mm_ad G this)), (1, .int (mm_I a1))]) C.1 C.2.1 dX11_runs_3 rfl hl (by decide) rfl (fun ls hl => ?_)
  refine lv_aload_n (pc := 4) C.1 C.2.1 dX11_runs_4 rfl (lv_at hl 2 rfl) ?_
  refine lv_iconst (pc := 5) (v := mm_I 0) C.1 C.2.1 dX11_runs_5 rfl ?_
  refine g_puti (pc := 6) C w h0 ff_X11_54 fw_X11_54 lk_X11_418 dX11_runs_6 (fun s_3 H locs es_3 w => ?_)
  have hw := hw s_3 es_3
  refine lv_aload_n (pc := 9) C.1 C.2.1 dX11_runs_9 rfl (lv_at hl 2 rfl) ?_
  refine lv_iconst (pc := 10) (v := mm_I 0) C.1 C.2.1 dX11_runs_10 rfl ?_
  refine g_puti (pc := 11) C w h0 ff_X11_55 fw_X11_55 lk_X11_421 dX11_runs_11 (fun s_4 H locs es_4 w => ?_)
  have hw := hw s_4 es_4
  refine lv_iconst (pc := 14) (v := mm_I 0) C.1 C.2.1 dX11_runs_14 rfl ?_
  refine lv_istore (pc := 15) (lv' := [(4, .int (mm_I 0)), (3, .int (mm_I 0)), (2, .int (mm_I 0)), (0, .ref (mm_ad G this)), (1, .int (mm_I a1))]) C.1 C.2.1 dX11_runs_15 hl (by decide) rfl (fun ls hl => ?_)
  exact hw  _ _ _ w (lv_sub hl [3, 4, 2, 1, 0] rfl)
theorem cv_X11_runs : mm_V yX11_runs cX11_runs 6 none 1 := ⟨(mt_7 221 rfl rfl), (mt_7 220 rfl rfl), (mp_6 5 rfl rfl), (mt_1 12 rfl rfl), by decide, by decide, by decide +kernel⟩
theorem ml_X11_430 : Cond.methodLink RX11 430 yX11_runs ∈ mm_ws := (mt_7 218 rfl rfl)
def wp_X11_waits (this : Nat) (a1 : Int) (a2 : Int) (a3 : Int) (s0 : mm_M) (post : Int → mm_M → Prop) : Prop :=
  ∀ (L52 : mm_M → Prop), ∀ (L110 : Int → Int → mm_M → Prop), 
  (∀  (s1 : mm_M), (wp_X11_runs this a1 s1 (fun s_7 => ((2 ≤ n32 a3 → ((n32 a3 = 3 → L110 0 0 s_7) ∧ (¬ n32 a3 = 3 → ((¬ n32 a3 = 2 → post (s_7 this 55) s_7) ∧ (n32 a3 = 2 → post (s_7 this 54) s_7))))) ∧ (¬ 2 ≤ n32 a3 → ((¬ n32 a3 = 0 → ((0 ≤ a2 ∧ a2 < 8) ∧ post (s_7 (mm_rt this 53) a2) s_7)) ∧ (n32 a3 = 0 → ((0 ≤ a2 ∧ a2 < 8) ∧ post (s_7 (mm_rt this 52) a2) s_7))))))) → L52 s1) →
  (∀ (v4 : Int) (v6 : Int) (s1 : mm_M), ((n32 (s1 this 38) ≤ n32 v6 → (wp_X11_unlikeOf (n32 (s1 this 38)) v4 (n32 (s1 this 54)) s1 (fun r_12 s_11 => post r_12 s_11))) ∧ (¬ n32 (s1 this 38) ≤ n32 v6 → ((0 ≤ v6 ∧ v6 < 8) ∧ ((0 ≤ v6 ∧ v6 < 8) ∧ (∀ v4_13 : Int, v4_13 = v4 + (n32 ((s1 (mm_rt this 53) v6) * (s1 (mm_rt this 53) v6))) → (∀ v6_14 : Int, v6_14 = v6 + 1 → L110 v4_13 v6_14 s1)))))) → L110 v4 v6 s1) →
  ((n32 (s0 this 38) = 0 → post (-1) s0) ∧ (¬ n32 (s0 this 38) = 0 → (wp_X11_in a1 0 8 s0 (fun r_2 s_1 => ((n32 r_2 = 0 → post (-1) s_1) ∧ (¬ n32 r_2 = 0 → ((n32 a1 = 3 → post (-1) s_1) ∧ (¬ n32 a1 = 3 → (wp_X11_in a3 0 4 s_1 (fun r_4 s_3 => ((n32 r_4 = 0 → post (-1) s_3) ∧ (¬ n32 r_4 = 0 → ((2 ≤ n32 a3 → L52 s_3) ∧ (¬ 2 ≤ n32 a3 → (wp_X11_in a2 0 ((s_3 this 38) - 1) s_3 (fun r_6 s_5 => ((¬ n32 r_6 = 0 → L52 s_5) ∧ (n32 r_6 = 0 → post (-1) s_5))))))))))))))))))
set_option maxRecDepth 100000 in
set_option maxHeartbeats 4000000 in
theorem c_X11_waits (l : Launch) (G : mm_G) (this : Nat) (a1 : Int) (a2 : Int) (a3 : Int) (h0 : mm_ok this 21 0) (s0 : mm_M) (post : Int → mm_M → Prop) (hw : wp_X11_waits this a1 a2 a3 s0 post) : Met l yX11_waits (mm_wm yX11_waits cX11_waits 7 (some .int)) (mm_rm 5) (va_Pc [.ref (mm_ad G this), .int (mm_I a1), .int (mm_I a2), .int (mm_I a3)] (mm_pre G s0)) (mm_Qi G post) 0 0 (mm_A G) := by
  refine mm_met (own := RX11) (by decide) rfl (Nat.le_of_ble_eq_true rfl) ?_
  intro p e s m args below meth c C hr hk
  unfold wp_X11_waits at hw
  have hw := hw (fun  (u : mm_M) => mm_X p l e (mm_rm 5) s m args below meth c (MQ below (mm_Qi G post) args s 0 0 (mm_A G)) G (mm_A G) 7 52 [(0, .ref (mm_ad G this)), (1, .int (mm_I a1)), (2, .int (mm_I a2)), (3, .int (mm_I a3))] [] u)
  have hw := hw (fun (v4 : Int) (v6 : Int) (u : mm_M) => mm_X p l e (mm_rm 5) s m args below meth c (MQ below (mm_Qi G post) args s 0 0 (mm_A G)) G (mm_A G) 7 110 [(0, .ref (mm_ad G this)), (4, .long (mm_L v4)), (6, .int (mm_I v6))] [] u)
  have hw := hw (by
    intro  s1 hw  H locs ls w hl
    refine lv_aload_n (pc := 52) C.1 C.2.1 dX11_waits_52 rfl (lv_at hl 0 rfl) ?_
    refine lv_iload_n (pc := 53) C.1 C.2.1 dX11_waits_53 rfl (lv_at hl 1 rfl) ?_
    refine g_callv (pc := 54) w (mm_runV (ci := 11) (q := (RX11, TX11, 65)) (As := [.int (mm_I a1)]) (rest := []) C w (c_X11_runs l G this a1 h0 s1 _ hw) h0 rfl rfl cv_X11_runs ml_X11_430 ⟨Nat.le_of_ble_eq_true rfl, Nat.le_of_ble_eq_true rfl⟩ ⟨Nat.le_of_ble_eq_true rfl, Nat.le_of_ble_eq_true rfl⟩ rfl hl.1 rfl (Nat.le_of_ble_eq_true rfl) dX11_waits_54) (fun s_7 H locs hw w => ?_)
    refine lv_iload_n (pc := 57) C.1 C.2.1 dX11_waits_57 rfl (lv_at hl 3 rfl) ?_
    refine lv_iconst (pc := 58) (v := mm_I 2) C.1 C.2.1 dX11_waits_58 rfl ?_
    refine g_icmp_ge (pc := 59) (tgt := 82) C rfl mn_2 dX11_waits_59 (by decide) (fun hc => ?_) (fun hc => ?_)
    · have hw := hw.1 hc
      refine lv_iload_n (pc := 82) C.1 C.2.1 dX11_waits_82 rfl (lv_at hl 3 rfl) ?_
      refine lv_iconst (pc := 83) (v := mm_I 3) C.1 C.2.1 dX11_waits_83 rfl ?_
      refine g_icmp_eq (pc := 84) (tgt := 104) C rfl mn_3 dX11_waits_84 (by decide) (fun hc => ?_) (fun hc => ?_)
      · have hw := hw.1 hc
        refine lv_lconst (pc := 104) (v := mm_L 0) C.1 C.2.1 dX11_waits_104 rfl ?_
        refine lv_lstore (pc := 105) (lv' := [(4, .long (mm_L 0)), (0, .ref (mm_ad G this)), (1, .int (mm_I a1)), (2, .int (mm_I a2)), (3, .int (mm_I a3))]) C.1 C.2.1 dX11_waits_105 hl (by decide) rfl (fun ls hl => ?_)
        refine lv_iconst (pc := 107) (v := mm_I 0) C.1 C.2.1 dX11_waits_107 rfl ?_
        refine lv_istore (pc := 108) (lv' := [(6, .int (mm_I 0)), (4, .long (mm_L 0)), (0, .ref (mm_ad G this)), (1, .int (mm_I a1)), (2, .int (mm_I a2)), (3, .int (mm_I a3))]) C.1 C.2.1 dX11_waits_108 hl (by decide) rfl (fun ls hl => ?_)
        exact hw  _ _ _ w (lv_sub hl [2, 1, 0] rfl)
      · have hw := hw.2 hc
        refine lv_iload_n (pc := 87) C.1 C.2.1 dX11_waits_87 rfl (lv_at hl 3 rfl) ?_
        refine lv_iconst (pc := 88) (v := mm_I 2) C.1 C.2.1 dX11_waits_88 rfl ?_
        refine g_icmp_ne (pc := 89) (tgt := 99) C rfl mn_2 dX11_waits_89 (by decide) (fun hc => ?_) (fun hc => ?_)
        · have hw := hw.1 hc
          refine lv_aload_n (pc := 99) C.1 C.2.1 dX11_waits_99 rfl (lv_at hl 0 rfl) ?_
          refine g_geti (pc := 100) C w h0 ff_X11_55 lk_X11_421 dX11_waits_100 ?_
          exact g_iret (pc := 103) C w hr hk hw dX11_waits_103
        · have hw := hw.2 hc
          refine lv_aload_n (pc := 92) C.1 C.2.1 dX11_waits_92 rfl (lv_at hl 0 rfl) ?_
          refine g_geti (pc := 93) C w h0 ff_X11_54 lk_X11_418 dX11_waits_93 ?_
          refine lv_goto (pc := 96) (tgt := 103) C.1 C.2.1 dX11_waits_96 (by decide) ?_
          exact g_iret (pc := 103) C w hr hk hw dX11_waits_103
    · have hw := hw.2 hc
      refine lv_iload_n (pc := 62) C.1 C.2.1 dX11_waits_62 rfl (lv_at hl 3 rfl) ?_
      refine g_if_ne (pc := 63) (tgt := 75) C rfl dX11_waits_63 (by decide) (fun hc => ?_) (fun hc => ?_)
      · have hw := hw.1 hc
        refine lv_aload_n (pc := 75) C.1 C.2.1 dX11_waits_75 rfl (lv_at hl 0 rfl) ?_
        refine g_getr (pc := 76) C w h0 ff_X11_53 lk_X11_106 dX11_waits_76 ?_
        refine lv_iload_n (pc := 79) C.1 C.2.1 dX11_waits_79 rfl (lv_at hl 2 rfl) ?_
        obtain ⟨hi, hw⟩ := hw
        refine g_iald (pc := 80) C w (ro_X11_53 h0) hi dX11_waits_80 ?_
        exact g_iret (pc := 81) C w hr hk hw dX11_waits_81
      · have hw := hw.2 hc
        refine lv_aload_n (pc := 66) C.1 C.2.1 dX11_waits_66 rfl (lv_at hl 0 rfl) ?_
        refine g_getr (pc := 67) C w h0 ff_X11_52 lk_X11_103 dX11_waits_67 ?_
        refine lv_iload_n (pc := 70) C.1 C.2.1 dX11_waits_70 rfl (lv_at hl 2 rfl) ?_
        obtain ⟨hi, hw⟩ := hw
        refine g_iald (pc := 71) C w (ro_X11_52 h0) hi dX11_waits_71 ?_
        refine lv_goto (pc := 72) (tgt := 81) C.1 C.2.1 dX11_waits_72 (by decide) ?_
        exact g_iret (pc := 81) C w hr hk hw dX11_waits_81)
  have hw := hw (by
    intro v4 v6 s1 hw  H locs ls w hl
    refine lv_iload (pc := 110) C.1 C.2.1 dX11_waits_110 (lv_at hl 2 rfl) ?_
    refine lv_aload_n (pc := 112) C.1 C.2.1 dX11_waits_112 rfl (lv_at hl 0 rfl) ?_
    refine g_geti (pc := 113) C w h0 ff_X11_38 lk_X11_409 dX11_waits_113 ?_
    refine g_icmp_ge (pc := 116) (tgt := 146) C rfl rfl dX11_waits_116 (by decide) (fun hc => ?_) (fun hc => ?_)
    · have hw := hw.1 hc
      refine lv_aload_n (pc := 146) C.1 C.2.1 dX11_waits_146 rfl (lv_at hl 0 rfl) ?_
      refine g_geti (pc := 147) C w h0 ff_X11_38 lk_X11_409 dX11_waits_147 ?_
      refine g_i2l (pc := 150) C rfl dX11_waits_150 ?_
      refine lv_lload (pc := 151) C.1 C.2.1 dX11_waits_151 (lv_at hl 1 rfl) ?_
      refine lv_aload_n (pc := 153) C.1 C.2.1 dX11_waits_153 rfl (lv_at hl 0 rfl) ?_
      refine g_geti (pc := 154) C w h0 ff_X11_54 lk_X11_418 dX11_waits_154 ?_
      refine g_i2l (pc := 157) C rfl dX11_waits_157 ?_
      refine g_calli (pc := 158) w (mm_runS (As := [.long (mm_L (n32 (s1 this 38))), .long (mm_L v4), .long (mm_L (n32 (s1 this 54)))]) (rest := []) C w (c_X11_unlikeOf l G (n32 (s1 this 38)) v4 (n32 (s1 this 54))  s1 _ hw) cs_X11_unlikeOf ml_X11_330 ⟨Nat.le_of_ble_eq_true rfl, Nat.le_of_ble_eq_true rfl⟩ ⟨Nat.le_of_ble_eq_true rfl, Nat.le_of_ble_eq_true rfl⟩ rfl hl.1 rfl (Nat.le_of_ble_eq_true rfl) dX11_waits_158) (fun r_12 s_11 H locs hw w => ?_)
      exact g_iret (pc := 161) C w hr hk hw dX11_waits_161
    · have hw := hw.2 hc
      refine lv_lload (pc := 119) C.1 C.2.1 dX11_waits_119 (lv_at hl 1 rfl) ?_
      refine lv_aload_n (pc := 121) C.1 C.2.1 dX11_waits_121 rfl (lv_at hl 0 rfl) ?_
      refine g_getr (pc := 122) C w h0 ff_X11_53 lk_X11_106 dX11_waits_122 ?_
      refine lv_iload (pc := 125) C.1 C.2.1 dX11_waits_125 (lv_at hl 2 rfl) ?_
      obtain ⟨hi, hw⟩ := hw
      refine g_iald (pc := 127) C w (ro_X11_53 h0) hi dX11_waits_127 ?_
      refine lv_aload_n (pc := 128) C.1 C.2.1 dX11_waits_128 rfl (lv_at hl 0 rfl) ?_
      refine g_getr (pc := 129) C w h0 ff_X11_53 lk_X11_106 dX11_waits_129 ?_
      refine lv_iload (pc := 132) C.1 C.2.1 dX11_waits_132 (lv_at hl 2 rfl) ?_
      obtain ⟨hi, hw⟩ := hw
      refine g_iald (pc := 134) C w (ro_X11_53 h0) hi dX11_waits_134 ?_
      refine g_imul (pc := 135) C dX11_waits_135 ?_
      refine g_i2l (pc := 136) C rfl dX11_waits_136 ?_
      refine g_ladd (pc := 137) C dX11_waits_137 ?_
      refine g_lstore (pc := 138) C dX11_waits_138 hl (by decide) (fun v4_13 ev4_13 ls hl => ?_)
      have hw := hw v4_13 ev4_13
      have hl : lv_has ls 7 [(4, .long (mm_L v4_13)), (0, .ref (mm_ad G this)), (6, .int (mm_I v6))] := hl
      refine g_iinc (pc := 140) (k := 2) C dX11_waits_140 hl rfl (by decide) (fun v6_14 ev6_14 ls hl => ?_)
      have hw := hw v6_14 ev6_14
      have hl : lv_has ls 7 [(6, .int (mm_I v6_14)), (4, .long (mm_L v4_13)), (0, .ref (mm_ad G this))] := hl
      refine lv_goto (pc := 143) (tgt := 110) C.1 C.2.1 dX11_waits_143 (by decide) ?_
      exact hw  _ _ _ w (lv_sub hl [2, 1, 0] rfl))
  intro H locs ls w hl
  have hl : lv_has ls 7 [(0, .ref (mm_ad G this)), (1, .int (mm_I a1)), (2, .int (mm_I a2)), (3, .int (mm_I a3))] := hl
  refine lv_aload_n (pc := 0) C.1 C.2.1 dX11_waits_0 rfl (lv_at hl 0 rfl) ?_
  refine g_geti (pc := 1) C w h0 ff_X11_38 lk_X11_409 dX11_waits_1 ?_
  refine g_if_eq (pc := 4) (tgt := 50) C rfl dX11_waits_4 (by decide) (fun hc => ?_) (fun hc => ?_)
  · have hw := hw.1 hc
    refine lv_iconst (pc := 50) (v := mm_I (-1)) C.1 C.2.1 dX11_waits_50 rfl ?_
    exact g_iret (pc := 51) C w hr hk hw dX11_waits_51
  · have hw := hw.2 hc
    refine lv_iload_n (pc := 7) C.1 C.2.1 dX11_waits_7 rfl (lv_at hl 1 rfl) ?_
    refine lv_iconst (pc := 8) (v := mm_I 0) C.1 C.2.1 dX11_waits_8 rfl ?_
    refine lv_bipush (pc := 9) C.1 C.2.1 dX11_waits_9 mb_8 ?_
    refine g_calli (pc := 11) w (mm_runS (As := [.int (mm_I a1), .int (mm_I 0), .int (mm_I 8)]) (rest := []) C w (c_X11_in l G a1 0 8  s0 _ hw) cs_X11_in ml_X11_122 ⟨Nat.le_of_ble_eq_true rfl, Nat.le_of_ble_eq_true rfl⟩ ⟨Nat.le_of_ble_eq_true rfl, Nat.le_of_ble_eq_true rfl⟩ rfl hl.1 rfl (Nat.le_of_ble_eq_true rfl) dX11_waits_11) (fun r_2 s_1 H locs hw w => ?_)
    refine g_if_eq (pc := 14) (tgt := 50) C rfl dX11_waits_14 (by decide) (fun hc => ?_) (fun hc => ?_)
    · have hw := hw.1 hc
      refine lv_iconst (pc := 50) (v := mm_I (-1)) C.1 C.2.1 dX11_waits_50 rfl ?_
      exact g_iret (pc := 51) C w hr hk hw dX11_waits_51
    · have hw := hw.2 hc
      refine lv_iload_n (pc := 17) C.1 C.2.1 dX11_waits_17 rfl (lv_at hl 1 rfl) ?_
      refine lv_iconst (pc := 18) (v := mm_I 3) C.1 C.2.1 dX11_waits_18 rfl ?_
      refine g_icmp_eq (pc := 19) (tgt := 50) C rfl mn_3 dX11_waits_19 (by decide) (fun hc => ?_) (fun hc => ?_)
      · have hw := hw.1 hc
        refine lv_iconst (pc := 50) (v := mm_I (-1)) C.1 C.2.1 dX11_waits_50 rfl ?_
        exact g_iret (pc := 51) C w hr hk hw dX11_waits_51
      · have hw := hw.2 hc
        refine lv_iload_n (pc := 22) C.1 C.2.1 dX11_waits_22 rfl (lv_at hl 3 rfl) ?_
        refine lv_iconst (pc := 23) (v := mm_I 0) C.1 C.2.1 dX11_waits_23 rfl ?_
        refine lv_iconst (pc := 24) (v := mm_I 4) C.1 C.2.1 dX11_waits_24 rfl ?_
        refine g_calli (pc := 25) w (mm_runS (As := [.int (mm_I a3), .int (mm_I 0), .int (mm_I 4)]) (rest := []) C w (c_X11_in l G a3 0 4  s_1 _ hw) cs_X11_in ml_X11_122 ⟨Nat.le_of_ble_eq_true rfl, Nat.le_of_ble_eq_true rfl⟩ ⟨Nat.le_of_ble_eq_true rfl, Nat.le_of_ble_eq_true rfl⟩ rfl hl.1 rfl (Nat.le_of_ble_eq_true rfl) dX11_waits_25) (fun r_4 s_3 H locs hw w => ?_)
        refine g_if_eq (pc := 28) (tgt := 50) C rfl dX11_waits_28 (by decide) (fun hc => ?_) (fun hc => ?_)
        · have hw := hw.1 hc
          refine lv_iconst (pc := 50) (v := mm_I (-1)) C.1 C.2.1 dX11_waits_50 rfl ?_
          exact g_iret (pc := 51) C w hr hk hw dX11_waits_51
        · have hw := hw.2 hc
          refine lv_iload_n (pc := 31) C.1 C.2.1 dX11_waits_31 rfl (lv_at hl 3 rfl) ?_
          refine lv_iconst (pc := 32) (v := mm_I 2) C.1 C.2.1 dX11_waits_32 rfl ?_
          refine g_icmp_ge (pc := 33) (tgt := 52) C rfl mn_2 dX11_waits_33 (by decide) (fun hc => ?_) (fun hc => ?_)
          · have hw := hw.1 hc
            exact hw  _ _ _ w (lv_sub hl [0, 1, 2, 3] rfl)
          · have hw := hw.2 hc
            refine lv_iload_n (pc := 36) C.1 C.2.1 dX11_waits_36 rfl (lv_at hl 2 rfl) ?_
            refine lv_iconst (pc := 37) (v := mm_I 0) C.1 C.2.1 dX11_waits_37 rfl ?_
            refine lv_aload_n (pc := 38) C.1 C.2.1 dX11_waits_38 rfl (lv_at hl 0 rfl) ?_
            refine g_geti (pc := 39) C w h0 ff_X11_38 lk_X11_409 dX11_waits_39 ?_
            refine lv_iconst (pc := 42) (v := mm_I 1) C.1 C.2.1 dX11_waits_42 rfl ?_
            refine g_isub (pc := 43) C dX11_waits_43 ?_
            refine g_calli (pc := 44) w (mm_runS (As := [.int (mm_I a2), .int (mm_I 0), .int (mm_I ((s_3 this 38) - 1))]) (rest := []) C w (c_X11_in l G a2 0 ((s_3 this 38) - 1)  s_3 _ hw) cs_X11_in ml_X11_122 ⟨Nat.le_of_ble_eq_true rfl, Nat.le_of_ble_eq_true rfl⟩ ⟨Nat.le_of_ble_eq_true rfl, Nat.le_of_ble_eq_true rfl⟩ rfl hl.1 rfl (Nat.le_of_ble_eq_true rfl) dX11_waits_44) (fun r_6 s_5 H locs hw w => ?_)
            refine g_if_ne (pc := 47) (tgt := 52) C rfl dX11_waits_47 (by decide) (fun hc => ?_) (fun hc => ?_)
            · have hw := hw.1 hc
              exact hw  _ _ _ w (lv_sub hl [0, 1, 2, 3] rfl)
            · have hw := hw.2 hc
              refine lv_iconst (pc := 50) (v := mm_I (-1)) C.1 C.2.1 dX11_waits_50 rfl ?_
              exact g_iret (pc := 51) C w hr hk hw dX11_waits_51
theorem lk_X11_109 : Cond.fieldLink RX11 109 "LastServedModel" "freeAt" "[I" ∈ mm_ws := (mt_6 20 rfl rfl)
theorem ff_X11_56 : mm_F 11 56 1 RX11 TX11 65 := ⟨rfl, by decide, fk_X11, rfl, rfl⟩
theorem ro_X11_56 {i : Nat} (h : mm_ok i 21 0) : mm_ok (mm_rt i 56) 0 256 := by
  have q : ∀ i, i < mm_N → mm_kd i = 21 → mm_rt i 56 < mm_N ∧ mm_kd (mm_rt i 56) = 0 ∧ mm_ln (mm_rt i 56) = 256 := by decide +kernel
  exact q i h.1 h.2.1
theorem lk_X11_112 : Cond.fieldLink RX11 112 "LastServedModel" "follow" "[J" ∈ mm_ws := (mt_6 21 rfl rfl)
theorem ff_X11_57 : mm_F 11 57 1 RX11 TX11 65 := ⟨rfl, by decide, fk_X11, rfl, rfl⟩
theorem ro_X11_57 {i : Nat} (h : mm_ok i 21 0) : mm_ok (mm_rt i 57) 3 256 := by
  have q : ∀ i, i < mm_N → mm_kd i = 21 → mm_rt i 57 < mm_N ∧ mm_kd (mm_rt i 57) = 3 ∧ mm_ln (mm_rt i 57) = 256 := by decide +kernel
  exact q i h.1 h.2.1
def wp_X11_lot (this : Nat) (s0 : mm_M) (post : Int → mm_M → Prop) : Prop :=
  ∀ (L20 : Int → Int → mm_M → Prop), ∀ (L47 : Int → Int → mm_M → Prop), ∀ (L80 : Int → Int → Int → Int → mm_M → Prop), ∀ (L142 : Int → mm_M → Prop), ∀ (L177 : Int → Int → Int → Int → mm_M → Prop), 
  (∀ (v1 : Int) (v2 : Int) (s1 : mm_M), ((n32 v1 < n32 v2 → (∀ s_3 : mm_M, s_3 = mm_up s1 (mm_rt this 56) 0 0 → L47 v1 0 s_3)) ∧ (¬ n32 v1 < n32 v2 → ((0 ≤ v2 ∧ v2 < 256) ∧ (∀ s_5 : mm_M, s_5 = mm_up s1 (mm_rt this 56) v2 (-1) → (∀ v2_6 : Int, v2_6 = v2 + 1 → L20 v1 v2_6 s_5))))) → L20 v1 v2 s1) →
  (∀ (v1 : Int) (v2 : Int) (s1 : mm_M), ((n32 v1 ≤ n32 v2 → ((0 ≤ v1 ∧ v1 < 256) ∧ (∀ s_7 : mm_M, s_7 = mm_up s1 (mm_rt this 57) v1 0 → (∀ v2_8 : Int, v2_8 = v1 - 1 → L142 v2_8 s_7)))) ∧ (¬ n32 v1 ≤ n32 v2 → ((0 ≤ v2 ∧ v2 < 256) ∧ ((¬ n32 (s1 (mm_rt this 56) v2) = (-1) → ((0 ≤ v2 ∧ v2 < 256) ∧ (wp_X11_nextMinute this v2 (s1 (mm_rt this 56) v2) s1 (fun r_10 s_9 => (∀ v3_11 : Int, v3_11 = r_10 → L80 v1 v2 v3_11 0 s_9))))) ∧ (n32 (s1 (mm_rt this 56) v2) = (-1) → (∀ v2_13 : Int, v2_13 = v2 + 1 → L47 v1 v2_13 s1)))))) → L47 v1 v2 s1) →
  (∀ (v1 : Int) (v2 : Int) (v3 : Int) (v4 : Int) (s1 : mm_M), ((n32 (s1 this 51) ≤ n32 v4 → (∀ v2_20 : Int, v2_20 = v2 + 1 → L47 v1 v2_20 s1)) ∧ (¬ n32 (s1 this 51) ≤ n32 v4 → ((0 ≤ v4 ∧ v4 < 8) ∧ ((0 ≤ v4 ∧ v4 < 8) ∧ ((0 ≤ s1 (mm_rt this 50) v4 ∧ s1 (mm_rt this 50) v4 < 8) ∧ ((0 ≤ mm_or v2 (mm_shl 1 (s1 (mm_rt this 50) v4)) ∧ mm_or v2 (mm_shl 1 (s1 (mm_rt this 50) v4)) < 256) ∧ (∀ s_21 : mm_M, s_21 = mm_up s1 (mm_rt this 56) (mm_or v2 (mm_shl 1 (s1 (mm_rt this 50) v4))) (v3 + (s1 (mm_rt this 40) (s1 (mm_rt this 50) v4))) → (∀ v4_22 : Int, v4_22 = v4 + 1 → L80 v1 v2 v3 v4_22 s_21)))))))) → L80 v1 v2 v3 v4 s1) →
  (∀ (v2 : Int) (s1 : mm_M), ((n32 v2 < 0 → post (s1 (mm_rt this 57) 0) s1) ∧ (¬ n32 v2 < 0 → ((0 ≤ v2 ∧ v2 < 256) ∧ ((¬ n32 (s1 (mm_rt this 56) v2) = (-1) → ((0 ≤ v2 ∧ v2 < 256) ∧ (wp_X11_nextMinute this v2 (s1 (mm_rt this 56) v2) s1 (fun r_15 s_14 => (∀ v3_16 : Int, v3_16 = r_15 → L177 v2 v3_16 0 0 s_14))))) ∧ (n32 (s1 (mm_rt this 56) v2) = (-1) → (∀ v2_19 : Int, v2_19 = v2 + (-1) → L142 v2_19 s1)))))) → L142 v2 s1) →
  (∀ (v2 : Int) (v3 : Int) (v4 : Int) (v6 : Int) (s1 : mm_M), ((n32 (s1 this 51) ≤ n32 v6 → (n64 (n32 (s1 this 51)) ≠ 0 ∧ ((0 ≤ v2 ∧ v2 < 256) ∧ (∀ s_23 : mm_M, s_23 = mm_up s1 (mm_rt this 57) v2 (Int.tdiv (n64 v4) (n64 (n32 (s1 this 51)))) → (∀ v2_24 : Int, v2_24 = v2 + (-1) → L142 v2_24 s_23))))) ∧ (¬ n32 (s1 this 51) ≤ n32 v6 → ((0 ≤ v6 ∧ v6 < 8) ∧ ((0 ≤ s1 (mm_rt this 50) v6 ∧ s1 (mm_rt this 50) v6 < 8) ∧ ((0 ≤ v6 ∧ v6 < 8) ∧ ((0 ≤ mm_or v2 (mm_shl 1 (s1 (mm_rt this 50) v6)) ∧ mm_or v2 (mm_shl 1 (s1 (mm_rt this 50) v6)) < 256) ∧ (∀ v4_25 : Int, v4_25 = v4 + ((n32 (1000 * (v3 - (s1 (mm_rt this 39) (s1 (mm_rt this 50) v6))))) + (s1 (mm_rt this 57) (mm_or v2 (mm_shl 1 (s1 (mm_rt this 50) v6))))) → (∀ v6_26 : Int, v6_26 = v6 + 1 → L177 v2 v3 v4_25 v6_26 s1)))))))) → L177 v2 v3 v4 v6 s1) →
  ((¬ n32 (s0 this 38) = 0 → (∀ v1_1 : Int, v1_1 = (mm_shl 1 (s0 this 38)) - 1 → L20 v1_1 0 s0)) ∧ (n32 (s0 this 38) = 0 → post (-1) s0))
set_option maxRecDepth 100000 in
set_option maxHeartbeats 4000000 in
theorem c_X11_lot (l : Launch) (G : mm_G) (this : Nat) (h0 : mm_ok this 21 0) (s0 : mm_M) (post : Int → mm_M → Prop) (hw : wp_X11_lot this s0 post) : Met l yX11_lot (mm_wm yX11_lot cX11_lot 7 (some .int)) (mm_rm 3) (va_Pc [.ref (mm_ad G this)] (mm_pre G s0)) (mm_Qi G post) 0 0 (mm_A G) := by
  refine mm_met (own := RX11) (by decide) rfl (Nat.le_of_ble_eq_true rfl) ?_
  intro p e s m args below meth c C hr hk
  unfold wp_X11_lot at hw
  have hw := hw (fun (v1 : Int) (v2 : Int) (u : mm_M) => mm_X p l e (mm_rm 3) s m args below meth c (MQ below (mm_Qi G post) args s 0 0 (mm_A G)) G (mm_A G) 7 20 [(0, .ref (mm_ad G this)), (1, .int (mm_I v1)), (2, .int (mm_I v2))] [] u)
  have hw := hw (fun (v1 : Int) (v2 : Int) (u : mm_M) => mm_X p l e (mm_rm 3) s m args below meth c (MQ below (mm_Qi G post) args s 0 0 (mm_A G)) G (mm_A G) 7 47 [(0, .ref (mm_ad G this)), (1, .int (mm_I v1)), (2, .int (mm_I v2))] [] u)
  have hw := hw (fun (v1 : Int) (v2 : Int) (v3 : Int) (v4 : Int) (u : mm_M) => mm_X p l e (mm_rm 3) s m args below meth c (MQ below (mm_Qi G post) args s 0 0 (mm_A G)) G (mm_A G) 7 80 [(0, .ref (mm_ad G this)), (1, .int (mm_I v1)), (2, .int (mm_I v2)), (3, .int (mm_I v3)), (4, .int (mm_I v4))] [] u)
  have hw := hw (fun (v2 : Int) (u : mm_M) => mm_X p l e (mm_rm 3) s m args below meth c (MQ below (mm_Qi G post) args s 0 0 (mm_A G)) G (mm_A G) 7 142 [(0, .ref (mm_ad G this)), (2, .int (mm_I v2))] [] u)
  have hw := hw (fun (v2 : Int) (v3 : Int) (v4 : Int) (v6 : Int) (u : mm_M) => mm_X p l e (mm_rm 3) s m args below meth c (MQ below (mm_Qi G post) args s 0 0 (mm_A G)) G (mm_A G) 7 177 [(0, .ref (mm_ad G this)), (2, .int (mm_I v2)), (3, .int (mm_I v3)), (4, .long (mm_L v4)), (6, .int (mm_I v6))] [] u)
  have hw := hw (by
    intro v1 v2 s1 hw  H locs ls w hl
    refine lv_iload_n (pc := 20) C.1 C.2.1 dX11_lot_20 rfl (lv_at hl 2 rfl) ?_
    refine lv_iload_n (pc := 21) C.1 C.2.1 dX11_lot_21 rfl (lv_at hl 1 rfl) ?_
    refine g_icmp_gt (pc := 22) (tgt := 38) C rfl rfl dX11_lot_22 (by decide) (fun hc => ?_) (fun hc => ?_)
    · have hw := hw.1 hc
      refine lv_aload_n (pc := 38) C.1 C.2.1 dX11_lot_38 rfl (lv_at hl 0 rfl) ?_
      refine g_getr (pc := 39) C w h0 ff_X11_56 lk_X11_109 dX11_lot_39 ?_
      refine lv_iconst (pc := 42) (v := mm_I 0) C.1 C.2.1 dX11_lot_42 rfl ?_
      refine lv_iconst (pc := 43) (v := mm_I 0) C.1 C.2.1 dX11_lot_43 rfl ?_
      refine g_iast (pc := 44) C w (ro_X11_56 h0) ⟨by decide, by decide⟩  dX11_lot_44 (fun s_3 H locs es_3 w => ?_)
      have hw := hw s_3 es_3
      refine lv_iconst (pc := 45) (v := mm_I 0) C.1 C.2.1 dX11_lot_45 rfl ?_
      refine lv_istore_n (pc := 46) (lv' := [(2, .int (mm_I 0)), (0, .ref (mm_ad G this)), (1, .int (mm_I v1))]) C.1 C.2.1 dX11_lot_46 rfl hl (by decide) rfl (fun ls hl => ?_)
      exact hw  _ _ _ w (lv_sub hl [1, 2, 0] rfl)
    · have hw := hw.2 hc
      refine lv_aload_n (pc := 25) C.1 C.2.1 dX11_lot_25 rfl (lv_at hl 0 rfl) ?_
      refine g_getr (pc := 26) C w h0 ff_X11_56 lk_X11_109 dX11_lot_26 ?_
      refine lv_iload_n (pc := 29) C.1 C.2.1 dX11_lot_29 rfl (lv_at hl 2 rfl) ?_
      refine lv_iconst (pc := 30) (v := mm_I (-1)) C.1 C.2.1 dX11_lot_30 rfl ?_
      obtain ⟨hi, hw⟩ := hw
      refine g_iast (pc := 31) C w (ro_X11_56 h0) hi  dX11_lot_31 (fun s_5 H locs es_5 w => ?_)
      have hw := hw s_5 es_5
      refine g_iinc (pc := 32) (k := 2) C dX11_lot_32 hl rfl (by decide) (fun v2_6 ev2_6 ls hl => ?_)
      have hw := hw v2_6 ev2_6
      have hl : lv_has ls 7 [(2, .int (mm_I v2_6)), (0, .ref (mm_ad G this)), (1, .int (mm_I v1))] := hl
      refine lv_goto (pc := 35) (tgt := 20) C.1 C.2.1 dX11_lot_35 (by decide) ?_
      exact hw  _ _ _ w (lv_sub hl [1, 2, 0] rfl))
  have hw := hw (by
    intro v1 v2 s1 hw  H locs ls w hl
    refine lv_iload_n (pc := 47) C.1 C.2.1 dX11_lot_47 rfl (lv_at hl 2 rfl) ?_
    refine lv_iload_n (pc := 48) C.1 C.2.1 dX11_lot_48 rfl (lv_at hl 1 rfl) ?_
    refine g_icmp_ge (pc := 49) (tgt := 131) C rfl rfl dX11_lot_49 (by decide) (fun hc => ?_) (fun hc => ?_)
    · have hw := hw.1 hc
      refine lv_aload_n (pc := 131) C.1 C.2.1 dX11_lot_131 rfl (lv_at hl 0 rfl) ?_
      refine g_getr (pc := 132) C w h0 ff_X11_57 lk_X11_112 dX11_lot_132 ?_
      refine lv_iload_n (pc := 135) C.1 C.2.1 dX11_lot_135 rfl (lv_at hl 1 rfl) ?_
      refine lv_lconst (pc := 136) (v := mm_L 0) C.1 C.2.1 dX11_lot_136 rfl ?_
      obtain ⟨hi, hw⟩ := hw
      refine g_last (pc := 137) C w (ro_X11_57 h0) hi  dX11_lot_137 (fun s_7 H locs es_7 w => ?_)
      have hw := hw s_7 es_7
      refine lv_iload_n (pc := 138) C.1 C.2.1 dX11_lot_138 rfl (lv_at hl 1 rfl) ?_
      refine lv_iconst (pc := 139) (v := mm_I 1) C.1 C.2.1 dX11_lot_139 rfl ?_
      refine g_isub (pc := 140) C dX11_lot_140 ?_
      refine g_istore_n (pc := 141) C dX11_lot_141 rfl hl (by decide) (fun v2_8 ev2_8 ls hl => ?_)
      have hw := hw v2_8 ev2_8
      have hl : lv_has ls 7 [(2, .int (mm_I v2_8)), (0, .ref (mm_ad G this)), (1, .int (mm_I v1))] := hl
      exact hw  _ _ _ w (lv_sub hl [1, 0] rfl)
    · have hw := hw.2 hc
      refine lv_aload_n (pc := 52) C.1 C.2.1 dX11_lot_52 rfl (lv_at hl 0 rfl) ?_
      refine g_getr (pc := 53) C w h0 ff_X11_56 lk_X11_109 dX11_lot_53 ?_
      refine lv_iload_n (pc := 56) C.1 C.2.1 dX11_lot_56 rfl (lv_at hl 2 rfl) ?_
      obtain ⟨hi, hw⟩ := hw
      refine g_iald (pc := 57) C w (ro_X11_56 h0) hi dX11_lot_57 ?_
      refine lv_iconst (pc := 58) (v := mm_I (-1)) C.1 C.2.1 dX11_lot_58 rfl ?_
      refine g_icmp_ne (pc := 59) (tgt := 65) C rfl mn_m1 dX11_lot_59 (by decide) (fun hc => ?_) (fun hc => ?_)
      · have hw := hw.1 hc
        refine lv_aload_n (pc := 65) C.1 C.2.1 dX11_lot_65 rfl (lv_at hl 0 rfl) ?_
        refine lv_iload_n (pc := 66) C.1 C.2.1 dX11_lot_66 rfl (lv_at hl 2 rfl) ?_
        refine lv_aload_n (pc := 67) C.1 C.2.1 dX11_lot_67 rfl (lv_at hl 0 rfl) ?_
        refine g_getr (pc := 68) C w h0 ff_X11_56 lk_X11_109 dX11_lot_68 ?_
        refine lv_iload_n (pc := 71) C.1 C.2.1 dX11_lot_71 rfl (lv_at hl 2 rfl) ?_
        obtain ⟨hi, hw⟩ := hw
        refine g_iald (pc := 72) C w (ro_X11_56 h0) hi dX11_lot_72 ?_
        refine g_calli (pc := 73) w (mm_runV (ci := 11) (q := (RX11, TX11, 65)) (As := [.int (mm_I v2), .int (mm_I (s1 (mm_rt this 56) v2))]) (rest := []) C w (c_X11_nextMinute l G this v2 (s1 (mm_rt this 56) v2) h0 s1 _ hw) h0 rfl rfl cv_X11_nextMinute ml_X11_424 ⟨Nat.le_of_ble_eq_true rfl, Nat.le_of_ble_eq_true rfl⟩ ⟨Nat.le_of_ble_eq_true rfl, Nat.le_of_ble_eq_true rfl⟩ rfl hl.1 rfl (Nat.le_of_ble_eq_true rfl) dX11_lot_73) (fun r_10 s_9 H locs hw w => ?_)
        refine g_istore_n (pc := 76) C dX11_lot_76 rfl hl (by decide) (fun v3_11 ev3_11 ls hl => ?_)
        have hw := hw v3_11 ev3_11
        have hl : lv_has ls 7 [(3, .int (mm_I v3_11)), (0, .ref (mm_ad G this)), (1, .int (mm_I v1)), (2, .int (mm_I v2))] := hl
        refine lv_iconst (pc := 77) (v := mm_I 0) C.1 C.2.1 dX11_lot_77 rfl ?_
        refine lv_istore (pc := 78) (lv' := [(4, .int (mm_I 0)), (3, .int (mm_I v3_11)), (0, .ref (mm_ad G this)), (1, .int (mm_I v1)), (2, .int (mm_I v2))]) C.1 C.2.1 dX11_lot_78 hl (by decide) rfl (fun ls hl => ?_)
        exact hw  _ _ _ w (lv_sub hl [2, 3, 4, 1, 0] rfl)
      · have hw := hw.2 hc
        refine lv_goto (pc := 62) (tgt := 125) C.1 C.2.1 dX11_lot_62 (by decide) ?_
        refine g_iinc (pc := 125) (k := 2) C dX11_lot_125 hl rfl (by decide) (fun v2_13 ev2_13 ls hl => ?_)
        have hw := hw v2_13 ev2_13
        have hl : lv_has ls 7 [(2, .int (mm_I v2_13)), (0, .ref (mm_ad G this)), (1, .int (mm_I v1))] := hl
        refine lv_goto (pc := 128) (tgt := 47) C.1 C.2.1 dX11_lot_128 (by decide) ?_
        exact hw  _ _ _ w (lv_sub hl [1, 2, 0] rfl))
  have hw := hw (by
    intro v1 v2 v3 v4 s1 hw  H locs ls w hl
    refine lv_iload (pc := 80) C.1 C.2.1 dX11_lot_80 (lv_at hl 4 rfl) ?_
    refine lv_aload_n (pc := 82) C.1 C.2.1 dX11_lot_82 rfl (lv_at hl 0 rfl) ?_
    refine g_geti (pc := 83) C w h0 ff_X11_51 lk_X11_412 dX11_lot_83 ?_
    refine g_icmp_ge (pc := 86) (tgt := 125) C rfl rfl dX11_lot_86 (by decide) (fun hc => ?_) (fun hc => ?_)
    · have hw := hw.1 hc
      refine g_iinc (pc := 125) (k := 2) C dX11_lot_125 hl rfl (by decide) (fun v2_20 ev2_20 ls hl => ?_)
      have hw := hw v2_20 ev2_20
      have hl : lv_has ls 7 [(2, .int (mm_I v2_20)), (0, .ref (mm_ad G this)), (1, .int (mm_I v1)), (3, .int (mm_I v3)), (4, .int (mm_I v4))] := hl
      refine lv_goto (pc := 128) (tgt := 47) C.1 C.2.1 dX11_lot_128 (by decide) ?_
      exact hw  _ _ _ w (lv_sub hl [1, 2, 0] rfl)
    · have hw := hw.2 hc
      refine lv_aload_n (pc := 89) C.1 C.2.1 dX11_lot_89 rfl (lv_at hl 0 rfl) ?_
      refine g_getr (pc := 90) C w h0 ff_X11_56 lk_X11_109 dX11_lot_90 ?_
      refine lv_iload_n (pc := 93) C.1 C.2.1 dX11_lot_93 rfl (lv_at hl 2 rfl) ?_
      refine lv_iconst (pc := 94) (v := mm_I 1) C.1 C.2.1 dX11_lot_94 rfl ?_
      refine lv_aload_n (pc := 95) C.1 C.2.1 dX11_lot_95 rfl (lv_at hl 0 rfl) ?_
      refine g_getr (pc := 96) C w h0 ff_X11_50 lk_X11_100 dX11_lot_96 ?_
      refine lv_iload (pc := 99) C.1 C.2.1 dX11_lot_99 (lv_at hl 4 rfl) ?_
      obtain ⟨hi, hw⟩ := hw
      refine g_iald (pc := 101) C w (ro_X11_50 h0) hi dX11_lot_101 ?_
      refine g_ishl (pc := 102) C dX11_lot_102 ?_
      refine g_ior (pc := 103) C dX11_lot_103 ?_
      refine lv_iload_n (pc := 104) C.1 C.2.1 dX11_lot_104 rfl (lv_at hl 3 rfl) ?_
      refine lv_aload_n (pc := 105) C.1 C.2.1 dX11_lot_105 rfl (lv_at hl 0 rfl) ?_
      refine g_getr (pc := 106) C w h0 ff_X11_40 lk_X11_76 dX11_lot_106 ?_
      refine lv_aload_n (pc := 109) C.1 C.2.1 dX11_lot_109 rfl (lv_at hl 0 rfl) ?_
      refine g_getr (pc := 110) C w h0 ff_X11_50 lk_X11_100 dX11_lot_110 ?_
      refine lv_iload (pc := 113) C.1 C.2.1 dX11_lot_113 (lv_at hl 4 rfl) ?_
      obtain ⟨hi, hw⟩ := hw
      refine g_iald (pc := 115) C w (ro_X11_50 h0) hi dX11_lot_115 ?_
      obtain ⟨hi, hw⟩ := hw
      refine g_iald (pc := 116) C w (ro_X11_40 h0) hi dX11_lot_116 ?_
      refine g_iadd (pc := 117) C dX11_lot_117 ?_
      obtain ⟨hi, hw⟩ := hw
      refine g_iast (pc := 118) C w (ro_X11_56 h0) hi  dX11_lot_118 (fun s_21 H locs es_21 w => ?_)
      have hw := hw s_21 es_21
      refine g_iinc (pc := 119) (k := 4) C dX11_lot_119 hl rfl (by decide) (fun v4_22 ev4_22 ls hl => ?_)
      have hw := hw v4_22 ev4_22
      have hl : lv_has ls 7 [(4, .int (mm_I v4_22)), (0, .ref (mm_ad G this)), (1, .int (mm_I v1)), (2, .int (mm_I v2)), (3, .int (mm_I v3))] := hl
      refine lv_goto (pc := 122) (tgt := 80) C.1 C.2.1 dX11_lot_122 (by decide) ?_
      exact hw  _ _ _ w (lv_sub hl [1, 2, 3, 4, 0] rfl))
  have hw := hw (by
    intro v2 s1 hw  H locs ls w hl
    refine lv_iload_n (pc := 142) C.1 C.2.1 dX11_lot_142 rfl (lv_at hl 1 rfl) ?_
    refine g_if_lt (pc := 143) (tgt := 253) C rfl dX11_lot_143 (by decide) (fun hc => ?_) (fun hc => ?_)
    · have hw := hw.1 hc
      refine lv_aload_n (pc := 253) C.1 C.2.1 dX11_lot_253 rfl (lv_at hl 0 rfl) ?_
      refine g_getr (pc := 254) C w h0 ff_X11_57 lk_X11_112 dX11_lot_254 ?_
      refine lv_iconst (pc := 257) (v := mm_I 0) C.1 C.2.1 dX11_lot_257 rfl ?_
      refine g_lald (pc := 258) C w (ro_X11_57 h0) ⟨by decide, by decide⟩ dX11_lot_258 ?_
      refine g_l2i (pc := 259) C dX11_lot_259 ?_
      exact g_iret (pc := 260) C w hr hk hw dX11_lot_260
    · have hw := hw.2 hc
      refine lv_aload_n (pc := 146) C.1 C.2.1 dX11_lot_146 rfl (lv_at hl 0 rfl) ?_
      refine g_getr (pc := 147) C w h0 ff_X11_56 lk_X11_109 dX11_lot_147 ?_
      refine lv_iload_n (pc := 150) C.1 C.2.1 dX11_lot_150 rfl (lv_at hl 1 rfl) ?_
      obtain ⟨hi, hw⟩ := hw
      refine g_iald (pc := 151) C w (ro_X11_56 h0) hi dX11_lot_151 ?_
      refine lv_iconst (pc := 152) (v := mm_I (-1)) C.1 C.2.1 dX11_lot_152 rfl ?_
      refine g_icmp_ne (pc := 153) (tgt := 159) C rfl mn_m1 dX11_lot_153 (by decide) (fun hc => ?_) (fun hc => ?_)
      · have hw := hw.1 hc
        refine lv_aload_n (pc := 159) C.1 C.2.1 dX11_lot_159 rfl (lv_at hl 0 rfl) ?_
        refine lv_iload_n (pc := 160) C.1 C.2.1 dX11_lot_160 rfl (lv_at hl 1 rfl) ?_
        refine lv_aload_n (pc := 161) C.1 C.2.1 dX11_lot_161 rfl (lv_at hl 0 rfl) ?_
        refine g_getr (pc := 162) C w h0 ff_X11_56 lk_X11_109 dX11_lot_162 ?_
        refine lv_iload_n (pc := 165) C.1 C.2.1 dX11_lot_165 rfl (lv_at hl 1 rfl) ?_
        obtain ⟨hi, hw⟩ := hw
        refine g_iald (pc := 166) C w (ro_X11_56 h0) hi dX11_lot_166 ?_
        refine g_calli (pc := 167) w (mm_runV (ci := 11) (q := (RX11, TX11, 65)) (As := [.int (mm_I v2), .int (mm_I (s1 (mm_rt this 56) v2))]) (rest := []) C w (c_X11_nextMinute l G this v2 (s1 (mm_rt this 56) v2) h0 s1 _ hw) h0 rfl rfl cv_X11_nextMinute ml_X11_424 ⟨Nat.le_of_ble_eq_true rfl, Nat.le_of_ble_eq_true rfl⟩ ⟨Nat.le_of_ble_eq_true rfl, Nat.le_of_ble_eq_true rfl⟩ rfl hl.1 rfl (Nat.le_of_ble_eq_true rfl) dX11_lot_167) (fun r_15 s_14 H locs hw w => ?_)
        refine g_istore_n (pc := 170) C dX11_lot_170 rfl hl (by decide) (fun v3_16 ev3_16 ls hl => ?_)
        have hw := hw v3_16 ev3_16
        have hl : lv_has ls 7 [(3, .int (mm_I v3_16)), (0, .ref (mm_ad G this)), (2, .int (mm_I v2))] := hl
        refine lv_lconst (pc := 171) (v := mm_L 0) C.1 C.2.1 dX11_lot_171 rfl ?_
        refine lv_lstore (pc := 172) (lv' := [(4, .long (mm_L 0)), (3, .int (mm_I v3_16)), (0, .ref (mm_ad G this)), (2, .int (mm_I v2))]) C.1 C.2.1 dX11_lot_172 hl (by decide) rfl (fun ls hl => ?_)
        refine lv_iconst (pc := 174) (v := mm_I 0) C.1 C.2.1 dX11_lot_174 rfl ?_
        refine lv_istore (pc := 175) (lv' := [(6, .int (mm_I 0)), (4, .long (mm_L 0)), (3, .int (mm_I v3_16)), (0, .ref (mm_ad G this)), (2, .int (mm_I v2))]) C.1 C.2.1 dX11_lot_175 hl (by decide) rfl (fun ls hl => ?_)
        exact hw  _ _ _ w (lv_sub hl [3, 4, 2, 1, 0] rfl)
      · have hw := hw.2 hc
        refine lv_goto (pc := 156) (tgt := 247) C.1 C.2.1 dX11_lot_156 (by decide) ?_
        refine g_iinc (pc := 247) (k := 1) C dX11_lot_247 hl rfl (by decide) (fun v2_19 ev2_19 ls hl => ?_)
        have hw := hw v2_19 ev2_19
        have hl : lv_has ls 7 [(2, .int (mm_I v2_19)), (0, .ref (mm_ad G this))] := hl
        refine lv_goto (pc := 250) (tgt := 142) C.1 C.2.1 dX11_lot_250 (by decide) ?_
        exact hw  _ _ _ w (lv_sub hl [1, 0] rfl))
  have hw := hw (by
    intro v2 v3 v4 v6 s1 hw  H locs ls w hl
    refine lv_iload (pc := 177) C.1 C.2.1 dX11_lot_177 (lv_at hl 4 rfl) ?_
    refine lv_aload_n (pc := 179) C.1 C.2.1 dX11_lot_179 rfl (lv_at hl 0 rfl) ?_
    refine g_geti (pc := 180) C w h0 ff_X11_51 lk_X11_412 dX11_lot_180 ?_
    refine g_icmp_ge (pc := 183) (tgt := 233) C rfl rfl dX11_lot_183 (by decide) (fun hc => ?_) (fun hc => ?_)
    · have hw := hw.1 hc
      refine lv_aload_n (pc := 233) C.1 C.2.1 dX11_lot_233 rfl (lv_at hl 0 rfl) ?_
      refine g_getr (pc := 234) C w h0 ff_X11_57 lk_X11_112 dX11_lot_234 ?_
      refine lv_iload_n (pc := 237) C.1 C.2.1 dX11_lot_237 rfl (lv_at hl 1 rfl) ?_
      refine lv_lload (pc := 238) C.1 C.2.1 dX11_lot_238 (lv_at hl 3 rfl) ?_
      refine lv_aload_n (pc := 240) C.1 C.2.1 dX11_lot_240 rfl (lv_at hl 0 rfl) ?_
      refine g_geti (pc := 241) C w h0 ff_X11_51 lk_X11_412 dX11_lot_241 ?_
      refine g_i2l (pc := 244) C rfl dX11_lot_244 ?_
      obtain ⟨hz, hw⟩ := hw
      refine g_ldiv (pc := 245) C hz dX11_lot_245 ?_
      obtain ⟨hi, hw⟩ := hw
      refine g_last (pc := 246) C w (ro_X11_57 h0) hi  dX11_lot_246 (fun s_23 H locs es_23 w => ?_)
      have hw := hw s_23 es_23
      refine g_iinc (pc := 247) (k := 1) C dX11_lot_247 hl rfl (by decide) (fun v2_24 ev2_24 ls hl => ?_)
      have hw := hw v2_24 ev2_24
      have hl : lv_has ls 7 [(2, .int (mm_I v2_24)), (0, .ref (mm_ad G this)), (3, .int (mm_I v3)), (4, .long (mm_L v4)), (6, .int (mm_I v6))] := hl
      refine lv_goto (pc := 250) (tgt := 142) C.1 C.2.1 dX11_lot_250 (by decide) ?_
      exact hw  _ _ _ w (lv_sub hl [1, 0] rfl)
    · have hw := hw.2 hc
      refine lv_lload (pc := 186) C.1 C.2.1 dX11_lot_186 (lv_at hl 3 rfl) ?_
      refine lv_sipush (pc := 188) C.1 C.2.1 dX11_lot_188 ms_1000 ?_
      refine lv_iload_n (pc := 191) C.1 C.2.1 dX11_lot_191 rfl (lv_at hl 2 rfl) ?_
      refine lv_aload_n (pc := 192) C.1 C.2.1 dX11_lot_192 rfl (lv_at hl 0 rfl) ?_
      refine g_getr (pc := 193) C w h0 ff_X11_39 lk_X11_73 dX11_lot_193 ?_
      refine lv_aload_n (pc := 196) C.1 C.2.1 dX11_lot_196 rfl (lv_at hl 0 rfl) ?_
      refine g_getr (pc := 197) C w h0 ff_X11_50 lk_X11_100 dX11_lot_197 ?_
      refine lv_iload (pc := 200) C.1 C.2.1 dX11_lot_200 (lv_at hl 4 rfl) ?_
      obtain ⟨hi, hw⟩ := hw
      refine g_iald (pc := 202) C w (ro_X11_50 h0) hi dX11_lot_202 ?_
      obtain ⟨hi, hw⟩ := hw
      refine g_iald (pc := 203) C w (ro_X11_39 h0) hi dX11_lot_203 ?_
      refine g_isub (pc := 204) C dX11_lot_204 ?_
      refine g_imul (pc := 205) C dX11_lot_205 ?_
      refine g_i2l (pc := 206) C rfl dX11_lot_206 ?_
      refine lv_aload_n (pc := 207) C.1 C.2.1 dX11_lot_207 rfl (lv_at hl 0 rfl) ?_
      refine g_getr (pc := 208) C w h0 ff_X11_57 lk_X11_112 dX11_lot_208 ?_
      refine lv_iload_n (pc := 211) C.1 C.2.1 dX11_lot_211 rfl (lv_at hl 1 rfl) ?_
      refine lv_iconst (pc := 212) (v := mm_I 1) C.1 C.2.1 dX11_lot_212 rfl ?_
      refine lv_aload_n (pc := 213) C.1 C.2.1 dX11_lot_213 rfl (lv_at hl 0 rfl) ?_
      refine g_getr (pc := 214) C w h0 ff_X11_50 lk_X11_100 dX11_lot_214 ?_
      refine lv_iload (pc := 217) C.1 C.2.1 dX11_lot_217 (lv_at hl 4 rfl) ?_
      obtain ⟨hi, hw⟩ := hw
      refine g_iald (pc := 219) C w (ro_X11_50 h0) hi dX11_lot_219 ?_
      refine g_ishl (pc := 220) C dX11_lot_220 ?_
      refine g_ior (pc := 221) C dX11_lot_221 ?_
      obtain ⟨hi, hw⟩ := hw
      refine g_lald (pc := 222) C w (ro_X11_57 h0) hi dX11_lot_222 ?_
      refine g_ladd (pc := 223) C dX11_lot_223 ?_
      refine g_ladd (pc := 224) C dX11_lot_224 ?_
      refine g_lstore (pc := 225) C dX11_lot_225 hl (by decide) (fun v4_25 ev4_25 ls hl => ?_)
      have hw := hw v4_25 ev4_25
      have hl : lv_has ls 7 [(4, .long (mm_L v4_25)), (0, .ref (mm_ad G this)), (2, .int (mm_I v2)), (3, .int (mm_I v3)), (6, .int (mm_I v6))] := hl
      refine g_iinc (pc := 227) (k := 4) C dX11_lot_227 hl rfl (by decide) (fun v6_26 ev6_26 ls hl => ?_)
      have hw := hw v6_26 ev6_26
      have hl : lv_has ls 7 [(6, .int (mm_I v6_26)), (4, .long (mm_L v4_25)), (0, .ref (mm_ad G this)), (2, .int (mm_I v2)), (3, .int (mm_I v3))] := hl
      refine lv_goto (pc := 230) (tgt := 177) C.1 C.2.1 dX11_lot_230 (by decide) ?_
      exact hw  _ _ _ w (lv_sub hl [2, 3, 4, 1, 0] rfl))
  intro H locs ls w hl
  have hl : lv_has ls 7 [(0, .ref (mm_ad G this))] := hl
  refine lv_aload_n (pc := 0) C.1 C.2.1 dX11_lot_0 rfl (lv_at hl 0 rfl) ?_
  refine g_geti (pc := 1) C w h0 ff_X11_38 lk_X11_409 dX11_lot_1 ?_
  refine g_if_ne (pc := 4) (tgt := 9) C rfl dX11_lot_4 (by decide) (fun hc => ?_) (fun hc => ?_)
  · have hw := hw.1 hc
    refine lv_iconst (pc := 9) (v := mm_I 1) C.1 C.2.1 dX11_lot_9 rfl ?_
    refine lv_aload_n (pc := 10) C.1 C.2.1 dX11_lot_10 rfl (lv_at hl 0 rfl) ?_
    refine g_geti (pc := 11) C w h0 ff_X11_38 lk_X11_409 dX11_lot_11 ?_
    refine g_ishl (pc := 14) C dX11_lot_14 ?_
    refine lv_iconst (pc := 15) (v := mm_I 1) C.1 C.2.1 dX11_lot_15 rfl ?_
    refine g_isub (pc := 16) C dX11_lot_16 ?_
    refine g_istore_n (pc := 17) C dX11_lot_17 rfl hl (by decide) (fun v1_1 ev1_1 ls hl => ?_)
    have hw := hw v1_1 ev1_1
    have hl : lv_has ls 7 [(1, .int (mm_I v1_1)), (0, .ref (mm_ad G this))] := hl
    refine lv_iconst (pc := 18) (v := mm_I 0) C.1 C.2.1 dX11_lot_18 rfl ?_
    refine lv_istore_n (pc := 19) (lv' := [(2, .int (mm_I 0)), (1, .int (mm_I v1_1)), (0, .ref (mm_ad G this))]) C.1 C.2.1 dX11_lot_19 rfl hl (by decide) rfl (fun ls hl => ?_)
    exact hw  _ _ _ w (lv_sub hl [2, 1, 0] rfl)
  · have hw := hw.2 hc
    refine lv_iconst (pc := 7) (v := mm_I (-1)) C.1 C.2.1 dX11_lot_7 rfl ?_
    exact g_iret (pc := 8) C w hr hk hw dX11_lot_8
def wp_X11_best (this : Nat) (s0 : mm_M) (post : Int → mm_M → Prop) : Prop :=
  ∀ (L18 : Int → Int → Int → Int → mm_M → Prop), 
  (∀ (v1 : Int) (v2 : Int) (v3 : Int) (v4 : Int) (s1 : mm_M), ((n32 (4 + (s1 this 24)) ≤ n32 v4 → post v1 s1) ∧ (¬ n32 (4 + (s1 this 24)) ≤ n32 v4 → ((¬ n32 v4 = 3 → (wp_X11_runs this v4 s1 (fun s_5 => ((n32 v1 = (-1) → (∀ v1_7 : Int, v1_7 = v4 → (∀ v2_8 : Int, v2_8 = s_5 this 54 → (∀ v3_9 : Int, v3_9 = s_5 this 55 → (∀ v4_10 : Int, v4_10 = v4 + 1 → L18 v1_7 v2_8 v3_9 v4_10 s_5))))) ∧ (¬ n32 v1 = (-1) → ((n32 v2 < n32 (s_5 this 54) → (∀ v4_11 : Int, v4_11 = v4 + 1 → L18 v1 v2 v3 v4_11 s_5)) ∧ (¬ n32 v2 < n32 (s_5 this 54) → ((¬ n32 (s_5 this 54) = n32 v2 → (∀ v1_12 : Int, v1_12 = v4 → (∀ v2_13 : Int, v2_13 = s_5 this 54 → (∀ v3_14 : Int, v3_14 = s_5 this 55 → (∀ v4_15 : Int, v4_15 = v4 + 1 → L18 v1_12 v2_13 v3_14 v4_15 s_5))))) ∧ (n32 (s_5 this 54) = n32 v2 → ((n32 (s_5 this 55) < n32 v3 → (∀ v1_16 : Int, v1_16 = v4 → (∀ v2_17 : Int, v2_17 = s_5 this 54 → (∀ v3_18 : Int, v3_18 = s_5 this 55 → (∀ v4_19 : Int, v4_19 = v4 + 1 → L18 v1_16 v2_17 v3_18 v4_19 s_5))))) ∧ (¬ n32 (s_5 this 55) < n32 v3 → (∀ v4_20 : Int, v4_20 = v4 + 1 → L18 v1 v2 v3 v4_20 s_5)))))))))))) ∧ (n32 v4 = 3 → (∀ v4_21 : Int, v4_21 = v4 + 1 → L18 v1 v2 v3 v4_21 s1))))) → L18 v1 v2 v3 v4 s1) →
  ((¬ n32 (s0 this 38) = 0 → L18 (-1) 0 0 0 s0) ∧ (n32 (s0 this 38) = 0 → post (-1) s0))
set_option maxRecDepth 100000 in
set_option maxHeartbeats 4000000 in
theorem c_X11_best (l : Launch) (G : mm_G) (this : Nat) (h0 : mm_ok this 21 0) (s0 : mm_M) (post : Int → mm_M → Prop) (hw : wp_X11_best this s0 post) : Met l yX11_best (mm_wm yX11_best cX11_best 5 (some .int)) (mm_rm 5) (va_Pc [.ref (mm_ad G this)] (mm_pre G s0)) (mm_Qi G post) 0 0 (mm_A G) := by
  refine mm_met (own := RX11) (by decide) rfl (Nat.le_of_ble_eq_true rfl) ?_
  intro p e s m args below meth c C hr hk
  unfold wp_X11_best at hw
  have hw := hw (fun (v1 : Int) (v2 : Int) (v3 : Int) (v4 : Int) (u : mm_M) => mm_X p l e (mm_rm 5) s m args below meth c (MQ below (mm_Qi G post) args s 0 0 (mm_A G)) G (mm_A G) 5 18 [(0, .ref (mm_ad G this)), (1, .int (mm_I v1)), (2, .int (mm_I v2)), (3, .int (mm_I v3)), (4, .int (mm_I v4))] [] u)
  have hw := hw (by
    intro v1 v2 v3 v4 s1 hw  H locs ls w hl
    refine lv_iload (pc := 18) C.1 C.2.1 dX11_best_18 (lv_at hl 4 rfl) ?_
    refine lv_iconst (pc := 20) (v := mm_I 4) C.1 C.2.1 dX11_best_20 rfl ?_
    refine lv_aload_n (pc := 21) C.1 C.2.1 dX11_best_21 rfl (lv_at hl 0 rfl) ?_
    refine g_geti (pc := 22) C w h0 ff_X11_24 lk_X11_285 dX11_best_22 ?_
    refine g_iadd (pc := 25) C dX11_best_25 ?_
    refine g_icmp_ge (pc := 26) (tgt := 95) C rfl rfl dX11_best_26 (by decide) (fun hc => ?_) (fun hc => ?_)
    · have hw := hw.1 hc
      refine lv_iload_n (pc := 95) C.1 C.2.1 dX11_best_95 rfl (lv_at hl 1 rfl) ?_
      exact g_iret (pc := 96) C w hr hk hw dX11_best_96
    · have hw := hw.2 hc
      refine lv_iload (pc := 29) C.1 C.2.1 dX11_best_29 (lv_at hl 4 rfl) ?_
      refine lv_iconst (pc := 31) (v := mm_I 3) C.1 C.2.1 dX11_best_31 rfl ?_
      refine g_icmp_ne (pc := 32) (tgt := 38) C rfl mn_3 dX11_best_32 (by decide) (fun hc => ?_) (fun hc => ?_)
      · have hw := hw.1 hc
        refine lv_aload_n (pc := 38) C.1 C.2.1 dX11_best_38 rfl (lv_at hl 0 rfl) ?_
        refine lv_iload (pc := 39) C.1 C.2.1 dX11_best_39 (lv_at hl 4 rfl) ?_
        refine g_callv (pc := 41) w (mm_runV (ci := 11) (q := (RX11, TX11, 65)) (As := [.int (mm_I v4)]) (rest := []) C w (c_X11_runs l G this v4 h0 s1 _ hw) h0 rfl rfl cv_X11_runs ml_X11_430 ⟨Nat.le_of_ble_eq_true rfl, Nat.le_of_ble_eq_true rfl⟩ ⟨Nat.le_of_ble_eq_true rfl, Nat.le_of_ble_eq_true rfl⟩ rfl hl.1 rfl (Nat.le_of_ble_eq_true rfl) dX11_best_41) (fun s_5 H locs hw w => ?_)
        refine lv_iload_n (pc := 44) C.1 C.2.1 dX11_best_44 rfl (lv_at hl 1 rfl) ?_
        refine lv_iconst (pc := 45) (v := mm_I (-1)) C.1 C.2.1 dX11_best_45 rfl ?_
        refine g_icmp_eq (pc := 46) (tgt := 76) C rfl mn_m1 dX11_best_46 (by decide) (fun hc => ?_) (fun hc => ?_)
        · have hw := hw.1 hc
          refine lv_iload (pc := 76) C.1 C.2.1 dX11_best_76 (lv_at hl 4 rfl) ?_
          refine g_istore_n (pc := 78) C dX11_best_78 rfl hl (by decide) (fun v1_7 ev1_7 ls hl => ?_)
          have hw := hw v1_7 ev1_7
          have hl : lv_has ls 5 [(1, .int (mm_I v1_7)), (0, .ref (mm_ad G this)), (2, .int (mm_I v2)), (3, .int (mm_I v3)), (4, .int (mm_I v4))] := hl
          refine lv_aload_n (pc := 79) C.1 C.2.1 dX11_best_79 rfl (lv_at hl 1 rfl) ?_
          refine g_geti (pc := 80) C w h0 ff_X11_54 lk_X11_418 dX11_best_80 ?_
          refine g_istore_n (pc := 83) C dX11_best_83 rfl hl (by decide) (fun v2_8 ev2_8 ls hl => ?_)
          have hw := hw v2_8 ev2_8
          have hl : lv_has ls 5 [(2, .int (mm_I v2_8)), (1, .int (mm_I v1_7)), (0, .ref (mm_ad G this)), (3, .int (mm_I v3)), (4, .int (mm_I v4))] := hl
          refine lv_aload_n (pc := 84) C.1 C.2.1 dX11_best_84 rfl (lv_at hl 2 rfl) ?_
          refine g_geti (pc := 85) C w h0 ff_X11_55 lk_X11_421 dX11_best_85 ?_
          refine g_istore_n (pc := 88) C dX11_best_88 rfl hl (by decide) (fun v3_9 ev3_9 ls hl => ?_)
          have hw := hw v3_9 ev3_9
          have hl : lv_has ls 5 [(3, .int (mm_I v3_9)), (2, .int (mm_I v2_8)), (1, .int (mm_I v1_7)), (0, .ref (mm_ad G this)), (4, .int (mm_I v4))] := hl
          refine g_iinc (pc := 89) (k := 4) C dX11_best_89 hl rfl (by decide) (fun v4_10 ev4_10 ls hl => ?_)
          have hw := hw v4_10 ev4_10
          have hl : lv_has ls 5 [(4, .int (mm_I v4_10)), (3, .int (mm_I v3_9)), (2, .int (mm_I v2_8)), (1, .int (mm_I v1_7)), (0, .ref (mm_ad G this))] := hl
          refine lv_goto (pc := 92) (tgt := 18) C.1 C.2.1 dX11_best_92 (by decide) ?_
          exact hw  _ _ _ w (lv_sub hl [4, 3, 2, 1, 0] rfl)
        · have hw := hw.2 hc
          refine lv_aload_n (pc := 49) C.1 C.2.1 dX11_best_49 rfl (lv_at hl 0 rfl) ?_
          refine g_geti (pc := 50) C w h0 ff_X11_54 lk_X11_418 dX11_best_50 ?_
          refine lv_iload_n (pc := 53) C.1 C.2.1 dX11_best_53 rfl (lv_at hl 2 rfl) ?_
          refine g_icmp_gt (pc := 54) (tgt := 89) C rfl rfl dX11_best_54 (by decide) (fun hc => ?_) (fun hc => ?_)
          · have hw := hw.1 hc
            refine g_iinc (pc := 89) (k := 4) C dX11_best_89 hl rfl (by decide) (fun v4_11 ev4_11 ls hl => ?_)
            have hw := hw v4_11 ev4_11
            have hl : lv_has ls 5 [(4, .int (mm_I v4_11)), (0, .ref (mm_ad G this)), (1, .int (mm_I v1)), (2, .int (mm_I v2)), (3, .int (mm_I v3))] := hl
            refine lv_goto (pc := 92) (tgt := 18) C.1 C.2.1 dX11_best_92 (by decide) ?_
            exact hw  _ _ _ w (lv_sub hl [1, 2, 3, 4, 0] rfl)
          · have hw := hw.2 hc
            refine lv_aload_n (pc := 57) C.1 C.2.1 dX11_best_57 rfl (lv_at hl 0 rfl) ?_
            refine g_geti (pc := 58) C w h0 ff_X11_54 lk_X11_418 dX11_best_58 ?_
            refine lv_iload_n (pc := 61) C.1 C.2.1 dX11_best_61 rfl (lv_at hl 2 rfl) ?_
            refine g_icmp_ne (pc := 62) (tgt := 76) C rfl rfl dX11_best_62 (by decide) (fun hc => ?_) (fun hc => ?_)
            · have hw := hw.1 hc
              refine lv_iload (pc := 76) C.1 C.2.1 dX11_best_76 (lv_at hl 4 rfl) ?_
              refine g_istore_n (pc := 78) C dX11_best_78 rfl hl (by decide) (fun v1_12 ev1_12 ls hl => ?_)
              have hw := hw v1_12 ev1_12
              have hl : lv_has ls 5 [(1, .int (mm_I v1_12)), (0, .ref (mm_ad G this)), (2, .int (mm_I v2)), (3, .int (mm_I v3)), (4, .int (mm_I v4))] := hl
              refine lv_aload_n (pc := 79) C.1 C.2.1 dX11_best_79 rfl (lv_at hl 1 rfl) ?_
              refine g_geti (pc := 80) C w h0 ff_X11_54 lk_X11_418 dX11_best_80 ?_
              refine g_istore_n (pc := 83) C dX11_best_83 rfl hl (by decide) (fun v2_13 ev2_13 ls hl => ?_)
              have hw := hw v2_13 ev2_13
              have hl : lv_has ls 5 [(2, .int (mm_I v2_13)), (1, .int (mm_I v1_12)), (0, .ref (mm_ad G this)), (3, .int (mm_I v3)), (4, .int (mm_I v4))] := hl
              refine lv_aload_n (pc := 84) C.1 C.2.1 dX11_best_84 rfl (lv_at hl 2 rfl) ?_
              refine g_geti (pc := 85) C w h0 ff_X11_55 lk_X11_421 dX11_best_85 ?_
              refine g_istore_n (pc := 88) C dX11_best_88 rfl hl (by decide) (fun v3_14 ev3_14 ls hl => ?_)
              have hw := hw v3_14 ev3_14
              have hl : lv_has ls 5 [(3, .int (mm_I v3_14)), (2, .int (mm_I v2_13)), (1, .int (mm_I v1_12)), (0, .ref (mm_ad G this)), (4, .int (mm_I v4))] := hl
              refine g_iinc (pc := 89) (k := 4) C dX11_best_89 hl rfl (by decide) (fun v4_15 ev4_15 ls hl => ?_)
              have hw := hw v4_15 ev4_15
              have hl : lv_has ls 5 [(4, .int (mm_I v4_15)), (3, .int (mm_I v3_14)), (2, .int (mm_I v2_13)), (1, .int (mm_I v1_12)), (0, .ref (mm_ad G this))] := hl
              refine lv_goto (pc := 92) (tgt := 18) C.1 C.2.1 dX11_best_92 (by decide) ?_
              exact hw  _ _ _ w (lv_sub hl [4, 3, 2, 1, 0] rfl)
            · have hw := hw.2 hc
              refine lv_aload_n (pc := 65) C.1 C.2.1 dX11_best_65 rfl (lv_at hl 0 rfl) ?_
              refine g_geti (pc := 66) C w h0 ff_X11_55 lk_X11_421 dX11_best_66 ?_
              refine lv_iload_n (pc := 69) C.1 C.2.1 dX11_best_69 rfl (lv_at hl 3 rfl) ?_
              refine g_icmp_lt (pc := 70) (tgt := 76) C rfl rfl dX11_best_70 (by decide) (fun hc => ?_) (fun hc => ?_)
              · have hw := hw.1 hc
                refine lv_iload (pc := 76) C.1 C.2.1 dX11_best_76 (lv_at hl 4 rfl) ?_
                refine g_istore_n (pc := 78) C dX11_best_78 rfl hl (by decide) (fun v1_16 ev1_16 ls hl => ?_)
                have hw := hw v1_16 ev1_16
                have hl : lv_has ls 5 [(1, .int (mm_I v1_16)), (0, .ref (mm_ad G this)), (2, .int (mm_I v2)), (3, .int (mm_I v3)), (4, .int (mm_I v4))] := hl
                refine lv_aload_n (pc := 79) C.1 C.2.1 dX11_best_79 rfl (lv_at hl 1 rfl) ?_
                refine g_geti (pc := 80) C w h0 ff_X11_54 lk_X11_418 dX11_best_80 ?_
                refine g_istore_n (pc := 83) C dX11_best_83 rfl hl (by decide) (fun v2_17 ev2_17 ls hl => ?_)
                have hw := hw v2_17 ev2_17
                have hl : lv_has ls 5 [(2, .int (mm_I v2_17)), (1, .int (mm_I v1_16)), (0, .ref (mm_ad G this)), (3, .int (mm_I v3)), (4, .int (mm_I v4))] := hl
                refine lv_aload_n (pc := 84) C.1 C.2.1 dX11_best_84 rfl (lv_at hl 2 rfl) ?_
                refine g_geti (pc := 85) C w h0 ff_X11_55 lk_X11_421 dX11_best_85 ?_
                refine g_istore_n (pc := 88) C dX11_best_88 rfl hl (by decide) (fun v3_18 ev3_18 ls hl => ?_)
                have hw := hw v3_18 ev3_18
                have hl : lv_has ls 5 [(3, .int (mm_I v3_18)), (2, .int (mm_I v2_17)), (1, .int (mm_I v1_16)), (0, .ref (mm_ad G this)), (4, .int (mm_I v4))] := hl
                refine g_iinc (pc := 89) (k := 4) C dX11_best_89 hl rfl (by decide) (fun v4_19 ev4_19 ls hl => ?_)
                have hw := hw v4_19 ev4_19
                have hl : lv_has ls 5 [(4, .int (mm_I v4_19)), (3, .int (mm_I v3_18)), (2, .int (mm_I v2_17)), (1, .int (mm_I v1_16)), (0, .ref (mm_ad G this))] := hl
                refine lv_goto (pc := 92) (tgt := 18) C.1 C.2.1 dX11_best_92 (by decide) ?_
                exact hw  _ _ _ w (lv_sub hl [4, 3, 2, 1, 0] rfl)
              · have hw := hw.2 hc
                refine lv_goto (pc := 73) (tgt := 89) C.1 C.2.1 dX11_best_73 (by decide) ?_
                refine g_iinc (pc := 89) (k := 4) C dX11_best_89 hl rfl (by decide) (fun v4_20 ev4_20 ls hl => ?_)
                have hw := hw v4_20 ev4_20
                have hl : lv_has ls 5 [(4, .int (mm_I v4_20)), (0, .ref (mm_ad G this)), (1, .int (mm_I v1)), (2, .int (mm_I v2)), (3, .int (mm_I v3))] := hl
                refine lv_goto (pc := 92) (tgt := 18) C.1 C.2.1 dX11_best_92 (by decide) ?_
                exact hw  _ _ _ w (lv_sub hl [1, 2, 3, 4, 0] rfl)
      · have hw := hw.2 hc
        refine lv_goto (pc := 35) (tgt := 89) C.1 C.2.1 dX11_best_35 (by decide) ?_
        refine g_iinc (pc := 89) (k := 4) C dX11_best_89 hl rfl (by decide) (fun v4_21 ev4_21 ls hl => ?_)
        have hw := hw v4_21 ev4_21
        have hl : lv_has ls 5 [(4, .int (mm_I v4_21)), (0, .ref (mm_ad G this)), (1, .int (mm_I v1)), (2, .int (mm_I v2)), (3, .int (mm_I v3))] := hl
        refine lv_goto (pc := 92) (tgt := 18) C.1 C.2.1 dX11_best_92 (by decide) ?_
        exact hw  _ _ _ w (lv_sub hl [1, 2, 3, 4, 0] rfl))
  intro H locs ls w hl
  have hl : lv_has ls 5 [(0, .ref (mm_ad G this))] := hl
  refine lv_aload_n (pc := 0) C.1 C.2.1 dX11_best_0 rfl (lv_at hl 0 rfl) ?_
  refine g_geti (pc := 1) C w h0 ff_X11_38 lk_X11_409 dX11_best_1 ?_
  refine g_if_ne (pc := 4) (tgt := 9) C rfl dX11_best_4 (by decide) (fun hc => ?_) (fun hc => ?_)
  · have hw := hw.1 hc
    refine lv_iconst (pc := 9) (v := mm_I (-1)) C.1 C.2.1 dX11_best_9 rfl ?_
    refine lv_istore_n (pc := 10) (lv' := [(1, .int (mm_I (-1))), (0, .ref (mm_ad G this))]) C.1 C.2.1 dX11_best_10 rfl hl (by decide) rfl (fun ls hl => ?_)
    refine lv_iconst (pc := 11) (v := mm_I 0) C.1 C.2.1 dX11_best_11 rfl ?_
    refine lv_istore_n (pc := 12) (lv' := [(2, .int (mm_I 0)), (1, .int (mm_I (-1))), (0, .ref (mm_ad G this))]) C.1 C.2.1 dX11_best_12 rfl hl (by decide) rfl (fun ls hl => ?_)
    refine lv_iconst (pc := 13) (v := mm_I 0) C.1 C.2.1 dX11_best_13 rfl ?_
    refine lv_istore_n (pc := 14) (lv' := [(3, .int (mm_I 0)), (2, .int (mm_I 0)), (1, .int (mm_I (-1))), (0, .ref (mm_ad G this))]) C.1 C.2.1 dX11_best_14 rfl hl (by decide) rfl (fun ls hl => ?_)
    refine lv_iconst (pc := 15) (v := mm_I 0) C.1 C.2.1 dX11_best_15 rfl ?_
    refine lv_istore (pc := 16) (lv' := [(4, .int (mm_I 0)), (3, .int (mm_I 0)), (2, .int (mm_I 0)), (1, .int (mm_I (-1))), (0, .ref (mm_ad G this))]) C.1 C.2.1 dX11_best_16 hl (by decide) rfl (fun ls hl => ?_)
    exact hw  _ _ _ w (lv_sub hl [4, 3, 2, 1, 0] rfl)
  · have hw := hw.2 hc
    refine lv_iconst (pc := 7) (v := mm_I (-1)) C.1 C.2.1 dX11_best_7 rfl ?_
    exact g_iret (pc := 8) C w hr hk hw dX11_best_8
