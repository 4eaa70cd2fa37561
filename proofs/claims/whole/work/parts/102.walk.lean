theorem lk_X3_25 : Cond.fieldLink RX3 25 "LastServed$Laws" "lines" "I" ∈ mm_ws := (mt_1 144 rfl rfl)
theorem ff_X3_4 : mm_F 3 4 0 RX3 TX3 7 := ⟨rfl, by decide, fk_X3, rfl, rfl⟩
theorem mb_59 : (Int8.ofInt 59).toInt32 = mm_I 59 := by decide
theorem lk_X3_18 : Cond.fieldLink RX3 18 "LastServed$Laws" "wantsMost" "[Z" ∈ mm_ws := (mt_1 142 rfl rfl)
theorem ff_X3_2 : mm_F 3 2 1 RX3 TX3 7 := ⟨rfl, by decide, fk_X3, rfl, rfl⟩
theorem ro_X3_2 {i : Nat} (h : mm_ok i 13 0) : mm_ok (mm_rt i 2) 2 5 := by
  have q : ∀ i, i < mm_N → mm_kd i = 13 → mm_rt i 2 < mm_N ∧ mm_kd (mm_rt i 2) = 2 ∧ mm_ln (mm_rt i 2) = 5 := by decide +kernel
  exact q i h.1 h.2.1
theorem lk_X3_15 : Cond.fieldLink RX3 15 "LastServed$Laws" "endOf" "[I" ∈ mm_ws := (mt_1 141 rfl rfl)
theorem ff_X3_1 : mm_F 3 1 1 RX3 TX3 7 := ⟨rfl, by decide, fk_X3, rfl, rfl⟩
theorem ro_X3_1 {i : Nat} (h : mm_ok i 13 0) : mm_ok (mm_rt i 1) 0 5 := by
  have q : ∀ i, i < mm_N → mm_kd i = 13 → mm_rt i 1 < mm_N ∧ mm_kd (mm_rt i 1) = 0 ∧ mm_ln (mm_rt i 1) = 5 := by decide +kernel
  exact q i h.1 h.2.1
theorem fw_X3_4 : mm_Fw 3 4 TX3 7 .int := ⟨⟨tyX3, tyX3_ok⟩, nmX3, rfl, by decide +kernel⟩
def wp_X3_readLine (this : Nat) (a1 : Nat) (s0 : mm_M) (post : mm_M → Prop) : Prop :=
  ∀ (L24 : mm_M → Prop), ∀ (L58 : Int → mm_M → Prop), 
  (∀  (s1 : mm_M), (wp_X8_refuse a1 s1 (fun s_12 => post s_12)) → L24 s1) →
  (∀ (v2 : Int) (s1 : mm_M), (wp_X8_advance a1 s1 (fun s_14 => (wp_X3_readSum this a1 0 s_14 (fun s_16 => (wp_X8_takeSign a1 59 s_16 (fun r_19 s_18 => ((n32 r_19 = 0 → post s_18) ∧ (¬ n32 r_19 = 0 → ((0 ≤ s_18 this 4 ∧ s_18 this 4 < 5) ∧ ((v2 = 0 ∨ v2 = 1) ∧ (∀ s_20 : mm_M, s_20 = mm_up s_18 (mm_rt this 2) (s_18 this 4) v2 → ((0 ≤ s_20 this 4 ∧ s_20 this 4 < 5) ∧ (∀ s_21 : mm_M, s_21 = mm_up s_20 (mm_rt this 1) (s_20 this 4) (s_20 this 5) → (∀ s_22 : mm_M, s_22 = mm_up s_21 this 4 ((s_21 this 4) + 1) → post s_22)))))))))))))) → L58 v2 s1) →
  (wp_X8_wordIs a1 5 s0 (fun r_2 s_1 => ((n32 r_2 = 0 → L24 s_1) ∧ (¬ n32 r_2 = 0 → ((n32 (s_1 this 4) < 0 → L24 s_1) ∧ (¬ n32 (s_1 this 4) < 0 → ((n32 (s_1 this 4) < 5 → (wp_X8_advance a1 s_1 (fun s_3 => (wp_X8_wordIs a1 6 s_3 (fun r_6 s_5 => (∀ v2_7 : Int, v2_7 = r_6 → ((¬ n32 v2_7 = 0 → L58 v2_7 s_5) ∧ (n32 v2_7 = 0 → (wp_X8_wordIs a1 7 s_5 (fun r_9 s_8 => ((¬ n32 r_9 = 0 → L58 v2_7 s_8) ∧ (n32 r_9 = 0 → (wp_X8_refuse a1 s_8 (fun s_10 => post s_10)))))))))))))) ∧ (¬ n32 (s_1 this 4) < 5 → L24 s_1))))))))
set_option maxRecDepth 100000 in
set_option maxHeartbeats 4000000 in
theorem c_X3_readLine (l : Launch) (G : mm_G) (this : Nat) (a1 : Nat) (h0 : mm_ok this 13 0) (h1 : mm_ok a1 18 0) (s0 : mm_M) (post : mm_M → Prop) (hw : wp_X3_readLine this a1 s0 post) : Met l yX3_readLine (mm_wm yX3_readLine cX3_readLine 3 none) (mm_rm 75) (va_Pc [.ref (mm_ad G this), .ref (mm_ad G a1)] (mm_pre G s0)) (mm_Qv G post) 0 0 (mm_A G) := by
  refine mm_met (own := RX3) (by decide) rfl (Nat.le_of_ble_eq_true rfl) ?_
  intro p e s m args below meth c C hr hk
  unfold wp_X3_readLine at hw
  have hw := hw (fun  (u : mm_M) => mm_X p l e (mm_rm 75) s m args below meth c (MQ below (mm_Qv G post) args s 0 0 (mm_A G)) G (mm_A G) 3 24 [(1, .ref (mm_ad G a1))] [] u)
  have hw := hw (fun (v2 : Int) (u : mm_M) => mm_X p l e (mm_rm 75) s m args below meth c (MQ below (mm_Qv G post) args s 0 0 (mm_A G)) G (mm_A G) 3 58 [(0, .ref (mm_ad G this)), (1, .ref (mm_ad G a1)), (2, .int (mm_I v2))] [] u)
  have hw := hw (by
    intro  s1 hw  H locs ls w hl
    refine lv_aload_n (pc := 24) C.1 C.2.1 dX3_readLine_24 rfl (lv_at hl 0 rfl) ?_
    refine g_callv (pc := 25) w (mm_runV (ci := 8) (q := (RX8, TX8, 7)) (As := []) (rest := []) C w (c_X8_refuse l G a1 h1 s1 _ hw) h1 rfl rfl cv_X8_refuse ml_X3_45 ⟨Nat.le_of_ble_eq_true rfl, Nat.le_of_ble_eq_true rfl⟩ ⟨Nat.le_of_ble_eq_true rfl, Nat.le_of_ble_eq_true rfl⟩ rfl hl.1 rfl (Nat.le_of_ble_eq_true rfl) dX3_readLine_25) (fun s_12 H locs hw w => ?_)
    exact g_vret (pc := 28) C w hr hk hw dX3_readLine_28)
  have hw := hw (by
    intro v2 s1 hw  H locs ls w hl
    refine lv_aload_n (pc := 58) C.1 C.2.1 dX3_readLine_58 rfl (lv_at hl 1 rfl) ?_
    refine g_callv (pc := 59) w (mm_runV (ci := 8) (q := (RX8, TX8, 7)) (As := []) (rest := []) C w (c_X8_advance l G a1 h1 s1 _ hw) h1 rfl rfl cv_X8_advance ml_X3_57 ⟨Nat.le_of_ble_eq_true rfl, Nat.le_of_ble_eq_true rfl⟩ ⟨Nat.le_of_ble_eq_true rfl, Nat.le_of_ble_eq_true rfl⟩ rfl hl.1 rfl (Nat.le_of_ble_eq_true rfl) dX3_readLine_59) (fun s_14 H locs hw w => ?_)
    refine lv_aload_n (pc := 62) C.1 C.2.1 dX3_readLine_62 rfl (lv_at hl 0 rfl) ?_
    refine lv_aload_n (pc := 63) C.1 C.2.1 dX3_readLine_63 rfl (lv_at hl 1 rfl) ?_
    refine lv_iconst (pc := 64) (v := mm_I 0) C.1 C.2.1 dX3_readLine_64 rfl ?_
    refine g_callv (pc := 65) w (mm_runV (ci := 3) (q := (RX3, TX3, 7)) (As := [.ref (mm_ad G a1), .int (mm_I 0)]) (rest := []) C w (c_X3_readSum l G this a1 0 h0 h1 s_14 _ hw) h0 rfl rfl cv_X3_readSum ml_X3_64 ⟨Nat.le_of_ble_eq_true rfl, Nat.le_of_ble_eq_true rfl⟩ ⟨Nat.le_of_ble_eq_true rfl, Nat.le_of_ble_eq_true rfl⟩ rfl hl.1 rfl (Nat.le_of_ble_eq_true rfl) dX3_readLine_65) (fun s_16 H locs hw w => ?_)
    refine lv_aload_n (pc := 68) C.1 C.2.1 dX3_readLine_68 rfl (lv_at hl 1 rfl) ?_
    refine lv_bipush (pc := 69) C.1 C.2.1 dX3_readLine_69 mb_59 ?_
    refine g_calli (pc := 71) w (mm_runV (ci := 8) (q := (RX8, TX8, 7)) (As := [.int (mm_I 59)]) (rest := []) C w (c_X8_takeSign l G a1 59 h1 s_16 _ hw) h1 rfl rfl cv_X8_takeSign ml_X3_68 ⟨Nat.le_of_ble_eq_true rfl, Nat.le_of_ble_eq_true rfl⟩ ⟨Nat.le_of_ble_eq_true rfl, Nat.le_of_ble_eq_true rfl⟩ rfl hl.1 rfl (Nat.le_of_ble_eq_true rfl) dX3_readLine_71) (fun r_19 s_18 H locs hw w => ?_)
    refine g_if_eq (pc := 74) (tgt := 110) C rfl dX3_readLine_74 (by decide) (fun hc => ?_) (fun hc => ?_)
    · have hw := hw.1 hc
      exact g_vret (pc := 110) C w hr hk hw dX3_readLine_110
    · have hw := hw.2 hc
      refine lv_aload_n (pc := 77) C.1 C.2.1 dX3_readLine_77 rfl (lv_at hl 0 rfl) ?_
      refine g_getr (pc := 78) C w h0 ff_X3_2 lk_X3_18 dX3_readLine_78 ?_
      refine lv_aload_n (pc := 81) C.1 C.2.1 dX3_readLine_81 rfl (lv_at hl 0 rfl) ?_
      refine g_geti (pc := 82) C w h0 ff_X3_4 lk_X3_25 dX3_readLine_82 ?_
      refine lv_iload_n (pc := 85) C.1 C.2.1 dX3_readLine_85 rfl (lv_at hl 2 rfl) ?_
      obtain ⟨hi, hw⟩ := hw
      obtain ⟨hb, hw⟩ := hw
      refine g_zast (pc := 86) C w (ro_X3_2 h0) hi hb dX3_readLine_86 (fun s_20 H locs es_20 w => ?_)
      have hw := hw s_20 es_20
      refine lv_aload_n (pc := 87) C.1 C.2.1 dX3_readLine_87 rfl (lv_at hl 0 rfl) ?_
      refine g_getr (pc := 88) C w h0 ff_X3_1 lk_X3_15 dX3_readLine_88 ?_
      refine lv_aload_n (pc := 91) C.1 C.2.1 dX3_readLine_91 rfl (lv_at hl 0 rfl) ?_
      refine g_geti (pc := 92) C w h0 ff_X3_4 lk_X3_25 dX3_readLine_92 ?_
      refine lv_aload_n (pc := 95) C.1 C.2.1 dX3_readLine_95 rfl (lv_at hl 0 rfl) ?_
      refine g_geti (pc := 96) C w h0 ff_X3_5 lk_X3_29 dX3_readLine_96 ?_
      obtain ⟨hi, hw⟩ := hw
      refine g_iast (pc := 99) C w (ro_X3_1 h0) hi  dX3_readLine_99 (fun s_21 H locs es_21 w => ?_)
      have hw := hw s_21 es_21
      refine lv_aload_n (pc := 100) C.1 C.2.1 dX3_readLine_100 rfl (lv_at hl 0 rfl) ?_
      refine lv_dup (pc := 101) C.1 C.2.1 dX3_readLine_101 rfl ?_
      refine g_geti (pc := 102) C w h0 ff_X3_4 lk_X3_25 dX3_readLine_102 ?_
      refine lv_iconst (pc := 105) (v := mm_I 1) C.1 C.2.1 dX3_readLine_105 rfl ?_
      refine g_iadd (pc := 106) C dX3_readLine_106 ?_
      refine g_puti (pc := 107) C w h0 ff_X3_4 fw_X3_4 lk_X3_25 dX3_readLine_107 (fun s_22 H locs es_22 w => ?_)
      have hw := hw s_22 es_22
      exact g_vret (pc := 110) C w hr hk hw dX3_readLine_110)
  intro H locs ls w hl
  have hl : lv_has ls 3 [(0, .ref (mm_ad G this)), (1, .ref (mm_ad G a1))] := hl
  refine lv_aload_n (pc := 0) C.1 C.2.1 dX3_readLine_0 rfl (lv_at hl 1 rfl) ?_
  refine va_ldcS (pc := 1) C.1 C.2.1 C.2.2.2.1 (w.2.2.2.1.2.2.2.2 5 (by decide)).1 dX3_readLine_1 ?_
  refine g_calli (pc := 3) w (mm_runV (ci := 8) (q := (RX8, TX8, 7)) (As := [.ref (G.2.2.2.1 5)]) (rest := []) C w (c_X8_wordIs l G a1 5 h1 (by decide) s0 _ hw) h1 rfl rfl cv_X8_wordIs ml_X3_53 ⟨Nat.le_of_ble_eq_true rfl, Nat.le_of_ble_eq_true rfl⟩ ⟨Nat.le_of_ble_eq_true rfl, Nat.le_of_ble_eq_true rfl⟩ rfl hl.1 rfl (Nat.le_of_ble_eq_true rfl) dX3_readLine_3) (fun r_2 s_1 H locs hw w => ?_)
  refine g_if_eq (pc := 6) (tgt := 24) C rfl dX3_readLine_6 (by decide) (fun hc => ?_) (fun hc => ?_)
  · have hw := hw.1 hc
    exact hw  _ _ _ w (lv_sub hl [1] rfl)
  · have hw := hw.2 hc
    refine lv_aload_n (pc := 9) C.1 C.2.1 dX3_readLine_9 rfl (lv_at hl 0 rfl) ?_
    refine g_geti (pc := 10) C w h0 ff_X3_4 lk_X3_25 dX3_readLine_10 ?_
    refine g_if_lt (pc := 13) (tgt := 24) C rfl dX3_readLine_13 (by decide) (fun hc => ?_) (fun hc => ?_)
    · have hw := hw.1 hc
      exact hw  _ _ _ w (lv_sub hl [1] rfl)
    · have hw := hw.2 hc
      refine lv_aload_n (pc := 16) C.1 C.2.1 dX3_readLine_16 rfl (lv_at hl 0 rfl) ?_
      refine g_geti (pc := 17) C w h0 ff_X3_4 lk_X3_25 dX3_readLine_17 ?_
      refine lv_iconst (pc := 20) (v := mm_I 5) C.1 C.2.1 dX3_readLine_20 rfl ?_
      refine g_icmp_lt (pc := 21) (tgt := 29) C rfl mn_5 dX3_readLine_21 (by decide) (fun hc => ?_) (fun hc => ?_)
      · have hw := hw.1 hc
        refine lv_aload_n (pc := 29) C.1 C.2.1 dX3_readLine_29 rfl (lv_at hl 1 rfl) ?_
        refine g_callv (pc := 30) w (mm_runV (ci := 8) (q := (RX8, TX8, 7)) (As := []) (rest := []) C w (c_X8_advance l G a1 h1 s_1 _ hw) h1 rfl rfl cv_X8_advance ml_X3_57 ⟨Nat.le_of_ble_eq_true rfl, Nat.le_of_ble_eq_true rfl⟩ ⟨Nat.le_of_ble_eq_true rfl, Nat.le_of_ble_eq_true rfl⟩ rfl hl.1 rfl (Nat.le_of_ble_eq_true rfl) dX3_readLine_30) (fun s_3 H locs hw w => ?_)
        refine lv_aload_n (pc := 33) C.1 C.2.1 dX3_readLine_33 rfl (lv_at hl 1 rfl) ?_
        refine va_ldcS (pc := 34) C.1 C.2.1 C.2.2.2.1 (w.2.2.2.1.2.2.2.2 6 (by decide)).1 dX3_readLine_34 ?_
        refine g_calli (pc := 36) w (mm_runV (ci := 8) (q := (RX8, TX8, 7)) (As := [.ref (G.2.2.2.1 6)]) (rest := []) C w (c_X8_wordIs l G a1 6 h1 (by decide) s_3 _ hw) h1 rfl rfl cv_X8_wordIs ml_X3_53 ⟨Nat.le_of_ble_eq_true rfl, Nat.le_of_ble_eq_true rfl⟩ ⟨Nat.le_of_ble_eq_true rfl, Nat.le_of_ble_eq_true rfl⟩ rfl hl.1 rfl (Nat.le_of_ble_eq_true rfl) dX3_readLine_36) (fun r_6 s_5 H locs hw w => ?_)
        refine g_istore_n (pc := 39) C dX3_readLine_39 rfl hl (by decide) (fun v2_7 ev2_7 ls hl => ?_)
        have hw := hw v2_7 ev2_7
        have hl : lv_has ls 3 [(2, .int (mm_I v2_7)), (0, .ref (mm_ad G this)), (1, .ref (mm_ad G a1))] := hl
        refine lv_iload_n (pc := 40) C.1 C.2.1 dX3_readLine_40 rfl (lv_at hl 0 rfl) ?_
        refine g_if_ne (pc := 41) (tgt := 58) C rfl dX3_readLine_41 (by decide) (fun hc => ?_) (fun hc => ?_)
        · have hw := hw.1 hc
          exact hw  _ _ _ w (lv_sub hl [1, 2, 0] rfl)
        · have hw := hw.2 hc
          refine lv_aload_n (pc := 44) C.1 C.2.1 dX3_readLine_44 rfl (lv_at hl 2 rfl) ?_
          refine va_ldcS (pc := 45) C.1 C.2.1 C.2.2.2.1 (w.2.2.2.1.2.2.2.2 7 (by decide)).1 dX3_readLine_45 ?_
          refine g_calli (pc := 47) w (mm_runV (ci := 8) (q := (RX8, TX8, 7)) (As := [.ref (G.2.2.2.1 7)]) (rest := []) C w (c_X8_wordIs l G a1 7 h1 (by decide) s_5 _ hw) h1 rfl rfl cv_X8_wordIs ml_X3_53 ⟨Nat.le_of_ble_eq_true rfl, Nat.le_of_ble_eq_true rfl⟩ ⟨Nat.le_of_ble_eq_true rfl, Nat.le_of_ble_eq_true rfl⟩ rfl hl.1 rfl (Nat.le_of_ble_eq_true rfl) dX3_readLine_47) (fun r_9 s_8 H locs hw w => ?_)
          refine g_if_ne (pc := 50) (tgt := 58) C rfl dX3_readLine_50 (by decide) (fun hc => ?_) (fun hc => ?_)
          · have hw := hw.1 hc
            exact hw  _ _ _ w (lv_sub hl [1, 2, 0] rfl)
          · have hw := hw.2 hc
            refine lv_aload_n (pc := 53) C.1 C.2.1 dX3_readLine_53 rfl (lv_at hl 2 rfl) ?_
            refine g_callv (pc := 54) w (mm_runV (ci := 8) (q := (RX8, TX8, 7)) (As := []) (rest := []) C w (c_X8_refuse l G a1 h1 s_8 _ hw) h1 rfl rfl cv_X8_refuse ml_X3_45 ⟨Nat.le_of_ble_eq_true rfl, Nat.le_of_ble_eq_true rfl⟩ ⟨Nat.le_of_ble_eq_true rfl, Nat.le_of_ble_eq_true rfl⟩ rfl hl.1 rfl (Nat.le_of_ble_eq_true rfl) dX3_readLine_54) (fun s_10 H locs hw w => ?_)
            exact g_vret (pc := 57) C w hr hk hw dX3_readLine_57
      · have hw := hw.2 hc
        exact hw  _ _ _ w (lv_sub hl [1] rfl)
theorem cv_X8_begin : mm_V yX8_begin cX8_begin 1 none 0 := ⟨(mt_2 176 rfl rfl), (mt_2 174 rfl rfl), (mt_2 175 rfl rfl), (mt_1 3 rfl rfl), by decide, by decide, by decide +kernel⟩
theorem ml_X3_32 : Cond.methodLink RX3 32 yX8_begin ∈ mm_ws := (mt_3 71 rfl rfl)
theorem cv_X8_goesOn : mm_V yX8_goesOn cX8_goesOn 1 (some .boolean) 0 := ⟨(mt_2 197 rfl rfl), (mt_2 195 rfl rfl), (mt_2 196 rfl rfl), (mt_1 3 rfl rfl), by decide, by decide, by decide +kernel⟩
theorem ml_X3_37 : Cond.methodLink RX3 37 yX8_goesOn ∈ mm_ws := (mt_3 72 rfl rfl)
theorem cv_X3_readLine : mm_V yX3_readLine cX3_readLine 3 none 1 := ⟨(mt_3 76 rfl rfl), (mt_3 75 rfl rfl), (mp_1 10 rfl rfl), (mt_1 5 rfl rfl), by decide, by decide, by decide +kernel⟩
theorem ml_X3_41 : Cond.methodLink RX3 41 yX3_readLine ∈ mm_ws := (mt_3 73 rfl rfl)
theorem lk_X3_48 : Cond.fieldLinkNest RX3 48 "LastServed$Text" "fault" "I" "LastServed" ∈ mm_nest := by decide +kernel
def wp_X3_read (this : Nat) (a1 : Nat) (s0 : mm_M) (post : Int → mm_M → Prop) : Prop :=
  ∀ (L16 : Int → mm_M → Prop), ∀ (L41 : mm_M → Prop), 
  (∀ (v2 : Int) (s1 : mm_M), ((500 ≤ n32 v2 → L41 s1) ∧ (¬ 500 ≤ n32 v2 → (wp_X8_goesOn a1 s1 (fun r_7 s_6 => ((n32 r_7 = 0 → L41 s_6) ∧ (¬ n32 r_7 = 0 → (wp_X3_readLine this a1 s_6 (fun s_8 => (∀ v2_10 : Int, v2_10 = v2 + 1 → L16 v2_10 s_8))))))))) → L16 v2 s1) →
  (∀  (s1 : mm_M), ((¬ n32 (s1 this 4) = 0 → post (s1 a1 6) s1) ∧ (n32 (s1 this 4) = 0 → (wp_X8_refuse a1 s1 (fun s_11 => post (s_11 a1 6) s_11)))) → L41 s1) →
  (∀ s_1 : mm_M, s_1 = mm_up s0 this 4 0 → (∀ s_2 : mm_M, s_2 = mm_up s_1 this 5 0 → (wp_X8_begin a1 s_2 (fun s_3 => L16 0 s_3))))
set_option maxRecDepth 100000 in
set_option maxHeartbeats 4000000 in
theorem c_X3_read (l : Launch) (G : mm_G) (this : Nat) (a1 : Nat) (h0 : mm_ok this 13 0) (h1 : mm_ok a1 18 0) (s0 : mm_M) (post : Int → mm_M → Prop) (hw : wp_X3_read this a1 s0 post) : Met l yX3_read (mm_wm yX3_read cX3_read 3 (some .int)) (mm_rm 76) (va_Pc [.ref (mm_ad G this), .ref (mm_ad G a1)] (mm_pre G s0)) (mm_Qi G post) 0 0 (mm_A G) := by
  refine mm_met (own := RX3) (by decide) rfl (Nat.le_of_ble_eq_true rfl) ?_
  intro p e s m args below meth c C hr hk
  unfold wp_X3_read at hw
  have hw := hw (fun (v2 : Int) (u : mm_M) => mm_X p l e (mm_rm 76) s m args below meth c (MQ below (mm_Qi G post) args s 0 0 (mm_A G)) G (mm_A G) 3 16 [(0, .ref (mm_ad G this)), (1, .ref (mm_ad G a1)), (2, .int (mm_I v2))] [] u)
  have hw := hw (fun  (u : mm_M) => mm_X p l e (mm_rm 76) s m args below meth c (MQ below (mm_Qi G post) args s 0 0 (mm_A G)) G (mm_A G) 3 41 [(0, .ref (mm_ad G this)), (1, .ref (mm_ad G a1))] [] u)
  have hw := hw (by
    intro v2 s1 hw  H locs ls w hl
    refine lv_iload_n (pc := 16) C.1 C.2.1 dX3_read_16 rfl (lv_at hl 2 rfl) ?_
    refine lv_sipush (pc := 17) C.1 C.2.1 dX3_read_17 ms_500 ?_
    refine g_icmp_ge (pc := 20) (tgt := 41) C rfl mn_500 dX3_read_20 (by decide) (fun hc => ?_) (fun hc => ?_)
    · have hw := hw.1 hc
      exact hw  _ _ _ w (lv_sub hl [0, 1] rfl)
    · have hw := hw.2 hc
      refine lv_aload_n (pc := 23) C.1 C.2.1 dX3_read_23 rfl (lv_at hl 1 rfl) ?_
      refine g_calli (pc := 24) w (mm_runV (ci := 8) (q := (RX8, TX8, 7)) (As := []) (rest := []) C w (c_X8_goesOn l G a1 h1 s1 _ hw) h1 rfl rfl cv_X8_goesOn ml_X3_37 ⟨Nat.le_of_ble_eq_true rfl, Nat.le_of_ble_eq_true rfl⟩ ⟨Nat.le_of_ble_eq_true rfl, Nat.le_of_ble_eq_true rfl⟩ rfl hl.1 rfl (Nat.le_of_ble_eq_true rfl) dX3_read_24) (fun r_7 s_6 H locs hw w => ?_)
      refine g_if_eq (pc := 27) (tgt := 41) C rfl dX3_read_27 (by decide) (fun hc => ?_) (fun hc => ?_)
      · have hw := hw.1 hc
        exact hw  _ _ _ w (lv_sub hl [0, 1] rfl)
      · have hw := hw.2 hc
        refine lv_aload_n (pc := 30) C.1 C.2.1 dX3_read_30 rfl (lv_at hl 0 rfl) ?_
        refine lv_aload_n (pc := 31) C.1 C.2.1 dX3_read_31 rfl (lv_at hl 1 rfl) ?_
        refine g_callv (pc := 32) w (mm_runV (ci := 3) (q := (RX3, TX3, 7)) (As := [.ref (mm_ad G a1)]) (rest := []) C w (c_X3_readLine l G this a1 h0 h1 s_6 _ hw) h0 rfl rfl cv_X3_readLine ml_X3_41 ⟨Nat.le_of_ble_eq_true rfl, Nat.le_of_ble_eq_true rfl⟩ ⟨Nat.le_of_ble_eq_true rfl, Nat.le_of_ble_eq_true rfl⟩ rfl hl.1 rfl (Nat.le_of_ble_eq_true rfl) dX3_read_32) (fun s_8 H locs hw w => ?_)
        refine g_iinc (pc := 35) (k := 2) C dX3_read_35 hl rfl (by decide) (fun v2_10 ev2_10 ls hl => ?_)
        have hw := hw v2_10 ev2_10
        have hl : lv_has ls 3 [(2, .int (mm_I v2_10)), (0, .ref (mm_ad G this)), (1, .ref (mm_ad G a1))] := hl
        refine lv_goto (pc := 38) (tgt := 16) C.1 C.2.1 dX3_read_38 (by decide) ?_
        exact hw  _ _ _ w (lv_sub hl [1, 2, 0] rfl))
  have hw := hw (by
    intro  s1 hw  H locs ls w hl
    refine lv_aload_n (pc := 41) C.1 C.2.1 dX3_read_41 rfl (lv_at hl 0 rfl) ?_
    refine g_geti (pc := 42) C w h0 ff_X3_4 lk_X3_25 dX3_read_42 ?_
    refine g_if_ne (pc := 45) (tgt := 52) C rfl dX3_read_45 (by decide) (fun hc => ?_) (fun hc => ?_)
    · have hw := hw.1 hc
      refine lv_aload_n (pc := 52) C.1 C.2.1 dX3_read_52 rfl (lv_at hl 1 rfl) ?_
      refine g_getiN (pc := 53) C w h1 ff_X8_6 lk_X3_48 dX3_read_53 ?_
      exact g_iret (pc := 56) C w hr hk hw dX3_read_56
    · have hw := hw.2 hc
      refine lv_aload_n (pc := 48) C.1 C.2.1 dX3_read_48 rfl (lv_at hl 1 rfl) ?_
      refine g_callv (pc := 49) w (mm_runV (ci := 8) (q := (RX8, TX8, 7)) (As := []) (rest := []) C w (c_X8_refuse l G a1 h1 s1 _ hw) h1 rfl rfl cv_X8_refuse ml_X3_45 ⟨Nat.le_of_ble_eq_true rfl, Nat.le_of_ble_eq_true rfl⟩ ⟨Nat.le_of_ble_eq_true rfl, Nat.le_of_ble_eq_true rfl⟩ rfl hl.1 rfl (Nat.le_of_ble_eq_true rfl) dX3_read_49) (fun s_11 H locs hw w => ?_)
      refine lv_aload_n (pc := 52) C.1 C.2.1 dX3_read_52 rfl (lv_at hl 1 rfl) ?_
      refine g_getiN (pc := 53) C w h1 ff_X8_6 lk_X3_48 dX3_read_53 ?_
      exact g_iret (pc := 56) C w hr hk hw dX3_read_56)
  intro H locs ls w hl
  have hl : lv_has ls 3 [(0, .ref (mm_ad G this)), (1, .ref (mm_ad G a1))] := hl
  refine lv_aload_n (pc := 0) C.1 C.2.1 dX3_read_0 rfl (lv_at hl 0 rfl) ?_
  refine lv_iconst (pc := 1) (v := mm_I 0) C.1 C.2.1 dX3_read_1 rfl ?_
  refine g_puti (pc := 2) C w h0 ff_X3_4 fw_X3_4 lk_X3_25 dX3_read_2 (fun s_1 H locs es_1 w => ?_)
  have hw := hw s_1 es_1
  refine lv_aload_n (pc := 5) C.1 C.2.1 dX3_read_5 rfl (lv_at hl 0 rfl) ?_
  refine lv_iconst (pc := 6) (v := mm_I 0) C.1 C.2.1 dX3_read_6 rfl ?_
  refine g_puti (pc := 7) C w h0 ff_X3_5 fw_X3_5 lk_X3_29 dX3_read_7 (fun s_2 H locs es_2 w => ?_)
  have hw := hw s_2 es_2
  refine lv_aload_n (pc := 10) C.1 C.2.1 dX3_read_10 rfl (lv_at hl 1 rfl) ?_
  refine g_callv (pc := 11) w (mm_runV (ci := 8) (q := (RX8, TX8, 7)) (As := []) (rest := []) C w (c_X8_begin l G a1 h1 s_2 _ hw) h1 rfl rfl cv_X8_begin ml_X3_32 ⟨Nat.le_of_ble_eq_true rfl, Nat.le_of_ble_eq_true rfl⟩ ⟨Nat.le_of_ble_eq_true rfl, Nat.le_of_ble_eq_true rfl⟩ rfl hl.1 rfl (Nat.le_of_ble_eq_true rfl) dX3_read_11) (fun s_3 H locs hw w => ?_)
  refine lv_iconst (pc := 14) (v := mm_I 0) C.1 C.2.1 dX3_read_14 rfl ?_
  refine lv_istore_n (pc := 15) (lv' := [(2, .int (mm_I 0)), (0, .ref (mm_ad G this)), (1, .ref (mm_ad G a1))]) C.1 C.2.1 dX3_read_15 rfl hl (by decide) rfl (fun ls hl => ?_)
  exact hw  _ _ _ w (lv_sub hl [1, 2, 0] rfl)
theorem ml_X3_120 : Cond.methodLink RX3 120 arraycopyName ∈ mm_ws := (mt_3 161 rfl rfl)
def wp_X3_takeOver (this : Nat) (a1 : Nat) (s0 : mm_M) (post : mm_M → Prop) : Prop :=
  ∀ (L32 : Int → mm_M → Prop), 
  (∀ (v2 : Int) (s1 : mm_M), ((5 ≤ n32 v2 → (∀ s_4 : mm_M, s_4 = mm_up s1 this 4 (s1 a1 4) → (∀ s_5 : mm_M, s_5 = mm_up s_4 this 5 (s_4 a1 5) → post s_5))) ∧ (¬ 5 ≤ n32 v2 → ((0 ≤ v2 ∧ v2 < 5) ∧ ((0 ≤ v2 ∧ v2 < 5) ∧ ((s1 (mm_rt a1 2) v2 = 0 ∨ s1 (mm_rt a1 2) v2 = 1) ∧ (∀ s_6 : mm_M, s_6 = mm_up s1 (mm_rt this 2) v2 (s1 (mm_rt a1 2) v2) → (∀ v2_7 : Int, v2_7 = v2 + 1 → L32 v2_7 s_6))))))) → L32 v2 s1) →
  ((0 ≤ (0 : Int) ∧ 0 ≤ (0 : Int) ∧ 0 ≤ (500 : Int) ∧ (0 : Int) + 500 ≤ 500 ∧ (0 : Int) + 500 ≤ 500) ∧ (∀ s_1 : mm_M, s_1 = mm_cp s0 (mm_rt a1 0) 0 (mm_rt this 0) 0 500 → ((0 ≤ (0 : Int) ∧ 0 ≤ (0 : Int) ∧ 0 ≤ (5 : Int) ∧ (0 : Int) + 5 ≤ 5 ∧ (0 : Int) + 5 ≤ 5) ∧ (∀ s_2 : mm_M, s_2 = mm_cp s_1 (mm_rt a1 1) 0 (mm_rt this 1) 0 5 → L32 0 s_2))))
set_option maxRecDepth 100000 in
set_option maxHeartbeats 4000000 in
theorem c_X3_takeOver (l : Launch) (G : mm_G) (this : Nat) (a1 : Nat) (h0 : mm_ok this 13 0) (h1 : mm_ok a1 13 0) (s0 : mm_M) (post : mm_M → Prop) (hw : wp_X3_takeOver this a1 s0 post) : Met l yX3_takeOver (mm_wm yX3_takeOver cX3_takeOver 3 none) (mm_rm 2) (va_Pc [.ref (mm_ad G this), .ref (mm_ad G a1)] (mm_pre G s0)) (mm_Qv G post) 0 0 (mm_A G) := by
  refine mm_met (own := RX3) (by decide) rfl (Nat.le_of_ble_eq_true rfl) ?_
  intro p e s m args below meth c C hr hk
  unfold wp_X3_takeOver at hw
  have hw := hw (fun (v2 : Int) (u : mm_M) => mm_X p l e (mm_rm 2) s m args below meth c (MQ below (mm_Qv G post) args s 0 0 (mm_A G)) G (mm_A G) 3 32 [(0, .ref (mm_ad G this)), (1, .ref (mm_ad G a1)), (2, .int (mm_I v2))] [] u)
  have hw := hw (by
    intro v2 s1 hw  H locs ls w hl
    refine lv_iload_n (pc := 32) C.1 C.2.1 dX3_takeOver_32 rfl (lv_at hl 2 rfl) ?_
    refine lv_iconst (pc := 33) (v := mm_I 5) C.1 C.2.1 dX3_takeOver_33 rfl ?_
    refine g_icmp_ge (pc := 34) (tgt := 55) C rfl mn_5 dX3_takeOver_34 (by decide) (fun hc => ?_) (fun hc => ?_)
    · have hw := hw.1 hc
      refine lv_aload_n (pc := 55) C.1 C.2.1 dX3_takeOver_55 rfl (lv_at hl 0 rfl) ?_
      refine lv_aload_n (pc := 56) C.1 C.2.1 dX3_takeOver_56 rfl (lv_at hl 1 rfl) ?_
      refine g_geti (pc := 57) C w h1 ff_X3_4 lk_X3_25 dX3_takeOver_57 ?_
      refine g_puti (pc := 60) C w h0 ff_X3_4 fw_X3_4 lk_X3_25 dX3_takeOver_60 (fun s_4 H locs es_4 w => ?_)
      have hw := hw s_4 es_4
      refine lv_aload_n (pc := 63) C.1 C.2.1 dX3_takeOver_63 rfl (lv_at hl 0 rfl) ?_
      refine lv_aload_n (pc := 64) C.1 C.2.1 dX3_takeOver_64 rfl (lv_at hl 1 rfl) ?_
      refine g_geti (pc := 65) C w h1 ff_X3_5 lk_X3_29 dX3_takeOver_65 ?_
      refine g_puti (pc := 68) C w h0 ff_X3_5 fw_X3_5 lk_X3_29 dX3_takeOver_68 (fun s_5 H locs es_5 w => ?_)
      have hw := hw s_5 es_5
      exact g_vret (pc := 71) C w hr hk hw dX3_takeOver_71
    · have hw := hw.2 hc
      refine lv_aload_n (pc := 37) C.1 C.2.1 dX3_takeOver_37 rfl (lv_at hl 0 rfl) ?_
      refine g_getr (pc := 38) C w h0 ff_X3_2 lk_X3_18 dX3_takeOver_38 ?_
      refine lv_iload_n (pc := 41) C.1 C.2.1 dX3_takeOver_41 rfl (lv_at hl 2 rfl) ?_
      refine lv_aload_n (pc := 42) C.1 C.2.1 dX3_takeOver_42 rfl (lv_at hl 1 rfl) ?_
      refine g_getr (pc := 43) C w h1 ff_X3_2 lk_X3_18 dX3_takeOver_43 ?_
      refine lv_iload_n (pc := 46) C.1 C.2.1 dX3_takeOver_46 rfl (lv_at hl 2 rfl) ?_
      obtain ⟨hi, hw⟩ := hw
      refine g_zald (pc := 47) C w (ro_X3_2 h1) hi dX3_takeOver_47 ?_
      obtain ⟨hi, hw⟩ := hw
      obtain ⟨hb, hw⟩ := hw
      refine g_zast (pc := 48) C w (ro_X3_2 h0) hi hb dX3_takeOver_48 (fun s_6 H locs es_6 w => ?_)
      have hw := hw s_6 es_6
      refine g_iinc (pc := 49) (k := 2) C dX3_takeOver_49 hl rfl (by decide) (fun v2_7 ev2_7 ls hl => ?_)
      have hw := hw v2_7 ev2_7
      have hl : lv_has ls 3 [(2, .int (mm_I v2_7)), (0, .ref (mm_ad G this)), (1, .ref (mm_ad G a1))] := hl
      refine lv_goto (pc := 52) (tgt := 32) C.1 C.2.1 dX3_takeOver_52 (by decide) ?_
      exact hw  _ _ _ w (lv_sub hl [1, 2, 0] rfl))
  intro H locs ls w hl
  have hl : lv_has ls 3 [(0, .ref (mm_ad G this)), (1, .ref (mm_ad G a1))] := hl
  refine lv_aload_n (pc := 0) C.1 C.2.1 dX3_takeOver_0 rfl (lv_at hl 1 rfl) ?_
  refine g_getr (pc := 1) C w h1 ff_X3_0 lk_X3_9 dX3_takeOver_1 ?_
  refine lv_iconst (pc := 4) (v := mm_I 0) C.1 C.2.1 dX3_takeOver_4 rfl ?_
  refine lv_aload_n (pc := 5) C.1 C.2.1 dX3_takeOver_5 rfl (lv_at hl 0 rfl) ?_
  refine g_getr (pc := 6) C w h0 ff_X3_0 lk_X3_9 dX3_takeOver_6 ?_
  refine lv_iconst (pc := 9) (v := mm_I 0) C.1 C.2.1 dX3_takeOver_9 rfl ?_
  refine lv_sipush (pc := 10) C.1 C.2.1 dX3_takeOver_10 ms_500 ?_
  obtain ⟨hi, hw⟩ := hw
  refine g_copy (pc := 13) C w hl.1 (ro_X3_0 h1) (ro_X3_0 h0) hi ml_X3_120 mv_copy ⟨Nat.le_of_ble_eq_true rfl, Nat.le_of_ble_eq_true rfl⟩ dX3_takeOver_13 (fun s_1 H locs es_1 w => ?_)
  have hw := hw s_1 es_1
  refine lv_aload_n (pc := 16) C.1 C.2.1 dX3_takeOver_16 rfl (lv_at hl 1 rfl) ?_
  refine g_getr (pc := 17) C w h1 ff_X3_1 lk_X3_15 dX3_takeOver_17 ?_
  refine lv_iconst (pc := 20) (v := mm_I 0) C.1 C.2.1 dX3_takeOver_20 rfl ?_
  refine lv_aload_n (pc := 21) C.1 C.2.1 dX3_takeOver_21 rfl (lv_at hl 0 rfl) ?_
  refine g_getr (pc := 22) C w h0 ff_X3_1 lk_X3_15 dX3_takeOver_22 ?_
  refine lv_iconst (pc := 25) (v := mm_I 0) C.1 C.2.1 dX3_takeOver_25 rfl ?_
  refine lv_iconst (pc := 26) (v := mm_I 5) C.1 C.2.1 dX3_takeOver_26 rfl ?_
  obtain ⟨hi, hw⟩ := hw
  refine g_copy (pc := 27) C w hl.1 (ro_X3_1 h1) (ro_X3_1 h0) hi ml_X3_120 mv_copy ⟨Nat.le_of_ble_eq_true rfl, Nat.le_of_ble_eq_true rfl⟩ dX3_takeOver_27 (fun s_2 H locs es_2 w => ?_)
  have hw := hw s_2 es_2
  refine lv_iconst (pc := 30) (v := mm_I 0) C.1 C.2.1 dX3_takeOver_30 rfl ?_
  refine lv_istore_n (pc := 31) (lv' := [(2, .int (mm_I 0)), (0, .ref (mm_ad G this)), (1, .ref (mm_ad G a1))]) C.1 C.2.1 dX3_takeOver_31 rfl hl (by decide) rfl (fun ls hl => ?_)
  exact hw  _ _ _ w (lv_sub hl [1, 2, 0] rfl)
theorem mn_4 : n32 4 = 4 := by decide
def wp_X3_isTold (this : Nat) (a1 : Int) (s0 : mm_M) (post : Int → mm_M → Prop) : Prop :=
  ((n32 a1 < 4 → post 0 s0) ∧ (¬ n32 a1 < 4 → ((n32 (s0 this 4) ≤ n32 (a1 - 4) → post 0 s0) ∧ (¬ n32 (s0 this 4) ≤ n32 (a1 - 4) → ((5 ≤ n32 (a1 - 4) → post 0 s0) ∧ (¬ 5 ≤ n32 (a1 - 4) → post 1 s0))))))
set_option maxRecDepth 100000 in
set_option maxHeartbeats 4000000 in
theorem c_X3_isTold (l : Launch) (G : mm_G) (this : Nat) (a1 : Int) (h0 : mm_ok this 13 0) (s0 : mm_M) (post : Int → mm_M → Prop) (hw : wp_X3_isTold this a1 s0 post) : Met l yX3_isTold (mm_wm yX3_isTold cX3_isTold 2 (some .boolean)) (mm_rm 1) (va_Pc [.ref (mm_ad G this), .int (mm_I a1)] (mm_pre G s0)) (mm_Qi G post) 0 0 (mm_A G) := by
  refine mm_met (own := RX3) (by decide) rfl (Nat.le_of_ble_eq_true rfl) ?_
  intro p e s m args below meth c C hr hk
  unfold wp_X3_isTold at hw
  intro H locs ls w hl
  have hl : lv_has ls 2 [(0, .ref (mm_ad G this)), (1, .int (mm_I a1))] := hl
  refine lv_iload_n (pc := 0) C.1 C.2.1 dX3_isTold_0 rfl (lv_at hl 1 rfl) ?_
  refine lv_iconst (pc := 1) (v := mm_I 4) C.1 C.2.1 dX3_isTold_1 rfl ?_
  refine g_icmp_lt (pc := 2) (tgt := 26) C rfl mn_4 dX3_isTold_2 (by decide) (fun hc => ?_) (fun hc => ?_)
  · have hw := hw.1 hc
    refine lv_iconst (pc := 26) (v := mm_I 0) C.1 C.2.1 dX3_isTold_26 rfl ?_
    exact g_zret (pc := 27) C w hr hk (by decide) hw dX3_isTold_27
  · have hw := hw.2 hc
    refine lv_iload_n (pc := 5) C.1 C.2.1 dX3_isTold_5 rfl (lv_at hl 1 rfl) ?_
    refine lv_iconst (pc := 6) (v := mm_I 4) C.1 C.2.1 dX3_isTold_6 rfl ?_
    refine g_isub (pc := 7) C dX3_isTold_7 ?_
    refine lv_aload_n (pc := 8) C.1 C.2.1 dX3_isTold_8 rfl (lv_at hl 0 rfl) ?_
    refine g_geti (pc := 9) C w h0 ff_X3_4 lk_X3_25 dX3_isTold_9 ?_
    refine g_icmp_ge (pc := 12) (tgt := 26) C rfl rfl dX3_isTold_12 (by decide) (fun hc => ?_) (fun hc => ?_)
    · have hw := hw.1 hc
      refine lv_iconst (pc := 26) (v := mm_I 0) C.1 C.2.1 dX3_isTold_26 rfl ?_
      exact g_zret (pc := 27) C w hr hk (by decide) hw dX3_isTold_27
    · have hw := hw.2 hc
      refine lv_iload_n (pc := 15) C.1 C.2.1 dX3_isTold_15 rfl (lv_at hl 1 rfl) ?_
      refine lv_iconst (pc := 16) (v := mm_I 4) C.1 C.2.1 dX3_isTold_16 rfl ?_
      refine g_isub (pc := 17) C dX3_isTold_17 ?_
      refine lv_iconst (pc := 18) (v := mm_I 5) C.1 C.2.1 dX3_isTold_18 rfl ?_
      refine g_icmp_ge (pc := 19) (tgt := 26) C rfl mn_5 dX3_isTold_19 (by decide) (fun hc => ?_) (fun hc => ?_)
      · have hw := hw.1 hc
        refine lv_iconst (pc := 26) (v := mm_I 0) C.1 C.2.1 dX3_isTold_26 rfl ?_
        exact g_zret (pc := 27) C w hr hk (by decide) hw dX3_isTold_27
      · have hw := hw.2 hc
        refine lv_iconst (pc := 22) (v := mm_I 1) C.1 C.2.1 dX3_isTold_22 rfl ?_
        refine lv_goto (pc := 23) (tgt := 27) C.1 C.2.1 dX3_isTold_23 (by decide) ?_
        exact g_zret (pc := 27) C w hr hk (by decide) hw dX3_isTold_27
def wp_X3_endAt (this : Nat) (a1 : Int) (s0 : mm_M) (post : Int → mm_M → Prop) : Prop :=
  ((n32 a1 < 0 → post 0 s0) ∧ (¬ n32 a1 < 0 → ((5 ≤ n32 a1 → post 0 s0) ∧ (¬ 5 ≤ n32 a1 → ((0 ≤ a1 ∧ a1 < 5) ∧ post (s0 (mm_rt this 1) a1) s0)))))
set_option maxRecDepth 100000 in
set_option maxHeartbeats 4000000 in
theorem c_X3_endAt (l : Launch) (G : mm_G) (this : Nat) (a1 : Int) (h0 : mm_ok this 13 0) (s0 : mm_M) (post : Int → mm_M → Prop) (hw : wp_X3_endAt this a1 s0 post) : Met l yX3_endAt (mm_wm yX3_endAt cX3_endAt 2 (some .int)) (mm_rm 1) (va_Pc [.ref (mm_ad G this), .int (mm_I a1)] (mm_pre G s0)) (mm_Qi G post) 0 0 (mm_A G) := by
  refine mm_met (own := RX3) (by decide) rfl (Nat.le_of_ble_eq_true rfl) ?_
  intro p e s m args below meth c C hr hk
  unfold wp_X3_endAt at hw
  intro H locs ls w hl
  have hl : lv_has ls 2 [(0, .ref (mm_ad G this)), (1, .int (mm_I a1))] := hl
  refine lv_iload_n (pc := 0) C.1 C.2.1 dX3_endAt_0 rfl (lv_at hl 1 rfl) ?_
  refine g_if_lt (pc := 1) (tgt := 18) C rfl dX3_endAt_1 (by decide) (fun hc => ?_) (fun hc => ?_)
  · have hw := hw.1 hc
    refine lv_iconst (pc := 18) (v := mm_I 0) C.1 C.2.1 dX3_endAt_18 rfl ?_
    exact g_iret (pc := 19) C w hr hk hw dX3_endAt_19
  · have hw := hw.2 hc
    refine lv_iload_n (pc := 4) C.1 C.2.1 dX3_endAt_4 rfl (lv_at hl 1 rfl) ?_
    refine lv_iconst (pc := 5) (v := mm_I 5) C.1 C.2.1 dX3_endAt_5 rfl ?_
    refine g_icmp_ge (pc := 6) (tgt := 18) C rfl mn_5 dX3_endAt_6 (by decide) (fun hc => ?_) (fun hc => ?_)
    · have hw := hw.1 hc
      refine lv_iconst (pc := 18) (v := mm_I 0) C.1 C.2.1 dX3_endAt_18 rfl ?_
      exact g_iret (pc := 19) C w hr hk hw dX3_endAt_19
    · have hw := hw.2 hc
      refine lv_aload_n (pc := 9) C.1 C.2.1 dX3_endAt_9 rfl (lv_at hl 0 rfl) ?_
      refine g_getr (pc := 10) C w h0 ff_X3_1 lk_X3_15 dX3_endAt_10 ?_
      refine lv_iload_n (pc := 13) C.1 C.2.1 dX3_endAt_13 rfl (lv_at hl 1 rfl) ?_
      obtain ⟨hi, hw⟩ := hw
      refine g_iald (pc := 14) C w (ro_X3_1 h0) hi dX3_endAt_14 ?_
      refine lv_goto (pc := 15) (tgt := 19) C.1 C.2.1 dX3_endAt_15 (by decide) ?_
      exact g_iret (pc := 19) C w hr hk hw dX3_endAt_19
theorem lk_X3_141 : Cond.fieldLink RX3 141 "LastServed$Laws" "top" "I" ∈ mm_ws := (mt_1 147 rfl rfl)
theorem ff_X3_6 : mm_F 3 6 0 RX3 TX3 7 := ⟨rfl, by decide, fk_X3, rfl, rfl⟩
theorem fw_X3_6 : mm_Fw 3 6 TX3 7 .int := ⟨⟨tyX3, tyX3_ok⟩, nmX3, rfl, by decide +kernel⟩
theorem lk_X3_22 : Cond.fieldLink RX3 22 "LastServed$Laws" "stack" "[I" ∈ mm_ws := (mt_1 143 rfl rfl)
theorem ff_X3_3 : mm_F 3 3 1 RX3 TX3 7 := ⟨rfl, by decide, fk_X3, rfl, rfl⟩
theorem ro_X3_3 {i : Nat} (h : mm_ok i 13 0) : mm_ok (mm_rt i 3) 0 40 := by
  have q : ∀ i, i < mm_N → mm_kd i = 13 → mm_rt i 3 < mm_N ∧ mm_kd (mm_rt i 3) = 0 ∧ mm_ln (mm_rt i 3) = 40 := by decide +kernel
  exact q i h.1 h.2.1
def wp_X3_pop (this : Nat) (s0 : mm_M) (post : Int → mm_M → Prop) : Prop :=
  ((n32 (s0 this 6) ≤ 0 → post 0 s0) ∧ (¬ n32 (s0 this 6) ≤ 0 → ((n32 (s0 this 6) ≤ 40 → (∀ s_1 : mm_M, s_1 = mm_up s0 this 6 ((s0 this 6) - 1) → ((0 ≤ s_1 this 6 ∧ s_1 this 6 < 40) ∧ post (s_1 (mm_rt this 3) (s_1 this 6)) s_1))) ∧ (¬ n32 (s0 this 6) ≤ 40 → post 0 s0))))
set_option maxRecDepth 100000 in
set_option maxHeartbeats 4000000 in
theorem c_X3_pop (l : Launch) (G : mm_G) (this : Nat) (h0 : mm_ok this 13 0) (s0 : mm_M) (post : Int → mm_M → Prop) (hw : wp_X3_pop this s0 post) : Met l yX3_pop (mm_wm yX3_pop cX3_pop 1 (some .int)) (mm_rm 1) (va_Pc [.ref (mm_ad G this)] (mm_pre G s0)) (mm_Qi G post) 0 0 (mm_A G) := by
  refine mm_met (own := RX3) (by decide) rfl (Nat.le_of_ble_eq_true rfl) ?_
  intro p e s m args below meth c C hr hk
  unfold wp_X3_pop at hw
  intro H locs ls w hl
  have hl : lv_has ls 1 [(0, .ref (mm_ad G this))] := hl
  refine lv_aload_n (pc := 0) C.1 C.2.1 dX3_pop_0 rfl (lv_at hl 0 rfl) ?_
  refine g_geti (pc := 1) C w h0 ff_X3_6 lk_X3_141 dX3_pop_1 ?_
  refine g_if_le (pc := 4) (tgt := 16) C rfl dX3_pop_4 (by decide) (fun hc => ?_) (fun hc => ?_)
  · have hw := hw.1 hc
    refine lv_iconst (pc := 16) (v := mm_I 0) C.1 C.2.1 dX3_pop_16 rfl ?_
    exact g_iret (pc := 17) C w hr hk hw dX3_pop_17
  · have hw := hw.2 hc
    refine lv_aload_n (pc := 7) C.1 C.2.1 dX3_pop_7 rfl (lv_at hl 0 rfl) ?_
    refine g_geti (pc := 8) C w h0 ff_X3_6 lk_X3_141 dX3_pop_8 ?_
    refine lv_bipush (pc := 11) C.1 C.2.1 dX3_pop_11 mb_40 ?_
    refine g_icmp_le (pc := 13) (tgt := 18) C rfl mn_40 dX3_pop_13 (by decide) (fun hc => ?_) (fun hc => ?_)
    · have hw := hw.1 hc
      refine lv_aload_n (pc := 18) C.1 C.2.1 dX3_pop_18 rfl (lv_at hl 0 rfl) ?_
      refine lv_dup (pc := 19) C.1 C.2.1 dX3_pop_19 rfl ?_
      refine g_geti (pc := 20) C w h0 ff_X3_6 lk_X3_141 dX3_pop_20 ?_
      refine lv_iconst (pc := 23) (v := mm_I 1) C.1 C.2.1 dX3_pop_23 rfl ?_
      refine g_isub (pc := 24) C dX3_pop_24 ?_
      refine g_puti (pc := 25) C w h0 ff_X3_6 fw_X3_6 lk_X3_141 dX3_pop_25 (fun s_1 H locs es_1 w => ?_)
      have hw := hw s_1 es_1
      refine lv_aload_n (pc := 28) C.1 C.2.1 dX3_pop_28 rfl (lv_at hl 0 rfl) ?_
      refine g_getr (pc := 29) C w h0 ff_X3_3 lk_X3_22 dX3_pop_29 ?_
      refine lv_aload_n (pc := 32) C.1 C.2.1 dX3_pop_32 rfl (lv_at hl 0 rfl) ?_
      refine g_geti (pc := 33) C w h0 ff_X3_6 lk_X3_141 dX3_pop_33 ?_
      obtain ⟨hi, hw⟩ := hw
      refine g_iald (pc := 36) C w (ro_X3_3 h0) hi dX3_pop_36 ?_
      exact g_iret (pc := 37) C w hr hk hw dX3_pop_37
    · have hw := hw.2 hc
      refine lv_iconst (pc := 16) (v := mm_I 0) C.1 C.2.1 dX3_pop_16 rfl ?_
      exact g_iret (pc := 17) C w hr hk hw dX3_pop_17
theorem lc_X3_174 : Cond.constantLong RX3 174 (mm_L (-1000000)) ∈ mm_ws := (mt_4 115 rfl rfl)
theorem lc_X3_177 : Cond.constantLong RX3 177 (mm_L 1000000) ∈ mm_ws := (mt_4 117 rfl rfl)
theorem lc_X3_179 : Cond.constant RX3 179 (mm_I 1000000) ∈ mm_ws := (mt_4 118 rfl rfl)
theorem lc_X3_176 : Cond.constant RX3 176 (mm_I (-1000000)) ∈ mm_ws := (mt_4 116 rfl rfl)
def wp_X3_bounded (a1 : Int) (s0 : mm_M) (post : Int → mm_M → Prop) : Prop :=
  ((n64 (-1000000) ≤ n64 a1 → ((n64 a1 ≤ n64 1000000 → post a1 s0) ∧ (¬ n64 a1 ≤ n64 1000000 → post 1000000 s0))) ∧ (¬ n64 (-1000000) ≤ n64 a1 → post (-1000000) s0))
set_option maxRecDepth 100000 in
set_option maxHeartbeats 4000000 in
theorem c_X3_bounded (l : Launch) (G : mm_G) (a1 : Int)  (s0 : mm_M) (post : Int → mm_M → Prop) (hw : wp_X3_bounded a1 s0 post) : Met l yX3_bounded (mm_wm yX3_bounded cX3_bounded 2 (some .int)) (mm_rm 1) (va_Pc [.long (mm_L a1)] (mm_pre G s0)) (mm_Qi G post) 0 0 (mm_A G) := by
  refine mm_met (own := RX3) (by decide) rfl (Nat.le_of_ble_eq_true rfl) ?_
  intro p e s m args below meth c C hr hk
  unfold wp_X3_bounded at hw
  intro H locs ls w hl
  have hl : lv_has ls 2 [(0, .long (mm_L a1))] := hl
  refine lv_lload_n (pc := 0) C.1 C.2.1 dX3_bounded_0 rfl (lv_at hl 0 rfl) ?_
  refine lv_ldc2 (pc := 1) C.1 C.2.1 C.2.2.2.1 (C.2.2.2.2 _ lc_X3_174) dX3_bounded_1 ?_
  refine g_lcmp (pc := 4) C dX3_bounded_4 ?_
  refine g_lif_ge (pc := 5) (tgt := 11) C rfl rfl dX3_bounded_5 (by decide) (fun hc => ?_) (fun hc => ?_)
  · have hw := hw.1 hc
    refine lv_lload_n (pc := 11) C.1 C.2.1 dX3_bounded_11 rfl (lv_at hl 0 rfl) ?_
    refine lv_ldc2 (pc := 12) C.1 C.2.1 C.2.2.2.1 (C.2.2.2.2 _ lc_X3_177) dX3_bounded_12 ?_
    refine g_lcmp (pc := 15) C dX3_bounded_15 ?_
    refine g_lif_le (pc := 16) (tgt := 24) C rfl rfl dX3_bounded_16 (by decide) (fun hc => ?_) (fun hc => ?_)
    · have hw := hw.1 hc
      refine lv_lload_n (pc := 24) C.1 C.2.1 dX3_bounded_24 rfl (lv_at hl 0 rfl) ?_
      refine g_l2i (pc := 25) C dX3_bounded_25 ?_
      exact g_iret (pc := 26) C w hr hk hw dX3_bounded_26
    · have hw := hw.2 hc
      refine lv_ldc (pc := 19) C.1 C.2.1 C.2.2.2.1 (C.2.2.2.2 _ lc_X3_179) dX3_bounded_19 ?_
      refine lv_goto (pc := 21) (tgt := 26) C.1 C.2.1 dX3_bounded_21 (by decide) ?_
      exact g_iret (pc := 26) C w hr hk hw dX3_bounded_26
  · have hw := hw.2 hc
    refine lv_ldc (pc := 8) C.1 C.2.1 C.2.2.2.1 (C.2.2.2.2 _ lc_X3_176) dX3_bounded_8 ?_
    exact g_iret (pc := 10) C w hr hk hw dX3_bounded_10
theorem cs_X3_bounded : mm_S yX3_bounded cX3_bounded 2 (some .int) 1 := ⟨(mt_4 114 rfl rfl), (mt_4 113 rfl rfl), (mt_1 5 rfl rfl), by decide, by decide, by decide +kernel⟩
theorem ml_X3_170 : Cond.methodLink RX3 170 yX3_bounded ∈ mm_ws := (mt_4 112 rfl rfl)
def wp_X3_joined (a1 : Int) (a2 : Int) (a3 : Int) (s0 : mm_M) (post : Int → mm_M → Prop) : Prop :=
  ((n32 a1 = 42 → (wp_X3_bounded (a2 * a3) s0 (fun r_2 s_1 => post r_2 s_1))) ∧ (¬ n32 a1 = 42 → ((n32 a1 = 43 → (wp_X3_bounded (a2 + a3) s0 (fun r_4 s_3 => post r_4 s_3))) ∧ (¬ n32 a1 = 43 → ((n32 a1 = 45 → (wp_X3_bounded (a2 - a3) s0 (fun r_6 s_5 => post r_6 s_5))) ∧ (¬ n32 a1 = 45 → ((n32 a1 = 60 → ((n64 a3 ≤ n64 a2 → post 0 s0) ∧ (¬ n64 a3 ≤ n64 a2 → post 1 s0))) ∧ (¬ n32 a1 = 60 → ((¬ n64 a2 = n64 a3 → post 0 s0) ∧ (n64 a2 = n64 a3 → post 1 s0))))))))))
set_option maxRecDepth 100000 in
set_option maxHeartbeats 4000000 in
theorem c_X3_joined (l : Launch) (G : mm_G) (a1 : Int) (a2 : Int) (a3 : Int)  (s0 : mm_M) (post : Int → mm_M → Prop) (hw : wp_X3_joined a1 a2 a3 s0 post) : Met l yX3_joined (mm_wm yX3_joined cX3_joined 5 (some .int)) (mm_rm 2) (va_Pc [.int (mm_I a1), .long (mm_L a2), .long (mm_L a3)] (mm_pre G s0)) (mm_Qi G post) 0 0 (mm_A G) := by
  refine mm_met (own := RX3) (by decide) rfl (Nat.le_of_ble_eq_true rfl) ?_
  intro p e s m args below meth c C hr hk
  unfold wp_X3_joined at hw
  intro H locs ls w hl
  have hl : lv_has ls 5 [(0, .int (mm_I a1)), (1, .long (mm_L a2)), (3, .long (mm_L a3))] := hl
  refine lv_iload_n (pc := 0) C.1 C.2.1 dX3_joined_0 rfl (lv_at hl 0 rfl) ?_
  by_cases hc42 : n32 a1 = 42
  · have hw := hw.1 hc42
    refine lv_lookup (pc := 1) (tgt := 58) C.1 C.2.1 dX3_joined_1 (by decide) (by rw [show (mm_I a1).toInt = 42 from hc42]; first | done | rfl) (by decide) ?_
    refine lv_lload_n (pc := 58) C.1 C.2.1 dX3_joined_58 rfl (lv_at hl 1 rfl) ?_
    refine lv_lload_n (pc := 59) C.1 C.2.1 dX3_joined_59 rfl (lv_at hl 2 rfl) ?_
    refine g_lmul (pc := 60) C dX3_joined_60 ?_
    refine g_calli (pc := 61) w (mm_runS (As := [.long (mm_L (a2 * a3))]) (rest := []) C w (c_X3_bounded l G (a2 * a3)  s0 _ hw) cs_X3_bounded ml_X3_170 ⟨Nat.le_of_ble_eq_true rfl, Nat.le_of_ble_eq_true rfl⟩ ⟨Nat.le_of_ble_eq_true rfl, Nat.le_of_ble_eq_true rfl⟩ rfl hl.1 rfl (Nat.le_of_ble_eq_true rfl) dX3_joined_61) (fun r_2 s_1 H locs hw w => ?_)
    exact g_iret (pc := 64) C w hr hk hw dX3_joined_64
  have hw := hw.2 hc42
  by_cases hc43 : n32 a1 = 43
  · have hw := hw.1 hc43
    refine lv_lookup (pc := 1) (tgt := 44) C.1 C.2.1 dX3_joined_1 (by decide) (by rw [show (mm_I a1).toInt = 43 from hc43]; first | done | rfl) (by decide) ?_
    refine lv_lload_n (pc := 44) C.1 C.2.1 dX3_joined_44 rfl (lv_at hl 1 rfl) ?_
    refine lv_lload_n (pc := 45) C.1 C.2.1 dX3_joined_45 rfl (lv_at hl 2 rfl) ?_
    refine g_ladd (pc := 46) C dX3_joined_46 ?_
    refine g_calli (pc := 47) w (mm_runS (As := [.long (mm_L (a2 + a3))]) (rest := []) C w (c_X3_bounded l G (a2 + a3)  s0 _ hw) cs_X3_bounded ml_X3_170 ⟨Nat.le_of_ble_eq_true rfl, Nat.le_of_ble_eq_true rfl⟩ ⟨Nat.le_of_ble_eq_true rfl, Nat.le_of_ble_eq_true rfl⟩ rfl hl.1 rfl (Nat.le_of_ble_eq_true rfl) dX3_joined_47) (fun r_4 s_3 H locs hw w => ?_)
    exact g_iret (pc := 50) C w hr hk hw dX3_joined_50
  have hw := hw.2 hc43
  by_cases hc45 : n32 a1 = 45
  · have hw := hw.1 hc45
    refine lv_lookup (pc := 1) (tgt := 51) C.1 C.2.1 dX3_joined_1 (by decide) (by rw [show (mm_I a1).toInt = 45 from hc45]; first | done | rfl) (by decide) ?_
    refine lv_lload_n (pc := 51) C.1 C.2.1 dX3_joined_51 rfl (lv_at hl 1 rfl) ?_
    refine lv_lload_n (pc := 52) C.1 C.2.1 dX3_joined_52 rfl (lv_at hl 2 rfl) ?_
    refine g_lsub (pc := 53) C dX3_joined_53 ?_
    refine g_calli (pc := 54) w (mm_runS (As := [.long (mm_L (a2 - a3))]) (rest := []) C w (c_X3_bounded l G (a2 - a3)  s0 _ hw) cs_X3_bounded ml_X3_170 ⟨Nat.le_of_ble_eq_true rfl, Nat.le_of_ble_eq_true rfl⟩ ⟨Nat.le_of_ble_eq_true rfl, Nat.le_of_ble_eq_true rfl⟩ rfl hl.1 rfl (Nat.le_of_ble_eq_true rfl) dX3_joined_54) (fun r_6 s_5 H locs hw w => ?_)
    exact g_iret (pc := 57) C w hr hk hw dX3_joined_57
  have hw := hw.2 hc45
  by_cases hc60 : n32 a1 = 60
  · have hw := hw.1 hc60
    refine lv_lookup (pc := 1) (tgt := 65) C.1 C.2.1 dX3_joined_1 (by decide) (by rw [show (mm_I a1).toInt = 60 from hc60]; first | done | rfl) (by decide) ?_
    refine lv_lload_n (pc := 65) C.1 C.2.1 dX3_joined_65 rfl (lv_at hl 1 rfl) ?_
    refine lv_lload_n (pc := 66) C.1 C.2.1 dX3_joined_66 rfl (lv_at hl 2 rfl) ?_
    refine g_lcmp (pc := 67) C dX3_joined_67 ?_
    refine g_lif_ge (pc := 68) (tgt := 75) C rfl rfl dX3_joined_68 (by decide) (fun hc => ?_) (fun hc => ?_)
    · have hw := hw.1 hc
      refine lv_iconst (pc := 75) (v := mm_I 0) C.1 C.2.1 dX3_joined_75 rfl ?_
      exact g_iret (pc := 76) C w hr hk hw dX3_joined_76
    · have hw := hw.2 hc
      refine lv_iconst (pc := 71) (v := mm_I 1) C.1 C.2.1 dX3_joined_71 rfl ?_
      refine lv_goto (pc := 72) (tgt := 76) C.1 C.2.1 dX3_joined_72 (by decide) ?_
      exact g_iret (pc := 76) C w hr hk hw dX3_joined_76
  have hw := hw.2 hc60
  refine lv_lookup (pc := 1) (tgt := 77) C.1 C.2.1 dX3_joined_1 (by decide) (by show Op.lookupswitch.offset [(42, 57), (43, 43), (45, 50), (60, 64)] 76 (mm_I a1).toInt = 76; rw [Op.lookupswitch.offset_cons, if_neg (fun h => hc42 h.symm), Op.lookupswitch.offset_cons, if_neg (fun h => hc43 h.symm), Op.lookupswitch.offset_cons, if_neg (fun h => hc45 h.symm), Op.lookupswitch.offset_cons, if_neg (fun h => hc60 h.symm)]; first | done | rfl) (by decide) ?_
  refine lv_lload_n (pc := 77) C.1 C.2.1 dX3_joined_77 rfl (lv_at hl 1 rfl) ?_
  refine lv_lload_n (pc := 78) C.1 C.2.1 dX3_joined_78 rfl (lv_at hl 2 rfl) ?_
  refine g_lcmp (pc := 79) C dX3_joined_79 ?_
  refine g_lif_ne (pc := 80) (tgt := 87) C rfl rfl dX3_joined_80 (by decide) (fun hc => ?_) (fun hc => ?_)
  · have hw := hw.1 hc
    refine lv_iconst (pc := 87) (v := mm_I 0) C.1 C.2.1 dX3_joined_87 rfl ?_
    exact g_iret (pc := 88) C w hr hk hw dX3_joined_88
  · have hw := hw.2 hc
    refine lv_iconst (pc := 83) (v := mm_I 1) C.1 C.2.1 dX3_joined_83 rfl ?_
    refine lv_goto (pc := 84) (tgt := 88) C.1 C.2.1 dX3_joined_84 (by decide) ?_
    exact g_iret (pc := 88) C w hr hk hw dX3_joined_88
def wp_X3_push (this : Nat) (a1 : Int) (s0 : mm_M) (post : mm_M → Prop) : Prop :=
  ((n32 (s0 this 6) < 0 → post s0) ∧ (¬ n32 (s0 this 6) < 0 → ((40 ≤ n32 (s0 this 6) → post s0) ∧ (¬ 40 ≤ n32 (s0 this 6) → ((0 ≤ s0 this 6 ∧ s0 this 6 < 40) ∧ (∀ s_1 : mm_M, s_1 = mm_up s0 (mm_rt this 3) (s0 this 6) a1 → (∀ s_2 : mm_M, s_2 = mm_up s_1 this 6 ((s_1 this 6) + 1) → post s_2)))))))
set_option maxRecDepth 100000 in
set_option maxHeartbeats 4000000 in
theorem c_X3_push (l : Launch) (G : mm_G) (this : Nat) (a1 : Int) (h0 : mm_ok this 13 0) (s0 : mm_M) (post : mm_M → Prop) (hw : wp_X3_push this a1 s0 post) : Met l yX3_push (mm_wm yX3_push cX3_push 2 none) (mm_rm 1) (va_Pc [.ref (mm_ad G this), .int (mm_I a1)] (mm_pre G s0)) (mm_Qv G post) 0 0 (mm_A G) := by
  refine mm_met (own := RX3) (by decide) rfl (Nat.le_of_ble_eq_true rfl) ?_
  intro p e s m args below meth c C hr hk
  unfold wp_X3_push at hw
  intro H locs ls w hl
  have hl : lv_has ls 2 [(0, .ref (mm_ad G this)), (1, .int (mm_I a1))] := hl
  refine lv_aload_n (pc := 0) C.1 C.2.1 dX3_push_0 rfl (lv_at hl 0 rfl) ?_
  refine g_geti (pc := 1) C w h0 ff_X3_6 lk_X3_141 dX3_push_1 ?_
  refine g_if_lt (pc := 4) (tgt := 36) C rfl dX3_push_4 (by decide) (fun hc => ?_) (fun hc => ?_)
  · have hw := hw.1 hc
    exact g_vret (pc := 36) C w hr hk hw dX3_push_36
  · have hw := hw.2 hc
    refine lv_aload_n (pc := 7) C.1 C.2.1 dX3_push_7 rfl (lv_at hl 0 rfl) ?_
    refine g_geti (pc := 8) C w h0 ff_X3_6 lk_X3_141 dX3_push_8 ?_
    refine lv_bipush (pc := 11) C.1 C.2.1 dX3_push_11 mb_40 ?_
    refine g_icmp_ge (pc := 13) (tgt := 36) C rfl mn_40 dX3_push_13 (by decide) (fun hc => ?_) (fun hc => ?_)
    · have hw := hw.1 hc
      exact g_vret (pc := 36) C w hr hk hw dX3_push_36
    · have hw := hw.2 hc
      refine lv_aload_n (pc := 16) C.1 C.2.1 dX3_push_16 rfl (lv_at hl 0 rfl) ?_
      refine g_getr (pc := 17) C w h0 ff_X3_3 lk_X3_22 dX3_push_17 ?_
      refine lv_aload_n (pc := 20) C.1 C.2.1 dX3_push_20 rfl (lv_at hl 0 rfl) ?_
      refine g_geti (pc := 21) C w h0 ff_X3_6 lk_X3_141 dX3_push_21 ?_
      refine lv_iload_n (pc := 24) C.1 C.2.1 dX3_push_24 rfl (lv_at hl 1 rfl) ?_
      obtain ⟨hi, hw⟩ := hw
      refine g_iast (pc := 25) C w (ro_X3_3 h0) hi  dX3_push_25 (fun s_1 H locs es_1 w => ?_)
      have hw := hw s_1 es_1
      refine lv_aload_n (pc := 26) C.1 C.2.1 dX3_push_26 rfl (lv_at hl 0 rfl) ?_
      refine lv_dup (pc := 27) C.1 C.2.1 dX3_push_27 rfl ?_
      refine g_geti (pc := 28) C w h0 ff_X3_6 lk_X3_141 dX3_push_28 ?_
      refine lv_iconst (pc := 31) (v := mm_I 1) C.1 C.2.1 dX3_push_31 rfl ?_
      refine g_iadd (pc := 32) C dX3_push_32 ?_
      refine g_puti (pc := 33) C w h0 ff_X3_6 fw_X3_6 lk_X3_141 dX3_push_33 (fun s_2 H locs es_2 w => ?_)
      have hw := hw s_2 es_2
      exact g_vret (pc := 36) C w hr hk hw dX3_push_36
theorem cv_X3_endAt : mm_V yX3_endAt cX3_endAt 2 (some .int) 1 := ⟨(mt_4 100 rfl rfl), (mt_4 99 rfl rfl), (mp_2 5 rfl rfl), (mt_1 5 rfl rfl), by decide, by decide, by decide +kernel⟩
theorem ml_X3_144 : Cond.methodLink RX3 144 yX3_endAt ∈ mm_ws := (mt_4 97 rfl rfl)
theorem ml_X3_148 : Cond.methodLink RX3 148 Lib.Math.min.name ∈ mm_ws := (mt_4 101 rfl rfl)
theorem ml_X3_153 : Cond.methodLink RX3 153 Lib.Math.max.name ∈ mm_ws := (mt_4 104 rfl rfl)
theorem cv_X3_pop : mm_V yX3_pop cX3_pop 1 (some .int) 0 := ⟨(mt_4 108 rfl rfl), (mt_4 107 rfl rfl), (mp_2 6 rfl rfl), (mt_1 5 rfl rfl), by decide, by decide, by decide +kernel⟩
theorem ml_X3_156 : Cond.methodLink RX3 156 yX3_pop ∈ mm_ws := (mt_4 105 rfl rfl)
theorem mn_20000 : n32 20000 = 20000 := by decide
theorem mn_10000 : n32 10000 = 10000 := by decide
theorem cv_X1_named : mm_V yX1_named cX1_named 3 (some .int) 2 := ⟨(mt_4 126 rfl rfl), (mt_4 124 rfl rfl), (mt_4 125 rfl rfl), (mt_1 2 rfl rfl), by decide, by decide, by decide +kernel⟩
theorem ml_X3_167 : Cond.methodLink RX3 167 yX1_named ∈ mm_ws := (mt_4 123 rfl rfl)
theorem cs_X3_joined : mm_S yX3_joined cX3_joined 5 (some .int) 3 := ⟨(mt_4 111 rfl rfl), (mt_4 110 rfl rfl), (mt_1 5 rfl rfl), by decide, by decide, by decide +kernel⟩
theorem ml_X3_160 : Cond.methodLink RX3 160 yX3_joined ∈ mm_ws := (mt_4 109 rfl rfl)
theorem cv_X3_push : mm_V yX3_push cX3_push 2 none 1 := ⟨(mt_4 122 rfl rfl), (mt_4 121 rfl rfl), (mp_2 7 rfl rfl), (mt_1 5 rfl rfl), by decide, by decide, by decide +kernel⟩
theorem ml_X3_164 : Cond.methodLink RX3 164 yX3_push ∈ mm_ws := (mt_4 119 rfl rfl)
def wp_X3_work (this : Nat) (a1 : Int) (a2 : Nat) (a3 : Int) (s0 : mm_M) (post : Int → mm_M → Prop) : Prop :=
  ∀ (L31 : Int → Int → mm_M → Prop), ∀ (L110 : Int → Int → Int → mm_M → Prop), 
  (∀ (v4 : Int) (v5 : Int) (s1 : mm_M), ((n32 v4 ≤ n32 v5 → (wp_X3_pop this s1 (fun r_9 s_8 => post r_9 s_8))) ∧ (¬ n32 v4 ≤ n32 v5 → ((0 ≤ v5 ∧ v5 < 500) ∧ (∀ v6_10 : Int, v6_10 = s1 (mm_rt this 0) v5 → ((n32 v6_10 < 20000 → ((n32 v6_10 < 10000 → L110 v4 v5 v6_10 s1) ∧ (¬ n32 v6_10 < 10000 → (wp_X1_named a2 (v6_10 - 10000) a3 s1 (fun r_12 s_11 => L110 v4 v5 r_12 s_11))))) ∧ (¬ n32 v6_10 < 20000 → (wp_X3_pop this s1 (fun r_14 s_13 => (∀ v7_15 : Int, v7_15 = r_14 → (wp_X3_pop this s_13 (fun r_17 s_16 => (wp_X3_joined (v6_10 - 20000) (n32 r_17) (n32 v7_15) s_16 (fun r_19 s_18 => (wp_X3_push this r_19 s_18 (fun s_20 => (∀ v5_22 : Int, v5_22 = v5 + 1 → L31 v4 v5_22 s_20)))))))))))))))) → L31 v4 v5 s1) →
  (∀ (v4 : Int) (v5 : Int) (q0 : Int) (s1 : mm_M), (wp_X3_push this q0 s1 (fun s_23 => (∀ v5_25 : Int, v5_25 = v5 + 1 → L31 v4 v5_25 s_23))) → L110 v4 v5 q0 s1) →
  (∀ s_1 : mm_M, s_1 = mm_up s0 this 6 0 → (wp_X3_endAt this a1 s_1 (fun r_3 s_2 => (∀ v4_4 : Int, v4_4 = mm_min r_3 500 → (wp_X3_endAt this (a1 - 1) s_2 (fun r_6 s_5 => (∀ v5_7 : Int, v5_7 = mm_max r_6 0 → L31 v4_4 v5_7 s_5)))))))
set_option maxRecDepth 100000 in
set_option maxHeartbeats 4000000 in
theorem c_X3_work (l : Launch) (G : mm_G) (this : Nat) (a1 : Int) (a2 : Nat) (a3 : Int) (h0 : mm_ok this 13 0) (h2 : mm_ok a2 11 0) (s0 : mm_M) (post : Int → mm_M → Prop) (hw : wp_X3_work this a1 a2 a3 s0 post) : Met l yX3_work (mm_wm yX3_work cX3_work 8 (some .int)) (mm_rm 3) (va_Pc [.ref (mm_ad G this), .int (mm_I a1), .ref (mm_ad G a2), .int (mm_I a3)] (mm_pre G s0)) (mm_Qi G post) 0 0 (mm_A G) := by
  refine mm_met (own := RX3) (by decide) rfl (Nat.le_of_ble_eq_true rfl) ?_
  intro p e s m args below meth c C hr hk
  unfold wp_X3_work at hw
  have hw := hw (fun (v4 : Int) (v5 : Int) (u : mm_M) => mm_X p l e (mm_rm 3) s m args below meth c (MQ below (mm_Qi G post) args s 0 0 (mm_A G)) G (mm_A G) 8 31 [(0, .ref (mm_ad G this)), (2, .ref (mm_ad G a2)), (3, .int (mm_I a3)), (4, .int (mm_I v4)), (5, .int (mm_I v5))] [] u)
  have hw := hw (fun (v4 : Int) (v5 : Int) (q0 : Int) (u : mm_M) => mm_X p l e (mm_rm 3) s m args below meth c (MQ below (mm_Qi G post) args s 0 0 (mm_A G)) G (mm_A G) 8 110 [(0, .ref (mm_ad G this)), (2, .ref (mm_ad G a2)), (3, .int (mm_I a3)), (4, .int (mm_I v4)), (5, .int (mm_I v5))] [.int (mm_I q0), .ref (mm_ad G this)] u)
  have hw := hw (by
    intro v4 v5 s1 hw  H locs ls w hl
    refine lv_iload (pc := 31) C.1 C.2.1 dX3_work_31 (lv_at hl 4 rfl) ?_
    refine lv_iload (pc := 33) C.1 C.2.1 dX3_work_33 (lv_at hl 3 rfl) ?_
    refine g_icmp_ge (pc := 35) (tgt := 119) C rfl rfl dX3_work_35 (by decide) (fun hc => ?_) (fun hc => ?_)
    · have hw := hw.1 hc
      refine lv_aload_n (pc := 119) C.1 C.2.1 dX3_work_119 rfl (lv_at hl 0 rfl) ?_
      refine g_calli (pc := 120) w (mm_runV (ci := 3) (q := (RX3, TX3, 7)) (As := []) (rest := []) C w (c_X3_pop l G this h0 s1 _ hw) h0 rfl rfl cv_X3_pop ml_X3_156 ⟨Nat.le_of_ble_eq_true rfl, Nat.le_of_ble_eq_true rfl⟩ ⟨Nat.le_of_ble_eq_true rfl, Nat.le_of_ble_eq_true rfl⟩ rfl hl.1 rfl (Nat.le_of_ble_eq_true rfl) dX3_work_120) (fun r_9 s_8 H locs hw w => ?_)
      exact g_iret (pc := 123) C w hr hk hw dX3_work_123
    · have hw := hw.2 hc
      refine lv_aload_n (pc := 38) C.1 C.2.1 dX3_work_38 rfl (lv_at hl 0 rfl) ?_
      refine g_getr (pc := 39) C w h0 ff_X3_0 lk_X3_9 dX3_work_39 ?_
      refine lv_iload (pc := 42) C.1 C.2.1 dX3_work_42 (lv_at hl 4 rfl) ?_
      obtain ⟨hi, hw⟩ := hw
      refine g_iald (pc := 44) C w (ro_X3_0 h0) hi dX3_work_44 ?_
      refine g_istore (pc := 45) C dX3_work_45 hl (by decide) (fun v6_10 ev6_10 ls hl => ?_)
      have hw := hw v6_10 ev6_10
      have hl : lv_has ls 8 [(6, .int (mm_I v6_10)), (0, .ref (mm_ad G this)), (2, .ref (mm_ad G a2)), (3, .int (mm_I a3)), (4, .int (mm_I v4)), (5, .int (mm_I v5))] := hl
      refine lv_iload (pc := 47) C.1 C.2.1 dX3_work_47 (lv_at hl 0 rfl) ?_
      refine lv_sipush (pc := 49) C.1 C.2.1 dX3_work_49 ms_20000 ?_
      refine g_icmp_lt (pc := 52) (tgt := 85) C rfl mn_20000 dX3_work_52 (by decide) (fun hc => ?_) (fun hc => ?_)
      · have hw := hw.1 hc
        refine lv_aload_n (pc := 85) C.1 C.2.1 dX3_work_85 rfl (lv_at hl 1 rfl) ?_
        refine lv_iload (pc := 86) C.1 C.2.1 dX3_work_86 (lv_at hl 0 rfl) ?_
        refine lv_sipush (pc := 88) C.1 C.2.1 dX3_work_88 ms_10000 ?_
        refine g_icmp_lt (pc := 91) (tgt := 108) C rfl mn_10000 dX3_work_91 (by decide) (fun hc => ?_) (fun hc => ?_)
        · have hw := hw.1 hc
          refine lv_iload (pc := 108) C.1 C.2.1 dX3_work_108 (lv_at hl 0 rfl) ?_
          exact hw  _ _ _ w (lv_sub hl [1, 2, 3, 4, 5] rfl)
        · have hw := hw.2 hc
          refine lv_aload_n (pc := 94) C.1 C.2.1 dX3_work_94 rfl (lv_at hl 2 rfl) ?_
          refine lv_iload (pc := 95) C.1 C.2.1 dX3_work_95 (lv_at hl 0 rfl) ?_
          refine lv_sipush (pc := 97) C.1 C.2.1 dX3_work_97 ms_10000 ?_
          refine g_isub (pc := 100) C dX3_work_100 ?_
          refine lv_iload_n (pc := 101) C.1 C.2.1 dX3_work_101 rfl (lv_at hl 3 rfl) ?_
          refine g_calli (pc := 102) w (mm_runV (ci := 1) (q := (RX1, TX1, 8)) (As := [.int (mm_I (v6_10 - 10000)), .int (mm_I a3)]) (rest := [.ref (mm_ad G this)]) C w (c_X1_named l G a2 (v6_10 - 10000) a3 h2 s1 _ hw) h2 rfl rfl cv_X1_named ml_X3_167 ⟨Nat.le_of_ble_eq_true rfl, Nat.le_of_ble_eq_true rfl⟩ ⟨Nat.le_of_ble_eq_true rfl, Nat.le_of_ble_eq_true rfl⟩ rfl hl.1 rfl (Nat.le_of_ble_eq_true rfl) dX3_work_102) (fun r_12 s_11 H locs hw w => ?_)
          refine lv_goto (pc := 105) (tgt := 110) C.1 C.2.1 dX3_work_105 (by decide) ?_
          exact hw  _ _ _ w (lv_sub hl [1, 2, 3, 4, 5] rfl)
      · have hw := hw.2 hc
        refine lv_aload_n (pc := 55) C.1 C.2.1 dX3_work_55 rfl (lv_at hl 1 rfl) ?_
        refine g_calli (pc := 56) w (mm_runV (ci := 3) (q := (RX3, TX3, 7)) (As := []) (rest := []) C w (c_X3_pop l G this h0 s1 _ hw) h0 rfl rfl cv_X3_pop ml_X3_156 ⟨Nat.le_of_ble_eq_true rfl, Nat.le_of_ble_eq_true rfl⟩ ⟨Nat.le_of_ble_eq_true rfl, Nat.le_of_ble_eq_true rfl⟩ rfl hl.1 rfl (Nat.le_of_ble_eq_true rfl) dX3_work_56) (fun r_14 s_13 H locs hw w => ?_)
        refine g_istore (pc := 59) C dX3_work_59 hl (by decide) (fun v7_15 ev7_15 ls hl => ?_)
        have hw := hw v7_15 ev7_15
        have hl : lv_has ls 8 [(7, .int (mm_I v7_15)), (6, .int (mm_I v6_10)), (0, .ref (mm_ad G this)), (2, .ref (mm_ad G a2)), (3, .int (mm_I a3)), (4, .int (mm_I v4)), (5, .int (mm_I v5))] := hl
        refine lv_aload_n (pc := 61) C.1 C.2.1 dX3_work_61 rfl (lv_at hl 2 rfl) ?_
        refine lv_iload (pc := 62) C.1 C.2.1 dX3_work_62 (lv_at hl 1 rfl) ?_
        refine lv_sipush (pc := 64) C.1 C.2.1 dX3_work_64 ms_20000 ?_
        refine g_isub (pc := 67) C dX3_work_67 ?_
        refine lv_aload_n (pc := 68) C.1 C.2.1 dX3_work_68 rfl (lv_at hl 2 rfl) ?_
        refine g_calli (pc := 69) w (mm_runV (ci := 3) (q := (RX3, TX3, 7)) (As := []) (rest := [.int (mm_I (v6_10 - 20000)), .ref (mm_ad G this)]) C w (c_X3_pop l G this h0 s_13 _ hw) h0 rfl rfl cv_X3_pop ml_X3_156 ⟨Nat.le_of_ble_eq_true rfl, Nat.le_of_ble_eq_true rfl⟩ ⟨Nat.le_of_ble_eq_true rfl, Nat.le_of_ble_eq_true rfl⟩ rfl hl.1 rfl (Nat.le_of_ble_eq_true rfl) dX3_work_69) (fun r_17 s_16 H locs hw w => ?_)
        refine g_i2l (pc := 72) C rfl dX3_work_72 ?_
        refine lv_iload (pc := 73) C.1 C.2.1 dX3_work_73 (lv_at hl 0 rfl) ?_
        refine g_i2l (pc := 75) C rfl dX3_work_75 ?_
        refine g_calli (pc := 76) w (mm_runS (As := [.int (mm_I (v6_10 - 20000)), .long (mm_L (n32 r_17)), .long (mm_L (n32 v7_15))]) (rest := [.ref (mm_ad G this)]) C w (c_X3_joined l G (v6_10 - 20000) (n32 r_17) (n32 v7_15)  s_16 _ hw) cs_X3_joined ml_X3_160 ⟨Nat.le_of_ble_eq_true rfl, Nat.le_of_ble_eq_true rfl⟩ ⟨Nat.le_of_ble_eq_true rfl, Nat.le_of_ble_eq_true rfl⟩ rfl hl.1 rfl (Nat.le_of_ble_eq_true rfl) dX3_work_76) (fun r_19 s_18 H locs hw w => ?_)
        refine g_callv (pc := 79) w (mm_runV (ci := 3) (q := (RX3, TX3, 7)) (As := [.int (mm_I r_19)]) (rest := []) C w (c_X3_push l G this r_19 h0 s_18 _ hw) h0 rfl rfl cv_X3_push ml_X3_164 ⟨Nat.le_of_ble_eq_true rfl, Nat.le_of_ble_eq_true rfl⟩ ⟨Nat.le_of_ble_eq_true rfl, Nat.le_of_ble_eq_true rfl⟩ rfl hl.1 rfl (Nat.le_of_ble_eq_true rfl) dX3_work_79) (fun s_20 H locs hw w => ?_)
        refine lv_goto (pc := 82) (tgt := 113) C.1 C.2.1 dX3_work_82 (by decide) ?_
        refine g_iinc (pc := 113) (k := 6) C dX3_work_113 hl rfl (by decide) (fun v5_22 ev5_22 ls hl => ?_)
        have hw := hw v5_22 ev5_22
        have hl : lv_has ls 8 [(5, .int (mm_I v5_22)), (7, .int (mm_I v7_15)), (6, .int (mm_I v6_10)), (0, .ref (mm_ad G this)), (2, .ref (mm_ad G a2)), (3, .int (mm_I a3)), (4, .int (mm_I v4))] := hl
        refine lv_goto (pc := 116) (tgt := 31) C.1 C.2.1 dX3_work_116 (by decide) ?_
        exact hw  _ _ _ w (lv_sub hl [3, 4, 5, 6, 0] rfl))
  have hw := hw (by
    intro v4 v5 q0 s1 hw  H locs ls w hl
    refine g_callv (pc := 110) w (mm_runV (ci := 3) (q := (RX3, TX3, 7)) (As := [.int (mm_I q0)]) (rest := []) C w (c_X3_push l G this q0 h0 s1 _ hw) h0 rfl rfl cv_X3_push ml_X3_164 ⟨Nat.le_of_ble_eq_true rfl, Nat.le_of_ble_eq_true rfl⟩ ⟨Nat.le_of_ble_eq_true rfl, Nat.le_of_ble_eq_true rfl⟩ rfl hl.1 rfl (Nat.le_of_ble_eq_true rfl) dX3_work_110) (fun s_23 H locs hw w => ?_)
    refine g_iinc (pc := 113) (k := 4) C dX3_work_113 hl rfl (by decide) (fun v5_25 ev5_25 ls hl => ?_)
    have hw := hw v5_25 ev5_25
    have hl : lv_has ls 8 [(5, .int (mm_I v5_25)), (0, .ref (mm_ad G this)), (2, .ref (mm_ad G a2)), (3, .int (mm_I a3)), (4, .int (mm_I v4))] := hl
    refine lv_goto (pc := 116) (tgt := 31) C.1 C.2.1 dX3_work_116 (by decide) ?_
    exact hw  _ _ _ w (lv_sub hl [1, 2, 3, 4, 0] rfl))
  intro H locs ls w hl
  have hl : lv_has ls 8 [(0, .ref (mm_ad G this)), (1, .int (mm_I a1)), (2, .ref (mm_ad G a2)), (3, .int (mm_I a3))] := hl
  refine lv_aload_n (pc := 0) C.1 C.2.1 dX3_work_0 rfl (lv_at hl 0 rfl) ?_
  refine lv_iconst (pc := 1) (v := mm_I 0) C.1 C.2.1 dX3_work_1 rfl ?_
  refine g_puti (pc := 2) C w h0 ff_X3_6 fw_X3_6 lk_X3_141 dX3_work_2 (fun s_1 H locs es_1 w => ?_)
  have hw := hw s_1 es_1
  refine lv_aload_n (pc := 5) C.1 C.2.1 dX3_work_5 rfl (lv_at hl 0 rfl) ?_
  refine lv_iload_n (pc := 6) C.1 C.2.1 dX3_work_6 rfl (lv_at hl 1 rfl) ?_
  refine g_calli (pc := 7) w (mm_runV (ci := 3) (q := (RX3, TX3, 7)) (As := [.int (mm_I a1)]) (rest := []) C w (c_X3_endAt l G this a1 h0 s_1 _ hw) h0 rfl rfl cv_X3_endAt ml_X3_144 ⟨Nat.le_of_ble_eq_true rfl, Nat.le_of_ble_eq_true rfl⟩ ⟨Nat.le_of_ble_eq_true rfl, Nat.le_of_ble_eq_true rfl⟩ rfl hl.1 rfl (Nat.le_of_ble_eq_true rfl) dX3_work_7) (fun r_3 s_2 H locs hw w => ?_)
  refine lv_sipush (pc := 10) C.1 C.2.1 dX3_work_10 ms_500 ?_
  refine g_min (pc := 13) C hl.1 ml_X3_148 mv_min ⟨Nat.le_of_ble_eq_true rfl, Nat.le_of_ble_eq_true rfl⟩ ⟨Nat.le_of_ble_eq_true rfl, Nat.le_of_ble_eq_true rfl⟩ dX3_work_13 ?_
  refine g_istore (pc := 16) C dX3_work_16 hl (by decide) (fun v4_4 ev4_4 ls hl => ?_)
  have hw := hw v4_4 ev4_4
  have hl : lv_has ls 8 [(4, .int (mm_I v4_4)), (0, .ref (mm_ad G this)), (1, .int (mm_I a1)), (2, .ref (mm_ad G a2)), (3, .int (mm_I a3))] := hl
  refine lv_aload_n (pc := 18) C.1 C.2.1 dX3_work_18 rfl (lv_at hl 1 rfl) ?_
  refine lv_iload_n (pc := 19) C.1 C.2.1 dX3_work_19 rfl (lv_at hl 2 rfl) ?_
  refine lv_iconst (pc := 20) (v := mm_I 1) C.1 C.2.1 dX3_work_20 rfl ?_
  refine g_isub (pc := 21) C dX3_work_21 ?_
  refine g_calli (pc := 22) w (mm_runV (ci := 3) (q := (RX3, TX3, 7)) (As := [.int (mm_I (a1 - 1))]) (rest := []) C w (c_X3_endAt l G this (a1 - 1) h0 s_2 _ hw) h0 rfl rfl cv_X3_endAt ml_X3_144 ⟨Nat.le_of_ble_eq_true rfl, Nat.le_of_ble_eq_true rfl⟩ ⟨Nat.le_of_ble_eq_true rfl, Nat.le_of_ble_eq_true rfl⟩ rfl hl.1 rfl (Nat.le_of_ble_eq_true rfl) dX3_work_22) (fun r_6 s_5 H locs hw w => ?_)
  refine lv_iconst (pc := 25) (v := mm_I 0) C.1 C.2.1 dX3_work_25 rfl ?_
  refine g_max (pc := 26) C hl.1 ml_X3_153 mv_max ⟨Nat.le_of_ble_eq_true rfl, Nat.le_of_ble_eq_true rfl⟩ ⟨Nat.le_of_ble_eq_true rfl, Nat.le_of_ble_eq_true rfl⟩ dX3_work_26 ?_
  refine g_istore (pc := 29) C dX3_work_29 hl (by decide) (fun v5_7 ev5_7 ls hl => ?_)
  have hw := hw v5_7 ev5_7
  have hl : lv_has ls 8 [(5, .int (mm_I v5_7)), (4, .int (mm_I v4_4)), (0, .ref (mm_ad G this)), (1, .int (mm_I a1)), (2, .ref (mm_ad G a2)), (3, .int (mm_I a3))] := hl
  exact hw  _ _ _ w (lv_sub hl [2, 4, 5, 1, 0] rfl)
theorem cv_X3_isTold : mm_V yX3_isTold cX3_isTold 2 (some .boolean) 1 := ⟨(mt_4 69 rfl rfl), (mt_4 67 rfl rfl), (mt_4 68 rfl rfl), (mt_1 5 rfl rfl), by decide, by decide, by decide +kernel⟩
theorem ml_X3_126 : Cond.methodLink RX3 126 yX3_isTold ∈ mm_ws := (mt_4 91 rfl rfl)
theorem lk_X3_130 : Cond.fieldLinkNest RX3 130 "LastServed$Crowd" "size" "I" "LastServed" ∈ mm_nest := by decide +kernel
theorem ml_X3_133 : Cond.methodLinkNest RX3 133 yX10_placeBy "LastServed" ∈ mm_nest := by decide +kernel
theorem cv_X3_work : mm_V yX3_work cX3_work 8 (some .int) 3 := ⟨(mt_4 96 rfl rfl), (mt_4 95 rfl rfl), (mp_2 4 rfl rfl), (mt_1 5 rfl rfl), by decide, by decide, by decide +kernel⟩
theorem ml_X3_137 : Cond.methodLink RX3 137 yX3_work ∈ mm_ws := (mt_4 93 rfl rfl)
def wp_X3_placeOfNext (this : Nat) (a1 : Int) (a2 : Nat) (s0 : mm_M) (post : Int → mm_M → Prop) : Prop :=
  ∀ (L30 : Int → Int → Int → Int → mm_M → Prop), ∀ (L85 : Int → Int → Int → Int → Int → Int → mm_M → Prop), 
  (∀ (v3 : Int) (v4 : Int) (v5 : Int) (v6 : Int) (s1 : mm_M), ((n32 (s1 a2 5) ≤ n32 v6 → post v4 s1) ∧ (¬ n32 (s1 a2 5) ≤ n32 v6 → (wp_X3_work this v3 a2 v6 s1 (fun r_10 s_9 => (∀ v7_11 : Int, v7_11 = r_10 → ((0 ≤ v3 ∧ v3 < 5) ∧ ((n32 (s_9 (mm_rt this 2) v3) = 0 → ((n32 v5 < n32 v7_11 → L85 v3 v4 v5 v6 v7_11 0 s_9) ∧ (¬ n32 v5 < n32 v7_11 → L85 v3 v4 v5 v6 v7_11 1 s_9))) ∧ (¬ n32 (s_9 (mm_rt this 2) v3) = 0 → ((n32 v7_11 < n32 v5 → L85 v3 v4 v5 v6 v7_11 0 s_9) ∧ (¬ n32 v7_11 < n32 v5 → L85 v3 v4 v5 v6 v7_11 1 s_9)))))))))) → L30 v3 v4 v5 v6 s1) →
  (∀ (v3 : Int) (v4 : Int) (v5 : Int) (v6 : Int) (v7 : Int) (q0 : Int) (s1 : mm_M), (∀ v8_12 : Int, v8_12 = q0 → ((n32 v4 = (-1) → (∀ v4_13 : Int, v4_13 = v6 → (∀ v5_14 : Int, v5_14 = v7 → (∀ v6_15 : Int, v6_15 = v6 + 1 → L30 v3 v4_13 v5_14 v6_15 s1)))) ∧ (¬ n32 v4 = (-1) → ((n32 v8_12 = 0 → (∀ v6_16 : Int, v6_16 = v6 + 1 → L30 v3 v4 v5 v6_16 s1)) ∧ (¬ n32 v8_12 = 0 → (∀ v4_17 : Int, v4_17 = v6 → (∀ v5_18 : Int, v5_18 = v7 → (∀ v6_19 : Int, v6_19 = v6 + 1 → L30 v3 v4_17 v5_18 v6_19 s1)))))))) → L85 v3 v4 v5 v6 v7 q0 s1) →
  (wp_X3_isTold this a1 s0 (fun r_2 s_1 => ((¬ n32 r_2 = 0 → (∀ v3_3 : Int, v3_3 = a1 - 4 → L30 v3_3 (-1) 0 0 s_1)) ∧ (n32 r_2 = 0 → (wp_X10_placeBy 1 (s_1 a2 5) s_1 (fun r_8 s_7 => post r_8 s_7))))))
set_option maxRecDepth 100000 in
set_option maxHeartbeats 4000000 in
theorem c_X3_placeOfNext (l : Launch) (G : mm_G) (this : Nat) (a1 : Int) (a2 : Nat) (h0 : mm_ok this 13 0) (h2 : mm_ok a2 11 0) (s0 : mm_M) (post : Int → mm_M → Prop) (hw : wp_X3_placeOfNext this a1 a2 s0 post) : Met l yX3_placeOfNext (mm_wm yX3_placeOfNext cX3_placeOfNext 9 (some .int)) (mm_rm 4) (va_Pc [.ref (mm_ad G this), .int (mm_I a1), .ref (mm_ad G a2)] (mm_pre G s0)) (mm_Qi G post) 0 0 (mm_A G) := by
  refine mm_met (own := RX3) (by decide) rfl (Nat.le_of_ble_eq_true rfl) ?_
  intro p e s m args below meth c C hr hk
  unfold wp_X3_placeOfNext at hw
  have hw := hw (fun (v3 : Int) (v4 : Int) (v5 : Int) (v6 : Int) (u : mm_M) => mm_X p l e (mm_rm 4) s m args below meth c (MQ below (mm_Qi G post) args s 0 0 (mm_A G)) G (mm_A G) 9 30 [(0, .ref (mm_ad G this)), (2, .ref (mm_ad G a2)), (3, .int (mm_I v3)), (4, .int (mm_I v4)), (5, .int (mm_I v5)), (6, .int (mm_I v6))] [] u)
  have hw := hw (fun (v3 : Int) (v4 : Int) (v5 : Int) (v6 : Int) (v7 : Int) (q0 : Int) (u : mm_M) => mm_X p l e (mm_rm 4) s m args below meth c (MQ below (mm_Qi G post) args s 0 0 (mm_A G)) G (mm_A G) 9 85 [(0, .ref (mm_ad G this)), (2, .ref (mm_ad G a2)), (3, .int (mm_I v3)), (4, .int (mm_I v4)), (5, .int (mm_I v5)), (6, .int (mm_I v6)), (7, .int (mm_I v7))] [.int (mm_I q0)] u)
  have hw := hw (by
    intro v3 v4 v5 v6 s1 hw  H locs ls w hl
    refine lv_iload (pc := 30) C.1 C.2.1 dX3_placeOfNext_30 (lv_at hl 5 rfl) ?_
    refine lv_aload_n (pc := 32) C.1 C.2.1 dX3_placeOfNext_32 rfl (lv_at hl 1 rfl) ?_
    refine g_getiN (pc := 33) C w h2 ff_X1_5 lk_X3_130 dX3_placeOfNext_33 ?_
    refine g_icmp_ge (pc := 36) (tgt := 112) C rfl rfl dX3_placeOfNext_36 (by decide) (fun hc => ?_) (fun hc => ?_)
    · have hw := hw.1 hc
      refine lv_iload (pc := 112) C.1 C.2.1 dX3_placeOfNext_112 (lv_at hl 3 rfl) ?_
      exact g_iret (pc := 114) C w hr hk hw dX3_placeOfNext_114
    · have hw := hw.2 hc
      refine lv_aload_n (pc := 39) C.1 C.2.1 dX3_placeOfNext_39 rfl (lv_at hl 0 rfl) ?_
      refine lv_iload_n (pc := 40) C.1 C.2.1 dX3_placeOfNext_40 rfl (lv_at hl 2 rfl) ?_
      refine lv_aload_n (pc := 41) C.1 C.2.1 dX3_placeOfNext_41 rfl (lv_at hl 1 rfl) ?_
      refine lv_iload (pc := 42) C.1 C.2.1 dX3_placeOfNext_42 (lv_at hl 5 rfl) ?_
      refine g_calli (pc := 44) w (mm_runV (ci := 3) (q := (RX3, TX3, 7)) (As := [.int (mm_I v3), .ref (mm_ad G a2), .int (mm_I v6)]) (rest := []) C w (c_X3_work l G this v3 a2 v6 h0 h2 s1 _ hw) h0 rfl rfl cv_X3_work ml_X3_137 ⟨Nat.le_of_ble_eq_true rfl, Nat.le_of_ble_eq_true rfl⟩ ⟨Nat.le_of_ble_eq_true rfl, Nat.le_of_ble_eq_true rfl⟩ rfl hl.1 rfl (Nat.le_of_ble_eq_true rfl) dX3_placeOfNext_44) (fun r_10 s_9 H locs hw w => ?_)
      refine g_istore (pc := 47) C dX3_placeOfNext_47 hl (by decide) (fun v7_11 ev7_11 ls hl => ?_)
      have hw := hw v7_11 ev7_11
      have hl : lv_has ls 9 [(7, .int (mm_I v7_11)), (0, .ref (mm_ad G this)), (2, .ref (mm_ad G a2)), (3, .int (mm_I v3)), (4, .int (mm_I v4)), (5, .int (mm_I v5)), (6, .int (mm_I v6))] := hl
      refine lv_aload_n (pc := 49) C.1 C.2.1 dX3_placeOfNext_49 rfl (lv_at hl 1 rfl) ?_
      refine g_getr (pc := 50) C w h0 ff_X3_2 lk_X3_18 dX3_placeOfNext_50 ?_
      refine lv_iload_n (pc := 53) C.1 C.2.1 dX3_placeOfNext_53 rfl (lv_at hl 3 rfl) ?_
      obtain ⟨hi, hw⟩ := hw
      refine g_zald (pc := 54) C w (ro_X3_2 h0) hi dX3_placeOfNext_54 ?_
      refine g_if_eq (pc := 55) (tgt := 73) C rfl dX3_placeOfNext_55 (by decide) (fun hc => ?_) (fun hc => ?_)
      · have hw := hw.1 hc
        refine lv_iload (pc := 73) C.1 C.2.1 dX3_placeOfNext_73 (lv_at hl 0 rfl) ?_
        refine lv_iload (pc := 75) C.1 C.2.1 dX3_placeOfNext_75 (lv_at hl 5 rfl) ?_
        refine g_icmp_gt (pc := 77) (tgt := 84) C rfl rfl dX3_placeOfNext_77 (by decide) (fun hc => ?_) (fun hc => ?_)
        · have hw := hw.1 hc
          refine lv_iconst (pc := 84) (v := mm_I 0) C.1 C.2.1 dX3_placeOfNext_84 rfl ?_
          exact hw  _ _ _ w (lv_sub hl [1, 2, 3, 4, 5, 6, 0] rfl)
        · have hw := hw.2 hc
          refine lv_iconst (pc := 80) (v := mm_I 1) C.1 C.2.1 dX3_placeOfNext_80 rfl ?_
          refine lv_goto (pc := 81) (tgt := 85) C.1 C.2.1 dX3_placeOfNext_81 (by decide) ?_
          exact hw  _ _ _ w (lv_sub hl [1, 2, 3, 4, 5, 6, 0] rfl)
      · have hw := hw.2 hc
        refine lv_iload (pc := 58) C.1 C.2.1 dX3_placeOfNext_58 (lv_at hl 0 rfl) ?_
        refine lv_iload (pc := 60) C.1 C.2.1 dX3_placeOfNext_60 (lv_at hl 5 rfl) ?_
        refine g_icmp_lt (pc := 62) (tgt := 69) C rfl rfl dX3_placeOfNext_62 (by decide) (fun hc => ?_) (fun hc => ?_)
        · have hw := hw.1 hc
          refine lv_iconst (pc := 69) (v := mm_I 0) C.1 C.2.1 dX3_placeOfNext_69 rfl ?_
          refine lv_goto (pc := 70) (tgt := 85) C.1 C.2.1 dX3_placeOfNext_70 (by decide) ?_
          exact hw  _ _ _ w (lv_sub hl [1, 2, 3, 4, 5, 6, 0] rfl)
        · have hw := hw.2 hc
          refine lv_iconst (pc := 65) (v := mm_I 1) C.1 C.2.1 dX3_placeOfNext_65 rfl ?_
          refine lv_goto (pc := 66) (tgt := 85) C.1 C.2.1 dX3_placeOfNext_66 (by decide) ?_
          exact hw  _ _ _ w (lv_sub hl [1, 2, 3, 4, 5, 6, 0] rfl))
  have hw := hw (by
    intro v3 v4 v5 v6 v7 q0 s1 hw  H locs ls w hl
    refine g_istore (pc := 85) C dX3_placeOfNext_85 hl (by decide) (fun v8_12 ev8_12 ls hl => ?_)
    have hw := hw v8_12 ev8_12
    have hl : lv_has ls 9 [(8, .int (mm_I v8_12)), (0, .ref (mm_ad G this)), (2, .ref (mm_ad G a2)), (3, .int (mm_I v3)), (4, .int (mm_I v4)), (5, .int (mm_I v5)), (6, .int (mm_I v6)), (7, .int (mm_I v7))] := hl
    refine lv_iload (pc := 87) C.1 C.2.1 dX3_placeOfNext_87 (lv_at hl 4 rfl) ?_
    refine lv_iconst (pc := 89) (v := mm_I (-1)) C.1 C.2.1 dX3_placeOfNext_89 rfl ?_
    refine g_icmp_eq (pc := 90) (tgt := 98) C rfl mn_m1 dX3_placeOfNext_90 (by decide) (fun hc => ?_) (fun hc => ?_)
    · have hw := hw.1 hc
      refine lv_iload (pc := 98) C.1 C.2.1 dX3_placeOfNext_98 (lv_at hl 6 rfl) ?_
      refine g_istore (pc := 100) C dX3_placeOfNext_100 hl (by decide) (fun v4_13 ev4_13 ls hl => ?_)
      have hw := hw v4_13 ev4_13
      have hl : lv_has ls 9 [(4, .int (mm_I v4_13)), (8, .int (mm_I v8_12)), (0, .ref (mm_ad G this)), (2, .ref (mm_ad G a2)), (3, .int (mm_I v3)), (5, .int (mm_I v5)), (6, .int (mm_I v6)), (7, .int (mm_I v7))] := hl
      refine lv_iload (pc := 102) C.1 C.2.1 dX3_placeOfNext_102 (lv_at hl 7 rfl) ?_
      refine g_istore (pc := 104) C dX3_placeOfNext_104 hl (by decide) (fun v5_14 ev5_14 ls hl => ?_)
      have hw := hw v5_14 ev5_14
      have hl : lv_has ls 9 [(5, .int (mm_I v5_14)), (4, .int (mm_I v4_13)), (8, .int (mm_I v8_12)), (0, .ref (mm_ad G this)), (2, .ref (mm_ad G a2)), (3, .int (mm_I v3)), (6, .int (mm_I v6)), (7, .int (mm_I v7))] := hl
      refine g_iinc (pc := 106) (k := 6) C dX3_placeOfNext_106 hl rfl (by decide) (fun v6_15 ev6_15 ls hl => ?_)
      have hw := hw v6_15 ev6_15
      have hl : lv_has ls 9 [(6, .int (mm_I v6_15)), (5, .int (mm_I v5_14)), (4, .int (mm_I v4_13)), (8, .int (mm_I v8_12)), (0, .ref (mm_ad G this)), (2, .ref (mm_ad G a2)), (3, .int (mm_I v3)), (7, .int (mm_I v7))] := hl
      refine lv_goto (pc := 109) (tgt := 30) C.1 C.2.1 dX3_placeOfNext_109 (by decide) ?_
      exact hw  _ _ _ w (lv_sub hl [4, 5, 6, 2, 1, 0] rfl)
    · have hw := hw.2 hc
      refine lv_iload (pc := 93) C.1 C.2.1 dX3_placeOfNext_93 (lv_at hl 0 rfl) ?_
      refine g_if_eq (pc := 95) (tgt := 106) C rfl dX3_placeOfNext_95 (by decide) (fun hc => ?_) (fun hc => ?_)
      · have hw := hw.1 hc
        refine g_iinc (pc := 106) (k := 6) C dX3_placeOfNext_106 hl rfl (by decide) (fun v6_16 ev6_16 ls hl => ?_)
        have hw := hw v6_16 ev6_16
        have hl : lv_has ls 9 [(6, .int (mm_I v6_16)), (8, .int (mm_I v8_12)), (0, .ref (mm_ad G this)), (2, .ref (mm_ad G a2)), (3, .int (mm_I v3)), (4, .int (mm_I v4)), (5, .int (mm_I v5)), (7, .int (mm_I v7))] := hl
        refine lv_goto (pc := 109) (tgt := 30) C.1 C.2.1 dX3_placeOfNext_109 (by decide) ?_
        exact hw  _ _ _ w (lv_sub hl [2, 3, 4, 5, 6, 0] rfl)
      · have hw := hw.2 hc
        refine lv_iload (pc := 98) C.1 C.2.1 dX3_placeOfNext_98 (lv_at hl 6 rfl) ?_
        refine g_istore (pc := 100) C dX3_placeOfNext_100 hl (by decide) (fun v4_17 ev4_17 ls hl => ?_)
        have hw := hw v4_17 ev4_17
        have hl : lv_has ls 9 [(4, .int (mm_I v4_17)), (8, .int (mm_I v8_12)), (0, .ref (mm_ad G this)), (2, .ref (mm_ad G a2)), (3, .int (mm_I v3)), (5, .int (mm_I v5)), (6, .int (mm_I v6)), (7, .int (mm_I v7))] := hl
        refine lv_iload (pc := 102) C.1 C.2.1 dX3_placeOfNext_102 (lv_at hl 7 rfl) ?_
        refine g_istore (pc := 104) C dX3_placeOfNext_104 hl (by decide) (fun v5_18 ev5_18 ls hl => ?_)
        have hw := hw v5_18 ev5_18
        have hl : lv_has ls 9 [(5, .int (mm_I v5_18)), (4, .int (mm_I v4_17)), (8, .int (mm_I v8_12)), (0, .ref (mm_ad G this)), (2, .ref (mm_ad G a2)), (3, .int (mm_I v3)), (6, .int (mm_I v6)), (7, .int (mm_I v7))] := hl
        refine g_iinc (pc := 106) (k := 6) C dX3_placeOfNext_106 hl rfl (by decide) (fun v6_19 ev6_19 ls hl => ?_)
        have hw := hw v6_19 ev6_19
        have hl : lv_has ls 9 [(6, .int (mm_I v6_19)), (5, .int (mm_I v5_18)), (4, .int (mm_I v4_17)), (8, .int (mm_I v8_12)), (0, .ref (mm_ad G this)), (2, .ref (mm_ad G a2)), (3, .int (mm_I v3)), (7, .int (mm_I v7))] := hl
        refine lv_goto (pc := 109) (tgt := 30) C.1 C.2.1 dX3_placeOfNext_109 (by decide) ?_
        exact hw  _ _ _ w (lv_sub hl [4, 5, 6, 2, 1, 0] rfl))
  intro H locs ls w hl
  have hl : lv_has ls 9 [(0, .ref (mm_ad G this)), (1, .int (mm_I a1)), (2, .ref (mm_ad G a2))] := hl
  refine lv_aload_n (pc := 0) C.1 C.2.1 dX3_placeOfNext_0 rfl (lv_at hl 0 rfl) ?_
  refine lv_iload_n (pc := 1) C.1 C.2.1 dX3_placeOfNext_1 rfl (lv_at hl 1 rfl) ?_
  refine g_calli (pc := 2) w (mm_runV (ci := 3) (q := (RX3, TX3, 7)) (As := [.int (mm_I a1)]) (rest := []) C w (c_X3_isTold l G this a1 h0 s0 _ hw) h0 rfl rfl cv_X3_isTold ml_X3_126 ⟨Nat.le_of_ble_eq_true rfl, Nat.le_of_ble_eq_true rfl⟩ ⟨Nat.le_of_ble_eq_true rfl, Nat.le_of_ble_eq_true rfl⟩ rfl hl.1 rfl (Nat.le_of_ble_eq_true rfl) dX3_placeOfNext_2) (fun r_2 s_1 H locs hw w => ?_)
  refine g_if_ne (pc := 5) (tgt := 17) C rfl dX3_placeOfNext_5 (by decide) (fun hc => ?_) (fun hc => ?_)
  · have hw := hw.1 hc
    refine lv_iload_n (pc := 17) C.1 C.2.1 dX3_placeOfNext_17 rfl (lv_at hl 1 rfl) ?_
    refine lv_iconst (pc := 18) (v := mm_I 4) C.1 C.2.1 dX3_placeOfNext_18 rfl ?_
    refine g_isub (pc := 19) C dX3_placeOfNext_19 ?_
    refine g_istore_n (pc := 20) C dX3_placeOfNext_20 rfl hl (by decide) (fun v3_3 ev3_3 ls hl => ?_)
    have hw := hw v3_3 ev3_3
    have hl : lv_has ls 9 [(3, .int (mm_I v3_3)), (0, .ref (mm_ad G this)), (1, .int (mm_I a1)), (2, .ref (mm_ad G a2))] := hl
    refine lv_iconst (pc := 21) (v := mm_I (-1)) C.1 C.2.1 dX3_placeOfNext_21 rfl ?_
    refine lv_istore (pc := 22) (lv' := [(4, .int (mm_I (-1))), (3, .int (mm_I v3_3)), (0, .ref (mm_ad G this)), (1, .int (mm_I a1)), (2, .ref (mm_ad G a2))]) C.1 C.2.1 dX3_placeOfNext_22 hl (by decide) rfl (fun ls hl => ?_)
    refine lv_iconst (pc := 24) (v := mm_I 0) C.1 C.2.1 dX3_placeOfNext_24 rfl ?_
    refine lv_istore (pc := 25) (lv' := [(5, .int (mm_I 0)), (4, .int (mm_I (-1))), (3, .int (mm_I v3_3)), (0, .ref (mm_ad G this)), (1, .int (mm_I a1)), (2, .ref (mm_ad G a2))]) C.1 C.2.1 dX3_placeOfNext_25 hl (by decide) rfl (fun ls hl => ?_)
    refine lv_iconst (pc := 27) (v := mm_I 0) C.1 C.2.1 dX3_placeOfNext_27 rfl ?_
    refine lv_istore (pc := 28) (lv' := [(6, .int (mm_I 0)), (5, .int (mm_I 0)), (4, .int (mm_I (-1))), (3, .int (mm_I v3_3)), (0, .ref (mm_ad G this)), (1, .int (mm_I a1)), (2, .ref (mm_ad G a2))]) C.1 C.2.1 dX3_placeOfNext_28 hl (by decide) rfl (fun ls hl => ?_)
    exact hw  _ _ _ w (lv_sub hl [4, 6, 3, 2, 1, 0] rfl)
  · have hw := hw.2 hc
    refine lv_iconst (pc := 8) (v := mm_I 1) C.1 C.2.1 dX3_placeOfNext_8 rfl ?_
    refine lv_aload_n (pc := 9) C.1 C.2.1 dX3_placeOfNext_9 rfl (lv_at hl 2 rfl) ?_
    refine g_getiN (pc := 10) C w h2 ff_X1_5 lk_X3_130 dX3_placeOfNext_10 ?_
    refine g_calli (pc := 13) w (mm_runSN (As := [.int (mm_I 1), .int (mm_I (s_1 a2 5))]) (rest := []) C w (c_X10_placeBy l G 1 (s_1 a2 5)  s_1 _ hw) cs_X10_placeBy ml_X3_133 ⟨Nat.le_of_ble_eq_true rfl, Nat.le_of_ble_eq_true rfl⟩ ⟨Nat.le_of_ble_eq_true rfl, Nat.le_of_ble_eq_true rfl⟩ rfl hl.1 rfl (Nat.le_of_ble_eq_true rfl) dX3_placeOfNext_13) (fun r_8 s_7 H locs hw w => ?_)
    exact g_iret (pc := 16) C w hr hk hw dX3_placeOfNext_16
theorem lk_X9_37 : Cond.fieldLink RX9 37 "LastServed$Town" "sorts" "I" ∈ mm_ws := (mt_1 109 rfl rfl)
theorem ff_X9_5 : mm_F 9 5 0 RX9 TX9 9 := ⟨rfl, by decide, fk_X9, rfl, rfl⟩
def wp_X9_hasSort (this : Nat) (a1 : Int) (s0 : mm_M) (post : Int → mm_M → Prop) : Prop :=
  ((n32 a1 < 0 → post 0 s0) ∧ (¬ n32 a1 < 0 → ((n32 (s0 this 5) ≤ n32 a1 → post 0 s0) ∧ (¬ n32 (s0 this 5) ≤ n32 a1 → ((5 ≤ n32 a1 → post 0 s0) ∧ (¬ 5 ≤ n32 a1 → post 1 s0))))))
set_option maxRecDepth 100000 in
set_option maxHeartbeats 4000000 in
theorem c_X9_hasSort (l : Launch) (G : mm_G) (this : Nat) (a1 : Int) (h0 : mm_ok this 19 0) (s0 : mm_M) (post : Int → mm_M → Prop) (hw : wp_X9_hasSort this a1 s0 post) : Met l yX9_hasSort (mm_wm yX9_hasSort cX9_hasSort 2 (some .boolean)) (mm_rm 1) (va_Pc [.ref (mm_ad G this), .int (mm_I a1)] (mm_pre G s0)) (mm_Qi G post) 0 0 (mm_A G) := by
  refine mm_met (own := RX9) (by decide) rfl (Nat.le_of_ble_eq_true rfl) ?_
  intro p e s m args below meth c C hr hk
  unfold wp_X9_hasSort at hw
  intro H locs ls w hl
  have hl : lv_has ls 2 [(0, .ref (mm_ad G this)), (1, .int (mm_I a1))] := hl
  refine lv_iload_n (pc := 0) C.1 C.2.1 dX9_hasSort_0 rfl (lv_at hl 1 rfl) ?_
  refine g_if_lt (pc := 1) (tgt := 21) C rfl dX9_hasSort_1 (by decide) (fun hc => ?_) (fun hc => ?_)
  · have hw := hw.1 hc
    refine lv_iconst (pc := 21) (v := mm_I 0) C.1 C.2.1 dX9_hasSort_21 rfl ?_
    exact g_zret (pc := 22) C w hr hk (by decide) hw dX9_hasSort_22
  · have hw := hw.2 hc
    refine lv_iload_n (pc := 4) C.1 C.2.1 dX9_hasSort_4 rfl (lv_at hl 1 rfl) ?_
    refine lv_aload_n (pc := 5) C.1 C.2.1 dX9_hasSort_5 rfl (lv_at hl 0 rfl) ?_
    refine g_geti (pc := 6) C w h0 ff_X9_5 lk_X9_37 dX9_hasSort_6 ?_
    refine g_icmp_ge (pc := 9) (tgt := 21) C rfl rfl dX9_hasSort_9 (by decide) (fun hc => ?_) (fun hc => ?_)
    · have hw := hw.1 hc
      refine lv_iconst (pc := 21) (v := mm_I 0) C.1 C.2.1 dX9_hasSort_21 rfl ?_
      exact g_zret (pc := 22) C w hr hk (by decide) hw dX9_hasSort_22
    · have hw := hw.2 hc
      refine lv_iload_n (pc := 12) C.1 C.2.1 dX9_hasSort_12 rfl (lv_at hl 1 rfl) ?_
      refine lv_iconst (pc := 13) (v := mm_I 5) C.1 C.2.1 dX9_hasSort_13 rfl ?_
      refine g_icmp_ge (pc := 14) (tgt := 21) C rfl mn_5 dX9_hasSort_14 (by decide) (fun hc => ?_) (fun hc => ?_)
      · have hw := hw.1 hc
        refine lv_iconst (pc := 21) (v := mm_I 0) C.1 C.2.1 dX9_hasSort_21 rfl ?_
        exact g_zret (pc := 22) C w hr hk (by decide) hw dX9_hasSort_22
      · have hw := hw.2 hc
        refine lv_iconst (pc := 17) (v := mm_I 1) C.1 C.2.1 dX9_hasSort_17 rfl ?_
        refine lv_goto (pc := 18) (tgt := 22) C.1 C.2.1 dX9_hasSort_18 (by decide) ?_
        exact g_zret (pc := 22) C w hr hk (by decide) hw dX9_hasSort_22
theorem lk_X9_34 : Cond.fieldLink RX9 34 "LastServed$Town" "counters" "I" ∈ mm_ws := (mt_1 107 rfl rfl)
theorem ff_X9_4 : mm_F 9 4 0 RX9 TX9 9 := ⟨rfl, by decide, fk_X9, rfl, rfl⟩
def wp_X9_hasCounter (this : Nat) (a1 : Int) (s0 : mm_M) (post : Int → mm_M → Prop) : Prop :=
  ((n32 a1 < 0 → post 0 s0) ∧ (¬ n32 a1 < 0 → ((n32 (s0 this 4) ≤ n32 a1 → post 0 s0) ∧ (¬ n32 (s0 this 4) ≤ n32 a1 → ((3 ≤ n32 a1 → post 0 s0) ∧ (¬ 3 ≤ n32 a1 → post 1 s0))))))
set_option maxRecDepth 100000 in
set_option maxHeartbeats 4000000 in
theorem c_X9_hasCounter (l : Launch) (G : mm_G) (this : Nat) (a1 : Int) (h0 : mm_ok this 19 0) (s0 : mm_M) (post : Int → mm_M → Prop) (hw : wp_X9_hasCounter this a1 s0 post) : Met l yX9_hasCounter (mm_wm yX9_hasCounter cX9_hasCounter 2 (some .boolean)) (mm_rm 1) (va_Pc [.ref (mm_ad G this), .int (mm_I a1)] (mm_pre G s0)) (mm_Qi G post) 0 0 (mm_A G) := by
  refine mm_met (own := RX9) (by decide) rfl (Nat.le_of_ble_eq_true rfl) ?_
  intro p e s m args below meth c C hr hk
  unfold wp_X9_hasCounter at hw
  intro H locs ls w hl
  have hl : lv_has ls 2 [(0, .ref (mm_ad G this)), (1, .int (mm_I a1))] := hl
  refine lv_iload_n (pc := 0) C.1 C.2.1 dX9_hasCounter_0 rfl (lv_at hl 1 rfl) ?_
  refine g_if_lt (pc := 1) (tgt := 21) C rfl dX9_hasCounter_1 (by decide) (fun hc => ?_) (fun hc => ?_)
  · have hw := hw.1 hc
    refine lv_iconst (pc := 21) (v := mm_I 0) C.1 C.2.1 dX9_hasCounter_21 rfl ?_
    exact g_zret (pc := 22) C w hr hk (by decide) hw dX9_hasCounter_22
  · have hw := hw.2 hc
    refine lv_iload_n (pc := 4) C.1 C.2.1 dX9_hasCounter_4 rfl (lv_at hl 1 rfl) ?_
    refine lv_aload_n (pc := 5) C.1 C.2.1 dX9_hasCounter_5 rfl (lv_at hl 0 rfl) ?_
    refine g_geti (pc := 6) C w h0 ff_X9_4 lk_X9_34 dX9_hasCounter_6 ?_
    refine g_icmp_ge (pc := 9) (tgt := 21) C rfl rfl dX9_hasCounter_9 (by decide) (fun hc => ?_) (fun hc => ?_)
    · have hw := hw.1 hc
      refine lv_iconst (pc := 21) (v := mm_I 0) C.1 C.2.1 dX9_hasCounter_21 rfl ?_
      exact g_zret (pc := 22) C w hr hk (by decide) hw dX9_hasCounter_22
    · have hw := hw.2 hc
      refine lv_iload_n (pc := 12) C.1 C.2.1 dX9_hasCounter_12 rfl (lv_at hl 1 rfl) ?_
      refine lv_iconst (pc := 13) (v := mm_I 3) C.1 C.2.1 dX9_hasCounter_13 rfl ?_
      refine g_icmp_ge (pc := 14) (tgt := 21) C rfl mn_3 dX9_hasCounter_14 (by decide) (fun hc => ?_) (fun hc => ?_)
      · have hw := hw.1 hc
        refine lv_iconst (pc := 21) (v := mm_I 0) C.1 C.2.1 dX9_hasCounter_21 rfl ?_
        exact g_zret (pc := 22) C w hr hk (by decide) hw dX9_hasCounter_22
      · have hw := hw.2 hc
        refine lv_iconst (pc := 17) (v := mm_I 1) C.1 C.2.1 dX9_hasCounter_17 rfl ?_
        refine lv_goto (pc := 18) (tgt := 22) C.1 C.2.1 dX9_hasCounter_18 (by decide) ?_
        exact g_zret (pc := 22) C w hr hk (by decide) hw dX9_hasCounter_22
theorem cv_X9_hasCounter : mm_V yX9_hasCounter cX9_hasCounter 2 (some .boolean) 1 := ⟨(mt_3 148 rfl rfl), (mt_3 146 rfl rfl), (mt_3 147 rfl rfl), (mt_1 4 rfl rfl), by decide, by decide, by decide +kernel⟩
theorem ml_X9_130 : Cond.methodLink RX9 130 yX9_hasCounter ∈ mm_ws := (mt_3 145 rfl rfl)
theorem lk_X9_9 : Cond.fieldLink RX9 9 "LastServed$Town" "counterFacts" "[I" ∈ mm_ws := (mt_1 103 rfl rfl)
theorem ff_X9_0 : mm_F 9 0 1 RX9 TX9 9 := ⟨rfl, by decide, fk_X9, rfl, rfl⟩
theorem ro_X9_0 {i : Nat} (h : mm_ok i 19 0) : mm_ok (mm_rt i 0) 0 9 := by
  have q : ∀ i, i < mm_N → mm_kd i = 19 → mm_rt i 0 < mm_N ∧ mm_kd (mm_rt i 0) = 0 ∧ mm_ln (mm_rt i 0) = 9 := by decide +kernel
  exact q i h.1 h.2.1
def wp_X9_ofCounter (this : Nat) (a1 : Int) (a2 : Int) (s0 : mm_M) (post : Int → mm_M → Prop) : Prop :=
  (wp_X9_hasCounter this a1 s0 (fun r_2 s_1 => ((n32 r_2 = 0 → post 0 s_1) ∧ (¬ n32 r_2 = 0 → ((n32 a2 < 0 → post 0 s_1) ∧ (¬ n32 a2 < 0 → ((n32 a2 < 3 → ((0 ≤ (a1 * 3) + a2 ∧ (a1 * 3) + a2 < 9) ∧ post (s_1 (mm_rt this 0) ((a1 * 3) + a2)) s_1)) ∧ (¬ n32 a2 < 3 → post 0 s_1))))))))
set_option maxRecDepth 100000 in
set_option maxHeartbeats 4000000 in
theorem c_X9_ofCounter (l : Launch) (G : mm_G) (this : Nat) (a1 : Int) (a2 : Int) (h0 : mm_ok this 19 0) (s0 : mm_M) (post : Int → mm_M → Prop) (hw : wp_X9_ofCounter this a1 a2 s0 post) : Met l yX9_ofCounter (mm_wm yX9_ofCounter cX9_ofCounter 3 (some .int)) (mm_rm 2) (va_Pc [.ref (mm_ad G this), .int (mm_I a1), .int (mm_I a2)] (mm_pre G s0)) (mm_Qi G post) 0 0 (mm_A G) := by
  refine mm_met (own := RX9) (by decide) rfl (Nat.le_of_ble_eq_true rfl) ?_
  intro p e s m args below meth c C hr hk
  unfold wp_X9_ofCounter at hw
  intro H locs ls w hl
  have hl : lv_has ls 3 [(0, .ref (mm_ad G this)), (1, .int (mm_I a1)), (2, .int (mm_I a2))] := hl
  refine lv_aload_n (pc := 0) C.1 C.2.1 dX9_ofCounter_0 rfl (lv_at hl 0 rfl) ?_
  refine lv_iload_n (pc := 1) C.1 C.2.1 dX9_ofCounter_1 rfl (lv_at hl 1 rfl) ?_
  refine g_calli (pc := 2) w (mm_runV (ci := 9) (q := (RX9, TX9, 9)) (As := [.int (mm_I a1)]) (rest := []) C w (c_X9_hasCounter l G this a1 h0 s0 _ hw) h0 rfl rfl cv_X9_hasCounter ml_X9_130 ⟨Nat.le_of_ble_eq_true rfl, Nat.le_of_ble_eq_true rfl⟩ ⟨Nat.le_of_ble_eq_true rfl, Nat.le_of_ble_eq_true rfl⟩ rfl hl.1 rfl (Nat.le_of_ble_eq_true rfl) dX9_ofCounter_2) (fun r_2 s_1 H locs hw w => ?_)
  refine g_if_eq (pc := 5) (tgt := 17) C rfl dX9_ofCounter_5 (by decide) (fun hc => ?_) (fun hc => ?_)
  · have hw := hw.1 hc
    refine lv_iconst (pc := 17) (v := mm_I 0) C.1 C.2.1 dX9_ofCounter_17 rfl ?_
    exact g_iret (pc := 18) C w hr hk hw dX9_ofCounter_18
  · have hw := hw.2 hc
    refine lv_iload_n (pc := 8) C.1 C.2.1 dX9_ofCounter_8 rfl (lv_at hl 2 rfl) ?_
    refine g_if_lt (pc := 9) (tgt := 17) C rfl dX9_ofCounter_9 (by decide) (fun hc => ?_) (fun hc => ?_)
    · have hw := hw.1 hc
      refine lv_iconst (pc := 17) (v := mm_I 0) C.1 C.2.1 dX9_ofCounter_17 rfl ?_
      exact g_iret (pc := 18) C w hr hk hw dX9_ofCounter_18
    · have hw := hw.2 hc
      refine lv_iload_n (pc := 12) C.1 C.2.1 dX9_ofCounter_12 rfl (lv_at hl 2 rfl) ?_
      refine lv_iconst (pc := 13) (v := mm_I 3) C.1 C.2.1 dX9_ofCounter_13 rfl ?_
      refine g_icmp_lt (pc := 14) (tgt := 19) C rfl mn_3 dX9_ofCounter_14 (by decide) (fun hc => ?_) (fun hc => ?_)
      · have hw := hw.1 hc
        refine lv_aload_n (pc := 19) C.1 C.2.1 dX9_ofCounter_19 rfl (lv_at hl 0 rfl) ?_
        refine g_getr (pc := 20) C w h0 ff_X9_0 lk_X9_9 dX9_ofCounter_20 ?_
        refine lv_iload_n (pc := 23) C.1 C.2.1 dX9_ofCounter_23 rfl (lv_at hl 1 rfl) ?_
        refine lv_iconst (pc := 24) (v := mm_I 3) C.1 C.2.1 dX9_ofCounter_24 rfl ?_
        refine g_imul (pc := 25) C dX9_ofCounter_25 ?_
        refine lv_iload_n (pc := 26) C.1 C.2.1 dX9_ofCounter_26 rfl (lv_at hl 2 rfl) ?_
        refine g_iadd (pc := 27) C dX9_ofCounter_27 ?_
        obtain ⟨hi, hw⟩ := hw
        refine g_iald (pc := 28) C w (ro_X9_0 h0) hi dX9_ofCounter_28 ?_
        exact g_iret (pc := 29) C w hr hk hw dX9_ofCounter_29
      · have hw := hw.2 hc
        refine lv_iconst (pc := 17) (v := mm_I 0) C.1 C.2.1 dX9_ofCounter_17 rfl ?_
        exact g_iret (pc := 18) C w hr hk hw dX9_ofCounter_18
theorem cv_X9_hasSort : mm_V yX9_hasSort cX9_hasSort 2 (some .boolean) 1 := ⟨(mt_3 179 rfl rfl), (mt_3 177 rfl rfl), (mt_3 178 rfl rfl), (mt_1 4 rfl rfl), by decide, by decide, by decide +kernel⟩
theorem ml_X9_134 : Cond.methodLink RX9 134 yX9_hasSort ∈ mm_ws := (mt_3 184 rfl rfl)
theorem mn_6 : n32 6 = 6 := by decide
theorem lk_X9_15 : Cond.fieldLink RX9 15 "LastServed$Town" "sortFacts" "[I" ∈ mm_ws := (mt_1 104 rfl rfl)
theorem ff_X9_1 : mm_F 9 1 1 RX9 TX9 9 := ⟨rfl, by decide, fk_X9, rfl, rfl⟩
theorem ro_X9_1 {i : Nat} (h : mm_ok i 19 0) : mm_ok (mm_rt i 1) 0 30 := by
  have q : ∀ i, i < mm_N → mm_kd i = 19 → mm_rt i 1 < mm_N ∧ mm_kd (mm_rt i 1) = 0 ∧ mm_ln (mm_rt i 1) = 30 := by decide +kernel
  exact q i h.1 h.2.1
def wp_X9_ofSort (this : Nat) (a1 : Int) (a2 : Int) (s0 : mm_M) (post : Int → mm_M → Prop) : Prop :=
  (wp_X9_hasSort this a1 s0 (fun r_2 s_1 => ((n32 r_2 = 0 → post 0 s_1) ∧ (¬ n32 r_2 = 0 → ((n32 a2 < 0 → post 0 s_1) ∧ (¬ n32 a2 < 0 → ((n32 a2 < 6 → ((0 ≤ (a1 * 6) + a2 ∧ (a1 * 6) + a2 < 30) ∧ post (s_1 (mm_rt this 1) ((a1 * 6) + a2)) s_1)) ∧ (¬ n32 a2 < 6 → post 0 s_1))))))))
set_option maxRecDepth 100000 in
set_option maxHeartbeats 4000000 in
theorem c_X9_ofSort (l : Launch) (G : mm_G) (this : Nat) (a1 : Int) (a2 : Int) (h0 : mm_ok this 19 0) (s0 : mm_M) (post : Int → mm_M → Prop) (hw : wp_X9_ofSort this a1 a2 s0 post) : Met l yX9_ofSort (mm_wm yX9_ofSort cX9_ofSort 3 (some .int)) (mm_rm 2) (va_Pc [.ref (mm_ad G this), .int (mm_I a1), .int (mm_I a2)] (mm_pre G s0)) (mm_Qi G post) 0 0 (mm_A G) := by
  refine mm_met (own := RX9) (by decide) rfl (Nat.le_of_ble_eq_true rfl) ?_
  intro p e s m args below meth c C hr hk
  unfold wp_X9_ofSort at hw
  intro H locs ls w hl
  have hl : lv_has ls 3 [(0, .ref (mm_ad G this)), (1, .int (mm_I a1)), (2, .int (mm_I a2))] := hl
  refine lv_aload_n (pc := 0) C.1 C.2.1 dX9_ofSort_0 rfl (lv_at hl 0 rfl) ?_
  refine lv_iload_n (pc := 1) C.1 C.2.1 dX9_ofSort_1 rfl (lv_at hl 1 rfl) ?_
  refine g_calli (pc := 2) w (mm_runV (ci := 9) (q := (RX9, TX9, 9)) (As := [.int (mm_I a1)]) (rest := []) C w (c_X9_hasSort l G this a1 h0 s0 _ hw) h0 rfl rfl cv_X9_hasSort ml_X9_134 ⟨Nat.le_of_ble_eq_true rfl, Nat.le_of_ble_eq_true rfl⟩ ⟨Nat.le_of_ble_eq_true rfl, Nat.le_of_ble_eq_true rfl⟩ rfl hl.1 rfl (Nat.le_of_ble_eq_true rfl) dX9_ofSort_2) (fun r_2 s_1 H locs hw w => ?_)
  refine g_if_eq (pc := 5) (tgt := 18) C rfl dX9_ofSort_5 (by decide) (fun hc => ?_) (fun hc => ?_)
  · have hw := hw.1 hc
    refine lv_iconst (pc := 18) (v := mm_I 0) C.1 C.2.1 dX9_ofSort_18 rfl ?_
    exact g_iret (pc := 19) C w hr hk hw dX9_ofSort_19
  · have hw := hw.2 hc
    refine lv_iload_n (pc := 8) C.1 C.2.1 dX9_ofSort_8 rfl (lv_at hl 2 rfl) ?_
    refine g_if_lt (pc := 9) (tgt := 18) C rfl dX9_ofSort_9 (by decide) (fun hc => ?_) (fun hc => ?_)
    · have hw := hw.1 hc
      refine lv_iconst (pc := 18) (v := mm_I 0) C.1 C.2.1 dX9_ofSort_18 rfl ?_
      exact g_iret (pc := 19) C w hr hk hw dX9_ofSort_19
    · have hw := hw.2 hc
      refine lv_iload_n (pc := 12) C.1 C.2.1 dX9_ofSort_12 rfl (lv_at hl 2 rfl) ?_
      refine lv_bipush (pc := 13) C.1 C.2.1 dX9_ofSort_13 mb_6 ?_
      refine g_icmp_lt (pc := 15) (tgt := 20) C rfl mn_6 dX9_ofSort_15 (by decide) (fun hc => ?_) (fun hc => ?_)
      · have hw := hw.1 hc
        refine lv_aload_n (pc := 20) C.1 C.2.1 dX9_ofSort_20 rfl (lv_at hl 0 rfl) ?_
        refine g_getr (pc := 21) C w h0 ff_X9_1 lk_X9_15 dX9_ofSort_21 ?_
        refine lv_iload_n (pc := 24) C.1 C.2.1 dX9_ofSort_24 rfl (lv_at hl 1 rfl) ?_
        refine lv_bipush (pc := 25) C.1 C.2.1 dX9_ofSort_25 mb_6 ?_
        refine g_imul (pc := 27) C dX9_ofSort_27 ?_
        refine lv_iload_n (pc := 28) C.1 C.2.1 dX9_ofSort_28 rfl (lv_at hl 2 rfl) ?_
        refine g_iadd (pc := 29) C dX9_ofSort_29 ?_
        obtain ⟨hi, hw⟩ := hw
        refine g_iald (pc := 30) C w (ro_X9_1 h0) hi dX9_ofSort_30 ?_
        exact g_iret (pc := 31) C w hr hk hw dX9_ofSort_31
      · have hw := hw.2 hc
        refine lv_iconst (pc := 18) (v := mm_I 0) C.1 C.2.1 dX9_ofSort_18 rfl ?_
        exact g_iret (pc := 19) C w hr hk hw dX9_ofSort_19
