def wp_X9_tellSort (this : Nat) (a1 : Int) (a2 : Int) (s0 : mm_M) (post : mm_M → Prop) : Prop :=
  ((n32 (s0 this 5) < 0 → post s0) ∧ (¬ n32 (s0 this 5) < 0 → ((5 ≤ n32 (s0 this 5) → post s0) ∧ (¬ 5 ≤ n32 (s0 this 5) → ((0 ≤ ((s0 this 5) * 6) + a1 ∧ ((s0 this 5) * 6) + a1 < 30) ∧ (∀ s_1 : mm_M, s_1 = mm_up s0 (mm_rt this 1) (((s0 this 5) * 6) + a1) a2 → post s_1))))))
set_option maxRecDepth 100000 in
set_option maxHeartbeats 4000000 in
theorem c_X9_tellSort (l : Launch) (G : mm_G) (this : Nat) (a1 : Int) (a2 : Int) (h0 : mm_ok this 19 0) (s0 : mm_M) (post : mm_M → Prop) (hw : wp_X9_tellSort this a1 a2 s0 post) : Met l yX9_tellSort (mm_wm yX9_tellSort cX9_tellSort 3 none) (mm_rm 1) (va_Pc [.ref (mm_ad G this), .int (mm_I a1), .int (mm_I a2)] (mm_pre G s0)) (mm_Qv G post) 0 0 (mm_A G) := by
  refine mm_met (own := RX9) (by decide) rfl (Nat.le_of_ble_eq_true rfl) ?_
  intro p e s m args below meth c C hr hk
  unfold wp_X9_tellSort at hw
  intro H locs ls w hl
  have hl : lv_has ls 3 [(0, .ref (mm_ad G this)), (1, .int (mm_I a1)), (2, .int (mm_I a2))] := hl
  refine lv_aload_n (pc := 0) C.1 C.2.1 dX9_tellSort_0 rfl (lv_at hl 0 rfl) ?_
  refine g_geti (pc := 1) C w h0 ff_X9_5 lk_X9_37 dX9_tellSort_1 ?_
  refine g_if_lt (pc := 4) (tgt := 30) C rfl dX9_tellSort_4 (by decide) (fun hc => ?_) (fun hc => ?_)
  · have hw := hw.1 hc
    exact g_vret (pc := 30) C w hr hk hw dX9_tellSort_30
  · have hw := hw.2 hc
    refine lv_aload_n (pc := 7) C.1 C.2.1 dX9_tellSort_7 rfl (lv_at hl 0 rfl) ?_
    refine g_geti (pc := 8) C w h0 ff_X9_5 lk_X9_37 dX9_tellSort_8 ?_
    refine lv_iconst (pc := 11) (v := mm_I 5) C.1 C.2.1 dX9_tellSort_11 rfl ?_
    refine g_icmp_ge (pc := 12) (tgt := 30) C rfl mn_5 dX9_tellSort_12 (by decide) (fun hc => ?_) (fun hc => ?_)
    · have hw := hw.1 hc
      exact g_vret (pc := 30) C w hr hk hw dX9_tellSort_30
    · have hw := hw.2 hc
      refine lv_aload_n (pc := 15) C.1 C.2.1 dX9_tellSort_15 rfl (lv_at hl 0 rfl) ?_
      refine g_getr (pc := 16) C w h0 ff_X9_1 lk_X9_15 dX9_tellSort_16 ?_
      refine lv_aload_n (pc := 19) C.1 C.2.1 dX9_tellSort_19 rfl (lv_at hl 0 rfl) ?_
      refine g_geti (pc := 20) C w h0 ff_X9_5 lk_X9_37 dX9_tellSort_20 ?_
      refine lv_bipush (pc := 23) C.1 C.2.1 dX9_tellSort_23 mb_6 ?_
      refine g_imul (pc := 25) C dX9_tellSort_25 ?_
      refine lv_iload_n (pc := 26) C.1 C.2.1 dX9_tellSort_26 rfl (lv_at hl 1 rfl) ?_
      refine g_iadd (pc := 27) C dX9_tellSort_27 ?_
      refine lv_iload_n (pc := 28) C.1 C.2.1 dX9_tellSort_28 rfl (lv_at hl 2 rfl) ?_
      obtain ⟨hi, hw⟩ := hw
      refine g_iast (pc := 29) C w (ro_X9_1 h0) hi  dX9_tellSort_29 (fun s_1 H locs es_1 w => ?_)
      have hw := hw s_1 es_1
      exact g_vret (pc := 30) C w hr hk hw dX9_tellSort_30
theorem cv_X9_readName : mm_V yX9_readName cX9_readName 3 none 1 := ⟨(mt_3 44 rfl rfl), (mt_3 43 rfl rfl), (mp_1 7 rfl rfl), (mt_1 4 rfl rfl), by decide, by decide, by decide +kernel⟩
theorem ml_X9_98 : Cond.methodLink RX9 98 yX9_readName ∈ mm_ws := (mt_3 41 rfl rfl)
theorem cv_X9_tellSort : mm_V yX9_tellSort cX9_tellSort 3 none 2 := ⟨(mt_3 63 rfl rfl), (mt_3 62 rfl rfl), (mp_1 9 rfl rfl), (mt_1 4 rfl rfl), by decide, by decide, by decide +kernel⟩
theorem ml_X9_101 : Cond.methodLink RX9 101 yX9_tellSort ∈ mm_ws := (mt_3 60 rfl rfl)
theorem ms_240 : (Int16.ofInt 240).toInt32 = mm_I 240 := by decide
theorem fw_X9_5 : mm_Fw 9 5 TX9 9 .int := ⟨⟨tyX9, tyX9_ok⟩, nmX9, rfl, by decide +kernel⟩
def wp_X9_readSort (this : Nat) (a1 : Nat) (s0 : mm_M) (post : mm_M → Prop) : Prop :=
  (wp_X8_advance a1 s0 (fun s_1 => (wp_X9_readName this a1 s_1 (fun s_3 => (wp_X8_takeNumber a1 0 16 s_3 (fun r_6 s_5 => (wp_X9_tellSort this 0 r_6 s_5 (fun s_7 => (wp_X8_takeNumber a1 0 99 s_7 (fun r_10 s_9 => (wp_X9_tellSort this 1 r_10 s_9 (fun s_11 => (wp_X8_takeNumber a1 1 240 s_11 (fun r_14 s_13 => (wp_X9_tellSort this 2 r_14 s_13 (fun s_15 => (wp_X8_takeNumber a1 0 9 s_15 (fun r_18 s_17 => (wp_X9_tellSort this 3 r_18 s_17 (fun s_19 => (wp_X8_takeNumber a1 0 9 s_19 (fun r_22 s_21 => (wp_X9_tellSort this 4 r_22 s_21 (fun s_23 => (wp_X8_takeNumber a1 0 2 s_23 (fun r_26 s_25 => (wp_X9_tellSort this 5 r_26 s_25 (fun s_27 => (wp_X8_takeSign a1 59 s_27 (fun r_30 s_29 => ((n32 r_30 = 0 → post s_29) ∧ (¬ n32 r_30 = 0 → (∀ s_31 : mm_M, s_31 = mm_up s_29 this 5 ((s_29 this 5) + 1) → post s_31)))))))))))))))))))))))))))))))))
set_option maxRecDepth 100000 in
set_option maxHeartbeats 4000000 in
theorem c_X9_readSort (l : Launch) (G : mm_G) (this : Nat) (a1 : Nat) (h0 : mm_ok this 19 0) (h1 : mm_ok a1 18 0) (s0 : mm_M) (post : mm_M → Prop) (hw : wp_X9_readSort this a1 s0 post) : Met l yX9_readSort (mm_wm yX9_readSort cX9_readSort 2 none) (mm_rm 8) (va_Pc [.ref (mm_ad G this), .ref (mm_ad G a1)] (mm_pre G s0)) (mm_Qv G post) 0 0 (mm_A G) := by
  refine mm_met (own := RX9) (by decide) rfl (Nat.le_of_ble_eq_true rfl) ?_
  intro p e s m args below meth c C hr hk
  unfold wp_X9_readSort at hw
  intro H locs ls w hl
  have hl : lv_has ls 2 [(0, .ref (mm_ad G this)), (1, .ref (mm_ad G a1))] := hl
  refine lv_aload_n (pc := 0) C.1 C.2.1 dX9_readSort_0 rfl (lv_at hl 1 rfl) ?_
  refine g_callv (pc := 1) w (mm_runV (ci := 8) (q := (RX8, TX8, 7)) (As := []) (rest := []) C w (c_X8_advance l G a1 h1 s0 _ hw) h1 rfl rfl cv_X8_advance ml_X9_83 ⟨Nat.le_of_ble_eq_true rfl, Nat.le_of_ble_eq_true rfl⟩ ⟨Nat.le_of_ble_eq_true rfl, Nat.le_of_ble_eq_true rfl⟩ rfl hl.1 rfl (Nat.le_of_ble_eq_true rfl) dX9_readSort_1) (fun s_1 H locs hw w => ?_)
  refine lv_aload_n (pc := 4) C.1 C.2.1 dX9_readSort_4 rfl (lv_at hl 0 rfl) ?_
  refine lv_aload_n (pc := 5) C.1 C.2.1 dX9_readSort_5 rfl (lv_at hl 1 rfl) ?_
  refine g_callv (pc := 6) w (mm_runV (ci := 9) (q := (RX9, TX9, 9)) (As := [.ref (mm_ad G a1)]) (rest := []) C w (c_X9_readName l G this a1 h0 h1 s_1 _ hw) h0 rfl rfl cv_X9_readName ml_X9_98 ⟨Nat.le_of_ble_eq_true rfl, Nat.le_of_ble_eq_true rfl⟩ ⟨Nat.le_of_ble_eq_true rfl, Nat.le_of_ble_eq_true rfl⟩ rfl hl.1 rfl (Nat.le_of_ble_eq_true rfl) dX9_readSort_6) (fun s_3 H locs hw w => ?_)
  refine lv_aload_n (pc := 9) C.1 C.2.1 dX9_readSort_9 rfl (lv_at hl 0 rfl) ?_
  refine lv_iconst (pc := 10) (v := mm_I 0) C.1 C.2.1 dX9_readSort_10 rfl ?_
  refine lv_aload_n (pc := 11) C.1 C.2.1 dX9_readSort_11 rfl (lv_at hl 1 rfl) ?_
  refine lv_iconst (pc := 12) (v := mm_I 0) C.1 C.2.1 dX9_readSort_12 rfl ?_
  refine lv_bipush (pc := 13) C.1 C.2.1 dX9_readSort_13 mb_16 ?_
  refine g_calli (pc := 15) w (mm_runV (ci := 8) (q := (RX8, TX8, 7)) (As := [.int (mm_I 0), .int (mm_I 16)]) (rest := [.int (mm_I 0), .ref (mm_ad G this)]) C w (c_X8_takeNumber l G a1 0 16 h1 s_3 _ hw) h1 rfl rfl cv_X8_takeNumber ml_X9_86 ⟨Nat.le_of_ble_eq_true rfl, Nat.le_of_ble_eq_true rfl⟩ ⟨Nat.le_of_ble_eq_true rfl, Nat.le_of_ble_eq_true rfl⟩ rfl hl.1 rfl (Nat.le_of_ble_eq_true rfl) dX9_readSort_15) (fun r_6 s_5 H locs hw w => ?_)
  refine g_callv (pc := 18) w (mm_runV (ci := 9) (q := (RX9, TX9, 9)) (As := [.int (mm_I 0), .int (mm_I r_6)]) (rest := []) C w (c_X9_tellSort l G this 0 r_6 h0 s_5 _ hw) h0 rfl rfl cv_X9_tellSort ml_X9_101 ⟨Nat.le_of_ble_eq_true rfl, Nat.le_of_ble_eq_true rfl⟩ ⟨Nat.le_of_ble_eq_true rfl, Nat.le_of_ble_eq_true rfl⟩ rfl hl.1 rfl (Nat.le_of_ble_eq_true rfl) dX9_readSort_18) (fun s_7 H locs hw w => ?_)
  refine lv_aload_n (pc := 21) C.1 C.2.1 dX9_readSort_21 rfl (lv_at hl 0 rfl) ?_
  refine lv_iconst (pc := 22) (v := mm_I 1) C.1 C.2.1 dX9_readSort_22 rfl ?_
  refine lv_aload_n (pc := 23) C.1 C.2.1 dX9_readSort_23 rfl (lv_at hl 1 rfl) ?_
  refine lv_iconst (pc := 24) (v := mm_I 0) C.1 C.2.1 dX9_readSort_24 rfl ?_
  refine lv_bipush (pc := 25) C.1 C.2.1 dX9_readSort_25 mb_99 ?_
  refine g_calli (pc := 27) w (mm_runV (ci := 8) (q := (RX8, TX8, 7)) (As := [.int (mm_I 0), .int (mm_I 99)]) (rest := [.int (mm_I 1), .ref (mm_ad G this)]) C w (c_X8_takeNumber l G a1 0 99 h1 s_7 _ hw) h1 rfl rfl cv_X8_takeNumber ml_X9_86 ⟨Nat.le_of_ble_eq_true rfl, Nat.le_of_ble_eq_true rfl⟩ ⟨Nat.le_of_ble_eq_true rfl, Nat.le_of_ble_eq_true rfl⟩ rfl hl.1 rfl (Nat.le_of_ble_eq_true rfl) dX9_readSort_27) (fun r_10 s_9 H locs hw w => ?_)
  refine g_callv (pc := 30) w (mm_runV (ci := 9) (q := (RX9, TX9, 9)) (As := [.int (mm_I 1), .int (mm_I r_10)]) (rest := []) C w (c_X9_tellSort l G this 1 r_10 h0 s_9 _ hw) h0 rfl rfl cv_X9_tellSort ml_X9_101 ⟨Nat.le_of_ble_eq_true rfl, Nat.le_of_ble_eq_true rfl⟩ ⟨Nat.le_of_ble_eq_true rfl, Nat.le_of_ble_eq_true rfl⟩ rfl hl.1 rfl (Nat.le_of_ble_eq_true rfl) dX9_readSort_30) (fun s_11 H locs hw w => ?_)
  refine lv_aload_n (pc := 33) C.1 C.2.1 dX9_readSort_33 rfl (lv_at hl 0 rfl) ?_
  refine lv_iconst (pc := 34) (v := mm_I 2) C.1 C.2.1 dX9_readSort_34 rfl ?_
  refine lv_aload_n (pc := 35) C.1 C.2.1 dX9_readSort_35 rfl (lv_at hl 1 rfl) ?_
  refine lv_iconst (pc := 36) (v := mm_I 1) C.1 C.2.1 dX9_readSort_36 rfl ?_
  refine lv_sipush (pc := 37) C.1 C.2.1 dX9_readSort_37 ms_240 ?_
  refine g_calli (pc := 40) w (mm_runV (ci := 8) (q := (RX8, TX8, 7)) (As := [.int (mm_I 1), .int (mm_I 240)]) (rest := [.int (mm_I 2), .ref (mm_ad G this)]) C w (c_X8_takeNumber l G a1 1 240 h1 s_11 _ hw) h1 rfl rfl cv_X8_takeNumber ml_X9_86 ⟨Nat.le_of_ble_eq_true rfl, Nat.le_of_ble_eq_true rfl⟩ ⟨Nat.le_of_ble_eq_true rfl, Nat.le_of_ble_eq_true rfl⟩ rfl hl.1 rfl (Nat.le_of_ble_eq_true rfl) dX9_readSort_40) (fun r_14 s_13 H locs hw w => ?_)
  refine g_callv (pc := 43) w (mm_runV (ci := 9) (q := (RX9, TX9, 9)) (As := [.int (mm_I 2), .int (mm_I r_14)]) (rest := []) C w (c_X9_tellSort l G this 2 r_14 h0 s_13 _ hw) h0 rfl rfl cv_X9_tellSort ml_X9_101 ⟨Nat.le_of_ble_eq_true rfl, Nat.le_of_ble_eq_true rfl⟩ ⟨Nat.le_of_ble_eq_true rfl, Nat.le_of_ble_eq_true rfl⟩ rfl hl.1 rfl (Nat.le_of_ble_eq_true rfl) dX9_readSort_43) (fun s_15 H locs hw w => ?_)
  refine lv_aload_n (pc := 46) C.1 C.2.1 dX9_readSort_46 rfl (lv_at hl 0 rfl) ?_
  refine lv_iconst (pc := 47) (v := mm_I 3) C.1 C.2.1 dX9_readSort_47 rfl ?_
  refine lv_aload_n (pc := 48) C.1 C.2.1 dX9_readSort_48 rfl (lv_at hl 1 rfl) ?_
  refine lv_iconst (pc := 49) (v := mm_I 0) C.1 C.2.1 dX9_readSort_49 rfl ?_
  refine lv_bipush (pc := 50) C.1 C.2.1 dX9_readSort_50 mb_9 ?_
  refine g_calli (pc := 52) w (mm_runV (ci := 8) (q := (RX8, TX8, 7)) (As := [.int (mm_I 0), .int (mm_I 9)]) (rest := [.int (mm_I 3), .ref (mm_ad G this)]) C w (c_X8_takeNumber l G a1 0 9 h1 s_15 _ hw) h1 rfl rfl cv_X8_takeNumber ml_X9_86 ⟨Nat.le_of_ble_eq_true rfl, Nat.le_of_ble_eq_true rfl⟩ ⟨Nat.le_of_ble_eq_true rfl, Nat.le_of_ble_eq_true rfl⟩ rfl hl.1 rfl (Nat.le_of_ble_eq_true rfl) dX9_readSort_52) (fun r_18 s_17 H locs hw w => ?_)
  refine g_callv (pc := 55) w (mm_runV (ci := 9) (q := (RX9, TX9, 9)) (As := [.int (mm_I 3), .int (mm_I r_18)]) (rest := []) C w (c_X9_tellSort l G this 3 r_18 h0 s_17 _ hw) h0 rfl rfl cv_X9_tellSort ml_X9_101 ⟨Nat.le_of_ble_eq_true rfl, Nat.le_of_ble_eq_true rfl⟩ ⟨Nat.le_of_ble_eq_true rfl, Nat.le_of_ble_eq_true rfl⟩ rfl hl.1 rfl (Nat.le_of_ble_eq_true rfl) dX9_readSort_55) (fun s_19 H locs hw w => ?_)
  refine lv_aload_n (pc := 58) C.1 C.2.1 dX9_readSort_58 rfl (lv_at hl 0 rfl) ?_
  refine lv_iconst (pc := 59) (v := mm_I 4) C.1 C.2.1 dX9_readSort_59 rfl ?_
  refine lv_aload_n (pc := 60) C.1 C.2.1 dX9_readSort_60 rfl (lv_at hl 1 rfl) ?_
  refine lv_iconst (pc := 61) (v := mm_I 0) C.1 C.2.1 dX9_readSort_61 rfl ?_
  refine lv_bipush (pc := 62) C.1 C.2.1 dX9_readSort_62 mb_9 ?_
  refine g_calli (pc := 64) w (mm_runV (ci := 8) (q := (RX8, TX8, 7)) (As := [.int (mm_I 0), .int (mm_I 9)]) (rest := [.int (mm_I 4), .ref (mm_ad G this)]) C w (c_X8_takeNumber l G a1 0 9 h1 s_19 _ hw) h1 rfl rfl cv_X8_takeNumber ml_X9_86 ⟨Nat.le_of_ble_eq_true rfl, Nat.le_of_ble_eq_true rfl⟩ ⟨Nat.le_of_ble_eq_true rfl, Nat.le_of_ble_eq_true rfl⟩ rfl hl.1 rfl (Nat.le_of_ble_eq_true rfl) dX9_readSort_64) (fun r_22 s_21 H locs hw w => ?_)
  refine g_callv (pc := 67) w (mm_runV (ci := 9) (q := (RX9, TX9, 9)) (As := [.int (mm_I 4), .int (mm_I r_22)]) (rest := []) C w (c_X9_tellSort l G this 4 r_22 h0 s_21 _ hw) h0 rfl rfl cv_X9_tellSort ml_X9_101 ⟨Nat.le_of_ble_eq_true rfl, Nat.le_of_ble_eq_true rfl⟩ ⟨Nat.le_of_ble_eq_true rfl, Nat.le_of_ble_eq_true rfl⟩ rfl hl.1 rfl (Nat.le_of_ble_eq_true rfl) dX9_readSort_67) (fun s_23 H locs hw w => ?_)
  refine lv_aload_n (pc := 70) C.1 C.2.1 dX9_readSort_70 rfl (lv_at hl 0 rfl) ?_
  refine lv_iconst (pc := 71) (v := mm_I 5) C.1 C.2.1 dX9_readSort_71 rfl ?_
  refine lv_aload_n (pc := 72) C.1 C.2.1 dX9_readSort_72 rfl (lv_at hl 1 rfl) ?_
  refine lv_iconst (pc := 73) (v := mm_I 0) C.1 C.2.1 dX9_readSort_73 rfl ?_
  refine lv_iconst (pc := 74) (v := mm_I 2) C.1 C.2.1 dX9_readSort_74 rfl ?_
  refine g_calli (pc := 75) w (mm_runV (ci := 8) (q := (RX8, TX8, 7)) (As := [.int (mm_I 0), .int (mm_I 2)]) (rest := [.int (mm_I 5), .ref (mm_ad G this)]) C w (c_X8_takeNumber l G a1 0 2 h1 s_23 _ hw) h1 rfl rfl cv_X8_takeNumber ml_X9_86 ⟨Nat.le_of_ble_eq_true rfl, Nat.le_of_ble_eq_true rfl⟩ ⟨Nat.le_of_ble_eq_true rfl, Nat.le_of_ble_eq_true rfl⟩ rfl hl.1 rfl (Nat.le_of_ble_eq_true rfl) dX9_readSort_75) (fun r_26 s_25 H locs hw w => ?_)
  refine g_callv (pc := 78) w (mm_runV (ci := 9) (q := (RX9, TX9, 9)) (As := [.int (mm_I 5), .int (mm_I r_26)]) (rest := []) C w (c_X9_tellSort l G this 5 r_26 h0 s_25 _ hw) h0 rfl rfl cv_X9_tellSort ml_X9_101 ⟨Nat.le_of_ble_eq_true rfl, Nat.le_of_ble_eq_true rfl⟩ ⟨Nat.le_of_ble_eq_true rfl, Nat.le_of_ble_eq_true rfl⟩ rfl hl.1 rfl (Nat.le_of_ble_eq_true rfl) dX9_readSort_78) (fun s_27 H locs hw w => ?_)
  refine lv_aload_n (pc := 81) C.1 C.2.1 dX9_readSort_81 rfl (lv_at hl 1 rfl) ?_
  refine lv_bipush (pc := 82) C.1 C.2.1 dX9_readSort_82 mb_59 ?_
  refine g_calli (pc := 84) w (mm_runV (ci := 8) (q := (RX8, TX8, 7)) (As := [.int (mm_I 59)]) (rest := []) C w (c_X8_takeSign l G a1 59 h1 s_27 _ hw) h1 rfl rfl cv_X8_takeSign ml_X9_90 ⟨Nat.le_of_ble_eq_true rfl, Nat.le_of_ble_eq_true rfl⟩ ⟨Nat.le_of_ble_eq_true rfl, Nat.le_of_ble_eq_true rfl⟩ rfl hl.1 rfl (Nat.le_of_ble_eq_true rfl) dX9_readSort_84) (fun r_30 s_29 H locs hw w => ?_)
  refine g_if_eq (pc := 87) (tgt := 100) C rfl dX9_readSort_87 (by decide) (fun hc => ?_) (fun hc => ?_)
  · have hw := hw.1 hc
    exact g_vret (pc := 100) C w hr hk hw dX9_readSort_100
  · have hw := hw.2 hc
    refine lv_aload_n (pc := 90) C.1 C.2.1 dX9_readSort_90 rfl (lv_at hl 0 rfl) ?_
    refine lv_dup (pc := 91) C.1 C.2.1 dX9_readSort_91 rfl ?_
    refine g_geti (pc := 92) C w h0 ff_X9_5 lk_X9_37 dX9_readSort_92 ?_
    refine lv_iconst (pc := 95) (v := mm_I 1) C.1 C.2.1 dX9_readSort_95 rfl ?_
    refine g_iadd (pc := 96) C dX9_readSort_96 ?_
    refine g_puti (pc := 97) C w h0 ff_X9_5 fw_X9_5 lk_X9_37 dX9_readSort_97 (fun s_31 H locs es_31 w => ?_)
    have hw := hw s_31 es_31
    exact g_vret (pc := 100) C w hr hk hw dX9_readSort_100
def wp_X9_readOnly (a1 : Nat) (a2 : Int) (a3 : Int) (s0 : mm_M) (post : Int → mm_M → Prop) : Prop :=
  (wp_X8_advance a1 s0 (fun s_1 => (wp_X8_takeNumber a1 a2 a3 s_1 (fun r_4 s_3 => (∀ v3_5 : Int, v3_5 = r_4 → (wp_X8_takeSign a1 59 s_3 (fun r_7 s_6 => post v3_5 s_6)))))))
set_option maxRecDepth 100000 in
set_option maxHeartbeats 4000000 in
theorem c_X9_readOnly (l : Launch) (G : mm_G) (a1 : Nat) (a2 : Int) (a3 : Int) (h1 : mm_ok a1 18 0) (s0 : mm_M) (post : Int → mm_M → Prop) (hw : wp_X9_readOnly a1 a2 a3 s0 post) : Met l yX9_readOnly (mm_wm yX9_readOnly cX9_readOnly 4 (some .int)) (mm_rm 5) (va_Pc [.ref (mm_ad G a1), .int (mm_I a2), .int (mm_I a3)] (mm_pre G s0)) (mm_Qi G post) 0 0 (mm_A G) := by
  refine mm_met (own := RX9) (by decide) rfl (Nat.le_of_ble_eq_true rfl) ?_
  intro p e s m args below meth c C hr hk
  unfold wp_X9_readOnly at hw
  intro H locs ls w hl
  have hl : lv_has ls 4 [(0, .ref (mm_ad G a1)), (1, .int (mm_I a2)), (2, .int (mm_I a3))] := hl
  refine lv_aload_n (pc := 0) C.1 C.2.1 dX9_readOnly_0 rfl (lv_at hl 0 rfl) ?_
  refine g_callv (pc := 1) w (mm_runV (ci := 8) (q := (RX8, TX8, 7)) (As := []) (rest := []) C w (c_X8_advance l G a1 h1 s0 _ hw) h1 rfl rfl cv_X8_advance ml_X9_83 ⟨Nat.le_of_ble_eq_true rfl, Nat.le_of_ble_eq_true rfl⟩ ⟨Nat.le_of_ble_eq_true rfl, Nat.le_of_ble_eq_true rfl⟩ rfl hl.1 rfl (Nat.le_of_ble_eq_true rfl) dX9_readOnly_1) (fun s_1 H locs hw w => ?_)
  refine lv_aload_n (pc := 4) C.1 C.2.1 dX9_readOnly_4 rfl (lv_at hl 0 rfl) ?_
  refine lv_iload_n (pc := 5) C.1 C.2.1 dX9_readOnly_5 rfl (lv_at hl 1 rfl) ?_
  refine lv_iload_n (pc := 6) C.1 C.2.1 dX9_readOnly_6 rfl (lv_at hl 2 rfl) ?_
  refine g_calli (pc := 7) w (mm_runV (ci := 8) (q := (RX8, TX8, 7)) (As := [.int (mm_I a2), .int (mm_I a3)]) (rest := []) C w (c_X8_takeNumber l G a1 a2 a3 h1 s_1 _ hw) h1 rfl rfl cv_X8_takeNumber ml_X9_86 ⟨Nat.le_of_ble_eq_true rfl, Nat.le_of_ble_eq_true rfl⟩ ⟨Nat.le_of_ble_eq_true rfl, Nat.le_of_ble_eq_true rfl⟩ rfl hl.1 rfl (Nat.le_of_ble_eq_true rfl) dX9_readOnly_7) (fun r_4 s_3 H locs hw w => ?_)
  refine g_istore_n (pc := 10) C dX9_readOnly_10 rfl hl (by decide) (fun v3_5 ev3_5 ls hl => ?_)
  have hw := hw v3_5 ev3_5
  have hl : lv_has ls 4 [(3, .int (mm_I v3_5)), (0, .ref (mm_ad G a1)), (1, .int (mm_I a2)), (2, .int (mm_I a3))] := hl
  refine lv_aload_n (pc := 11) C.1 C.2.1 dX9_readOnly_11 rfl (lv_at hl 1 rfl) ?_
  refine lv_bipush (pc := 12) C.1 C.2.1 dX9_readOnly_12 mb_59 ?_
  refine g_calli (pc := 14) w (mm_runV (ci := 8) (q := (RX8, TX8, 7)) (As := [.int (mm_I 59)]) (rest := []) C w (c_X8_takeSign l G a1 59 h1 s_3 _ hw) h1 rfl rfl cv_X8_takeSign ml_X9_90 ⟨Nat.le_of_ble_eq_true rfl, Nat.le_of_ble_eq_true rfl⟩ ⟨Nat.le_of_ble_eq_true rfl, Nat.le_of_ble_eq_true rfl⟩ rfl hl.1 rfl (Nat.le_of_ble_eq_true rfl) dX9_readOnly_14) (fun r_7 s_6 H locs hw w => ?_)
  refine lv_pop (pc := 17) C.1 C.2.1 dX9_readOnly_17 rfl ?_
  refine lv_iload_n (pc := 18) C.1 C.2.1 dX9_readOnly_18 rfl (lv_at hl 0 rfl) ?_
  exact g_iret (pc := 19) C w hr hk hw dX9_readOnly_19
theorem cv_X9_readCounter : mm_V yX9_readCounter cX9_readCounter 2 none 1 := ⟨(mt_3 18 rfl rfl), (mt_3 17 rfl rfl), (mp_1 4 rfl rfl), (mt_1 4 rfl rfl), by decide, by decide, by decide +kernel⟩
theorem ml_X9_65 : Cond.methodLink RX9 65 yX9_readCounter ∈ mm_ws := (mt_3 15 rfl rfl)
theorem cv_X9_readSort : mm_V yX9_readSort cX9_readSort 2 none 1 := ⟨(mt_3 40 rfl rfl), (mt_3 39 rfl rfl), (mp_1 6 rfl rfl), (mt_1 4 rfl rfl), by decide, by decide, by decide +kernel⟩
theorem ml_X9_70 : Cond.methodLink RX9 70 yX9_readSort ∈ mm_ws := (mt_3 37 rfl rfl)
theorem cs_X9_readOnly : mm_S yX9_readOnly cX9_readOnly 4 (some .int) 3 := ⟨(mt_3 66 rfl rfl), (mt_3 65 rfl rfl), (mt_1 4 rfl rfl), by decide, by decide, by decide +kernel⟩
theorem ml_X9_75 : Cond.methodLink RX9 75 yX9_readOnly ∈ mm_ws := (mt_3 64 rfl rfl)
theorem fw_X9_6 : mm_Fw 9 6 TX9 9 .int := ⟨⟨tyX9, tyX9_ok⟩, nmX9, rfl, by decide +kernel⟩
theorem fw_X9_7 : mm_Fw 9 7 TX9 9 .int := ⟨⟨tyX9, tyX9_ok⟩, nmX9, rfl, by decide +kernel⟩
theorem fw_X9_8 : mm_Fw 9 8 TX9 9 .int := ⟨⟨tyX9, tyX9_ok⟩, nmX9, rfl, by decide +kernel⟩
def wp_X9_readPart (this : Nat) (a1 : Nat) (s0 : mm_M) (post : mm_M → Prop) : Prop :=
  ∀ (L25 : mm_M → Prop), ∀ (L50 : mm_M → Prop), ∀ (L83 : mm_M → Prop), ∀ (L114 : mm_M → Prop), ∀ (L145 : mm_M → Prop), 
  (∀  (s1 : mm_M), (wp_X8_wordIs a1 1 s1 (fun r_6 s_5 => ((n32 r_6 = 0 → L50 s_5) ∧ (¬ n32 r_6 = 0 → ((5 ≤ n32 (s_5 this 5) → L50 s_5) ∧ (¬ 5 ≤ n32 (s_5 this 5) → (wp_X9_readSort this a1 s_5 (fun s_7 => post s_7)))))))) → L25 s1) →
  (∀  (s1 : mm_M), (wp_X8_wordIs a1 2 s1 (fun r_10 s_9 => ((n32 r_10 = 0 → L83 s_9) ∧ (¬ n32 r_10 = 0 → ((¬ n32 (s_9 this 6) = (-1) → L83 s_9) ∧ (n32 (s_9 this 6) = (-1) → (wp_X9_readOnly a1 10 240 s_9 (fun r_12 s_11 => (∀ s_13 : mm_M, s_13 = mm_up s_11 this 6 r_12 → post s_13))))))))) → L50 s1) →
  (∀  (s1 : mm_M), (wp_X8_wordIs a1 3 s1 (fun r_15 s_14 => ((n32 r_15 = 0 → L114 s_14) ∧ (¬ n32 r_15 = 0 → ((¬ n32 (s_14 this 7) = (-1) → L114 s_14) ∧ (n32 (s_14 this 7) = (-1) → (wp_X9_readOnly a1 0 99 s_14 (fun r_17 s_16 => (∀ s_18 : mm_M, s_18 = mm_up s_16 this 7 r_17 → post s_18))))))))) → L83 s1) →
  (∀  (s1 : mm_M), (wp_X8_wordIs a1 4 s1 (fun r_20 s_19 => ((n32 r_20 = 0 → L145 s_19) ∧ (¬ n32 r_20 = 0 → ((¬ n32 (s_19 this 8) = (-1) → L145 s_19) ∧ (n32 (s_19 this 8) = (-1) → (wp_X9_readOnly a1 0 9 s_19 (fun r_22 s_21 => (∀ s_23 : mm_M, s_23 = mm_up s_21 this 8 r_22 → post s_23))))))))) → L114 s1) →
  (∀  (s1 : mm_M), (wp_X8_refuse a1 s1 (fun s_24 => post s_24)) → L145 s1) →
  (wp_X8_wordIs a1 0 s0 (fun r_2 s_1 => ((n32 r_2 = 0 → L25 s_1) ∧ (¬ n32 r_2 = 0 → ((3 ≤ n32 (s_1 this 4) → L25 s_1) ∧ (¬ 3 ≤ n32 (s_1 this 4) → (wp_X9_readCounter this a1 s_1 (fun s_3 => post s_3))))))))
set_option maxRecDepth 100000 in
set_option maxHeartbeats 4000000 in
theorem c_X9_readPart (l : Launch) (G : mm_G) (this : Nat) (a1 : Nat) (h0 : mm_ok this 19 0) (h1 : mm_ok a1 18 0) (s0 : mm_M) (post : mm_M → Prop) (hw : wp_X9_readPart this a1 s0 post) : Met l yX9_readPart (mm_wm yX9_readPart cX9_readPart 2 none) (mm_rm 9) (va_Pc [.ref (mm_ad G this), .ref (mm_ad G a1)] (mm_pre G s0)) (mm_Qv G post) 0 0 (mm_A G) := by
  refine mm_met (own := RX9) (by decide) rfl (Nat.le_of_ble_eq_true rfl) ?_
  intro p e s m args below meth c C hr hk
  unfold wp_X9_readPart at hw
  have hw := hw (fun  (u : mm_M) => mm_X p l e (mm_rm 9) s m args below meth c (MQ below (mm_Qv G post) args s 0 0 (mm_A G)) G (mm_A G) 2 25 [(0, .ref (mm_ad G this)), (1, .ref (mm_ad G a1))] [] u)
  have hw := hw (fun  (u : mm_M) => mm_X p l e (mm_rm 9) s m args below meth c (MQ below (mm_Qv G post) args s 0 0 (mm_A G)) G (mm_A G) 2 50 [(0, .ref (mm_ad G this)), (1, .ref (mm_ad G a1))] [] u)
  have hw := hw (fun  (u : mm_M) => mm_X p l e (mm_rm 9) s m args below meth c (MQ below (mm_Qv G post) args s 0 0 (mm_A G)) G (mm_A G) 2 83 [(0, .ref (mm_ad G this)), (1, .ref (mm_ad G a1))] [] u)
  have hw := hw (fun  (u : mm_M) => mm_X p l e (mm_rm 9) s m args below meth c (MQ below (mm_Qv G post) args s 0 0 (mm_A G)) G (mm_A G) 2 114 [(0, .ref (mm_ad G this)), (1, .ref (mm_ad G a1))] [] u)
  have hw := hw (fun  (u : mm_M) => mm_X p l e (mm_rm 9) s m args below meth c (MQ below (mm_Qv G post) args s 0 0 (mm_A G)) G (mm_A G) 2 145 [(1, .ref (mm_ad G a1))] [] u)
  have hw := hw (by
    intro  s1 hw  H locs ls w hl
    refine lv_aload_n (pc := 25) C.1 C.2.1 dX9_readPart_25 rfl (lv_at hl 1 rfl) ?_
    refine va_ldcS (pc := 26) C.1 C.2.1 C.2.2.2.1 (w.2.2.2.1.2.2.2.2 1 (by decide)).1 dX9_readPart_26 ?_
    refine g_calli (pc := 28) w (mm_runV (ci := 8) (q := (RX8, TX8, 7)) (As := [.ref (G.2.2.2.1 1)]) (rest := []) C w (c_X8_wordIs l G a1 1 h1 (by decide) s1 _ hw) h1 rfl rfl cv_X8_wordIs ml_X9_61 ⟨Nat.le_of_ble_eq_true rfl, Nat.le_of_ble_eq_true rfl⟩ ⟨Nat.le_of_ble_eq_true rfl, Nat.le_of_ble_eq_true rfl⟩ rfl hl.1 rfl (Nat.le_of_ble_eq_true rfl) dX9_readPart_28) (fun r_6 s_5 H locs hw w => ?_)
    refine g_if_eq (pc := 31) (tgt := 50) C rfl dX9_readPart_31 (by decide) (fun hc => ?_) (fun hc => ?_)
    · have hw := hw.1 hc
      exact hw  _ _ _ w (lv_sub hl [0, 1] rfl)
    · have hw := hw.2 hc
      refine lv_aload_n (pc := 34) C.1 C.2.1 dX9_readPart_34 rfl (lv_at hl 0 rfl) ?_
      refine g_geti (pc := 35) C w h0 ff_X9_5 lk_X9_37 dX9_readPart_35 ?_
      refine lv_iconst (pc := 38) (v := mm_I 5) C.1 C.2.1 dX9_readPart_38 rfl ?_
      refine g_icmp_ge (pc := 39) (tgt := 50) C rfl mn_5 dX9_readPart_39 (by decide) (fun hc => ?_) (fun hc => ?_)
      · have hw := hw.1 hc
        exact hw  _ _ _ w (lv_sub hl [0, 1] rfl)
      · have hw := hw.2 hc
        refine lv_aload_n (pc := 42) C.1 C.2.1 dX9_readPart_42 rfl (lv_at hl 0 rfl) ?_
        refine lv_aload_n (pc := 43) C.1 C.2.1 dX9_readPart_43 rfl (lv_at hl 1 rfl) ?_
        refine g_callv (pc := 44) w (mm_runV (ci := 9) (q := (RX9, TX9, 9)) (As := [.ref (mm_ad G a1)]) (rest := []) C w (c_X9_readSort l G this a1 h0 h1 s_5 _ hw) h0 rfl rfl cv_X9_readSort ml_X9_70 ⟨Nat.le_of_ble_eq_true rfl, Nat.le_of_ble_eq_true rfl⟩ ⟨Nat.le_of_ble_eq_true rfl, Nat.le_of_ble_eq_true rfl⟩ rfl hl.1 rfl (Nat.le_of_ble_eq_true rfl) dX9_readPart_44) (fun s_7 H locs hw w => ?_)
        refine lv_goto (pc := 47) (tgt := 149) C.1 C.2.1 dX9_readPart_47 (by decide) ?_
        exact g_vret (pc := 149) C w hr hk hw dX9_readPart_149)
  have hw := hw (by
    intro  s1 hw  H locs ls w hl
    refine lv_aload_n (pc := 50) C.1 C.2.1 dX9_readPart_50 rfl (lv_at hl 1 rfl) ?_
    refine va_ldcS (pc := 51) C.1 C.2.1 C.2.2.2.1 (w.2.2.2.1.2.2.2.2 2 (by decide)).1 dX9_readPart_51 ?_
    refine g_calli (pc := 53) w (mm_runV (ci := 8) (q := (RX8, TX8, 7)) (As := [.ref (G.2.2.2.1 2)]) (rest := []) C w (c_X8_wordIs l G a1 2 h1 (by decide) s1 _ hw) h1 rfl rfl cv_X8_wordIs ml_X9_61 ⟨Nat.le_of_ble_eq_true rfl, Nat.le_of_ble_eq_true rfl⟩ ⟨Nat.le_of_ble_eq_true rfl, Nat.le_of_ble_eq_true rfl⟩ rfl hl.1 rfl (Nat.le_of_ble_eq_true rfl) dX9_readPart_53) (fun r_10 s_9 H locs hw w => ?_)
    refine g_if_eq (pc := 56) (tgt := 83) C rfl dX9_readPart_56 (by decide) (fun hc => ?_) (fun hc => ?_)
    · have hw := hw.1 hc
      exact hw  _ _ _ w (lv_sub hl [0, 1] rfl)
    · have hw := hw.2 hc
      refine lv_aload_n (pc := 59) C.1 C.2.1 dX9_readPart_59 rfl (lv_at hl 0 rfl) ?_
      refine g_geti (pc := 60) C w h0 ff_X9_6 lk_X9_24 dX9_readPart_60 ?_
      refine lv_iconst (pc := 63) (v := mm_I (-1)) C.1 C.2.1 dX9_readPart_63 rfl ?_
      refine g_icmp_ne (pc := 64) (tgt := 83) C rfl mn_m1 dX9_readPart_64 (by decide) (fun hc => ?_) (fun hc => ?_)
      · have hw := hw.1 hc
        exact hw  _ _ _ w (lv_sub hl [0, 1] rfl)
      · have hw := hw.2 hc
        refine lv_aload_n (pc := 67) C.1 C.2.1 dX9_readPart_67 rfl (lv_at hl 0 rfl) ?_
        refine lv_aload_n (pc := 68) C.1 C.2.1 dX9_readPart_68 rfl (lv_at hl 1 rfl) ?_
        refine lv_bipush (pc := 69) C.1 C.2.1 dX9_readPart_69 mb_10 ?_
        refine lv_sipush (pc := 71) C.1 C.2.1 dX9_readPart_71 ms_240 ?_
        refine g_calli (pc := 74) w (mm_runS (As := [.ref (mm_ad G a1), .int (mm_I 10), .int (mm_I 240)]) (rest := [.ref (mm_ad G this)]) C w (c_X9_readOnly l G a1 10 240 h1 s_9 _ hw) cs_X9_readOnly ml_X9_75 ⟨Nat.le_of_ble_eq_true rfl, Nat.le_of_ble_eq_true rfl⟩ ⟨Nat.le_of_ble_eq_true rfl, Nat.le_of_ble_eq_true rfl⟩ rfl hl.1 rfl (Nat.le_of_ble_eq_true rfl) dX9_readPart_74) (fun r_12 s_11 H locs hw w => ?_)
        refine g_puti (pc := 77) C w h0 ff_X9_6 fw_X9_6 lk_X9_24 dX9_readPart_77 (fun s_13 H locs es_13 w => ?_)
        have hw := hw s_13 es_13
        refine lv_goto (pc := 80) (tgt := 149) C.1 C.2.1 dX9_readPart_80 (by decide) ?_
        exact g_vret (pc := 149) C w hr hk hw dX9_readPart_149)
  have hw := hw (by
    intro  s1 hw  H locs ls w hl
    refine lv_aload_n (pc := 83) C.1 C.2.1 dX9_readPart_83 rfl (lv_at hl 1 rfl) ?_
    refine va_ldcS (pc := 84) C.1 C.2.1 C.2.2.2.1 (w.2.2.2.1.2.2.2.2 3 (by decide)).1 dX9_readPart_84 ?_
    refine g_calli (pc := 86) w (mm_runV (ci := 8) (q := (RX8, TX8, 7)) (As := [.ref (G.2.2.2.1 3)]) (rest := []) C w (c_X8_wordIs l G a1 3 h1 (by decide) s1 _ hw) h1 rfl rfl cv_X8_wordIs ml_X9_61 ⟨Nat.le_of_ble_eq_true rfl, Nat.le_of_ble_eq_true rfl⟩ ⟨Nat.le_of_ble_eq_true rfl, Nat.le_of_ble_eq_true rfl⟩ rfl hl.1 rfl (Nat.le_of_ble_eq_true rfl) dX9_readPart_86) (fun r_15 s_14 H locs hw w => ?_)
    refine g_if_eq (pc := 89) (tgt := 114) C rfl dX9_readPart_89 (by decide) (fun hc => ?_) (fun hc => ?_)
    · have hw := hw.1 hc
      exact hw  _ _ _ w (lv_sub hl [0, 1] rfl)
    · have hw := hw.2 hc
      refine lv_aload_n (pc := 92) C.1 C.2.1 dX9_readPart_92 rfl (lv_at hl 0 rfl) ?_
      refine g_geti (pc := 93) C w h0 ff_X9_7 lk_X9_28 dX9_readPart_93 ?_
      refine lv_iconst (pc := 96) (v := mm_I (-1)) C.1 C.2.1 dX9_readPart_96 rfl ?_
      refine g_icmp_ne (pc := 97) (tgt := 114) C rfl mn_m1 dX9_readPart_97 (by decide) (fun hc => ?_) (fun hc => ?_)
      · have hw := hw.1 hc
        exact hw  _ _ _ w (lv_sub hl [0, 1] rfl)
      · have hw := hw.2 hc
        refine lv_aload_n (pc := 100) C.1 C.2.1 dX9_readPart_100 rfl (lv_at hl 0 rfl) ?_
        refine lv_aload_n (pc := 101) C.1 C.2.1 dX9_readPart_101 rfl (lv_at hl 1 rfl) ?_
        refine lv_iconst (pc := 102) (v := mm_I 0) C.1 C.2.1 dX9_readPart_102 rfl ?_
        refine lv_bipush (pc := 103) C.1 C.2.1 dX9_readPart_103 mb_99 ?_
        refine g_calli (pc := 105) w (mm_runS (As := [.ref (mm_ad G a1), .int (mm_I 0), .int (mm_I 99)]) (rest := [.ref (mm_ad G this)]) C w (c_X9_readOnly l G a1 0 99 h1 s_14 _ hw) cs_X9_readOnly ml_X9_75 ⟨Nat.le_of_ble_eq_true rfl, Nat.le_of_ble_eq_true rfl⟩ ⟨Nat.le_of_ble_eq_true rfl, Nat.le_of_ble_eq_true rfl⟩ rfl hl.1 rfl (Nat.le_of_ble_eq_true rfl) dX9_readPart_105) (fun r_17 s_16 H locs hw w => ?_)
        refine g_puti (pc := 108) C w h0 ff_X9_7 fw_X9_7 lk_X9_28 dX9_readPart_108 (fun s_18 H locs es_18 w => ?_)
        have hw := hw s_18 es_18
        refine lv_goto (pc := 111) (tgt := 149) C.1 C.2.1 dX9_readPart_111 (by decide) ?_
        exact g_vret (pc := 149) C w hr hk hw dX9_readPart_149)
  have hw := hw (by
    intro  s1 hw  H locs ls w hl
    refine lv_aload_n (pc := 114) C.1 C.2.1 dX9_readPart_114 rfl (lv_at hl 1 rfl) ?_
    refine va_ldcS (pc := 115) C.1 C.2.1 C.2.2.2.1 (w.2.2.2.1.2.2.2.2 4 (by decide)).1 dX9_readPart_115 ?_
    refine g_calli (pc := 117) w (mm_runV (ci := 8) (q := (RX8, TX8, 7)) (As := [.ref (G.2.2.2.1 4)]) (rest := []) C w (c_X8_wordIs l G a1 4 h1 (by decide) s1 _ hw) h1 rfl rfl cv_X8_wordIs ml_X9_61 ⟨Nat.le_of_ble_eq_true rfl, Nat.le_of_ble_eq_true rfl⟩ ⟨Nat.le_of_ble_eq_true rfl, Nat.le_of_ble_eq_true rfl⟩ rfl hl.1 rfl (Nat.le_of_ble_eq_true rfl) dX9_readPart_117) (fun r_20 s_19 H locs hw w => ?_)
    refine g_if_eq (pc := 120) (tgt := 145) C rfl dX9_readPart_120 (by decide) (fun hc => ?_) (fun hc => ?_)
    · have hw := hw.1 hc
      exact hw  _ _ _ w (lv_sub hl [1] rfl)
    · have hw := hw.2 hc
      refine lv_aload_n (pc := 123) C.1 C.2.1 dX9_readPart_123 rfl (lv_at hl 0 rfl) ?_
      refine g_geti (pc := 124) C w h0 ff_X9_8 lk_X9_31 dX9_readPart_124 ?_
      refine lv_iconst (pc := 127) (v := mm_I (-1)) C.1 C.2.1 dX9_readPart_127 rfl ?_
      refine g_icmp_ne (pc := 128) (tgt := 145) C rfl mn_m1 dX9_readPart_128 (by decide) (fun hc => ?_) (fun hc => ?_)
      · have hw := hw.1 hc
        exact hw  _ _ _ w (lv_sub hl [1] rfl)
      · have hw := hw.2 hc
        refine lv_aload_n (pc := 131) C.1 C.2.1 dX9_readPart_131 rfl (lv_at hl 0 rfl) ?_
        refine lv_aload_n (pc := 132) C.1 C.2.1 dX9_readPart_132 rfl (lv_at hl 1 rfl) ?_
        refine lv_iconst (pc := 133) (v := mm_I 0) C.1 C.2.1 dX9_readPart_133 rfl ?_
        refine lv_bipush (pc := 134) C.1 C.2.1 dX9_readPart_134 mb_9 ?_
        refine g_calli (pc := 136) w (mm_runS (As := [.ref (mm_ad G a1), .int (mm_I 0), .int (mm_I 9)]) (rest := [.ref (mm_ad G this)]) C w (c_X9_readOnly l G a1 0 9 h1 s_19 _ hw) cs_X9_readOnly ml_X9_75 ⟨Nat.le_of_ble_eq_true rfl, Nat.le_of_ble_eq_true rfl⟩ ⟨Nat.le_of_ble_eq_true rfl, Nat.le_of_ble_eq_true rfl⟩ rfl hl.1 rfl (Nat.le_of_ble_eq_true rfl) dX9_readPart_136) (fun r_22 s_21 H locs hw w => ?_)
        refine g_puti (pc := 139) C w h0 ff_X9_8 fw_X9_8 lk_X9_31 dX9_readPart_139 (fun s_23 H locs es_23 w => ?_)
        have hw := hw s_23 es_23
        refine lv_goto (pc := 142) (tgt := 149) C.1 C.2.1 dX9_readPart_142 (by decide) ?_
        exact g_vret (pc := 149) C w hr hk hw dX9_readPart_149)
  have hw := hw (by
    intro  s1 hw  H locs ls w hl
    refine lv_aload_n (pc := 145) C.1 C.2.1 dX9_readPart_145 rfl (lv_at hl 0 rfl) ?_
    refine g_callv (pc := 146) w (mm_runV (ci := 8) (q := (RX8, TX8, 7)) (As := []) (rest := []) C w (c_X8_refuse l G a1 h1 s1 _ hw) h1 rfl rfl cv_X8_refuse ml_X9_53 ⟨Nat.le_of_ble_eq_true rfl, Nat.le_of_ble_eq_true rfl⟩ ⟨Nat.le_of_ble_eq_true rfl, Nat.le_of_ble_eq_true rfl⟩ rfl hl.1 rfl (Nat.le_of_ble_eq_true rfl) dX9_readPart_146) (fun s_24 H locs hw w => ?_)
    exact g_vret (pc := 149) C w hr hk hw dX9_readPart_149)
  intro H locs ls w hl
  have hl : lv_has ls 2 [(0, .ref (mm_ad G this)), (1, .ref (mm_ad G a1))] := hl
  refine lv_aload_n (pc := 0) C.1 C.2.1 dX9_readPart_0 rfl (lv_at hl 1 rfl) ?_
  refine va_ldcS (pc := 1) C.1 C.2.1 C.2.2.2.1 (w.2.2.2.1.2.2.2.2 0 (by decide)).1 dX9_readPart_1 ?_
  refine g_calli (pc := 3) w (mm_runV (ci := 8) (q := (RX8, TX8, 7)) (As := [.ref (G.2.2.2.1 0)]) (rest := []) C w (c_X8_wordIs l G a1 0 h1 (by decide) s0 _ hw) h1 rfl rfl cv_X8_wordIs ml_X9_61 ⟨Nat.le_of_ble_eq_true rfl, Nat.le_of_ble_eq_true rfl⟩ ⟨Nat.le_of_ble_eq_true rfl, Nat.le_of_ble_eq_true rfl⟩ rfl hl.1 rfl (Nat.le_of_ble_eq_true rfl) dX9_readPart_3) (fun r_2 s_1 H locs hw w => ?_)
  refine g_if_eq (pc := 6) (tgt := 25) C rfl dX9_readPart_6 (by decide) (fun hc => ?_) (fun hc => ?_)
  · have hw := hw.1 hc
    exact hw  _ _ _ w (lv_sub hl [0, 1] rfl)
  · have hw := hw.2 hc
    refine lv_aload_n (pc := 9) C.1 C.2.1 dX9_readPart_9 rfl (lv_at hl 0 rfl) ?_
    refine g_geti (pc := 10) C w h0 ff_X9_4 lk_X9_34 dX9_readPart_10 ?_
    refine lv_iconst (pc := 13) (v := mm_I 3) C.1 C.2.1 dX9_readPart_13 rfl ?_
    refine g_icmp_ge (pc := 14) (tgt := 25) C rfl mn_3 dX9_readPart_14 (by decide) (fun hc => ?_) (fun hc => ?_)
    · have hw := hw.1 hc
      exact hw  _ _ _ w (lv_sub hl [0, 1] rfl)
    · have hw := hw.2 hc
      refine lv_aload_n (pc := 17) C.1 C.2.1 dX9_readPart_17 rfl (lv_at hl 0 rfl) ?_
      refine lv_aload_n (pc := 18) C.1 C.2.1 dX9_readPart_18 rfl (lv_at hl 1 rfl) ?_
      refine g_callv (pc := 19) w (mm_runV (ci := 9) (q := (RX9, TX9, 9)) (As := [.ref (mm_ad G a1)]) (rest := []) C w (c_X9_readCounter l G this a1 h0 h1 s_1 _ hw) h0 rfl rfl cv_X9_readCounter ml_X9_65 ⟨Nat.le_of_ble_eq_true rfl, Nat.le_of_ble_eq_true rfl⟩ ⟨Nat.le_of_ble_eq_true rfl, Nat.le_of_ble_eq_true rfl⟩ rfl hl.1 rfl (Nat.le_of_ble_eq_true rfl) dX9_readPart_19) (fun s_3 H locs hw w => ?_)
      refine lv_goto (pc := 22) (tgt := 149) C.1 C.2.1 dX9_readPart_22 (by decide) ?_
      exact g_vret (pc := 149) C w hr hk hw dX9_readPart_149
theorem ml_X9_40 : Cond.methodLink RX9 40 yX8_begin ∈ mm_ws := (mt_2 173 rfl rfl)
theorem ml_X9_45 : Cond.methodLink RX9 45 yX8_goesOn ∈ mm_ws := (mt_2 194 rfl rfl)
theorem cv_X9_readPart : mm_V yX9_readPart cX9_readPart 2 none 1 := ⟨(mt_2 201 rfl rfl), (mt_2 200 rfl rfl), (mp_1 3 rfl rfl), (mt_1 4 rfl rfl), by decide, by decide, by decide +kernel⟩
theorem ml_X9_49 : Cond.methodLink RX9 49 yX9_readPart ∈ mm_ws := (mt_2 198 rfl rfl)
theorem lk_X9_56 : Cond.fieldLinkNest RX9 56 "LastServed$Text" "fault" "I" "LastServed" ∈ mm_nest := by decide +kernel
def wp_X9_read (this : Nat) (a1 : Nat) (s0 : mm_M) (post : Int → mm_M → Prop) : Prop :=
  ∀ (L31 : Int → mm_M → Prop), ∀ (L56 : mm_M → Prop), ∀ (L70 : mm_M → Prop), 
  (∀ (v2 : Int) (s1 : mm_M), ((500 ≤ n32 v2 → L56 s1) ∧ (¬ 500 ≤ n32 v2 → (wp_X8_goesOn a1 s1 (fun r_10 s_9 => ((n32 r_10 = 0 → L56 s_9) ∧ (¬ n32 r_10 = 0 → (wp_X9_readPart this a1 s_9 (fun s_11 => (∀ v2_13 : Int, v2_13 = v2 + 1 → L31 v2_13 s_11))))))))) → L31 v2 s1) →
  (∀  (s1 : mm_M), ((n32 (s1 this 4) = 0 → L70 s1) ∧ (¬ n32 (s1 this 4) = 0 → ((¬ n32 (s1 this 5) = 0 → post (s1 a1 6) s1) ∧ (n32 (s1 this 5) = 0 → L70 s1)))) → L56 s1) →
  (∀  (s1 : mm_M), (wp_X8_refuse a1 s1 (fun s_14 => post (s_14 a1 6) s_14)) → L70 s1) →
  (∀ s_1 : mm_M, s_1 = mm_up s0 this 4 0 → (∀ s_2 : mm_M, s_2 = mm_up s_1 this 5 0 → (∀ s_3 : mm_M, s_3 = mm_up s_2 this 6 (-1) → (∀ s_4 : mm_M, s_4 = mm_up s_3 this 7 (-1) → (∀ s_5 : mm_M, s_5 = mm_up s_4 this 8 (-1) → (wp_X8_begin a1 s_5 (fun s_6 => L31 0 s_6)))))))
set_option maxRecDepth 100000 in
set_option maxHeartbeats 4000000 in
theorem c_X9_read (l : Launch) (G : mm_G) (this : Nat) (a1 : Nat) (h0 : mm_ok this 19 0) (h1 : mm_ok a1 18 0) (s0 : mm_M) (post : Int → mm_M → Prop) (hw : wp_X9_read this a1 s0 post) : Met l yX9_read (mm_wm yX9_read cX9_read 3 (some .int)) (mm_rm 10) (va_Pc [.ref (mm_ad G this), .ref (mm_ad G a1)] (mm_pre G s0)) (mm_Qi G post) 0 0 (mm_A G) := by
  refine mm_met (own := RX9) (by decide) rfl (Nat.le_of_ble_eq_true rfl) ?_
  intro p e s m args below meth c C hr hk
  unfold wp_X9_read at hw
  have hw := hw (fun (v2 : Int) (u : mm_M) => mm_X p l e (mm_rm 10) s m args below meth c (MQ below (mm_Qi G post) args s 0 0 (mm_A G)) G (mm_A G) 3 31 [(0, .ref (mm_ad G this)), (1, .ref (mm_ad G a1)), (2, .int (mm_I v2))] [] u)
  have hw := hw (fun  (u : mm_M) => mm_X p l e (mm_rm 10) s m args below meth c (MQ below (mm_Qi G post) args s 0 0 (mm_A G)) G (mm_A G) 3 56 [(0, .ref (mm_ad G this)), (1, .ref (mm_ad G a1))] [] u)
  have hw := hw (fun  (u : mm_M) => mm_X p l e (mm_rm 10) s m args below meth c (MQ below (mm_Qi G post) args s 0 0 (mm_A G)) G (mm_A G) 3 70 [(1, .ref (mm_ad G a1))] [] u)
  have hw := hw (by
    intro v2 s1 hw  H locs ls w hl
    refine lv_iload_n (pc := 31) C.1 C.2.1 dX9_read_31 rfl (lv_at hl 2 rfl) ?_
    refine lv_sipush (pc := 32) C.1 C.2.1 dX9_read_32 ms_500 ?_
    refine g_icmp_ge (pc := 35) (tgt := 56) C rfl mn_500 dX9_read_35 (by decide) (fun hc => ?_) (fun hc => ?_)
    · have hw := hw.1 hc
      exact hw  _ _ _ w (lv_sub hl [0, 1] rfl)
    · have hw := hw.2 hc
      refine lv_aload_n (pc := 38) C.1 C.2.1 dX9_read_38 rfl (lv_at hl 1 rfl) ?_
      refine g_calli (pc := 39) w (mm_runV (ci := 8) (q := (RX8, TX8, 7)) (As := []) (rest := []) C w (c_X8_goesOn l G a1 h1 s1 _ hw) h1 rfl rfl cv_X8_goesOn ml_X9_45 ⟨Nat.le_of_ble_eq_true rfl, Nat.le_of_ble_eq_true rfl⟩ ⟨Nat.le_of_ble_eq_true rfl, Nat.le_of_ble_eq_true rfl⟩ rfl hl.1 rfl (Nat.le_of_ble_eq_true rfl) dX9_read_39) (fun r_10 s_9 H locs hw w => ?_)
      refine g_if_eq (pc := 42) (tgt := 56) C rfl dX9_read_42 (by decide) (fun hc => ?_) (fun hc => ?_)
      · have hw := hw.1 hc
        exact hw  _ _ _ w (lv_sub hl [0, 1] rfl)
      · have hw := hw.2 hc
        refine lv_aload_n (pc := 45) C.1 C.2.1 dX9_read_45 rfl (lv_at hl 0 rfl) ?_
        refine lv_aload_n (pc := 46) C.1 C.2.1 dX9_read_46 rfl (lv_at hl 1 rfl) ?_
        refine g_callv (pc := 47) w (mm_runV (ci := 9) (q := (RX9, TX9, 9)) (As := [.ref (mm_ad G a1)]) (rest := []) C w (c_X9_readPart l G this a1 h0 h1 s_9 _ hw) h0 rfl rfl cv_X9_readPart ml_X9_49 ⟨Nat.le_of_ble_eq_true rfl, Nat.le_of_ble_eq_true rfl⟩ ⟨Nat.le_of_ble_eq_true rfl, Nat.le_of_ble_eq_true rfl⟩ rfl hl.1 rfl (Nat.le_of_ble_eq_true rfl) dX9_read_47) (fun s_11 H locs hw w => ?_)
        refine g_iinc (pc := 50) (k := 2) C dX9_read_50 hl rfl (by decide) (fun v2_13 ev2_13 ls hl => ?_)
        have hw := hw v2_13 ev2_13
        have hl : lv_has ls 3 [(2, .int (mm_I v2_13)), (0, .ref (mm_ad G this)), (1, .ref (mm_ad G a1))] := hl
        refine lv_goto (pc := 53) (tgt := 31) C.1 C.2.1 dX9_read_53 (by decide) ?_
        exact hw  _ _ _ w (lv_sub hl [1, 2, 0] rfl))
  have hw := hw (by
    intro  s1 hw  H locs ls w hl
    refine lv_aload_n (pc := 56) C.1 C.2.1 dX9_read_56 rfl (lv_at hl 0 rfl) ?_
    refine g_geti (pc := 57) C w h0 ff_X9_4 lk_X9_34 dX9_read_57 ?_
    refine g_if_eq (pc := 60) (tgt := 70) C rfl dX9_read_60 (by decide) (fun hc => ?_) (fun hc => ?_)
    · have hw := hw.1 hc
      exact hw  _ _ _ w (lv_sub hl [1] rfl)
    · have hw := hw.2 hc
      refine lv_aload_n (pc := 63) C.1 C.2.1 dX9_read_63 rfl (lv_at hl 0 rfl) ?_
      refine g_geti (pc := 64) C w h0 ff_X9_5 lk_X9_37 dX9_read_64 ?_
      refine g_if_ne (pc := 67) (tgt := 74) C rfl dX9_read_67 (by decide) (fun hc => ?_) (fun hc => ?_)
      · have hw := hw.1 hc
        refine lv_aload_n (pc := 74) C.1 C.2.1 dX9_read_74 rfl (lv_at hl 1 rfl) ?_
        refine g_getiN (pc := 75) C w h1 ff_X8_6 lk_X9_56 dX9_read_75 ?_
        exact g_iret (pc := 78) C w hr hk hw dX9_read_78
      · have hw := hw.2 hc
        exact hw  _ _ _ w (lv_sub hl [1] rfl))
  have hw := hw (by
    intro  s1 hw  H locs ls w hl
    refine lv_aload_n (pc := 70) C.1 C.2.1 dX9_read_70 rfl (lv_at hl 0 rfl) ?_
    refine g_callv (pc := 71) w (mm_runV (ci := 8) (q := (RX8, TX8, 7)) (As := []) (rest := []) C w (c_X8_refuse l G a1 h1 s1 _ hw) h1 rfl rfl cv_X8_refuse ml_X9_53 ⟨Nat.le_of_ble_eq_true rfl, Nat.le_of_ble_eq_true rfl⟩ ⟨Nat.le_of_ble_eq_true rfl, Nat.le_of_ble_eq_true rfl⟩ rfl hl.1 rfl (Nat.le_of_ble_eq_true rfl) dX9_read_71) (fun s_14 H locs hw w => ?_)
    refine lv_aload_n (pc := 74) C.1 C.2.1 dX9_read_74 rfl (lv_at hl 0 rfl) ?_
    refine g_getiN (pc := 75) C w h1 ff_X8_6 lk_X9_56 dX9_read_75 ?_
    exact g_iret (pc := 78) C w hr hk hw dX9_read_78)
  intro H locs ls w hl
  have hl : lv_has ls 3 [(0, .ref (mm_ad G this)), (1, .ref (mm_ad G a1))] := hl
  refine lv_aload_n (pc := 0) C.1 C.2.1 dX9_read_0 rfl (lv_at hl 0 rfl) ?_
  refine lv_iconst (pc := 1) (v := mm_I 0) C.1 C.2.1 dX9_read_1 rfl ?_
  refine g_puti (pc := 2) C w h0 ff_X9_4 fw_X9_4 lk_X9_34 dX9_read_2 (fun s_1 H locs es_1 w => ?_)
  have hw := hw s_1 es_1
  refine lv_aload_n (pc := 5) C.1 C.2.1 dX9_read_5 rfl (lv_at hl 0 rfl) ?_
  refine lv_iconst (pc := 6) (v := mm_I 0) C.1 C.2.1 dX9_read_6 rfl ?_
  refine g_puti (pc := 7) C w h0 ff_X9_5 fw_X9_5 lk_X9_37 dX9_read_7 (fun s_2 H locs es_2 w => ?_)
  have hw := hw s_2 es_2
  refine lv_aload_n (pc := 10) C.1 C.2.1 dX9_read_10 rfl (lv_at hl 0 rfl) ?_
  refine lv_iconst (pc := 11) (v := mm_I (-1)) C.1 C.2.1 dX9_read_11 rfl ?_
  refine g_puti (pc := 12) C w h0 ff_X9_6 fw_X9_6 lk_X9_24 dX9_read_12 (fun s_3 H locs es_3 w => ?_)
  have hw := hw s_3 es_3
  refine lv_aload_n (pc := 15) C.1 C.2.1 dX9_read_15 rfl (lv_at hl 0 rfl) ?_
  refine lv_iconst (pc := 16) (v := mm_I (-1)) C.1 C.2.1 dX9_read_16 rfl ?_
  refine g_puti (pc := 17) C w h0 ff_X9_7 fw_X9_7 lk_X9_28 dX9_read_17 (fun s_4 H locs es_4 w => ?_)
  have hw := hw s_4 es_4
  refine lv_aload_n (pc := 20) C.1 C.2.1 dX9_read_20 rfl (lv_at hl 0 rfl) ?_
  refine lv_iconst (pc := 21) (v := mm_I (-1)) C.1 C.2.1 dX9_read_21 rfl ?_
  refine g_puti (pc := 22) C w h0 ff_X9_8 fw_X9_8 lk_X9_31 dX9_read_22 (fun s_5 H locs es_5 w => ?_)
  have hw := hw s_5 es_5
  refine lv_aload_n (pc := 25) C.1 C.2.1 dX9_read_25 rfl (lv_at hl 1 rfl) ?_
  refine g_callv (pc := 26) w (mm_runV (ci := 8) (q := (RX8, TX8, 7)) (As := []) (rest := []) C w (c_X8_begin l G a1 h1 s_5 _ hw) h1 rfl rfl cv_X8_begin ml_X9_40 ⟨Nat.le_of_ble_eq_true rfl, Nat.le_of_ble_eq_true rfl⟩ ⟨Nat.le_of_ble_eq_true rfl, Nat.le_of_ble_eq_true rfl⟩ rfl hl.1 rfl (Nat.le_of_ble_eq_true rfl) dX9_read_26) (fun s_6 H locs hw w => ?_)
  refine lv_iconst (pc := 29) (v := mm_I 0) C.1 C.2.1 dX9_read_29 rfl ?_
  refine lv_istore_n (pc := 30) (lv' := [(2, .int (mm_I 0)), (0, .ref (mm_ad G this)), (1, .ref (mm_ad G a1))]) C.1 C.2.1 dX9_read_30 rfl hl (by decide) rfl (fun ls hl => ?_)
  exact hw  _ _ _ w (lv_sub hl [1, 2, 0] rfl)
theorem ml_X9_124 : Cond.methodLink RX9 124 arraycopyName ∈ mm_ws := (mt_3 131 rfl rfl)
def wp_X9_takeOver (this : Nat) (a1 : Nat) (s0 : mm_M) (post : mm_M → Prop) : Prop :=
  ((0 ≤ (0 : Int) ∧ 0 ≤ (0 : Int) ∧ 0 ≤ (9 : Int) ∧ (0 : Int) + 9 ≤ 9 ∧ (0 : Int) + 9 ≤ 9) ∧ (∀ s_1 : mm_M, s_1 = mm_cp s0 (mm_rt a1 0) 0 (mm_rt this 0) 0 9 → ((0 ≤ (0 : Int) ∧ 0 ≤ (0 : Int) ∧ 0 ≤ (30 : Int) ∧ (0 : Int) + 30 ≤ 30 ∧ (0 : Int) + 30 ≤ 30) ∧ (∀ s_2 : mm_M, s_2 = mm_cp s_1 (mm_rt a1 1) 0 (mm_rt this 1) 0 30 → (∀ s_3 : mm_M, s_3 = mm_up s_2 this 4 (s_2 a1 4) → (∀ s_4 : mm_M, s_4 = mm_up s_3 this 5 (s_3 a1 5) → (∀ s_5 : mm_M, s_5 = mm_up s_4 this 6 (s_4 a1 6) → (∀ s_6 : mm_M, s_6 = mm_up s_5 this 7 (s_5 a1 7) → (∀ s_7 : mm_M, s_7 = mm_up s_6 this 8 (s_6 a1 8) → post s_7)))))))))
set_option maxRecDepth 100000 in
set_option maxHeartbeats 4000000 in
theorem c_X9_takeOver (l : Launch) (G : mm_G) (this : Nat) (a1 : Nat) (h0 : mm_ok this 19 0) (h1 : mm_ok a1 19 0) (s0 : mm_M) (post : mm_M → Prop) (hw : wp_X9_takeOver this a1 s0 post) : Met l yX9_takeOver (mm_wm yX9_takeOver cX9_takeOver 2 none) (mm_rm 2) (va_Pc [.ref (mm_ad G this), .ref (mm_ad G a1)] (mm_pre G s0)) (mm_Qv G post) 0 0 (mm_A G) := by
  refine mm_met (own := RX9) (by decide) rfl (Nat.le_of_ble_eq_true rfl) ?_
  intro p e s m args below meth c C hr hk
  unfold wp_X9_takeOver at hw
  intro H locs ls w hl
  have hl : lv_has ls 2 [(0, .ref (mm_ad G this)), (1, .ref (mm_ad G a1))] := hl
  refine lv_aload_n (pc := 0) C.1 C.2.1 dX9_takeOver_0 rfl (lv_at hl 1 rfl) ?_
  refine g_getr (pc := 1) C w h1 ff_X9_0 lk_X9_9 dX9_takeOver_1 ?_
  refine lv_iconst (pc := 4) (v := mm_I 0) C.1 C.2.1 dX9_takeOver_4 rfl ?_
  refine lv_aload_n (pc := 5) C.1 C.2.1 dX9_takeOver_5 rfl (lv_at hl 0 rfl) ?_
  refine g_getr (pc := 6) C w h0 ff_X9_0 lk_X9_9 dX9_takeOver_6 ?_
  refine lv_iconst (pc := 9) (v := mm_I 0) C.1 C.2.1 dX9_takeOver_9 rfl ?_
  refine lv_bipush (pc := 10) C.1 C.2.1 dX9_takeOver_10 mb_9 ?_
  obtain ⟨hi, hw⟩ := hw
  refine g_copy (pc := 12) C w hl.1 (ro_X9_0 h1) (ro_X9_0 h0) hi ml_X9_124 mv_copy ⟨Nat.le_of_ble_eq_true rfl, Nat.le_of_ble_eq_true rfl⟩ dX9_takeOver_12 (fun s_1 H locs es_1 w => ?_)
  have hw := hw s_1 es_1
  refine lv_aload_n (pc := 15) C.1 C.2.1 dX9_takeOver_15 rfl (lv_at hl 1 rfl) ?_
  refine g_getr (pc := 16) C w h1 ff_X9_1 lk_X9_15 dX9_takeOver_16 ?_
  refine lv_iconst (pc := 19) (v := mm_I 0) C.1 C.2.1 dX9_takeOver_19 rfl ?_
  refine lv_aload_n (pc := 20) C.1 C.2.1 dX9_takeOver_20 rfl (lv_at hl 0 rfl) ?_
  refine g_getr (pc := 21) C w h0 ff_X9_1 lk_X9_15 dX9_takeOver_21 ?_
  refine lv_iconst (pc := 24) (v := mm_I 0) C.1 C.2.1 dX9_takeOver_24 rfl ?_
  refine lv_bipush (pc := 25) C.1 C.2.1 dX9_takeOver_25 mb_30 ?_
  obtain ⟨hi, hw⟩ := hw
  refine g_copy (pc := 27) C w hl.1 (ro_X9_1 h1) (ro_X9_1 h0) hi ml_X9_124 mv_copy ⟨Nat.le_of_ble_eq_true rfl, Nat.le_of_ble_eq_true rfl⟩ dX9_takeOver_27 (fun s_2 H locs es_2 w => ?_)
  have hw := hw s_2 es_2
  refine lv_aload_n (pc := 30) C.1 C.2.1 dX9_takeOver_30 rfl (lv_at hl 0 rfl) ?_
  refine lv_aload_n (pc := 31) C.1 C.2.1 dX9_takeOver_31 rfl (lv_at hl 1 rfl) ?_
  refine g_geti (pc := 32) C w h1 ff_X9_4 lk_X9_34 dX9_takeOver_32 ?_
  refine g_puti (pc := 35) C w h0 ff_X9_4 fw_X9_4 lk_X9_34 dX9_takeOver_35 (fun s_3 H locs es_3 w => ?_)
  have hw := hw s_3 es_3
  refine lv_aload_n (pc := 38) C.1 C.2.1 dX9_takeOver_38 rfl (lv_at hl 0 rfl) ?_
  refine lv_aload_n (pc := 39) C.1 C.2.1 dX9_takeOver_39 rfl (lv_at hl 1 rfl) ?_
  refine g_geti (pc := 40) C w h1 ff_X9_5 lk_X9_37 dX9_takeOver_40 ?_
  refine g_puti (pc := 43) C w h0 ff_X9_5 fw_X9_5 lk_X9_37 dX9_takeOver_43 (fun s_4 H locs es_4 w => ?_)
  have hw := hw s_4 es_4
  refine lv_aload_n (pc := 46) C.1 C.2.1 dX9_takeOver_46 rfl (lv_at hl 0 rfl) ?_
  refine lv_aload_n (pc := 47) C.1 C.2.1 dX9_takeOver_47 rfl (lv_at hl 1 rfl) ?_
  refine g_geti (pc := 48) C w h1 ff_X9_6 lk_X9_24 dX9_takeOver_48 ?_
  refine g_puti (pc := 51) C w h0 ff_X9_6 fw_X9_6 lk_X9_24 dX9_takeOver_51 (fun s_5 H locs es_5 w => ?_)
  have hw := hw s_5 es_5
  refine lv_aload_n (pc := 54) C.1 C.2.1 dX9_takeOver_54 rfl (lv_at hl 0 rfl) ?_
  refine lv_aload_n (pc := 55) C.1 C.2.1 dX9_takeOver_55 rfl (lv_at hl 1 rfl) ?_
  refine g_geti (pc := 56) C w h1 ff_X9_7 lk_X9_28 dX9_takeOver_56 ?_
  refine g_puti (pc := 59) C w h0 ff_X9_7 fw_X9_7 lk_X9_28 dX9_takeOver_59 (fun s_6 H locs es_6 w => ?_)
  have hw := hw s_6 es_6
  refine lv_aload_n (pc := 62) C.1 C.2.1 dX9_takeOver_62 rfl (lv_at hl 0 rfl) ?_
  refine lv_aload_n (pc := 63) C.1 C.2.1 dX9_takeOver_63 rfl (lv_at hl 1 rfl) ?_
  refine g_geti (pc := 64) C w h1 ff_X9_8 lk_X9_31 dX9_takeOver_64 ?_
  refine g_puti (pc := 67) C w h0 ff_X9_8 fw_X9_8 lk_X9_31 dX9_takeOver_67 (fun s_7 H locs es_7 w => ?_)
  have hw := hw s_7 es_7
  exact g_vret (pc := 70) C w hr hk hw dX9_takeOver_70
def wp_X9_isTold (this : Nat) (s0 : mm_M) (post : Int → mm_M → Prop) : Prop :=
  ((n32 (s0 this 4) ≤ 0 → post 0 s0) ∧ (¬ n32 (s0 this 4) ≤ 0 → post 1 s0))
set_option maxRecDepth 100000 in
set_option maxHeartbeats 4000000 in
theorem c_X9_isTold (l : Launch) (G : mm_G) (this : Nat) (h0 : mm_ok this 19 0) (s0 : mm_M) (post : Int → mm_M → Prop) (hw : wp_X9_isTold this s0 post) : Met l yX9_isTold (mm_wm yX9_isTold cX9_isTold 1 (some .boolean)) (mm_rm 1) (va_Pc [.ref (mm_ad G this)] (mm_pre G s0)) (mm_Qi G post) 0 0 (mm_A G) := by
  refine mm_met (own := RX9) (by decide) rfl (Nat.le_of_ble_eq_true rfl) ?_
  intro p e s m args below meth c C hr hk
  unfold wp_X9_isTold at hw
  intro H locs ls w hl
  have hl : lv_has ls 1 [(0, .ref (mm_ad G this))] := hl
  refine lv_aload_n (pc := 0) C.1 C.2.1 dX9_isTold_0 rfl (lv_at hl 0 rfl) ?_
  refine g_geti (pc := 1) C w h0 ff_X9_4 lk_X9_34 dX9_isTold_1 ?_
  refine g_if_le (pc := 4) (tgt := 11) C rfl dX9_isTold_4 (by decide) (fun hc => ?_) (fun hc => ?_)
  · have hw := hw.1 hc
    refine lv_iconst (pc := 11) (v := mm_I 0) C.1 C.2.1 dX9_isTold_11 rfl ?_
    exact g_zret (pc := 12) C w hr hk (by decide) hw dX9_isTold_12
  · have hw := hw.2 hc
    refine lv_iconst (pc := 7) (v := mm_I 1) C.1 C.2.1 dX9_isTold_7 rfl ?_
    refine lv_goto (pc := 8) (tgt := 12) C.1 C.2.1 dX9_isTold_8 (by decide) ?_
    exact g_zret (pc := 12) C w hr hk (by decide) hw dX9_isTold_12
theorem lk_X10_13 : Cond.fieldLink RX10 13 "LastServed" "text" "LLastServed$Text;" ∈ mm_ws := (mt_2 118 rfl rfl)
theorem ff_X10_0 : mm_F 10 0 1 RX10 TX10 10 := ⟨rfl, by decide, fk_X10, rfl, rfl⟩
theorem ro_X10_0 {i : Nat} (h : mm_ok i 20 0) : mm_ok (mm_rt i 0) 18 0 := by
  have q : ∀ i, i < mm_N → mm_kd i = 20 → mm_rt i 0 < mm_N ∧ mm_kd (mm_rt i 0) = 18 ∧ mm_ln (mm_rt i 0) = 0 := by decide +kernel
  exact q i h.1 h.2.1
theorem lk_X10_72 : Cond.fieldLinkNest RX10 72 "LastServed$Text" "length" "I" "LastServed" ∈ mm_nest := by decide +kernel
theorem ms_480 : (Int16.ofInt 480).toInt32 = mm_I 480 := by decide
theorem mn_480 : n32 480 = 480 := by decide
theorem cv_X8_append : mm_V yX8_append cX8_append 3 none 1 := ⟨(mt_2 156 rfl rfl), (mt_2 154 rfl rfl), (mt_2 155 rfl rfl), (mt_1 3 rfl rfl), by decide, by decide, by decide +kernel⟩
theorem ml_X10_76 : Cond.methodLink RX10 76 yX8_append ∈ mm_ws := (mt_2 153 rfl rfl)
def wp_X10_feed (this : Nat) (a1 : Int) (a2 : Int) (a3 : Int) (a4 : Int) (a5 : Int) (s0 : mm_M) (post : Int → mm_M → Prop) : Prop :=
  ((n32 (s0 (mm_rt this 0) 1) ≤ 480 → (wp_X8_append (mm_rt this 0) a1 s0 (fun s_1 => (wp_X8_append (mm_rt this 0) a2 s_1 (fun s_3 => (wp_X8_append (mm_rt this 0) a3 s_3 (fun s_5 => (wp_X8_append (mm_rt this 0) a4 s_5 (fun s_7 => (wp_X8_append (mm_rt this 0) a5 s_7 (fun s_9 => post (s_9 (mm_rt this 0) 1) s_9))))))))))) ∧ (¬ n32 (s0 (mm_rt this 0) 1) ≤ 480 → post (-1) s0))
set_option maxRecDepth 100000 in
set_option maxHeartbeats 4000000 in
theorem c_X10_feed (l : Launch) (G : mm_G) (this : Nat) (a1 : Int) (a2 : Int) (a3 : Int) (a4 : Int) (a5 : Int) (h0 : mm_ok this 20 0) (s0 : mm_M) (post : Int → mm_M → Prop) (hw : wp_X10_feed this a1 a2 a3 a4 a5 s0 post) : Met l yX10_feed (mm_wm yX10_feed cX10_feed 6 (some .int)) (mm_rm 2) (va_Pc [.ref (mm_ad G this), .int (mm_I a1), .int (mm_I a2), .int (mm_I a3), .int (mm_I a4), .int (mm_I a5)] (mm_pre G s0)) (mm_Qi G post) 0 0 (mm_A G) := by
  refine mm_met (own := RX10) (by decide) rfl (Nat.le_of_ble_eq_true rfl) ?_
  intro p e s m args below meth c C hr hk
  unfold wp_X10_feed at hw
  intro H locs ls w hl
  have hl : lv_has ls 6 [(0, .ref (mm_ad G this)), (1, .int (mm_I a1)), (2, .int (mm_I a2)), (3, .int (mm_I a3)), (4, .int (mm_I a4)), (5, .int (mm_I a5))] := hl
  refine lv_aload_n (pc := 0) C.1 C.2.1 dX10_feed_0 rfl (lv_at hl 0 rfl) ?_
  refine g_getr (pc := 1) C w h0 ff_X10_0 lk_X10_13 dX10_feed_1 ?_
  refine g_getiN (pc := 4) C w (ro_X10_0 h0) ff_X8_1 lk_X10_72 dX10_feed_4 ?_
  refine lv_sipush (pc := 7) C.1 C.2.1 dX10_feed_7 ms_480 ?_
  refine g_icmp_le (pc := 10) (tgt := 15) C rfl mn_480 dX10_feed_10 (by decide) (fun hc => ?_) (fun hc => ?_)
  · have hw := hw.1 hc
    refine lv_aload_n (pc := 15) C.1 C.2.1 dX10_feed_15 rfl (lv_at hl 0 rfl) ?_
    refine g_getr (pc := 16) C w h0 ff_X10_0 lk_X10_13 dX10_feed_16 ?_
    refine lv_iload_n (pc := 19) C.1 C.2.1 dX10_feed_19 rfl (lv_at hl 1 rfl) ?_
    refine g_callv (pc := 20) w (mm_runV (ci := 8) (q := (RX8, TX8, 7)) (As := [.int (mm_I a1)]) (rest := []) C w (c_X8_append l G (mm_rt this 0) a1 (ro_X10_0 h0) s0 _ hw) (ro_X10_0 h0) rfl rfl cv_X8_append ml_X10_76 ⟨Nat.le_of_ble_eq_true rfl, Nat.le_of_ble_eq_true rfl⟩ ⟨Nat.le_of_ble_eq_true rfl, Nat.le_of_ble_eq_true rfl⟩ rfl hl.1 rfl (Nat.le_of_ble_eq_true rfl) dX10_feed_20) (fun s_1 H locs hw w => ?_)
    refine lv_aload_n (pc := 23) C.1 C.2.1 dX10_feed_23 rfl (lv_at hl 0 rfl) ?_
    refine g_getr (pc := 24) C w h0 ff_X10_0 lk_X10_13 dX10_feed_24 ?_
    refine lv_iload_n (pc := 27) C.1 C.2.1 dX10_feed_27 rfl (lv_at hl 2 rfl) ?_
    refine g_callv (pc := 28) w (mm_runV (ci := 8) (q := (RX8, TX8, 7)) (As := [.int (mm_I a2)]) (rest := []) C w (c_X8_append l G (mm_rt this 0) a2 (ro_X10_0 h0) s_1 _ hw) (ro_X10_0 h0) rfl rfl cv_X8_append ml_X10_76 ⟨Nat.le_of_ble_eq_true rfl, Nat.le_of_ble_eq_true rfl⟩ ⟨Nat.le_of_ble_eq_true rfl, Nat.le_of_ble_eq_true rfl⟩ rfl hl.1 rfl (Nat.le_of_ble_eq_true rfl) dX10_feed_28) (fun s_3 H locs hw w => ?_)
    refine lv_aload_n (pc := 31) C.1 C.2.1 dX10_feed_31 rfl (lv_at hl 0 rfl) ?_
    refine g_getr (pc := 32) C w h0 ff_X10_0 lk_X10_13 dX10_feed_32 ?_
    refine lv_iload_n (pc := 35) C.1 C.2.1 dX10_feed_35 rfl (lv_at hl 3 rfl) ?_
    refine g_callv (pc := 36) w (mm_runV (ci := 8) (q := (RX8, TX8, 7)) (As := [.int (mm_I a3)]) (rest := []) C w (c_X8_append l G (mm_rt this 0) a3 (ro_X10_0 h0) s_3 _ hw) (ro_X10_0 h0) rfl rfl cv_X8_append ml_X10_76 ⟨Nat.le_of_ble_eq_true rfl, Nat.le_of_ble_eq_true rfl⟩ ⟨Nat.le_of_ble_eq_true rfl, Nat.le_of_ble_eq_true rfl⟩ rfl hl.1 rfl (Nat.le_of_ble_eq_true rfl) dX10_feed_36) (fun s_5 H locs hw w => ?_)
    refine lv_aload_n (pc := 39) C.1 C.2.1 dX10_feed_39 rfl (lv_at hl 0 rfl) ?_
    refine g_getr (pc := 40) C w h0 ff_X10_0 lk_X10_13 dX10_feed_40 ?_
    refine lv_iload (pc := 43) C.1 C.2.1 dX10_feed_43 (lv_at hl 4 rfl) ?_
    refine g_callv (pc := 45) w (mm_runV (ci := 8) (q := (RX8, TX8, 7)) (As := [.int (mm_I a4)]) (rest := []) C w (c_X8_append l G (mm_rt this 0) a4 (ro_X10_0 h0) s_5 _ hw) (ro_X10_0 h0) rfl rfl cv_X8_append ml_X10_76 ⟨Nat.le_of_ble_eq_true rfl, Nat.le_of_ble_eq_true rfl⟩ ⟨Nat.le_of_ble_eq_true rfl, Nat.le_of_ble_eq_true rfl⟩ rfl hl.1 rfl (Nat.le_of_ble_eq_true rfl) dX10_feed_45) (fun s_7 H locs hw w => ?_)
    refine lv_aload_n (pc := 48) C.1 C.2.1 dX10_feed_48 rfl (lv_at hl 0 rfl) ?_
    refine g_getr (pc := 49) C w h0 ff_X10_0 lk_X10_13 dX10_feed_49 ?_
    refine lv_iload (pc := 52) C.1 C.2.1 dX10_feed_52 (lv_at hl 5 rfl) ?_
    refine g_callv (pc := 54) w (mm_runV (ci := 8) (q := (RX8, TX8, 7)) (As := [.int (mm_I a5)]) (rest := []) C w (c_X8_append l G (mm_rt this 0) a5 (ro_X10_0 h0) s_7 _ hw) (ro_X10_0 h0) rfl rfl cv_X8_append ml_X10_76 ⟨Nat.le_of_ble_eq_true rfl, Nat.le_of_ble_eq_true rfl⟩ ⟨Nat.le_of_ble_eq_true rfl, Nat.le_of_ble_eq_true rfl⟩ rfl hl.1 rfl (Nat.le_of_ble_eq_true rfl) dX10_feed_54) (fun s_9 H locs hw w => ?_)
    refine lv_aload_n (pc := 57) C.1 C.2.1 dX10_feed_57 rfl (lv_at hl 0 rfl) ?_
    refine g_getr (pc := 58) C w h0 ff_X10_0 lk_X10_13 dX10_feed_58 ?_
    refine g_getiN (pc := 61) C w (ro_X10_0 h0) ff_X8_1 lk_X10_72 dX10_feed_61 ?_
    exact g_iret (pc := 64) C w hr hk hw dX10_feed_64
  · have hw := hw.2 hc
    refine lv_iconst (pc := 13) (v := mm_I (-1)) C.1 C.2.1 dX10_feed_13 rfl ?_
    exact g_iret (pc := 14) C w hr hk hw dX10_feed_14
theorem cv_X8_shorten : mm_V yX8_shorten cX8_shorten 2 (some .boolean) 1 := ⟨(mt_2 164 rfl rfl), (mt_2 162 rfl rfl), (mt_2 163 rfl rfl), (mt_1 3 rfl rfl), by decide, by decide, by decide +kernel⟩
theorem ml_X10_80 : Cond.methodLink RX10 80 yX8_shorten ∈ mm_ws := (mt_2 161 rfl rfl)
def wp_X10_end (this : Nat) (a1 : Int) (s0 : mm_M) (post : Int → mm_M → Prop) : Prop :=
  (wp_X8_shorten (mm_rt this 0) a1 s0 (fun r_2 s_1 => ((r_2 = 0 ∨ r_2 = 1) ∧ post r_2 s_1)))
set_option maxRecDepth 100000 in
set_option maxHeartbeats 4000000 in
theorem c_X10_end (l : Launch) (G : mm_G) (this : Nat) (a1 : Int) (h0 : mm_ok this 20 0) (s0 : mm_M) (post : Int → mm_M → Prop) (hw : wp_X10_end this a1 s0 post) : Met l yX10_end (mm_wm yX10_end cX10_end 2 (some .boolean)) (mm_rm 2) (va_Pc [.ref (mm_ad G this), .int (mm_I a1)] (mm_pre G s0)) (mm_Qi G post) 0 0 (mm_A G) := by
  refine mm_met (own := RX10) (by decide) rfl (Nat.le_of_ble_eq_true rfl) ?_
  intro p e s m args below meth c C hr hk
  unfold wp_X10_end at hw
  intro H locs ls w hl
  have hl : lv_has ls 2 [(0, .ref (mm_ad G this)), (1, .int (mm_I a1))] := hl
  refine lv_aload_n (pc := 0) C.1 C.2.1 dX10_end_0 rfl (lv_at hl 0 rfl) ?_
  refine g_getr (pc := 1) C w h0 ff_X10_0 lk_X10_13 dX10_end_1 ?_
  refine lv_iload_n (pc := 4) C.1 C.2.1 dX10_end_4 rfl (lv_at hl 1 rfl) ?_
  refine g_calli (pc := 5) w (mm_runV (ci := 8) (q := (RX8, TX8, 7)) (As := [.int (mm_I a1)]) (rest := []) C w (c_X8_shorten l G (mm_rt this 0) a1 (ro_X10_0 h0) s0 _ hw) (ro_X10_0 h0) rfl rfl cv_X8_shorten ml_X10_80 ⟨Nat.le_of_ble_eq_true rfl, Nat.le_of_ble_eq_true rfl⟩ ⟨Nat.le_of_ble_eq_true rfl, Nat.le_of_ble_eq_true rfl⟩ rfl hl.1 rfl (Nat.le_of_ble_eq_true rfl) dX10_end_5) (fun r_2 s_1 H locs hw w => ?_)
  obtain ⟨hb, hw⟩ := hw
  exact g_zret (pc := 8) C w hr hk hb hw dX10_end_8
theorem lc_X10_89 : Cond.constant RX10 89 (mm_I (-2147483648)) ∈ mm_ws := (mt_3 121 rfl rfl)
theorem lk_X10_36 : Cond.fieldLink RX10 36 "LastServed" "lawsDraft" "LLastServed$Laws;" ∈ mm_ws := (mt_2 122 rfl rfl)
theorem ff_X10_4 : mm_F 10 4 1 RX10 TX10 10 := ⟨rfl, by decide, fk_X10, rfl, rfl⟩
theorem ro_X10_4 {i : Nat} (h : mm_ok i 20 0) : mm_ok (mm_rt i 4) 13 0 := by
  have q : ∀ i, i < mm_N → mm_kd i = 20 → mm_rt i 4 < mm_N ∧ mm_kd (mm_rt i 4) = 13 ∧ mm_ln (mm_rt i 4) = 0 := by decide +kernel
  exact q i h.1 h.2.1
theorem cv_X3_read : mm_V yX3_read cX3_read 3 (some .int) 1 := ⟨(mt_3 70 rfl rfl), (mt_3 68 rfl rfl), (mt_3 69 rfl rfl), (mt_1 5 rfl rfl), by decide, by decide, by decide +kernel⟩
theorem ml_X10_88 : Cond.methodLink RX10 88 yX3_read ∈ mm_ws := (mt_3 67 rfl rfl)
theorem lk_X10_26 : Cond.fieldLink RX10 26 "LastServed" "townDraft" "LLastServed$Town;" ∈ mm_ws := (mt_2 120 rfl rfl)
theorem ff_X10_2 : mm_F 10 2 1 RX10 TX10 10 := ⟨rfl, by decide, fk_X10, rfl, rfl⟩
theorem ro_X10_2 {i : Nat} (h : mm_ok i 20 0) : mm_ok (mm_rt i 2) 19 0 := by
  have q : ∀ i, i < mm_N → mm_kd i = 20 → mm_rt i 2 < mm_N ∧ mm_kd (mm_rt i 2) = 19 ∧ mm_ln (mm_rt i 2) = 0 := by decide +kernel
  exact q i h.1 h.2.1
theorem cv_X9_read : mm_V yX9_read cX9_read 3 (some .int) 1 := ⟨(mt_2 172 rfl rfl), (mt_2 170 rfl rfl), (mt_2 171 rfl rfl), (mt_1 4 rfl rfl), by decide, by decide, by decide +kernel⟩
theorem ml_X10_84 : Cond.methodLink RX10 84 yX9_read ∈ mm_ws := (mt_2 169 rfl rfl)
def wp_X10_fault (this : Nat) (a1 : Int) (s0 : mm_M) (post : Int → mm_M → Prop) : Prop :=
  ((¬ n32 a1 = 0 → ((¬ n32 a1 = 1 → post (-2147483648) s0) ∧ (n32 a1 = 1 → (wp_X3_read (mm_rt this 4) (mm_rt this 0) s0 (fun r_2 s_1 => post r_2 s_1))))) ∧ (n32 a1 = 0 → (wp_X9_read (mm_rt this 2) (mm_rt this 0) s0 (fun r_4 s_3 => post r_4 s_3))))
set_option maxRecDepth 100000 in
set_option maxHeartbeats 4000000 in
theorem c_X10_fault (l : Launch) (G : mm_G) (this : Nat) (a1 : Int) (h0 : mm_ok this 20 0) (s0 : mm_M) (post : Int → mm_M → Prop) (hw : wp_X10_fault this a1 s0 post) : Met l yX10_fault (mm_wm yX10_fault cX10_fault 2 (some .int)) (mm_rm 77) (va_Pc [.ref (mm_ad G this), .int (mm_I a1)] (mm_pre G s0)) (mm_Qi G post) 0 0 (mm_A G) := by
  refine mm_met (own := RX10) (by decide) rfl (Nat.le_of_ble_eq_true rfl) ?_
  intro p e s m args below meth c C hr hk
  unfold wp_X10_fault at hw
  intro H locs ls w hl
  have hl : lv_has ls 2 [(0, .ref (mm_ad G this)), (1, .int (mm_I a1))] := hl
  refine lv_iload_n (pc := 0) C.1 C.2.1 dX10_fault_0 rfl (lv_at hl 1 rfl) ?_
  refine g_if_ne (pc := 1) (tgt := 16) C rfl dX10_fault_1 (by decide) (fun hc => ?_) (fun hc => ?_)
  · have hw := hw.1 hc
    refine lv_iload_n (pc := 16) C.1 C.2.1 dX10_fault_16 rfl (lv_at hl 1 rfl) ?_
    refine lv_iconst (pc := 17) (v := mm_I 1) C.1 C.2.1 dX10_fault_17 rfl ?_
    refine g_icmp_ne (pc := 18) (tgt := 35) C rfl mn_1 dX10_fault_18 (by decide) (fun hc => ?_) (fun hc => ?_)
    · have hw := hw.1 hc
      refine lv_ldc (pc := 35) C.1 C.2.1 C.2.2.2.1 (C.2.2.2.2 _ lc_X10_89) dX10_fault_35 ?_
      exact g_iret (pc := 37) C w hr hk hw dX10_fault_37
    · have hw := hw.2 hc
      refine lv_aload_n (pc := 21) C.1 C.2.1 dX10_fault_21 rfl (lv_at hl 0 rfl) ?_
      refine g_getr (pc := 22) C w h0 ff_X10_4 lk_X10_36 dX10_fault_22 ?_
      refine lv_aload_n (pc := 25) C.1 C.2.1 dX10_fault_25 rfl (lv_at hl 0 rfl) ?_
      refine g_getr (pc := 26) C w h0 ff_X10_0 lk_X10_13 dX10_fault_26 ?_
      refine g_calli (pc := 29) w (mm_runV (ci := 3) (q := (RX3, TX3, 7)) (As := [.ref (mm_ad G (mm_rt this 0))]) (rest := []) C w (c_X3_read l G (mm_rt this 4) (mm_rt this 0) (ro_X10_4 h0) (ro_X10_0 h0) s0 _ hw) (ro_X10_4 h0) rfl rfl cv_X3_read ml_X10_88 ⟨Nat.le_of_ble_eq_true rfl, Nat.le_of_ble_eq_true rfl⟩ ⟨Nat.le_of_ble_eq_true rfl, Nat.le_of_ble_eq_true rfl⟩ rfl hl.1 rfl (Nat.le_of_ble_eq_true rfl) dX10_fault_29) (fun r_2 s_1 H locs hw w => ?_)
      refine lv_goto (pc := 32) (tgt := 37) C.1 C.2.1 dX10_fault_32 (by decide) ?_
      exact g_iret (pc := 37) C w hr hk hw dX10_fault_37
  · have hw := hw.2 hc
    refine lv_aload_n (pc := 4) C.1 C.2.1 dX10_fault_4 rfl (lv_at hl 0 rfl) ?_
    refine g_getr (pc := 5) C w h0 ff_X10_2 lk_X10_26 dX10_fault_5 ?_
    refine lv_aload_n (pc := 8) C.1 C.2.1 dX10_fault_8 rfl (lv_at hl 0 rfl) ?_
    refine g_getr (pc := 9) C w h0 ff_X10_0 lk_X10_13 dX10_fault_9 ?_
    refine g_calli (pc := 12) w (mm_runV (ci := 9) (q := (RX9, TX9, 9)) (As := [.ref (mm_ad G (mm_rt this 0))]) (rest := []) C w (c_X9_read l G (mm_rt this 2) (mm_rt this 0) (ro_X10_2 h0) (ro_X10_0 h0) s0 _ hw) (ro_X10_2 h0) rfl rfl cv_X9_read ml_X10_84 ⟨Nat.le_of_ble_eq_true rfl, Nat.le_of_ble_eq_true rfl⟩ ⟨Nat.le_of_ble_eq_true rfl, Nat.le_of_ble_eq_true rfl⟩ rfl hl.1 rfl (Nat.le_of_ble_eq_true rfl) dX10_fault_12) (fun r_4 s_3 H locs hw w => ?_)
    exact g_iret (pc := 15) C w hr hk hw dX10_fault_15
theorem lk_X10_22 : Cond.fieldLink RX10 22 "LastServed" "town" "LLastServed$Town;" ∈ mm_ws := (mt_2 119 rfl rfl)
theorem ff_X10_1 : mm_F 10 1 1 RX10 TX10 10 := ⟨rfl, by decide, fk_X10, rfl, rfl⟩
theorem ro_X10_1 {i : Nat} (h : mm_ok i 20 0) : mm_ok (mm_rt i 1) 19 0 := by
  have q : ∀ i, i < mm_N → mm_kd i = 20 → mm_rt i 1 < mm_N ∧ mm_kd (mm_rt i 1) = 19 ∧ mm_ln (mm_rt i 1) = 0 := by decide +kernel
  exact q i h.1 h.2.1
theorem cv_X9_takeOver : mm_V yX9_takeOver cX9_takeOver 2 none 1 := ⟨(mt_3 130 rfl rfl), (mt_3 128 rfl rfl), (mt_3 129 rfl rfl), (mt_1 4 rfl rfl), by decide, by decide, by decide +kernel⟩
theorem ml_X10_90 : Cond.methodLink RX10 90 yX9_takeOver ∈ mm_ws := (mt_3 127 rfl rfl)
theorem lk_X10_44 : Cond.fieldLink RX10 44 "LastServed" "shop" "LLastServed$Shop;" ∈ mm_ws := (mt_2 123 rfl rfl)
theorem ff_X10_5 : mm_F 10 5 1 RX10 TX10 10 := ⟨rfl, by decide, fk_X10, rfl, rfl⟩
theorem ro_X10_5 {i : Nat} (h : mm_ok i 20 0) : mm_ok (mm_rt i 5) 17 0 := by
  have q : ∀ i, i < mm_N → mm_kd i = 20 → mm_rt i 5 < mm_N ∧ mm_kd (mm_rt i 5) = 17 ∧ mm_ln (mm_rt i 5) = 0 := by decide +kernel
  exact q i h.1 h.2.1
theorem cv_X7_open : mm_V yX7_open cX7_open 2 none 0 := ⟨(mt_3 137 rfl rfl), (mt_3 135 rfl rfl), (mt_3 136 rfl rfl), (mt_1 6 rfl rfl), by decide, by decide, by decide +kernel⟩
theorem ml_X10_94 : Cond.methodLink RX10 94 yX7_open ∈ mm_ws := (mt_3 134 rfl rfl)
theorem lk_X10_97 : Cond.fieldLinkNest RX10 97 "LastServed$Town" "counters" "I" "LastServed" ∈ mm_nest := by decide +kernel
theorem lk_X10_52 : Cond.fieldLink RX10 52 "LastServed" "imageKept" "[Z" ∈ mm_ws := (mt_2 125 rfl rfl)
theorem ff_X10_7 : mm_F 10 7 1 RX10 TX10 10 := ⟨rfl, by decide, fk_X10, rfl, rfl⟩
theorem ro_X10_7 {i : Nat} (h : mm_ok i 20 0) : mm_ok (mm_rt i 7) 2 3 := by
  have q : ∀ i, i < mm_N → mm_kd i = 20 → mm_rt i 7 < mm_N ∧ mm_kd (mm_rt i 7) = 2 ∧ mm_ln (mm_rt i 7) = 3 := by decide +kernel
  exact q i h.1 h.2.1
def wp_X10_town (this : Nat) (s0 : mm_M) (post : Int → mm_M → Prop) : Prop :=
  ∀ (L37 : Int → mm_M → Prop), 
  (∀ (v1 : Int) (s1 : mm_M), ((3 ≤ n32 v1 → (wp_X8_shorten (mm_rt this 0) 0 s1 (fun r_9 s_8 => post (s_8 (mm_rt this 1) 4) s_8))) ∧ (¬ 3 ≤ n32 v1 → ((0 ≤ v1 ∧ v1 < 3) ∧ (∀ s_10 : mm_M, s_10 = mm_up s1 (mm_rt this 7) v1 0 → (∀ v1_11 : Int, v1_11 = v1 + 1 → L37 v1_11 s_10))))) → L37 v1 s1) →
  (wp_X9_read (mm_rt this 2) (mm_rt this 0) s0 (fun r_2 s_1 => ((n32 r_2 = (-1) → (wp_X9_takeOver (mm_rt this 1) (mm_rt this 2) s_1 (fun s_3 => (wp_X7_open (mm_rt this 5) s_3 (fun s_5 => L37 0 s_5))))) ∧ (¬ n32 r_2 = (-1) → post (-1) s_1))))
set_option maxRecDepth 100000 in
set_option maxHeartbeats 4000000 in
theorem c_X10_town (l : Launch) (G : mm_G) (this : Nat) (h0 : mm_ok this 20 0) (s0 : mm_M) (post : Int → mm_M → Prop) (hw : wp_X10_town this s0 post) : Met l yX10_town (mm_wm yX10_town cX10_town 2 (some .int)) (mm_rm 11) (va_Pc [.ref (mm_ad G this)] (mm_pre G s0)) (mm_Qi G post) 0 0 (mm_A G) := by
  refine mm_met (own := RX10) (by decide) rfl (Nat.le_of_ble_eq_true rfl) ?_
  intro p e s m args below meth c C hr hk
  unfold wp_X10_town at hw
  have hw := hw (fun (v1 : Int) (u : mm_M) => mm_X p l e (mm_rm 11) s m args below meth c (MQ below (mm_Qi G post) args s 0 0 (mm_A G)) G (mm_A G) 2 37 [(0, .ref (mm_ad G this)), (1, .int (mm_I v1))] [] u)
  have hw := hw (by
    intro v1 s1 hw  H locs ls w hl
    refine lv_iload_n (pc := 37) C.1 C.2.1 dX10_town_37 rfl (lv_at hl 1 rfl) ?_
    refine lv_iconst (pc := 38) (v := mm_I 3) C.1 C.2.1 dX10_town_38 rfl ?_
    refine g_icmp_ge (pc := 39) (tgt := 55) C rfl mn_3 dX10_town_39 (by decide) (fun hc => ?_) (fun hc => ?_)
    · have hw := hw.1 hc
      refine lv_aload_n (pc := 55) C.1 C.2.1 dX10_town_55 rfl (lv_at hl 0 rfl) ?_
      refine g_getr (pc := 56) C w h0 ff_X10_0 lk_X10_13 dX10_town_56 ?_
      refine lv_iconst (pc := 59) (v := mm_I 0) C.1 C.2.1 dX10_town_59 rfl ?_
      refine g_calli (pc := 60) w (mm_runV (ci := 8) (q := (RX8, TX8, 7)) (As := [.int (mm_I 0)]) (rest := []) C w (c_X8_shorten l G (mm_rt this 0) 0 (ro_X10_0 h0) s1 _ hw) (ro_X10_0 h0) rfl rfl cv_X8_shorten ml_X10_80 ⟨Nat.le_of_ble_eq_true rfl, Nat.le_of_ble_eq_true rfl⟩ ⟨Nat.le_of_ble_eq_true rfl, Nat.le_of_ble_eq_true rfl⟩ rfl hl.1 rfl (Nat.le_of_ble_eq_true rfl) dX10_town_60) (fun r_9 s_8 H locs hw w => ?_)
      refine lv_pop (pc := 63) C.1 C.2.1 dX10_town_63 rfl ?_
      refine lv_aload_n (pc := 64) C.1 C.2.1 dX10_town_64 rfl (lv_at hl 0 rfl) ?_
      refine g_getr (pc := 65) C w h0 ff_X10_1 lk_X10_22 dX10_town_65 ?_
      refine g_getiN (pc := 68) C w (ro_X10_1 h0) ff_X9_4 lk_X10_97 dX10_town_68 ?_
      exact g_iret (pc := 71) C w hr hk hw dX10_town_71
    · have hw := hw.2 hc
      refine lv_aload_n (pc := 42) C.1 C.2.1 dX10_town_42 rfl (lv_at hl 0 rfl) ?_
      refine g_getr (pc := 43) C w h0 ff_X10_7 lk_X10_52 dX10_town_43 ?_
      refine lv_iload_n (pc := 46) C.1 C.2.1 dX10_town_46 rfl (lv_at hl 1 rfl) ?_
      refine lv_iconst (pc := 47) (v := mm_I 0) C.1 C.2.1 dX10_town_47 rfl ?_
      obtain ⟨hi, hw⟩ := hw
      refine g_zast (pc := 48) C w (ro_X10_7 h0) hi (by decide) dX10_town_48 (fun s_10 H locs es_10 w => ?_)
      have hw := hw s_10 es_10
      refine g_iinc (pc := 49) (k := 1) C dX10_town_49 hl rfl (by decide) (fun v1_11 ev1_11 ls hl => ?_)
      have hw := hw v1_11 ev1_11
      have hl : lv_has ls 2 [(1, .int (mm_I v1_11)), (0, .ref (mm_ad G this))] := hl
      refine lv_goto (pc := 52) (tgt := 37) C.1 C.2.1 dX10_town_52 (by decide) ?_
      exact hw  _ _ _ w (lv_sub hl [1, 0] rfl))
  intro H locs ls w hl
  have hl : lv_has ls 2 [(0, .ref (mm_ad G this))] := hl
  refine lv_aload_n (pc := 0) C.1 C.2.1 dX10_town_0 rfl (lv_at hl 0 rfl) ?_
  refine g_getr (pc := 1) C w h0 ff_X10_2 lk_X10_26 dX10_town_1 ?_
  refine lv_aload_n (pc := 4) C.1 C.2.1 dX10_town_4 rfl (lv_at hl 0 rfl) ?_
  refine g_getr (pc := 5) C w h0 ff_X10_0 lk_X10_13 dX10_town_5 ?_
  refine g_calli (pc := 8) w (mm_runV (ci := 9) (q := (RX9, TX9, 9)) (As := [.ref (mm_ad G (mm_rt this 0))]) (rest := []) C w (c_X9_read l G (mm_rt this 2) (mm_rt this 0) (ro_X10_2 h0) (ro_X10_0 h0) s0 _ hw) (ro_X10_2 h0) rfl rfl cv_X9_read ml_X10_84 ⟨Nat.le_of_ble_eq_true rfl, Nat.le_of_ble_eq_true rfl⟩ ⟨Nat.le_of_ble_eq_true rfl, Nat.le_of_ble_eq_true rfl⟩ rfl hl.1 rfl (Nat.le_of_ble_eq_true rfl) dX10_town_8) (fun r_2 s_1 H locs hw w => ?_)
  refine lv_iconst (pc := 11) (v := mm_I (-1)) C.1 C.2.1 dX10_town_11 rfl ?_
  refine g_icmp_eq (pc := 12) (tgt := 17) C rfl mn_m1 dX10_town_12 (by decide) (fun hc => ?_) (fun hc => ?_)
  · have hw := hw.1 hc
    refine lv_aload_n (pc := 17) C.1 C.2.1 dX10_town_17 rfl (lv_at hl 0 rfl) ?_
    refine g_getr (pc := 18) C w h0 ff_X10_1 lk_X10_22 dX10_town_18 ?_
    refine lv_aload_n (pc := 21) C.1 C.2.1 dX10_town_21 rfl (lv_at hl 0 rfl) ?_
    refine g_getr (pc := 22) C w h0 ff_X10_2 lk_X10_26 dX10_town_22 ?_
    refine g_callv (pc := 25) w (mm_runV (ci := 9) (q := (RX9, TX9, 9)) (As := [.ref (mm_ad G (mm_rt this 2))]) (rest := []) C w (c_X9_takeOver l G (mm_rt this 1) (mm_rt this 2) (ro_X10_1 h0) (ro_X10_2 h0) s_1 _ hw) (ro_X10_1 h0) rfl rfl cv_X9_takeOver ml_X10_90 ⟨Nat.le_of_ble_eq_true rfl, Nat.le_of_ble_eq_true rfl⟩ ⟨Nat.le_of_ble_eq_true rfl, Nat.le_of_ble_eq_true rfl⟩ rfl hl.1 rfl (Nat.le_of_ble_eq_true rfl) dX10_town_25) (fun s_3 H locs hw w => ?_)
    refine lv_aload_n (pc := 28) C.1 C.2.1 dX10_town_28 rfl (lv_at hl 0 rfl) ?_
    refine g_getr (pc := 29) C w h0 ff_X10_5 lk_X10_44 dX10_town_29 ?_
    refine g_callv (pc := 32) w (mm_runV (ci := 7) (q := (RX7, TX7, 9)) (As := []) (rest := []) C w (c_X7_open l G (mm_rt this 5) (ro_X10_5 h0) s_3 _ hw) (ro_X10_5 h0) rfl rfl cv_X7_open ml_X10_94 ⟨Nat.le_of_ble_eq_true rfl, Nat.le_of_ble_eq_true rfl⟩ ⟨Nat.le_of_ble_eq_true rfl, Nat.le_of_ble_eq_true rfl⟩ rfl hl.1 rfl (Nat.le_of_ble_eq_true rfl) dX10_town_32) (fun s_5 H locs hw w => ?_)
    refine lv_iconst (pc := 35) (v := mm_I 0) C.1 C.2.1 dX10_town_35 rfl ?_
    refine lv_istore_n (pc := 36) (lv' := [(1, .int (mm_I 0)), (0, .ref (mm_ad G this))]) C.1 C.2.1 dX10_town_36 rfl hl (by decide) rfl (fun ls hl => ?_)
    exact hw  _ _ _ w (lv_sub hl [1, 0] rfl)
  · have hw := hw.2 hc
    refine lv_iconst (pc := 15) (v := mm_I (-1)) C.1 C.2.1 dX10_town_15 rfl ?_
    exact g_iret (pc := 16) C w hr hk hw dX10_town_16
theorem lk_X10_32 : Cond.fieldLink RX10 32 "LastServed" "laws" "LLastServed$Laws;" ∈ mm_ws := (mt_2 121 rfl rfl)
theorem ff_X10_3 : mm_F 10 3 1 RX10 TX10 10 := ⟨rfl, by decide, fk_X10, rfl, rfl⟩
theorem ro_X10_3 {i : Nat} (h : mm_ok i 20 0) : mm_ok (mm_rt i 3) 13 0 := by
  have q : ∀ i, i < mm_N → mm_kd i = 20 → mm_rt i 3 < mm_N ∧ mm_kd (mm_rt i 3) = 13 ∧ mm_ln (mm_rt i 3) = 0 := by decide +kernel
  exact q i h.1 h.2.1
theorem cv_X3_takeOver : mm_V yX3_takeOver cX3_takeOver 3 none 1 := ⟨(mt_3 160 rfl rfl), (mt_3 158 rfl rfl), (mt_3 159 rfl rfl), (mt_1 5 rfl rfl), by decide, by decide, by decide +kernel⟩
theorem ml_X10_100 : Cond.methodLink RX10 100 yX3_takeOver ∈ mm_ws := (mt_3 157 rfl rfl)
theorem lk_X10_103 : Cond.fieldLinkNest RX10 103 "LastServed$Laws" "lines" "I" "LastServed" ∈ mm_nest := by decide +kernel
def wp_X10_laws (this : Nat) (s0 : mm_M) (post : Int → mm_M → Prop) : Prop :=
  (wp_X3_read (mm_rt this 4) (mm_rt this 0) s0 (fun r_2 s_1 => ((n32 r_2 = (-1) → (wp_X3_takeOver (mm_rt this 3) (mm_rt this 4) s_1 (fun s_3 => (wp_X8_shorten (mm_rt this 0) 0 s_3 (fun r_6 s_5 => post (s_5 (mm_rt this 3) 4) s_5))))) ∧ (¬ n32 r_2 = (-1) → post (-1) s_1))))
set_option maxRecDepth 100000 in
set_option maxHeartbeats 4000000 in
theorem c_X10_laws (l : Launch) (G : mm_G) (this : Nat) (h0 : mm_ok this 20 0) (s0 : mm_M) (post : Int → mm_M → Prop) (hw : wp_X10_laws this s0 post) : Met l yX10_laws (mm_wm yX10_laws cX10_laws 1 (some .int)) (mm_rm 77) (va_Pc [.ref (mm_ad G this)] (mm_pre G s0)) (mm_Qi G post) 0 0 (mm_A G) := by
  refine mm_met (own := RX10) (by decide) rfl (Nat.le_of_ble_eq_true rfl) ?_
  intro p e s m args below meth c C hr hk
  unfold wp_X10_laws at hw
  intro H locs ls w hl
  have hl : lv_has ls 1 [(0, .ref (mm_ad G this))] := hl
  refine lv_aload_n (pc := 0) C.1 C.2.1 dX10_laws_0 rfl (lv_at hl 0 rfl) ?_
  refine g_getr (pc := 1) C w h0 ff_X10_4 lk_X10_36 dX10_laws_1 ?_
  refine lv_aload_n (pc := 4) C.1 C.2.1 dX10_laws_4 rfl (lv_at hl 0 rfl) ?_
  refine g_getr (pc := 5) C w h0 ff_X10_0 lk_X10_13 dX10_laws_5 ?_
  refine g_calli (pc := 8) w (mm_runV (ci := 3) (q := (RX3, TX3, 7)) (As := [.ref (mm_ad G (mm_rt this 0))]) (rest := []) C w (c_X3_read l G (mm_rt this 4) (mm_rt this 0) (ro_X10_4 h0) (ro_X10_0 h0) s0 _ hw) (ro_X10_4 h0) rfl rfl cv_X3_read ml_X10_88 ⟨Nat.le_of_ble_eq_true rfl, Nat.le_of_ble_eq_true rfl⟩ ⟨Nat.le_of_ble_eq_true rfl, Nat.le_of_ble_eq_true rfl⟩ rfl hl.1 rfl (Nat.le_of_ble_eq_true rfl) dX10_laws_8) (fun r_2 s_1 H locs hw w => ?_)
  refine lv_iconst (pc := 11) (v := mm_I (-1)) C.1 C.2.1 dX10_laws_11 rfl ?_
  refine g_icmp_eq (pc := 12) (tgt := 17) C rfl mn_m1 dX10_laws_12 (by decide) (fun hc => ?_) (fun hc => ?_)
  · have hw := hw.1 hc
    refine lv_aload_n (pc := 17) C.1 C.2.1 dX10_laws_17 rfl (lv_at hl 0 rfl) ?_
    refine g_getr (pc := 18) C w h0 ff_X10_3 lk_X10_32 dX10_laws_18 ?_
    refine lv_aload_n (pc := 21) C.1 C.2.1 dX10_laws_21 rfl (lv_at hl 0 rfl) ?_
    refine g_getr (pc := 22) C w h0 ff_X10_4 lk_X10_36 dX10_laws_22 ?_
    refine g_callv (pc := 25) w (mm_runV (ci := 3) (q := (RX3, TX3, 7)) (As := [.ref (mm_ad G (mm_rt this 4))]) (rest := []) C w (c_X3_takeOver l G (mm_rt this 3) (mm_rt this 4) (ro_X10_3 h0) (ro_X10_4 h0) s_1 _ hw) (ro_X10_3 h0) rfl rfl cv_X3_takeOver ml_X10_100 ⟨Nat.le_of_ble_eq_true rfl, Nat.le_of_ble_eq_true rfl⟩ ⟨Nat.le_of_ble_eq_true rfl, Nat.le_of_ble_eq_true rfl⟩ rfl hl.1 rfl (Nat.le_of_ble_eq_true rfl) dX10_laws_25) (fun s_3 H locs hw w => ?_)
    refine lv_aload_n (pc := 28) C.1 C.2.1 dX10_laws_28 rfl (lv_at hl 0 rfl) ?_
    refine g_getr (pc := 29) C w h0 ff_X10_0 lk_X10_13 dX10_laws_29 ?_
    refine lv_iconst (pc := 32) (v := mm_I 0) C.1 C.2.1 dX10_laws_32 rfl ?_
    refine g_calli (pc := 33) w (mm_runV (ci := 8) (q := (RX8, TX8, 7)) (As := [.int (mm_I 0)]) (rest := []) C w (c_X8_shorten l G (mm_rt this 0) 0 (ro_X10_0 h0) s_3 _ hw) (ro_X10_0 h0) rfl rfl cv_X8_shorten ml_X10_80 ⟨Nat.le_of_ble_eq_true rfl, Nat.le_of_ble_eq_true rfl⟩ ⟨Nat.le_of_ble_eq_true rfl, Nat.le_of_ble_eq_true rfl⟩ rfl hl.1 rfl (Nat.le_of_ble_eq_true rfl) dX10_laws_33) (fun r_6 s_5 H locs hw w => ?_)
    refine lv_pop (pc := 36) C.1 C.2.1 dX10_laws_36 rfl ?_
    refine lv_aload_n (pc := 37) C.1 C.2.1 dX10_laws_37 rfl (lv_at hl 0 rfl) ?_
    refine g_getr (pc := 38) C w h0 ff_X10_3 lk_X10_32 dX10_laws_38 ?_
    refine g_getiN (pc := 41) C w (ro_X10_3 h0) ff_X3_4 lk_X10_103 dX10_laws_41 ?_
    exact g_iret (pc := 44) C w hr hk hw dX10_laws_44
  · have hw := hw.2 hc
    refine lv_iconst (pc := 15) (v := mm_I (-1)) C.1 C.2.1 dX10_laws_15 rfl ?_
    exact g_iret (pc := 16) C w hr hk hw dX10_laws_16
theorem ml_X10_106 : Cond.methodLink RX10 106 yX7_deskOf ∈ mm_ws := (mt_3 166 rfl rfl)
theorem ml_X10_110 : Cond.methodLink RX10 110 yX9_ofCounter ∈ mm_ws := (mt_3 171 rfl rfl)
theorem lk_X10_114 : Cond.fieldLinkNest RX10 114 "LastServed$Desk" "stock" "I" "LastServed" ∈ mm_nest := by decide +kernel
theorem lk_X10_119 : Cond.fieldLinkNest RX10 119 "LastServed$Desk" "size" "I" "LastServed" ∈ mm_nest := by decide +kernel
theorem lk_X10_122 : Cond.fieldLinkNest RX10 122 "LastServed$Desk" "busyTill" "I" "LastServed" ∈ mm_nest := by decide +kernel
theorem mo_0_4 {x : Int} (h0 : ¬ x = 0) (h1 : ¬ x = 1) (h2 : ¬ x = 2) (h3 : ¬ x = 3) (h4 : ¬ x = 4) : x < 0 ∨ 4 < x := by omega
def wp_X10_counter (this : Nat) (a1 : Int) (a2 : Int) (s0 : mm_M) (post : Int → mm_M → Prop) : Prop :=
  (wp_X7_deskOf (mm_rt this 5) a1 s0 (fun r_2 s_1 => (r_2 = none → post (-1) s_1) ∧ (∀ t_3 : Nat, r_2 = some t_3 → ((n32 a2 = 0 → (wp_X9_ofCounter (mm_rt this 1) a1 0 s_1 (fun r_5 s_4 => post r_5 s_4))) ∧ (¬ n32 a2 = 0 → ((n32 a2 = 1 → (wp_X9_ofCounter (mm_rt this 1) a1 1 s_1 (fun r_7 s_6 => post r_7 s_6))) ∧ (¬ n32 a2 = 1 → ((n32 a2 = 2 → post (s_1 t_3 2) s_1) ∧ (¬ n32 a2 = 2 → ((n32 a2 = 3 → post (s_1 t_3 1) s_1) ∧ (¬ n32 a2 = 3 → ((n32 a2 = 4 → post (s_1 t_3 3) s_1) ∧ (¬ n32 a2 = 4 → post (-1) s_1)))))))))))))
set_option maxRecDepth 100000 in
set_option maxHeartbeats 4000000 in
theorem c_X10_counter (l : Launch) (G : mm_G) (this : Nat) (a1 : Int) (a2 : Int) (h0 : mm_ok this 20 0) (s0 : mm_M) (post : Int → mm_M → Prop) (hw : wp_X10_counter this a1 a2 s0 post) : Met l yX10_counter (mm_wm yX10_counter cX10_counter 4 (some .int)) (mm_rm 3) (va_Pc [.ref (mm_ad G this), .int (mm_I a1), .int (mm_I a2)] (mm_pre G s0)) (mm_Qi G post) 0 0 (mm_A G) := by
  refine mm_met (own := RX10) (by decide) rfl (Nat.le_of_ble_eq_true rfl) ?_
  intro p e s m args below meth c C hr hk
  unfold wp_X10_counter at hw
  intro H locs ls w hl
  have hl : lv_has ls 4 [(0, .ref (mm_ad G this)), (1, .int (mm_I a1)), (2, .int (mm_I a2))] := hl
  refine lv_aload_n (pc := 0) C.1 C.2.1 dX10_counter_0 rfl (lv_at hl 0 rfl) ?_
  refine g_getr (pc := 1) C w h0 ff_X10_5 lk_X10_44 dX10_counter_1 ?_
  refine lv_iload_n (pc := 4) C.1 C.2.1 dX10_counter_4 rfl (lv_at hl 1 rfl) ?_
  refine g_callq (pc := 5) w (mm_runV (ci := 7) (q := (RX7, TX7, 9)) (As := [.int (mm_I a1)]) (rest := []) C w (c_X7_deskOf l G (mm_rt this 5) a1 (ro_X10_5 h0) s0 _ hw) (ro_X10_5 h0) rfl rfl cv_X7_deskOf ml_X10_106 ⟨Nat.le_of_ble_eq_true rfl, Nat.le_of_ble_eq_true rfl⟩ ⟨Nat.le_of_ble_eq_true rfl, Nat.le_of_ble_eq_true rfl⟩ rfl hl.1 rfl (Nat.le_of_ble_eq_true rfl) dX10_counter_5) (fun s_1 H locs hw w => ?_) (fun t_3 s_1 H locs ht_3 hw w => ?_)
  · have hw := hw.1 rfl
    refine lv_astore_nN (pc := 8) (lv' := [(3, .null), (0, .ref (mm_ad G this)), (1, .int (mm_I a1)), (2, .int (mm_I a2))]) C.1 C.2.1 dX10_counter_8 rfl hl (by decide) rfl (fun ls hl => ?_)
    refine lv_aload_nN (pc := 9) C.1 C.2.1 dX10_counter_9 rfl (lv_at hl 0 rfl) ?_
    refine lv_ifnonnullN (pc := 10) C.1 C.2.1 dX10_counter_10 ?_
    refine lv_iconst (pc := 13) (v := mm_I (-1)) C.1 C.2.1 dX10_counter_13 rfl ?_
    exact g_iret (pc := 14) C w hr hk hw dX10_counter_14
  · have hw := hw.2 t_3 rfl
    refine lv_astore_n (pc := 8) (lv' := [(3, .ref (mm_ad G t_3)), (0, .ref (mm_ad G this)), (1, .int (mm_I a1)), (2, .int (mm_I a2))]) C.1 C.2.1 dX10_counter_8 rfl hl (by decide) rfl (fun ls hl => ?_)
    refine lv_aload_n (pc := 9) C.1 C.2.1 dX10_counter_9 rfl (lv_at hl 0 rfl) ?_
    refine lv_ifnonnull (pc := 10) (tgt := 15) C.1 C.2.1 dX10_counter_10 (by decide) ?_
    refine lv_iload_n (pc := 15) C.1 C.2.1 dX10_counter_15 rfl (lv_at hl 3 rfl) ?_
    by_cases hc0 : n32 a2 = 0
    · have hw := hw.1 hc0
      refine lv_tableIn (pc := 16) (tgt := 52) C.1 C.2.1 dX10_counter_16 (by rw [show (mm_I a2).toInt = 0 from hc0]; decide) (by rw [show (mm_I a2).toInt = 0 from hc0]; decide) (by rw [show (mm_I a2).toInt = 0 from hc0]; first | done | rfl) (by decide) ?_
      refine lv_aload_n (pc := 52) C.1 C.2.1 dX10_counter_52 rfl (lv_at hl 1 rfl) ?_
      refine g_getr (pc := 53) C w h0 ff_X10_1 lk_X10_22 dX10_counter_53 ?_
      refine lv_iload_n (pc := 56) C.1 C.2.1 dX10_counter_56 rfl (lv_at hl 2 rfl) ?_
      refine lv_iconst (pc := 57) (v := mm_I 0) C.1 C.2.1 dX10_counter_57 rfl ?_
      refine g_calli (pc := 58) w (mm_runV (ci := 9) (q := (RX9, TX9, 9)) (As := [.int (mm_I a1), .int (mm_I 0)]) (rest := []) C w (c_X9_ofCounter l G (mm_rt this 1) a1 0 (ro_X10_1 h0) s_1 _ hw) (ro_X10_1 h0) rfl rfl cv_X9_ofCounter ml_X10_110 ⟨Nat.le_of_ble_eq_true rfl, Nat.le_of_ble_eq_true rfl⟩ ⟨Nat.le_of_ble_eq_true rfl, Nat.le_of_ble_eq_true rfl⟩ rfl hl.1 rfl (Nat.le_of_ble_eq_true rfl) dX10_counter_58) (fun r_5 s_4 H locs hw w => ?_)
      exact g_iret (pc := 61) C w hr hk hw dX10_counter_61
    have hw := hw.2 hc0
    by_cases hc1 : n32 a2 = 1
    · have hw := hw.1 hc1
      refine lv_tableIn (pc := 16) (tgt := 62) C.1 C.2.1 dX10_counter_16 (by rw [show (mm_I a2).toInt = 1 from hc1]; decide) (by rw [show (mm_I a2).toInt = 1 from hc1]; decide) (by rw [show (mm_I a2).toInt = 1 from hc1]; first | done | rfl) (by decide) ?_
      refine lv_aload_n (pc := 62) C.1 C.2.1 dX10_counter_62 rfl (lv_at hl 1 rfl) ?_
      refine g_getr (pc := 63) C w h0 ff_X10_1 lk_X10_22 dX10_counter_63 ?_
      refine lv_iload_n (pc := 66) C.1 C.2.1 dX10_counter_66 rfl (lv_at hl 2 rfl) ?_
      refine lv_iconst (pc := 67) (v := mm_I 1) C.1 C.2.1 dX10_counter_67 rfl ?_
      refine g_calli (pc := 68) w (mm_runV (ci := 9) (q := (RX9, TX9, 9)) (As := [.int (mm_I a1), .int (mm_I 1)]) (rest := []) C w (c_X9_ofCounter l G (mm_rt this 1) a1 1 (ro_X10_1 h0) s_1 _ hw) (ro_X10_1 h0) rfl rfl cv_X9_ofCounter ml_X10_110 ⟨Nat.le_of_ble_eq_true rfl, Nat.le_of_ble_eq_true rfl⟩ ⟨Nat.le_of_ble_eq_true rfl, Nat.le_of_ble_eq_true rfl⟩ rfl hl.1 rfl (Nat.le_of_ble_eq_true rfl) dX10_counter_68) (fun r_7 s_6 H locs hw w => ?_)
      exact g_iret (pc := 71) C w hr hk hw dX10_counter_71
    have hw := hw.2 hc1
    by_cases hc2 : n32 a2 = 2
    · have hw := hw.1 hc2
      refine lv_tableIn (pc := 16) (tgt := 72) C.1 C.2.1 dX10_counter_16 (by rw [show (mm_I a2).toInt = 2 from hc2]; decide) (by rw [show (mm_I a2).toInt = 2 from hc2]; decide) (by rw [show (mm_I a2).toInt = 2 from hc2]; first | done | rfl) (by decide) ?_
      refine lv_aload_n (pc := 72) C.1 C.2.1 dX10_counter_72 rfl (lv_at hl 0 rfl) ?_
      refine g_getiN (pc := 73) C w ht_3 ff_X2_2 lk_X10_114 dX10_counter_73 ?_
      exact g_iret (pc := 76) C w hr hk hw dX10_counter_76
    have hw := hw.2 hc2
    by_cases hc3 : n32 a2 = 3
    · have hw := hw.1 hc3
      refine lv_tableIn (pc := 16) (tgt := 77) C.1 C.2.1 dX10_counter_16 (by rw [show (mm_I a2).toInt = 3 from hc3]; decide) (by rw [show (mm_I a2).toInt = 3 from hc3]; decide) (by rw [show (mm_I a2).toInt = 3 from hc3]; first | done | rfl) (by decide) ?_
      refine lv_aload_n (pc := 77) C.1 C.2.1 dX10_counter_77 rfl (lv_at hl 0 rfl) ?_
      refine g_getiN (pc := 78) C w ht_3 ff_X2_1 lk_X10_119 dX10_counter_78 ?_
      exact g_iret (pc := 81) C w hr hk hw dX10_counter_81
    have hw := hw.2 hc3
    by_cases hc4 : n32 a2 = 4
    · have hw := hw.1 hc4
      refine lv_tableIn (pc := 16) (tgt := 82) C.1 C.2.1 dX10_counter_16 (by rw [show (mm_I a2).toInt = 4 from hc4]; decide) (by rw [show (mm_I a2).toInt = 4 from hc4]; decide) (by rw [show (mm_I a2).toInt = 4 from hc4]; first | done | rfl) (by decide) ?_
      refine lv_aload_n (pc := 82) C.1 C.2.1 dX10_counter_82 rfl (lv_at hl 0 rfl) ?_
      refine g_getiN (pc := 83) C w ht_3 ff_X2_3 lk_X10_122 dX10_counter_83 ?_
      exact g_iret (pc := 86) C w hr hk hw dX10_counter_86
    have hw := hw.2 hc4
    refine lv_tableOut (pc := 16) (tgt := 87) C.1 C.2.1 dX10_counter_16 (mo_0_4 hc0 hc1 hc2 hc3 hc4) (by decide) ?_
    refine lv_iconst (pc := 87) (v := mm_I (-1)) C.1 C.2.1 dX10_counter_87 rfl ?_
    exact g_iret (pc := 88) C w hr hk hw dX10_counter_88
theorem ml_X10_125 : Cond.methodLink RX10 125 yX9_hasSort ∈ mm_ws := (mt_3 176 rfl rfl)
theorem ml_X10_128 : Cond.methodLink RX10 128 yX9_ofSort ∈ mm_ws := (mt_3 180 rfl rfl)
theorem mn_10 : n32 10 = 10 := by decide
theorem mb_17 : (Int8.ofInt 17).toInt32 = mm_I 17 := by decide
theorem mn_17 : n32 17 = 17 := by decide
theorem ml_X10_135 : Cond.methodLink RX10 135 yX7_counted ∈ mm_ws := (mt_3 198 rfl rfl)
theorem cv_X7_unlikeOf : mm_V yX7_unlikeOf cX7_unlikeOf 3 (some .int) 1 := ⟨(mt_3 188 rfl rfl), (mt_3 186 rfl rfl), (mt_3 187 rfl rfl), (mt_1 6 rfl rfl), by decide, by decide, by decide +kernel⟩
theorem ml_X10_131 : Cond.methodLink RX10 131 yX7_unlikeOf ∈ mm_ws := (mt_3 185 rfl rfl)
def wp_X10_sort (this : Nat) (a1 : Int) (a2 : Int) (s0 : mm_M) (post : Int → mm_M → Prop) : Prop :=
  ∀ (L34 : mm_M → Prop), 
  (∀  (s1 : mm_M), ((n32 a2 < 10 → post (-2147483648) s1) ∧ (¬ n32 a2 < 10 → ((n32 a2 ≤ 17 → (∀ v3_5 : Int, v3_5 = a2 - 10 → ((¬ n32 v3_5 = 7 → (wp_X7_counted (mm_rt this 5) a1 v3_5 s1 (fun r_7 s_6 => post r_7 s_6))) ∧ (n32 v3_5 = 7 → (wp_X7_unlikeOf (mm_rt this 5) a1 s1 (fun r_9 s_8 => post r_9 s_8)))))) ∧ (¬ n32 a2 ≤ 17 → post (-2147483648) s1)))) → L34 s1) →
  (wp_X9_hasSort (mm_rt this 1) a1 s0 (fun r_2 s_1 => ((¬ n32 r_2 = 0 → ((n32 a2 < 0 → L34 s_1) ∧ (¬ n32 a2 < 0 → ((6 ≤ n32 a2 → L34 s_1) ∧ (¬ 6 ≤ n32 a2 → (wp_X9_ofSort (mm_rt this 1) a1 a2 s_1 (fun r_4 s_3 => post r_4 s_3))))))) ∧ (n32 r_2 = 0 → post (-2147483648) s_1))))
set_option maxRecDepth 100000 in
set_option maxHeartbeats 4000000 in
theorem c_X10_sort (l : Launch) (G : mm_G) (this : Nat) (a1 : Int) (a2 : Int) (h0 : mm_ok this 20 0) (s0 : mm_M) (post : Int → mm_M → Prop) (hw : wp_X10_sort this a1 a2 s0 post) : Met l yX10_sort (mm_wm yX10_sort cX10_sort 4 (some .int)) (mm_rm 4) (va_Pc [.ref (mm_ad G this), .int (mm_I a1), .int (mm_I a2)] (mm_pre G s0)) (mm_Qi G post) 0 0 (mm_A G) := by
  refine mm_met (own := RX10) (by decide) rfl (Nat.le_of_ble_eq_true rfl) ?_
  intro p e s m args below meth c C hr hk
  unfold wp_X10_sort at hw
  have hw := hw (fun  (u : mm_M) => mm_X p l e (mm_rm 4) s m args below meth c (MQ below (mm_Qi G post) args s 0 0 (mm_A G)) G (mm_A G) 4 34 [(0, .ref (mm_ad G this)), (1, .int (mm_I a1)), (2, .int (mm_I a2))] [] u)
  have hw := hw (by
    intro  s1 hw  H locs ls w hl
    refine lv_iload_n (pc := 34) C.1 C.2.1 dX10_sort_34 rfl (lv_at hl 2 rfl) ?_
    refine lv_bipush (pc := 35) C.1 C.2.1 dX10_sort_35 mb_10 ?_
    refine g_icmp_lt (pc := 37) (tgt := 46) C rfl mn_10 dX10_sort_37 (by decide) (fun hc => ?_) (fun hc => ?_)
    · have hw := hw.1 hc
      refine lv_ldc (pc := 46) C.1 C.2.1 C.2.2.2.1 (C.2.2.2.2 _ lc_X10_89) dX10_sort_46 ?_
      exact g_iret (pc := 48) C w hr hk hw dX10_sort_48
    · have hw := hw.2 hc
      refine lv_iload_n (pc := 40) C.1 C.2.1 dX10_sort_40 rfl (lv_at hl 2 rfl) ?_
      refine lv_bipush (pc := 41) C.1 C.2.1 dX10_sort_41 mb_17 ?_
      refine g_icmp_le (pc := 43) (tgt := 49) C rfl mn_17 dX10_sort_43 (by decide) (fun hc => ?_) (fun hc => ?_)
      · have hw := hw.1 hc
        refine lv_iload_n (pc := 49) C.1 C.2.1 dX10_sort_49 rfl (lv_at hl 2 rfl) ?_
        refine lv_bipush (pc := 50) C.1 C.2.1 dX10_sort_50 mb_10 ?_
        refine g_isub (pc := 52) C dX10_sort_52 ?_
        refine g_istore_n (pc := 53) C dX10_sort_53 rfl hl (by decide) (fun v3_5 ev3_5 ls hl => ?_)
        have hw := hw v3_5 ev3_5
        have hl : lv_has ls 4 [(3, .int (mm_I v3_5)), (0, .ref (mm_ad G this)), (1, .int (mm_I a1)), (2, .int (mm_I a2))] := hl
        refine lv_iload_n (pc := 54) C.1 C.2.1 dX10_sort_54 rfl (lv_at hl 0 rfl) ?_
        refine lv_bipush (pc := 55) C.1 C.2.1 dX10_sort_55 mb_7 ?_
        refine g_icmp_ne (pc := 57) (tgt := 71) C rfl mn_7 dX10_sort_57 (by decide) (fun hc => ?_) (fun hc => ?_)
        · have hw := hw.1 hc
          refine lv_aload_n (pc := 71) C.1 C.2.1 dX10_sort_71 rfl (lv_at hl 1 rfl) ?_
          refine g_getr (pc := 72) C w h0 ff_X10_5 lk_X10_44 dX10_sort_72 ?_
          refine lv_iload_n (pc := 75) C.1 C.2.1 dX10_sort_75 rfl (lv_at hl 2 rfl) ?_
          refine lv_iload_n (pc := 76) C.1 C.2.1 dX10_sort_76 rfl (lv_at hl 0 rfl) ?_
          refine g_calli (pc := 77) w (mm_runV (ci := 7) (q := (RX7, TX7, 9)) (As := [.int (mm_I a1), .int (mm_I v3_5)]) (rest := []) C w (c_X7_counted l G (mm_rt this 5) a1 v3_5 (ro_X10_5 h0) s1 _ hw) (ro_X10_5 h0) rfl rfl cv_X7_counted ml_X10_135 ⟨Nat.le_of_ble_eq_true rfl, Nat.le_of_ble_eq_true rfl⟩ ⟨Nat.le_of_ble_eq_true rfl, Nat.le_of_ble_eq_true rfl⟩ rfl hl.1 rfl (Nat.le_of_ble_eq_true rfl) dX10_sort_77) (fun r_7 s_6 H locs hw w => ?_)
          exact g_iret (pc := 80) C w hr hk hw dX10_sort_80
        · have hw := hw.2 hc
          refine lv_aload_n (pc := 60) C.1 C.2.1 dX10_sort_60 rfl (lv_at hl 1 rfl) ?_
          refine g_getr (pc := 61) C w h0 ff_X10_5 lk_X10_44 dX10_sort_61 ?_
          refine lv_iload_n (pc := 64) C.1 C.2.1 dX10_sort_64 rfl (lv_at hl 2 rfl) ?_
          refine g_calli (pc := 65) w (mm_runV (ci := 7) (q := (RX7, TX7, 9)) (As := [.int (mm_I a1)]) (rest := []) C w (c_X7_unlikeOf l G (mm_rt this 5) a1 (ro_X10_5 h0) s1 _ hw) (ro_X10_5 h0) rfl rfl cv_X7_unlikeOf ml_X10_131 ⟨Nat.le_of_ble_eq_true rfl, Nat.le_of_ble_eq_true rfl⟩ ⟨Nat.le_of_ble_eq_true rfl, Nat.le_of_ble_eq_true rfl⟩ rfl hl.1 rfl (Nat.le_of_ble_eq_true rfl) dX10_sort_65) (fun r_9 s_8 H locs hw w => ?_)
          refine lv_goto (pc := 68) (tgt := 80) C.1 C.2.1 dX10_sort_68 (by decide) ?_
          exact g_iret (pc := 80) C w hr hk hw dX10_sort_80
      · have hw := hw.2 hc
        refine lv_ldc (pc := 46) C.1 C.2.1 C.2.2.2.1 (C.2.2.2.2 _ lc_X10_89) dX10_sort_46 ?_
        exact g_iret (pc := 48) C w hr hk hw dX10_sort_48)
  intro H locs ls w hl
  have hl : lv_has ls 4 [(0, .ref (mm_ad G this)), (1, .int (mm_I a1)), (2, .int (mm_I a2))] := hl
  refine lv_aload_n (pc := 0) C.1 C.2.1 dX10_sort_0 rfl (lv_at hl 0 rfl) ?_
  refine g_getr (pc := 1) C w h0 ff_X10_1 lk_X10_22 dX10_sort_1 ?_
  refine lv_iload_n (pc := 4) C.1 C.2.1 dX10_sort_4 rfl (lv_at hl 1 rfl) ?_
  refine g_calli (pc := 5) w (mm_runV (ci := 9) (q := (RX9, TX9, 9)) (As := [.int (mm_I a1)]) (rest := []) C w (c_X9_hasSort l G (mm_rt this 1) a1 (ro_X10_1 h0) s0 _ hw) (ro_X10_1 h0) rfl rfl cv_X9_hasSort ml_X10_125 ⟨Nat.le_of_ble_eq_true rfl, Nat.le_of_ble_eq_true rfl⟩ ⟨Nat.le_of_ble_eq_true rfl, Nat.le_of_ble_eq_true rfl⟩ rfl hl.1 rfl (Nat.le_of_ble_eq_true rfl) dX10_sort_5) (fun r_2 s_1 H locs hw w => ?_)
  refine g_if_ne (pc := 8) (tgt := 14) C rfl dX10_sort_8 (by decide) (fun hc => ?_) (fun hc => ?_)
  · have hw := hw.1 hc
    refine lv_iload_n (pc := 14) C.1 C.2.1 dX10_sort_14 rfl (lv_at hl 2 rfl) ?_
    refine g_if_lt (pc := 15) (tgt := 34) C rfl dX10_sort_15 (by decide) (fun hc => ?_) (fun hc => ?_)
    · have hw := hw.1 hc
      exact hw  _ _ _ w (lv_sub hl [0, 1, 2] rfl)
    · have hw := hw.2 hc
      refine lv_iload_n (pc := 18) C.1 C.2.1 dX10_sort_18 rfl (lv_at hl 2 rfl) ?_
      refine lv_bipush (pc := 19) C.1 C.2.1 dX10_sort_19 mb_6 ?_
      refine g_icmp_ge (pc := 21) (tgt := 34) C rfl mn_6 dX10_sort_21 (by decide) (fun hc => ?_) (fun hc => ?_)
      · have hw := hw.1 hc
        exact hw  _ _ _ w (lv_sub hl [0, 1, 2] rfl)
      · have hw := hw.2 hc
        refine lv_aload_n (pc := 24) C.1 C.2.1 dX10_sort_24 rfl (lv_at hl 0 rfl) ?_
        refine g_getr (pc := 25) C w h0 ff_X10_1 lk_X10_22 dX10_sort_25 ?_
        refine lv_iload_n (pc := 28) C.1 C.2.1 dX10_sort_28 rfl (lv_at hl 1 rfl) ?_
        refine lv_iload_n (pc := 29) C.1 C.2.1 dX10_sort_29 rfl (lv_at hl 2 rfl) ?_
        refine g_calli (pc := 30) w (mm_runV (ci := 9) (q := (RX9, TX9, 9)) (As := [.int (mm_I a1), .int (mm_I a2)]) (rest := []) C w (c_X9_ofSort l G (mm_rt this 1) a1 a2 (ro_X10_1 h0) s_1 _ hw) (ro_X10_1 h0) rfl rfl cv_X9_ofSort ml_X10_128 ⟨Nat.le_of_ble_eq_true rfl, Nat.le_of_ble_eq_true rfl⟩ ⟨Nat.le_of_ble_eq_true rfl, Nat.le_of_ble_eq_true rfl⟩ rfl hl.1 rfl (Nat.le_of_ble_eq_true rfl) dX10_sort_30) (fun r_4 s_3 H locs hw w => ?_)
        exact g_iret (pc := 33) C w hr hk hw dX10_sort_33
  · have hw := hw.2 hc
    refine lv_ldc (pc := 11) C.1 C.2.1 C.2.2.2.1 (C.2.2.2.2 _ lc_X10_89) dX10_sort_11 ?_
    exact g_iret (pc := 13) C w hr hk hw dX10_sort_13
theorem lc_X10_138 : Cond.constant RX10 138 (mm_I 1000000) ∈ mm_ws := (mt_3 203 rfl rfl)
theorem mn_1000000 : n32 1000000 = 1000000 := by decide
theorem lk_X10_139 : Cond.fieldLinkNest RX10 139 "LastServed$Shop" "x" "I" "LastServed" ∈ mm_nest := by decide +kernel
def wp_X10_seed (this : Nat) (a1 : Int) (s0 : mm_M) (post : Int → mm_M → Prop) : Prop :=
  ((n32 a1 < 0 → post 0 s0) ∧ (¬ n32 a1 < 0 → ((n32 a1 ≤ 1000000 → (∀ s_1 : mm_M, s_1 = mm_up s0 (mm_rt this 5) 8 a1 → post 1 s_1)) ∧ (¬ n32 a1 ≤ 1000000 → post 0 s0))))
set_option maxRecDepth 100000 in
set_option maxHeartbeats 4000000 in
theorem c_X10_seed (l : Launch) (G : mm_G) (this : Nat) (a1 : Int) (h0 : mm_ok this 20 0) (s0 : mm_M) (post : Int → mm_M → Prop) (hw : wp_X10_seed this a1 s0 post) : Met l yX10_seed (mm_wm yX10_seed cX10_seed 2 (some .boolean)) (mm_rm 1) (va_Pc [.ref (mm_ad G this), .int (mm_I a1)] (mm_pre G s0)) (mm_Qi G post) 0 0 (mm_A G) := by
  refine mm_met (own := RX10) (by decide) rfl (Nat.le_of_ble_eq_true rfl) ?_
  intro p e s m args below meth c C hr hk
  unfold wp_X10_seed at hw
  intro H locs ls w hl
  have hl : lv_has ls 2 [(0, .ref (mm_ad G this)), (1, .int (mm_I a1))] := hl
  refine lv_iload_n (pc := 0) C.1 C.2.1 dX10_seed_0 rfl (lv_at hl 1 rfl) ?_
  refine g_if_lt (pc := 1) (tgt := 10) C rfl dX10_seed_1 (by decide) (fun hc => ?_) (fun hc => ?_)
  · have hw := hw.1 hc
    refine lv_iconst (pc := 10) (v := mm_I 0) C.1 C.2.1 dX10_seed_10 rfl ?_
    exact g_zret (pc := 11) C w hr hk (by decide) hw dX10_seed_11
  · have hw := hw.2 hc
    refine lv_iload_n (pc := 4) C.1 C.2.1 dX10_seed_4 rfl (lv_at hl 1 rfl) ?_
    refine lv_ldc (pc := 5) C.1 C.2.1 C.2.2.2.1 (C.2.2.2.2 _ lc_X10_138) dX10_seed_5 ?_
    refine g_icmp_le (pc := 7) (tgt := 12) C rfl mn_1000000 dX10_seed_7 (by decide) (fun hc => ?_) (fun hc => ?_)
    · have hw := hw.1 hc
      refine lv_aload_n (pc := 12) C.1 C.2.1 dX10_seed_12 rfl (lv_at hl 0 rfl) ?_
      refine g_getr (pc := 13) C w h0 ff_X10_5 lk_X10_44 dX10_seed_13 ?_
      refine lv_iload_n (pc := 16) C.1 C.2.1 dX10_seed_16 rfl (lv_at hl 1 rfl) ?_
      refine g_putiN (pc := 17) C w (ro_X10_5 h0) ff_X7_8 fw_X7_8 lk_X10_139 dX10_seed_17 (fun s_1 H locs es_1 w => ?_)
      have hw := hw s_1 es_1
      refine lv_iconst (pc := 20) (v := mm_I 1) C.1 C.2.1 dX10_seed_20 rfl ?_
      exact g_zret (pc := 21) C w hr hk (by decide) hw dX10_seed_21
    · have hw := hw.2 hc
      refine lv_iconst (pc := 10) (v := mm_I 0) C.1 C.2.1 dX10_seed_10 rfl ?_
      exact g_zret (pc := 11) C w hr hk (by decide) hw dX10_seed_11
theorem ml_X10_142 : Cond.methodLink RX10 142 yX9_hasCounter ∈ mm_ws := (mt_3 208 rfl rfl)
theorem lk_X10_145 : Cond.fieldLinkNest RX10 145 "LastServed$Shop" "minute" "I" "LastServed" ∈ mm_nest := by decide +kernel
theorem ml_X10_148 : Cond.methodLink RX10 148 yX9_closing ∈ mm_ws := (mt_3 209 rfl rfl)
theorem ml_X10_152 : Cond.methodLink RX10 152 yX7_arrive ∈ mm_ws := (mt_3 213 rfl rfl)
def wp_X10_come (this : Nat) (a1 : Int) (a2 : Int) (s0 : mm_M) (post : Int → mm_M → Prop) : Prop :=
  (wp_X9_hasSort (mm_rt this 1) a1 s0 (fun r_2 s_1 => ((n32 r_2 = 0 → post (-1) s_1) ∧ (¬ n32 r_2 = 0 → (wp_X9_hasCounter (mm_rt this 1) a2 s_1 (fun r_4 s_3 => ((n32 r_4 = 0 → post (-1) s_3) ∧ (¬ n32 r_4 = 0 → (wp_X9_closing (mm_rt this 1) s_3 (fun r_6 s_5 => ((n32 (s_3 (mm_rt this 5) 7) < n32 r_6 → (wp_X7_arrive (mm_rt this 5) a1 a2 1 s_5 (fun r_8 s_7 => post r_8 s_7))) ∧ (¬ n32 (s_3 (mm_rt this 5) 7) < n32 r_6 → post (-1) s_5))))))))))))
set_option maxRecDepth 100000 in
set_option maxHeartbeats 4000000 in
theorem c_X10_come (l : Launch) (G : mm_G) (this : Nat) (a1 : Int) (a2 : Int) (h0 : mm_ok this 20 0) (s0 : mm_M) (post : Int → mm_M → Prop) (hw : wp_X10_come this a1 a2 s0 post) : Met l yX10_come (mm_wm yX10_come cX10_come 3 (some .int)) (mm_rm 5) (va_Pc [.ref (mm_ad G this), .int (mm_I a1), .int (mm_I a2)] (mm_pre G s0)) (mm_Qi G post) 0 0 (mm_A G) := by
  refine mm_met (own := RX10) (by decide) rfl (Nat.le_of_ble_eq_true rfl) ?_
  intro p e s m args below meth c C hr hk
  unfold wp_X10_come at hw
  intro H locs ls w hl
  have hl : lv_has ls 3 [(0, .ref (mm_ad G this)), (1, .int (mm_I a1)), (2, .int (mm_I a2))] := hl
  refine lv_aload_n (pc := 0) C.1 C.2.1 dX10_come_0 rfl (lv_at hl 0 rfl) ?_
  refine g_getr (pc := 1) C w h0 ff_X10_1 lk_X10_22 dX10_come_1 ?_
  refine lv_iload_n (pc := 4) C.1 C.2.1 dX10_come_4 rfl (lv_at hl 1 rfl) ?_
  refine g_calli (pc := 5) w (mm_runV (ci := 9) (q := (RX9, TX9, 9)) (As := [.int (mm_I a1)]) (rest := []) C w (c_X9_hasSort l G (mm_rt this 1) a1 (ro_X10_1 h0) s0 _ hw) (ro_X10_1 h0) rfl rfl cv_X9_hasSort ml_X10_125 ⟨Nat.le_of_ble_eq_true rfl, Nat.le_of_ble_eq_true rfl⟩ ⟨Nat.le_of_ble_eq_true rfl, Nat.le_of_ble_eq_true rfl⟩ rfl hl.1 rfl (Nat.le_of_ble_eq_true rfl) dX10_come_5) (fun r_2 s_1 H locs hw w => ?_)
  refine g_if_eq (pc := 8) (tgt := 39) C rfl dX10_come_8 (by decide) (fun hc => ?_) (fun hc => ?_)
  · have hw := hw.1 hc
    refine lv_iconst (pc := 39) (v := mm_I (-1)) C.1 C.2.1 dX10_come_39 rfl ?_
    exact g_iret (pc := 40) C w hr hk hw dX10_come_40
  · have hw := hw.2 hc
    refine lv_aload_n (pc := 11) C.1 C.2.1 dX10_come_11 rfl (lv_at hl 0 rfl) ?_
    refine g_getr (pc := 12) C w h0 ff_X10_1 lk_X10_22 dX10_come_12 ?_
    refine lv_iload_n (pc := 15) C.1 C.2.1 dX10_come_15 rfl (lv_at hl 2 rfl) ?_
    refine g_calli (pc := 16) w (mm_runV (ci := 9) (q := (RX9, TX9, 9)) (As := [.int (mm_I a2)]) (rest := []) C w (c_X9_hasCounter l G (mm_rt this 1) a2 (ro_X10_1 h0) s_1 _ hw) (ro_X10_1 h0) rfl rfl cv_X9_hasCounter ml_X10_142 ⟨Nat.le_of_ble_eq_true rfl, Nat.le_of_ble_eq_true rfl⟩ ⟨Nat.le_of_ble_eq_true rfl, Nat.le_of_ble_eq_true rfl⟩ rfl hl.1 rfl (Nat.le_of_ble_eq_true rfl) dX10_come_16) (fun r_4 s_3 H locs hw w => ?_)
    refine g_if_eq (pc := 19) (tgt := 39) C rfl dX10_come_19 (by decide) (fun hc => ?_) (fun hc => ?_)
    · have hw := hw.1 hc
      refine lv_iconst (pc := 39) (v := mm_I (-1)) C.1 C.2.1 dX10_come_39 rfl ?_
      exact g_iret (pc := 40) C w hr hk hw dX10_come_40
    · have hw := hw.2 hc
      refine lv_aload_n (pc := 22) C.1 C.2.1 dX10_come_22 rfl (lv_at hl 0 rfl) ?_
      refine g_getr (pc := 23) C w h0 ff_X10_5 lk_X10_44 dX10_come_23 ?_
      refine g_getiN (pc := 26) C w (ro_X10_5 h0) ff_X7_7 lk_X10_145 dX10_come_26 ?_
      refine lv_aload_n (pc := 29) C.1 C.2.1 dX10_come_29 rfl (lv_at hl 0 rfl) ?_
      refine g_getr (pc := 30) C w h0 ff_X10_1 lk_X10_22 dX10_come_30 ?_
      refine g_calli (pc := 33) w (mm_runV (ci := 9) (q := (RX9, TX9, 9)) (As := []) (rest := [.int (mm_I (s_3 (mm_rt this 5) 7))]) C w (c_X9_closing l G (mm_rt this 1) (ro_X10_1 h0) s_3 _ hw) (ro_X10_1 h0) rfl rfl cv_X9_closing ml_X10_148 ⟨Nat.le_of_ble_eq_true rfl, Nat.le_of_ble_eq_true rfl⟩ ⟨Nat.le_of_ble_eq_true rfl, Nat.le_of_ble_eq_true rfl⟩ rfl hl.1 rfl (Nat.le_of_ble_eq_true rfl) dX10_come_33) (fun r_6 s_5 H locs hw w => ?_)
      refine g_icmp_lt (pc := 36) (tgt := 41) C rfl rfl dX10_come_36 (by decide) (fun hc => ?_) (fun hc => ?_)
      · have hw := hw.1 hc
        refine lv_aload_n (pc := 41) C.1 C.2.1 dX10_come_41 rfl (lv_at hl 0 rfl) ?_
        refine g_getr (pc := 42) C w h0 ff_X10_5 lk_X10_44 dX10_come_42 ?_
        refine lv_iload_n (pc := 45) C.1 C.2.1 dX10_come_45 rfl (lv_at hl 1 rfl) ?_
        refine lv_iload_n (pc := 46) C.1 C.2.1 dX10_come_46 rfl (lv_at hl 2 rfl) ?_
        refine lv_iconst (pc := 47) (v := mm_I 1) C.1 C.2.1 dX10_come_47 rfl ?_
        refine g_calli (pc := 48) w (mm_runV (ci := 7) (q := (RX7, TX7, 9)) (As := [.int (mm_I a1), .int (mm_I a2), .int (mm_I 1)]) (rest := []) C w (c_X7_arrive l G (mm_rt this 5) a1 a2 1 (ro_X10_5 h0) s_5 _ hw) (ro_X10_5 h0) rfl rfl cv_X7_arrive ml_X10_152 ⟨Nat.le_of_ble_eq_true rfl, Nat.le_of_ble_eq_true rfl⟩ ⟨Nat.le_of_ble_eq_true rfl, Nat.le_of_ble_eq_true rfl⟩ rfl hl.1 rfl (Nat.le_of_ble_eq_true rfl) dX10_come_48) (fun r_8 s_7 H locs hw w => ?_)
        exact g_iret (pc := 51) C w hr hk hw dX10_come_51
      · have hw := hw.2 hc
        refine lv_iconst (pc := 39) (v := mm_I (-1)) C.1 C.2.1 dX10_come_39 rfl ?_
        exact g_iret (pc := 40) C w hr hk hw dX10_come_40
