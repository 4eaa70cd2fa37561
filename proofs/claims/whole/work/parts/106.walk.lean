def wp_X7_raise (this : Nat) (a1 : Int) (a2 : Int) (a3 : Int) (s0 : mm_M) (post : mm_M → Prop) : Prop :=
  (wp_X9_hasSort (mm_rt this 0) a1 s0 (fun r_2 s_1 => ((n32 r_2 = 0 → post s_1) ∧ (¬ n32 r_2 = 0 → ((n32 a2 < 0 → post s_1) ∧ (¬ n32 a2 < 0 → ((7 ≤ n32 a2 → post s_1) ∧ (¬ 7 ≤ n32 a2 → ((0 ≤ (a1 * 7) + a2 ∧ (a1 * 7) + a2 < 35) ∧ ((0 ≤ (a1 * 7) + a2 ∧ (a1 * 7) + a2 < 35) ∧ (∀ s_3 : mm_M, s_3 = mm_up s_1 (mm_rt this 5) ((a1 * 7) + a2) ((s_1 (mm_rt this 5) ((a1 * 7) + a2)) + a3) → post s_3)))))))))))
set_option maxRecDepth 100000 in
set_option maxHeartbeats 4000000 in
theorem c_X7_raise (l : Launch) (G : mm_G) (this : Nat) (a1 : Int) (a2 : Int) (a3 : Int) (h0 : mm_ok this 17 0) (s0 : mm_M) (post : mm_M → Prop) (hw : wp_X7_raise this a1 a2 a3 s0 post) : Met l yX7_raise (mm_wm yX7_raise cX7_raise 4 none) (mm_rm 2) (va_Pc [.ref (mm_ad G this), .int (mm_I a1), .int (mm_I a2), .int (mm_I a3)] (mm_pre G s0)) (mm_Qv G post) 0 0 (mm_A G) := by
  refine mm_met (own := RX7) (by decide) rfl (Nat.le_of_ble_eq_true rfl) ?_
  intro p e s m args below meth c C hr hk
  unfold wp_X7_raise at hw
  intro H locs ls w hl
  have hl : lv_has ls 4 [(0, .ref (mm_ad G this)), (1, .int (mm_I a1)), (2, .int (mm_I a2)), (3, .int (mm_I a3))] := hl
  refine lv_aload_n (pc := 0) C.1 C.2.1 dX7_raise_0 rfl (lv_at hl 0 rfl) ?_
  refine g_getr (pc := 1) C w h0 ff_X7_0 lk_X7_34 dX7_raise_1 ?_
  refine lv_iload_n (pc := 4) C.1 C.2.1 dX7_raise_4 rfl (lv_at hl 1 rfl) ?_
  refine g_calli (pc := 5) w (mm_runV (ci := 9) (q := (RX9, TX9, 9)) (As := [.int (mm_I a1)]) (rest := []) C w (c_X9_hasSort l G (mm_rt this 0) a1 (ro_X7_0 h0) s0 _ hw) (ro_X7_0 h0) rfl rfl cv_X9_hasSort ml_X7_112 ⟨Nat.le_of_ble_eq_true rfl, Nat.le_of_ble_eq_true rfl⟩ ⟨Nat.le_of_ble_eq_true rfl, Nat.le_of_ble_eq_true rfl⟩ rfl hl.1 rfl (Nat.le_of_ble_eq_true rfl) dX7_raise_5) (fun r_2 s_1 H locs hw w => ?_)
  refine g_if_eq (pc := 8) (tgt := 36) C rfl dX7_raise_8 (by decide) (fun hc => ?_) (fun hc => ?_)
  · have hw := hw.1 hc
    exact g_vret (pc := 36) C w hr hk hw dX7_raise_36
  · have hw := hw.2 hc
    refine lv_iload_n (pc := 11) C.1 C.2.1 dX7_raise_11 rfl (lv_at hl 2 rfl) ?_
    refine g_if_lt (pc := 12) (tgt := 36) C rfl dX7_raise_12 (by decide) (fun hc => ?_) (fun hc => ?_)
    · have hw := hw.1 hc
      exact g_vret (pc := 36) C w hr hk hw dX7_raise_36
    · have hw := hw.2 hc
      refine lv_iload_n (pc := 15) C.1 C.2.1 dX7_raise_15 rfl (lv_at hl 2 rfl) ?_
      refine lv_bipush (pc := 16) C.1 C.2.1 dX7_raise_16 mb_7 ?_
      refine g_icmp_ge (pc := 18) (tgt := 36) C rfl mn_7 dX7_raise_18 (by decide) (fun hc => ?_) (fun hc => ?_)
      · have hw := hw.1 hc
        exact g_vret (pc := 36) C w hr hk hw dX7_raise_36
      · have hw := hw.2 hc
        refine lv_aload_n (pc := 21) C.1 C.2.1 dX7_raise_21 rfl (lv_at hl 0 rfl) ?_
        refine g_getr (pc := 22) C w h0 ff_X7_5 lk_X7_23 dX7_raise_22 ?_
        refine lv_iload_n (pc := 25) C.1 C.2.1 dX7_raise_25 rfl (lv_at hl 1 rfl) ?_
        refine lv_bipush (pc := 26) C.1 C.2.1 dX7_raise_26 mb_7 ?_
        refine g_imul (pc := 28) C dX7_raise_28 ?_
        refine lv_iload_n (pc := 29) C.1 C.2.1 dX7_raise_29 rfl (lv_at hl 2 rfl) ?_
        refine g_iadd (pc := 30) C dX7_raise_30 ?_
        refine lv_dup2_11 (pc := 31) C.1 C.2.1 dX7_raise_31 rfl rfl ?_
        obtain ⟨hi, hw⟩ := hw
        refine g_iald (pc := 32) C w (ro_X7_5 h0) hi dX7_raise_32 ?_
        refine lv_iload_n (pc := 33) C.1 C.2.1 dX7_raise_33 rfl (lv_at hl 3 rfl) ?_
        refine g_iadd (pc := 34) C dX7_raise_34 ?_
        obtain ⟨hi, hw⟩ := hw
        refine g_iast (pc := 35) C w (ro_X7_5 h0) hi  dX7_raise_35 (fun s_3 H locs es_3 w => ?_)
        have hw := hw s_3 es_3
        exact g_vret (pc := 36) C w hr hk hw dX7_raise_36
theorem cv_X7_counted : mm_V yX7_counted cX7_counted 3 (some .int) 2 := ⟨(mt_3 192 rfl rfl), (mt_3 190 rfl rfl), (mt_3 191 rfl rfl), (mt_1 6 rfl rfl), by decide, by decide, by decide +kernel⟩
theorem ml_X7_115 : Cond.methodLink RX7 115 yX7_counted ∈ mm_ws := (mt_3 189 rfl rfl)
theorem ml_X7_119 : Cond.methodLinkNest RX7 119 yX10_unlike "LastServed" ∈ mm_nest := by decide +kernel
theorem lc_X7_118 : Cond.constant RX7 118 (mm_I (-2147483648)) ∈ mm_ws := (mt_3 194 rfl rfl)
def wp_X7_unlikeOf (this : Nat) (a1 : Int) (s0 : mm_M) (post : Int → mm_M → Prop) : Prop :=
  (wp_X7_counted this a1 1 s0 (fun r_2 s_1 => (∀ v2_3 : Int, v2_3 = r_2 → ((¬ n32 v2_3 = 0 → (wp_X7_counted this a1 3 s_1 (fun r_5 s_4 => (wp_X7_counted this a1 4 s_4 (fun r_7 s_6 => (wp_X10_unlike (n32 v2_3) (n32 r_5) (n32 r_7) s_6 (fun r_9 s_8 => post r_9 s_8))))))) ∧ (n32 v2_3 = 0 → post (-2147483648) s_1)))))
set_option maxRecDepth 100000 in
set_option maxHeartbeats 4000000 in
theorem c_X7_unlikeOf (l : Launch) (G : mm_G) (this : Nat) (a1 : Int) (h0 : mm_ok this 17 0) (s0 : mm_M) (post : Int → mm_M → Prop) (hw : wp_X7_unlikeOf this a1 s0 post) : Met l yX7_unlikeOf (mm_wm yX7_unlikeOf cX7_unlikeOf 3 (some .int)) (mm_rm 3) (va_Pc [.ref (mm_ad G this), .int (mm_I a1)] (mm_pre G s0)) (mm_Qi G post) 0 0 (mm_A G) := by
  refine mm_met (own := RX7) (by decide) rfl (Nat.le_of_ble_eq_true rfl) ?_
  intro p e s m args below meth c C hr hk
  unfold wp_X7_unlikeOf at hw
  intro H locs ls w hl
  have hl : lv_has ls 3 [(0, .ref (mm_ad G this)), (1, .int (mm_I a1))] := hl
  refine lv_aload_n (pc := 0) C.1 C.2.1 dX7_unlikeOf_0 rfl (lv_at hl 0 rfl) ?_
  refine lv_iload_n (pc := 1) C.1 C.2.1 dX7_unlikeOf_1 rfl (lv_at hl 1 rfl) ?_
  refine lv_iconst (pc := 2) (v := mm_I 1) C.1 C.2.1 dX7_unlikeOf_2 rfl ?_
  refine g_calli (pc := 3) w (mm_runV (ci := 7) (q := (RX7, TX7, 9)) (As := [.int (mm_I a1), .int (mm_I 1)]) (rest := []) C w (c_X7_counted l G this a1 1 h0 s0 _ hw) h0 rfl rfl cv_X7_counted ml_X7_115 ⟨Nat.le_of_ble_eq_true rfl, Nat.le_of_ble_eq_true rfl⟩ ⟨Nat.le_of_ble_eq_true rfl, Nat.le_of_ble_eq_true rfl⟩ rfl hl.1 rfl (Nat.le_of_ble_eq_true rfl) dX7_unlikeOf_3) (fun r_2 s_1 H locs hw w => ?_)
  refine g_istore_n (pc := 6) C dX7_unlikeOf_6 rfl hl (by decide) (fun v2_3 ev2_3 ls hl => ?_)
  have hw := hw v2_3 ev2_3
  have hl : lv_has ls 3 [(2, .int (mm_I v2_3)), (0, .ref (mm_ad G this)), (1, .int (mm_I a1))] := hl
  refine lv_iload_n (pc := 7) C.1 C.2.1 dX7_unlikeOf_7 rfl (lv_at hl 0 rfl) ?_
  refine g_if_ne (pc := 8) (tgt := 16) C rfl dX7_unlikeOf_8 (by decide) (fun hc => ?_) (fun hc => ?_)
  · have hw := hw.1 hc
    refine lv_iload_n (pc := 16) C.1 C.2.1 dX7_unlikeOf_16 rfl (lv_at hl 0 rfl) ?_
    refine g_i2l (pc := 17) C rfl dX7_unlikeOf_17 ?_
    refine lv_aload_n (pc := 18) C.1 C.2.1 dX7_unlikeOf_18 rfl (lv_at hl 1 rfl) ?_
    refine lv_iload_n (pc := 19) C.1 C.2.1 dX7_unlikeOf_19 rfl (lv_at hl 2 rfl) ?_
    refine lv_iconst (pc := 20) (v := mm_I 3) C.1 C.2.1 dX7_unlikeOf_20 rfl ?_
    refine g_calli (pc := 21) w (mm_runV (ci := 7) (q := (RX7, TX7, 9)) (As := [.int (mm_I a1), .int (mm_I 3)]) (rest := [.long (mm_L (n32 v2_3))]) C w (c_X7_counted l G this a1 3 h0 s_1 _ hw) h0 rfl rfl cv_X7_counted ml_X7_115 ⟨Nat.le_of_ble_eq_true rfl, Nat.le_of_ble_eq_true rfl⟩ ⟨Nat.le_of_ble_eq_true rfl, Nat.le_of_ble_eq_true rfl⟩ rfl hl.1 rfl (Nat.le_of_ble_eq_true rfl) dX7_unlikeOf_21) (fun r_5 s_4 H locs hw w => ?_)
    refine g_i2l (pc := 24) C rfl dX7_unlikeOf_24 ?_
    refine lv_aload_n (pc := 25) C.1 C.2.1 dX7_unlikeOf_25 rfl (lv_at hl 1 rfl) ?_
    refine lv_iload_n (pc := 26) C.1 C.2.1 dX7_unlikeOf_26 rfl (lv_at hl 2 rfl) ?_
    refine lv_iconst (pc := 27) (v := mm_I 4) C.1 C.2.1 dX7_unlikeOf_27 rfl ?_
    refine g_calli (pc := 28) w (mm_runV (ci := 7) (q := (RX7, TX7, 9)) (As := [.int (mm_I a1), .int (mm_I 4)]) (rest := [.long (mm_L (n32 r_5)), .long (mm_L (n32 v2_3))]) C w (c_X7_counted l G this a1 4 h0 s_4 _ hw) h0 rfl rfl cv_X7_counted ml_X7_115 ⟨Nat.le_of_ble_eq_true rfl, Nat.le_of_ble_eq_true rfl⟩ ⟨Nat.le_of_ble_eq_true rfl, Nat.le_of_ble_eq_true rfl⟩ rfl hl.1 rfl (Nat.le_of_ble_eq_true rfl) dX7_unlikeOf_28) (fun r_7 s_6 H locs hw w => ?_)
    refine g_i2l (pc := 31) C rfl dX7_unlikeOf_31 ?_
    refine g_calli (pc := 32) w (mm_runSN (As := [.long (mm_L (n32 v2_3)), .long (mm_L (n32 r_5)), .long (mm_L (n32 r_7))]) (rest := []) C w (c_X10_unlike l G (n32 v2_3) (n32 r_5) (n32 r_7)  s_6 _ hw) cs_X10_unlike ml_X7_119 ⟨Nat.le_of_ble_eq_true rfl, Nat.le_of_ble_eq_true rfl⟩ ⟨Nat.le_of_ble_eq_true rfl, Nat.le_of_ble_eq_true rfl⟩ rfl hl.1 rfl (Nat.le_of_ble_eq_true rfl) dX7_unlikeOf_32) (fun r_9 s_8 H locs hw w => ?_)
    exact g_iret (pc := 35) C w hr hk hw dX7_unlikeOf_35
  · have hw := hw.2 hc
    refine lv_ldc (pc := 11) C.1 C.2.1 C.2.2.2.1 (C.2.2.2.2 _ lc_X7_118) dX7_unlikeOf_11 ?_
    refine lv_goto (pc := 13) (tgt := 35) C.1 C.2.1 dX7_unlikeOf_13 (by decide) ?_
    exact g_iret (pc := 35) C w hr hk hw dX7_unlikeOf_35
theorem lc_X7_123 : Cond.constant RX7 123 (mm_I 1103515245) ∈ mm_ws := (mt_4 152 rfl rfl)
theorem ms_12345 : (Int16.ofInt 12345).toInt32 = mm_I 12345 := by decide
theorem lc_X7_124 : Cond.constant RX7 124 (mm_I 2147483647) ∈ mm_ws := (mt_4 153 rfl rfl)
theorem ms_256 : (Int16.ofInt 256).toInt32 = mm_I 256 := by decide
theorem mn_256 : n32 256 = 256 := by decide
def wp_X7_drawLot (this : Nat) (a1 : Int) (s0 : mm_M) (post : Int → mm_M → Prop) : Prop :=
  (∀ s_1 : mm_M, s_1 = mm_up s0 this 8 (mm_and (((s0 this 8) * 1103515245) + 12345) 2147483647) → ((0 < n32 a1 → (n32 a1 ≠ 0 ∧ post (Int.tmod (n32 (Int.tdiv (n32 (s_1 this 8)) 256)) (n32 a1)) s_1)) ∧ (¬ 0 < n32 a1 → post 0 s_1)))
set_option maxRecDepth 100000 in
set_option maxHeartbeats 4000000 in
theorem c_X7_drawLot (l : Launch) (G : mm_G) (this : Nat) (a1 : Int) (h0 : mm_ok this 17 0) (s0 : mm_M) (post : Int → mm_M → Prop) (hw : wp_X7_drawLot this a1 s0 post) : Met l yX7_drawLot (mm_wm yX7_drawLot cX7_drawLot 2 (some .int)) (mm_rm 1) (va_Pc [.ref (mm_ad G this), .int (mm_I a1)] (mm_pre G s0)) (mm_Qi G post) 0 0 (mm_A G) := by
  refine mm_met (own := RX7) (by decide) rfl (Nat.le_of_ble_eq_true rfl) ?_
  intro p e s m args below meth c C hr hk
  unfold wp_X7_drawLot at hw
  intro H locs ls w hl
  have hl : lv_has ls 2 [(0, .ref (mm_ad G this)), (1, .int (mm_I a1))] := hl
  refine lv_aload_n (pc := 0) C.1 C.2.1 dX7_drawLot_0 rfl (lv_at hl 0 rfl) ?_
  refine lv_aload_n (pc := 1) C.1 C.2.1 dX7_drawLot_1 rfl (lv_at hl 0 rfl) ?_
  refine g_geti (pc := 2) C w h0 ff_X7_8 lk_X7_52 dX7_drawLot_2 ?_
  refine lv_ldc (pc := 5) C.1 C.2.1 C.2.2.2.1 (C.2.2.2.2 _ lc_X7_123) dX7_drawLot_5 ?_
  refine g_imul (pc := 7) C dX7_drawLot_7 ?_
  refine lv_sipush (pc := 8) C.1 C.2.1 dX7_drawLot_8 ms_12345 ?_
  refine g_iadd (pc := 11) C dX7_drawLot_11 ?_
  refine lv_ldc (pc := 12) C.1 C.2.1 C.2.2.2.1 (C.2.2.2.2 _ lc_X7_124) dX7_drawLot_12 ?_
  refine g_iand (pc := 14) C dX7_drawLot_14 ?_
  refine g_puti (pc := 15) C w h0 ff_X7_8 fw_X7_8 lk_X7_52 dX7_drawLot_15 (fun s_1 H locs es_1 w => ?_)
  have hw := hw s_1 es_1
  refine lv_iload_n (pc := 18) C.1 C.2.1 dX7_drawLot_18 rfl (lv_at hl 1 rfl) ?_
  refine g_if_gt (pc := 19) (tgt := 26) C rfl dX7_drawLot_19 (by decide) (fun hc => ?_) (fun hc => ?_)
  · have hw := hw.1 hc
    refine lv_aload_n (pc := 26) C.1 C.2.1 dX7_drawLot_26 rfl (lv_at hl 0 rfl) ?_
    refine g_geti (pc := 27) C w h0 ff_X7_8 lk_X7_52 dX7_drawLot_27 ?_
    refine lv_sipush (pc := 30) C.1 C.2.1 dX7_drawLot_30 ms_256 ?_
    refine g_idiv (pc := 33) C rfl mn_256 (by decide) dX7_drawLot_33 ?_
    refine lv_iload_n (pc := 34) C.1 C.2.1 dX7_drawLot_34 rfl (lv_at hl 1 rfl) ?_
    obtain ⟨hz, hw⟩ := hw
    refine g_irem (pc := 35) C rfl rfl hz dX7_drawLot_35 ?_
    exact g_iret (pc := 36) C w hr hk hw dX7_drawLot_36
  · have hw := hw.2 hc
    refine lv_iconst (pc := 22) (v := mm_I 0) C.1 C.2.1 dX7_drawLot_22 rfl ?_
    refine lv_goto (pc := 23) (tgt := 36) C.1 C.2.1 dX7_drawLot_23 (by decide) ?_
    exact g_iret (pc := 36) C w hr hk hw dX7_drawLot_36
def wp_X7_freeNumber (this : Nat) (s0 : mm_M) (post : Int → mm_M → Prop) : Prop :=
  ∀ (L2 : Int → mm_M → Prop), 
  (∀ (v1 : Int) (s1 : mm_M), ((30 ≤ n32 v1 → post (-1) s1) ∧ (¬ 30 ≤ n32 v1 → (wp_X7_whoIsThere this v1 s1 (fun r_3 s_2 => (r_3 = none → post v1 s_2) ∧ (∀ t_4 : Nat, r_3 = some t_4 → (∀ v1_5 : Int, v1_5 = v1 + 1 → L2 v1_5 s_2)))))) → L2 v1 s1) →
  L2 0 s0
set_option maxRecDepth 100000 in
set_option maxHeartbeats 4000000 in
theorem c_X7_freeNumber (l : Launch) (G : mm_G) (this : Nat) (h0 : mm_ok this 17 0) (s0 : mm_M) (post : Int → mm_M → Prop) (hw : wp_X7_freeNumber this s0 post) : Met l yX7_freeNumber (mm_wm yX7_freeNumber cX7_freeNumber 2 (some .int)) (mm_rm 2) (va_Pc [.ref (mm_ad G this)] (mm_pre G s0)) (mm_Qi G post) 0 0 (mm_A G) := by
  refine mm_met (own := RX7) (by decide) rfl (Nat.le_of_ble_eq_true rfl) ?_
  intro p e s m args below meth c C hr hk
  unfold wp_X7_freeNumber at hw
  have hw := hw (fun (v1 : Int) (u : mm_M) => mm_X p l e (mm_rm 2) s m args below meth c (MQ below (mm_Qi G post) args s 0 0 (mm_A G)) G (mm_A G) 2 2 [(0, .ref (mm_ad G this)), (1, .int (mm_I v1))] [] u)
  have hw := hw (by
    intro v1 s1 hw  H locs ls w hl
    refine lv_iload_n (pc := 2) C.1 C.2.1 dX7_freeNumber_2 rfl (lv_at hl 1 rfl) ?_
    refine lv_bipush (pc := 3) C.1 C.2.1 dX7_freeNumber_3 mb_30 ?_
    refine g_icmp_ge (pc := 5) (tgt := 24) C rfl mn_30 dX7_freeNumber_5 (by decide) (fun hc => ?_) (fun hc => ?_)
    · have hw := hw.1 hc
      refine lv_iconst (pc := 24) (v := mm_I (-1)) C.1 C.2.1 dX7_freeNumber_24 rfl ?_
      exact g_iret (pc := 25) C w hr hk hw dX7_freeNumber_25
    · have hw := hw.2 hc
      refine lv_aload_n (pc := 8) C.1 C.2.1 dX7_freeNumber_8 rfl (lv_at hl 0 rfl) ?_
      refine lv_iload_n (pc := 9) C.1 C.2.1 dX7_freeNumber_9 rfl (lv_at hl 1 rfl) ?_
      refine g_callq (pc := 10) w (mm_runV (ci := 7) (q := (RX7, TX7, 9)) (As := [.int (mm_I v1)]) (rest := []) C w (c_X7_whoIsThere l G this v1 h0 s1 _ hw) h0 rfl rfl cv_X7_whoIsThere ml_X7_97 ⟨Nat.le_of_ble_eq_true rfl, Nat.le_of_ble_eq_true rfl⟩ ⟨Nat.le_of_ble_eq_true rfl, Nat.le_of_ble_eq_true rfl⟩ rfl hl.1 rfl (Nat.le_of_ble_eq_true rfl) dX7_freeNumber_10) (fun s_2 H locs hw w => ?_) (fun t_4 s_2 H locs ht_4 hw w => ?_)
      · have hw := hw.1 rfl
        refine lv_ifnonnullN (pc := 13) C.1 C.2.1 dX7_freeNumber_13 ?_
        refine lv_iload_n (pc := 16) C.1 C.2.1 dX7_freeNumber_16 rfl (lv_at hl 1 rfl) ?_
        exact g_iret (pc := 17) C w hr hk hw dX7_freeNumber_17
      · have hw := hw.2 t_4 rfl
        refine lv_ifnonnull (pc := 13) (tgt := 18) C.1 C.2.1 dX7_freeNumber_13 (by decide) ?_
        refine g_iinc (pc := 18) (k := 1) C dX7_freeNumber_18 hl rfl (by decide) (fun v1_5 ev1_5 ls hl => ?_)
        have hw := hw v1_5 ev1_5
        have hl : lv_has ls 2 [(1, .int (mm_I v1_5)), (0, .ref (mm_ad G this))] := hl
        refine lv_goto (pc := 21) (tgt := 2) C.1 C.2.1 dX7_freeNumber_21 (by decide) ?_
        exact hw  _ _ _ w (lv_sub hl [1, 0] rfl))
  intro H locs ls w hl
  have hl : lv_has ls 2 [(0, .ref (mm_ad G this))] := hl
  refine lv_iconst (pc := 0) (v := mm_I 0) C.1 C.2.1 dX7_freeNumber_0 rfl ?_
  refine lv_istore_n (pc := 1) (lv' := [(1, .int (mm_I 0)), (0, .ref (mm_ad G this))]) C.1 C.2.1 dX7_freeNumber_1 rfl hl (by decide) rfl (fun ls hl => ?_)
  exact hw  _ _ _ w (lv_sub hl [1, 0] rfl)
theorem lk_X7_140 : Cond.fieldLinkNest RX7 140 "LastServed$Person" "sort" "I" "LastServed" ∈ mm_nest := by decide +kernel
theorem ml_X7_143 : Cond.methodLink RX7 143 yX9_fee ∈ mm_ws := (mt_3 238 rfl rfl)
theorem cv_X7_raise : mm_V yX7_raise cX7_raise 4 none 3 := ⟨(mt_3 232 rfl rfl), (mt_3 231 rfl rfl), (mp_2 1 rfl rfl), (mt_1 6 rfl rfl), by decide, by decide, by decide +kernel⟩
theorem ml_X7_133 : Cond.methodLink RX7 133 yX7_raise ∈ mm_ws := (mt_3 229 rfl rfl)
theorem lk_X7_146 : Cond.fieldLinkNest RX7 146 "LastServed$Person" "cameLast" "I" "LastServed" ∈ mm_nest := by decide +kernel
theorem lk_X7_149 : Cond.fieldLinkNest RX7 149 "LastServed$Person" "bowsTill" "I" "LastServed" ∈ mm_nest := by decide +kernel
theorem cv_X2_append : mm_V yX2_append cX2_append 2 none 1 := ⟨(mt_4 8 rfl rfl), (mt_4 6 rfl rfl), (mt_4 7 rfl rfl), (mt_1 9 rfl rfl), by decide, by decide, by decide +kernel⟩
theorem ml_X7_152 : Cond.methodLink RX7 152 yX2_append ∈ mm_ws := (mt_4 5 rfl rfl)
def wp_X7_comeIn (this : Nat) (a1 : Int) (a2 : Nat) (s0 : mm_M) (post : mm_M → Prop) : Prop :=
  (wp_X7_deskOf this (s0 a2 2) s0 (fun r_2 s_1 => (r_2 = none → post s_1) ∧ (∀ t_3 : Nat, r_2 = some t_3 → (wp_X9_fee (mm_rt this 0) s_1 (fun r_5 s_4 => (wp_X7_raise this (s_1 a2 1) 6 (-r_5) s_4 (fun s_6 => (∀ s_8 : mm_M, s_8 = mm_up s_6 a2 0 0 → (∀ s_9 : mm_M, s_9 = mm_up s_8 a2 4 (s_8 this 7) → (∀ s_10 : mm_M, s_10 = mm_up s_9 a2 6 (-1) → (wp_X2_append t_3 a1 s_10 (fun s_11 => post s_11))))))))))))
set_option maxRecDepth 100000 in
set_option maxHeartbeats 4000000 in
theorem c_X7_comeIn (l : Launch) (G : mm_G) (this : Nat) (a1 : Int) (a2 : Nat) (h0 : mm_ok this 17 0) (h2 : mm_ok a2 15 0) (s0 : mm_M) (post : mm_M → Prop) (hw : wp_X7_comeIn this a1 a2 s0 post) : Met l yX7_comeIn (mm_wm yX7_comeIn cX7_comeIn 4 none) (mm_rm 3) (va_Pc [.ref (mm_ad G this), .int (mm_I a1), .ref (mm_ad G a2)] (mm_pre G s0)) (mm_Qv G post) 0 0 (mm_A G) := by
  refine mm_met (own := RX7) (by decide) rfl (Nat.le_of_ble_eq_true rfl) ?_
  intro p e s m args below meth c C hr hk
  unfold wp_X7_comeIn at hw
  intro H locs ls w hl
  have hl : lv_has ls 4 [(0, .ref (mm_ad G this)), (1, .int (mm_I a1)), (2, .ref (mm_ad G a2))] := hl
  refine lv_aload_n (pc := 0) C.1 C.2.1 dX7_comeIn_0 rfl (lv_at hl 0 rfl) ?_
  refine lv_aload_n (pc := 1) C.1 C.2.1 dX7_comeIn_1 rfl (lv_at hl 2 rfl) ?_
  refine g_getiN (pc := 2) C w h2 ff_X5_2 lk_X7_101 dX7_comeIn_2 ?_
  refine g_callq (pc := 5) w (mm_runV (ci := 7) (q := (RX7, TX7, 9)) (As := [.int (mm_I (s0 a2 2))]) (rest := []) C w (c_X7_deskOf l G this (s0 a2 2) h0 s0 _ hw) h0 rfl rfl cv_X7_deskOf ml_X7_104 ⟨Nat.le_of_ble_eq_true rfl, Nat.le_of_ble_eq_true rfl⟩ ⟨Nat.le_of_ble_eq_true rfl, Nat.le_of_ble_eq_true rfl⟩ rfl hl.1 rfl (Nat.le_of_ble_eq_true rfl) dX7_comeIn_5) (fun s_1 H locs hw w => ?_) (fun t_3 s_1 H locs ht_3 hw w => ?_)
  · have hw := hw.1 rfl
    refine lv_astore_nN (pc := 8) (lv' := [(3, .null), (0, .ref (mm_ad G this)), (1, .int (mm_I a1)), (2, .ref (mm_ad G a2))]) C.1 C.2.1 dX7_comeIn_8 rfl hl (by decide) rfl (fun ls hl => ?_)
    refine lv_aload_nN (pc := 9) C.1 C.2.1 dX7_comeIn_9 rfl (lv_at hl 0 rfl) ?_
    refine lv_ifnonnullN (pc := 10) C.1 C.2.1 dX7_comeIn_10 ?_
    exact g_vret (pc := 13) C w hr hk hw dX7_comeIn_13
  · have hw := hw.2 t_3 rfl
    refine lv_astore_n (pc := 8) (lv' := [(3, .ref (mm_ad G t_3)), (0, .ref (mm_ad G this)), (1, .int (mm_I a1)), (2, .ref (mm_ad G a2))]) C.1 C.2.1 dX7_comeIn_8 rfl hl (by decide) rfl (fun ls hl => ?_)
    refine lv_aload_n (pc := 9) C.1 C.2.1 dX7_comeIn_9 rfl (lv_at hl 0 rfl) ?_
    refine lv_ifnonnull (pc := 10) (tgt := 14) C.1 C.2.1 dX7_comeIn_10 (by decide) ?_
    refine lv_aload_n (pc := 14) C.1 C.2.1 dX7_comeIn_14 rfl (lv_at hl 1 rfl) ?_
    refine lv_aload_n (pc := 15) C.1 C.2.1 dX7_comeIn_15 rfl (lv_at hl 3 rfl) ?_
    refine g_getiN (pc := 16) C w h2 ff_X5_1 lk_X7_140 dX7_comeIn_16 ?_
    refine lv_bipush (pc := 19) C.1 C.2.1 dX7_comeIn_19 mb_6 ?_
    refine lv_aload_n (pc := 21) C.1 C.2.1 dX7_comeIn_21 rfl (lv_at hl 1 rfl) ?_
    refine g_getr (pc := 22) C w h0 ff_X7_0 lk_X7_34 dX7_comeIn_22 ?_
    refine g_calli (pc := 25) w (mm_runV (ci := 9) (q := (RX9, TX9, 9)) (As := []) (rest := [.int (mm_I 6), .int (mm_I (s_1 a2 1)), .ref (mm_ad G this)]) C w (c_X9_fee l G (mm_rt this 0) (ro_X7_0 h0) s_1 _ hw) (ro_X7_0 h0) rfl rfl cv_X9_fee ml_X7_143 ⟨Nat.le_of_ble_eq_true rfl, Nat.le_of_ble_eq_true rfl⟩ ⟨Nat.le_of_ble_eq_true rfl, Nat.le_of_ble_eq_true rfl⟩ rfl hl.1 rfl (Nat.le_of_ble_eq_true rfl) dX7_comeIn_25) (fun r_5 s_4 H locs hw w => ?_)
    refine g_ineg (pc := 28) C dX7_comeIn_28 ?_
    refine g_callv (pc := 29) w (mm_runV (ci := 7) (q := (RX7, TX7, 9)) (As := [.int (mm_I (s_1 a2 1)), .int (mm_I 6), .int (mm_I (-r_5))]) (rest := []) C w (c_X7_raise l G this (s_1 a2 1) 6 (-r_5) h0 s_4 _ hw) h0 rfl rfl cv_X7_raise ml_X7_133 ⟨Nat.le_of_ble_eq_true rfl, Nat.le_of_ble_eq_true rfl⟩ ⟨Nat.le_of_ble_eq_true rfl, Nat.le_of_ble_eq_true rfl⟩ rfl hl.1 rfl (Nat.le_of_ble_eq_true rfl) dX7_comeIn_29) (fun s_6 H locs hw w => ?_)
    refine lv_aload_n (pc := 32) C.1 C.2.1 dX7_comeIn_32 rfl (lv_at hl 3 rfl) ?_
    refine lv_iconst (pc := 33) (v := mm_I 0) C.1 C.2.1 dX7_comeIn_33 rfl ?_
    refine g_putiN (pc := 34) C w h2 ff_X5_0 fw_X5_0 lk_X7_64 dX7_comeIn_34 (fun s_8 H locs es_8 w => ?_)
    have hw := hw s_8 es_8
    refine lv_aload_n (pc := 37) C.1 C.2.1 dX7_comeIn_37 rfl (lv_at hl 3 rfl) ?_
    refine lv_aload_n (pc := 38) C.1 C.2.1 dX7_comeIn_38 rfl (lv_at hl 1 rfl) ?_
    refine g_geti (pc := 39) C w h0 ff_X7_7 lk_X7_48 dX7_comeIn_39 ?_
    refine g_putiN (pc := 42) C w h2 ff_X5_4 fw_X5_4 lk_X7_146 dX7_comeIn_42 (fun s_9 H locs es_9 w => ?_)
    have hw := hw s_9 es_9
    refine lv_aload_n (pc := 45) C.1 C.2.1 dX7_comeIn_45 rfl (lv_at hl 3 rfl) ?_
    refine lv_iconst (pc := 46) (v := mm_I (-1)) C.1 C.2.1 dX7_comeIn_46 rfl ?_
    refine g_putiN (pc := 47) C w h2 ff_X5_6 fw_X5_6 lk_X7_149 dX7_comeIn_47 (fun s_10 H locs es_10 w => ?_)
    have hw := hw s_10 es_10
    refine lv_aload_n (pc := 50) C.1 C.2.1 dX7_comeIn_50 rfl (lv_at hl 0 rfl) ?_
    refine lv_iload_n (pc := 51) C.1 C.2.1 dX7_comeIn_51 rfl (lv_at hl 2 rfl) ?_
    refine g_callv (pc := 52) w (mm_runV (ci := 2) (q := (RX2, TX2, 4)) (As := [.int (mm_I a1)]) (rest := []) C w (c_X2_append l G t_3 a1 ht_3 s_10 _ hw) ht_3 rfl rfl cv_X2_append ml_X7_152 ⟨Nat.le_of_ble_eq_true rfl, Nat.le_of_ble_eq_true rfl⟩ ⟨Nat.le_of_ble_eq_true rfl, Nat.le_of_ble_eq_true rfl⟩ rfl hl.1 rfl (Nat.le_of_ble_eq_true rfl) dX7_comeIn_52) (fun s_11 H locs hw w => ?_)
    exact g_vret (pc := 55) C w hr hk hw dX7_comeIn_55
theorem cv_X7_freeNumber : mm_V yX7_freeNumber cX7_freeNumber 2 (some .int) 0 := ⟨(mt_3 220 rfl rfl), (mt_3 219 rfl rfl), (mp_2 0 rfl rfl), (mt_1 6 rfl rfl), by decide, by decide, by decide +kernel⟩
theorem ml_X7_125 : Cond.methodLink RX7 125 yX7_freeNumber ∈ mm_ws := (mt_3 217 rfl rfl)
theorem cv_X5_arrive : mm_V yX5_arrive cX5_arrive 4 none 3 := ⟨(mt_3 228 rfl rfl), (mt_3 226 rfl rfl), (mt_3 227 rfl rfl), (mt_1 8 rfl rfl), by decide, by decide, by decide +kernel⟩
theorem ml_X7_129 : Cond.methodLink RX7 129 yX5_arrive ∈ mm_ws := (mt_3 225 rfl rfl)
theorem cv_X7_comeIn : mm_V yX7_comeIn cX7_comeIn 4 none 2 := ⟨(mt_3 236 rfl rfl), (mt_3 235 rfl rfl), (mp_2 2 rfl rfl), (mt_1 6 rfl rfl), by decide, by decide, by decide +kernel⟩
theorem ml_X7_136 : Cond.methodLink RX7 136 yX7_comeIn ∈ mm_ws := (mt_3 233 rfl rfl)
def wp_X7_arrive (this : Nat) (a1 : Int) (a2 : Int) (a3 : Int) (s0 : mm_M) (post : Int → mm_M → Prop) : Prop :=
  (wp_X7_freeNumber this s0 (fun r_2 s_1 => (∀ v4_3 : Int, v4_3 = r_2 → ((n32 v4_3 < 0 → post (-1) s_1) ∧ (¬ n32 v4_3 < 0 → ((n32 v4_3 < 30 → ((0 ≤ v4_3 ∧ v4_3 < 30) ∧ (wp_X5_arrive (mm_rt (mm_rt this 3) (v4_3).toNat) a1 a2 (s_1 this 7) s_1 (fun s_5 => (wp_X7_raise this a1 0 1 s_5 (fun s_7 => ((n32 a3 = 0 → post v4_3 s_7) ∧ (¬ n32 a3 = 0 → (wp_X7_comeIn this v4_3 (mm_rt (mm_rt this 3) (v4_3).toNat) s_7 (fun s_9 => post v4_3 s_9)))))))))) ∧ (¬ n32 v4_3 < 30 → post (-1) s_1)))))))
set_option maxRecDepth 100000 in
set_option maxHeartbeats 4000000 in
theorem c_X7_arrive (l : Launch) (G : mm_G) (this : Nat) (a1 : Int) (a2 : Int) (a3 : Int) (h0 : mm_ok this 17 0) (s0 : mm_M) (post : Int → mm_M → Prop) (hw : wp_X7_arrive this a1 a2 a3 s0 post) : Met l yX7_arrive (mm_wm yX7_arrive cX7_arrive 6 (some .int)) (mm_rm 4) (va_Pc [.ref (mm_ad G this), .int (mm_I a1), .int (mm_I a2), .int (mm_I a3)] (mm_pre G s0)) (mm_Qi G post) 0 0 (mm_A G) := by
  refine mm_met (own := RX7) (by decide) rfl (Nat.le_of_ble_eq_true rfl) ?_
  intro p e s m args below meth c C hr hk
  unfold wp_X7_arrive at hw
  intro H locs ls w hl
  have hl : lv_has ls 6 [(0, .ref (mm_ad G this)), (1, .int (mm_I a1)), (2, .int (mm_I a2)), (3, .int (mm_I a3))] := hl
  refine lv_aload_n (pc := 0) C.1 C.2.1 dX7_arrive_0 rfl (lv_at hl 0 rfl) ?_
  refine g_calli (pc := 1) w (mm_runV (ci := 7) (q := (RX7, TX7, 9)) (As := []) (rest := []) C w (c_X7_freeNumber l G this h0 s0 _ hw) h0 rfl rfl cv_X7_freeNumber ml_X7_125 ⟨Nat.le_of_ble_eq_true rfl, Nat.le_of_ble_eq_true rfl⟩ ⟨Nat.le_of_ble_eq_true rfl, Nat.le_of_ble_eq_true rfl⟩ rfl hl.1 rfl (Nat.le_of_ble_eq_true rfl) dX7_arrive_1) (fun r_2 s_1 H locs hw w => ?_)
  refine g_istore (pc := 4) C dX7_arrive_4 hl (by decide) (fun v4_3 ev4_3 ls hl => ?_)
  have hw := hw v4_3 ev4_3
  have hl : lv_has ls 6 [(4, .int (mm_I v4_3)), (0, .ref (mm_ad G this)), (1, .int (mm_I a1)), (2, .int (mm_I a2)), (3, .int (mm_I a3))] := hl
  refine lv_iload (pc := 6) C.1 C.2.1 dX7_arrive_6 (lv_at hl 0 rfl) ?_
  refine g_if_lt (pc := 8) (tgt := 18) C rfl dX7_arrive_8 (by decide) (fun hc => ?_) (fun hc => ?_)
  · have hw := hw.1 hc
    refine lv_iconst (pc := 18) (v := mm_I (-1)) C.1 C.2.1 dX7_arrive_18 rfl ?_
    exact g_iret (pc := 19) C w hr hk hw dX7_arrive_19
  · have hw := hw.2 hc
    refine lv_iload (pc := 11) C.1 C.2.1 dX7_arrive_11 (lv_at hl 0 rfl) ?_
    refine lv_bipush (pc := 13) C.1 C.2.1 dX7_arrive_13 mb_30 ?_
    refine g_icmp_lt (pc := 15) (tgt := 20) C rfl mn_30 dX7_arrive_15 (by decide) (fun hc => ?_) (fun hc => ?_)
    · have hw := hw.1 hc
      refine lv_aload_n (pc := 20) C.1 C.2.1 dX7_arrive_20 rfl (lv_at hl 1 rfl) ?_
      refine g_getr (pc := 21) C w h0 ff_X7_3 lk_X7_11 dX7_arrive_21 ?_
      refine lv_iload (pc := 24) C.1 C.2.1 dX7_arrive_24 (lv_at hl 0 rfl) ?_
      obtain ⟨hi, hw⟩ := hw
      refine g_aald (pc := 26) C w (ro_X7_3 h0) (by decide) rfl hi dX7_arrive_26 ?_
      have ho_4 := ra_5 (j := (v4_3).toNat) (ro_X7_3 h0) (mm_tn (n := 30) hi)
      refine lv_astore (pc := 27) (lv' := [(5, .ref (mm_ad G (mm_rt (mm_rt this 3) (v4_3).toNat))), (4, .int (mm_I v4_3)), (0, .ref (mm_ad G this)), (1, .int (mm_I a1)), (2, .int (mm_I a2)), (3, .int (mm_I a3))]) C.1 C.2.1 dX7_arrive_27 hl (by decide) rfl (fun ls hl => ?_)
      refine lv_aload (pc := 29) C.1 C.2.1 dX7_arrive_29 (lv_at hl 0 rfl) ?_
      refine lv_iload_n (pc := 31) C.1 C.2.1 dX7_arrive_31 rfl (lv_at hl 3 rfl) ?_
      refine lv_iload_n (pc := 32) C.1 C.2.1 dX7_arrive_32 rfl (lv_at hl 4 rfl) ?_
      refine lv_aload_n (pc := 33) C.1 C.2.1 dX7_arrive_33 rfl (lv_at hl 2 rfl) ?_
      refine g_geti (pc := 34) C w h0 ff_X7_7 lk_X7_48 dX7_arrive_34 ?_
      refine g_callv (pc := 37) w (mm_runV (ci := 5) (q := (RX5, TX5, 7)) (As := [.int (mm_I a1), .int (mm_I a2), .int (mm_I (s_1 this 7))]) (rest := []) C w (c_X5_arrive l G (mm_rt (mm_rt this 3) (v4_3).toNat) a1 a2 (s_1 this 7) ho_4 s_1 _ hw) ho_4 rfl rfl cv_X5_arrive ml_X7_129 ⟨Nat.le_of_ble_eq_true rfl, Nat.le_of_ble_eq_true rfl⟩ ⟨Nat.le_of_ble_eq_true rfl, Nat.le_of_ble_eq_true rfl⟩ rfl hl.1 rfl (Nat.le_of_ble_eq_true rfl) dX7_arrive_37) (fun s_5 H locs hw w => ?_)
      refine lv_aload_n (pc := 40) C.1 C.2.1 dX7_arrive_40 rfl (lv_at hl 2 rfl) ?_
      refine lv_iload_n (pc := 41) C.1 C.2.1 dX7_arrive_41 rfl (lv_at hl 3 rfl) ?_
      refine lv_iconst (pc := 42) (v := mm_I 0) C.1 C.2.1 dX7_arrive_42 rfl ?_
      refine lv_iconst (pc := 43) (v := mm_I 1) C.1 C.2.1 dX7_arrive_43 rfl ?_
      refine g_callv (pc := 44) w (mm_runV (ci := 7) (q := (RX7, TX7, 9)) (As := [.int (mm_I a1), .int (mm_I 0), .int (mm_I 1)]) (rest := []) C w (c_X7_raise l G this a1 0 1 h0 s_5 _ hw) h0 rfl rfl cv_X7_raise ml_X7_133 ⟨Nat.le_of_ble_eq_true rfl, Nat.le_of_ble_eq_true rfl⟩ ⟨Nat.le_of_ble_eq_true rfl, Nat.le_of_ble_eq_true rfl⟩ rfl hl.1 rfl (Nat.le_of_ble_eq_true rfl) dX7_arrive_44) (fun s_7 H locs hw w => ?_)
      refine lv_iload_n (pc := 47) C.1 C.2.1 dX7_arrive_47 rfl (lv_at hl 5 rfl) ?_
      refine g_if_eq (pc := 48) (tgt := 59) C rfl dX7_arrive_48 (by decide) (fun hc => ?_) (fun hc => ?_)
      · have hw := hw.1 hc
        refine lv_iload (pc := 59) C.1 C.2.1 dX7_arrive_59 (lv_at hl 1 rfl) ?_
        exact g_iret (pc := 61) C w hr hk hw dX7_arrive_61
      · have hw := hw.2 hc
        refine lv_aload_n (pc := 51) C.1 C.2.1 dX7_arrive_51 rfl (lv_at hl 2 rfl) ?_
        refine lv_iload (pc := 52) C.1 C.2.1 dX7_arrive_52 (lv_at hl 1 rfl) ?_
        refine lv_aload (pc := 54) C.1 C.2.1 dX7_arrive_54 (lv_at hl 0 rfl) ?_
        refine g_callv (pc := 56) w (mm_runV (ci := 7) (q := (RX7, TX7, 9)) (As := [.int (mm_I v4_3), .ref (mm_ad G (mm_rt (mm_rt this 3) (v4_3).toNat))]) (rest := []) C w (c_X7_comeIn l G this v4_3 (mm_rt (mm_rt this 3) (v4_3).toNat) h0 ho_4 s_7 _ hw) h0 rfl rfl cv_X7_comeIn ml_X7_136 ⟨Nat.le_of_ble_eq_true rfl, Nat.le_of_ble_eq_true rfl⟩ ⟨Nat.le_of_ble_eq_true rfl, Nat.le_of_ble_eq_true rfl⟩ rfl hl.1 rfl (Nat.le_of_ble_eq_true rfl) dX7_arrive_56) (fun s_9 H locs hw w => ?_)
        refine lv_iload (pc := 59) C.1 C.2.1 dX7_arrive_59 (lv_at hl 1 rfl) ?_
        exact g_iret (pc := 61) C w hr hk hw dX7_arrive_61
    · have hw := hw.2 hc
      refine lv_iconst (pc := 18) (v := mm_I (-1)) C.1 C.2.1 dX7_arrive_18 rfl ?_
      exact g_iret (pc := 19) C w hr hk hw dX7_arrive_19
theorem cv_X2_remove : mm_V yX2_remove cX2_remove 4 none 1 := ⟨(mt_4 25 rfl rfl), (mt_4 23 rfl rfl), (mt_4 24 rfl rfl), (mt_1 9 rfl rfl), by decide, by decide, by decide +kernel⟩
theorem ml_X7_155 : Cond.methodLink RX7 155 yX2_remove ∈ mm_ws := (mt_4 22 rfl rfl)
def wp_X7_standAside (this : Nat) (a1 : Int) (a2 : Nat) (s0 : mm_M) (post : mm_M → Prop) : Prop :=
  (wp_X7_deskOf this (s0 a2 2) s0 (fun r_2 s_1 => (r_2 = none → post s_1) ∧ (∀ t_3 : Nat, r_2 = some t_3 → (wp_X2_remove t_3 a1 s_1 (fun s_4 => post s_4)))))
set_option maxRecDepth 100000 in
set_option maxHeartbeats 4000000 in
theorem c_X7_standAside (l : Launch) (G : mm_G) (this : Nat) (a1 : Int) (a2 : Nat) (h0 : mm_ok this 17 0) (h2 : mm_ok a2 15 0) (s0 : mm_M) (post : mm_M → Prop) (hw : wp_X7_standAside this a1 a2 s0 post) : Met l yX7_standAside (mm_wm yX7_standAside cX7_standAside 4 none) (mm_rm 3) (va_Pc [.ref (mm_ad G this), .int (mm_I a1), .ref (mm_ad G a2)] (mm_pre G s0)) (mm_Qv G post) 0 0 (mm_A G) := by
  refine mm_met (own := RX7) (by decide) rfl (Nat.le_of_ble_eq_true rfl) ?_
  intro p e s m args below meth c C hr hk
  unfold wp_X7_standAside at hw
  intro H locs ls w hl
  have hl : lv_has ls 4 [(0, .ref (mm_ad G this)), (1, .int (mm_I a1)), (2, .ref (mm_ad G a2))] := hl
  refine lv_aload_n (pc := 0) C.1 C.2.1 dX7_standAside_0 rfl (lv_at hl 0 rfl) ?_
  refine lv_aload_n (pc := 1) C.1 C.2.1 dX7_standAside_1 rfl (lv_at hl 2 rfl) ?_
  refine g_getiN (pc := 2) C w h2 ff_X5_2 lk_X7_101 dX7_standAside_2 ?_
  refine g_callq (pc := 5) w (mm_runV (ci := 7) (q := (RX7, TX7, 9)) (As := [.int (mm_I (s0 a2 2))]) (rest := []) C w (c_X7_deskOf l G this (s0 a2 2) h0 s0 _ hw) h0 rfl rfl cv_X7_deskOf ml_X7_104 ⟨Nat.le_of_ble_eq_true rfl, Nat.le_of_ble_eq_true rfl⟩ ⟨Nat.le_of_ble_eq_true rfl, Nat.le_of_ble_eq_true rfl⟩ rfl hl.1 rfl (Nat.le_of_ble_eq_true rfl) dX7_standAside_5) (fun s_1 H locs hw w => ?_) (fun t_3 s_1 H locs ht_3 hw w => ?_)
  · have hw := hw.1 rfl
    refine lv_astore_nN (pc := 8) (lv' := [(3, .null), (0, .ref (mm_ad G this)), (1, .int (mm_I a1)), (2, .ref (mm_ad G a2))]) C.1 C.2.1 dX7_standAside_8 rfl hl (by decide) rfl (fun ls hl => ?_)
    refine lv_aload_nN (pc := 9) C.1 C.2.1 dX7_standAside_9 rfl (lv_at hl 0 rfl) ?_
    refine lv_ifnullN (pc := 10) (tgt := 18) C.1 C.2.1 dX7_standAside_10 (by decide) ?_
    exact g_vret (pc := 18) C w hr hk hw dX7_standAside_18
  · have hw := hw.2 t_3 rfl
    refine lv_astore_n (pc := 8) (lv' := [(3, .ref (mm_ad G t_3)), (0, .ref (mm_ad G this)), (1, .int (mm_I a1)), (2, .ref (mm_ad G a2))]) C.1 C.2.1 dX7_standAside_8 rfl hl (by decide) rfl (fun ls hl => ?_)
    refine lv_aload_n (pc := 9) C.1 C.2.1 dX7_standAside_9 rfl (lv_at hl 0 rfl) ?_
    refine lv_ifnull (pc := 10) C.1 C.2.1 dX7_standAside_10 ?_
    refine lv_aload_n (pc := 13) C.1 C.2.1 dX7_standAside_13 rfl (lv_at hl 0 rfl) ?_
    refine lv_iload_n (pc := 14) C.1 C.2.1 dX7_standAside_14 rfl (lv_at hl 2 rfl) ?_
    refine g_callv (pc := 15) w (mm_runV (ci := 2) (q := (RX2, TX2, 4)) (As := [.int (mm_I a1)]) (rest := []) C w (c_X2_remove l G t_3 a1 ht_3 s_1 _ hw) ht_3 rfl rfl cv_X2_remove ml_X7_155 ⟨Nat.le_of_ble_eq_true rfl, Nat.le_of_ble_eq_true rfl⟩ ⟨Nat.le_of_ble_eq_true rfl, Nat.le_of_ble_eq_true rfl⟩ rfl hl.1 rfl (Nat.le_of_ble_eq_true rfl) dX7_standAside_15) (fun s_4 H locs hw w => ?_)
    exact g_vret (pc := 18) C w hr hk hw dX7_standAside_18
theorem cv_X7_standAside : mm_V yX7_standAside cX7_standAside 4 none 2 := ⟨(mt_4 21 rfl rfl), (mt_4 20 rfl rfl), (mp_2 3 rfl rfl), (mt_1 6 rfl rfl), by decide, by decide, by decide +kernel⟩
theorem ml_X7_158 : Cond.methodLink RX7 158 yX7_standAside ∈ mm_ws := (mt_4 18 rfl rfl)
theorem lk_X7_161 : Cond.fieldLinkNest RX7 161 "LastServed$Person" "turns" "I" "LastServed" ∈ mm_nest := by decide +kernel
theorem ml_X7_164 : Cond.methodLink RX7 164 yX9_bow ∈ mm_ws := (mt_4 30 rfl rfl)
def wp_X7_goOut (this : Nat) (a1 : Int) (a2 : Nat) (s0 : mm_M) (post : mm_M → Prop) : Prop :=
  (wp_X7_standAside this a1 a2 s0 (fun s_1 => (∀ s_3 : mm_M, s_3 = mm_up s_1 a2 5 ((s_1 a2 5) + 1) → (wp_X9_bow (mm_rt this 0) s_3 (fun r_5 s_4 => ((¬ n32 r_5 = 0 → (∀ s_6 : mm_M, s_6 = mm_up s_4 a2 0 1 → (wp_X9_bow (mm_rt this 0) s_6 (fun r_8 s_7 => (∀ s_9 : mm_M, s_9 = mm_up s_7 a2 6 ((s_6 this 7) + r_8) → post s_9))))) ∧ (n32 r_5 = 0 → (wp_X7_comeIn this a1 a2 s_4 (fun s_10 => post s_10)))))))))
set_option maxRecDepth 100000 in
set_option maxHeartbeats 4000000 in
theorem c_X7_goOut (l : Launch) (G : mm_G) (this : Nat) (a1 : Int) (a2 : Nat) (h0 : mm_ok this 17 0) (h2 : mm_ok a2 15 0) (s0 : mm_M) (post : mm_M → Prop) (hw : wp_X7_goOut this a1 a2 s0 post) : Met l yX7_goOut (mm_wm yX7_goOut cX7_goOut 3 none) (mm_rm 4) (va_Pc [.ref (mm_ad G this), .int (mm_I a1), .ref (mm_ad G a2)] (mm_pre G s0)) (mm_Qv G post) 0 0 (mm_A G) := by
  refine mm_met (own := RX7) (by decide) rfl (Nat.le_of_ble_eq_true rfl) ?_
  intro p e s m args below meth c C hr hk
  unfold wp_X7_goOut at hw
  intro H locs ls w hl
  have hl : lv_has ls 3 [(0, .ref (mm_ad G this)), (1, .int (mm_I a1)), (2, .ref (mm_ad G a2))] := hl
  refine lv_aload_n (pc := 0) C.1 C.2.1 dX7_goOut_0 rfl (lv_at hl 0 rfl) ?_
  refine lv_iload_n (pc := 1) C.1 C.2.1 dX7_goOut_1 rfl (lv_at hl 1 rfl) ?_
  refine lv_aload_n (pc := 2) C.1 C.2.1 dX7_goOut_2 rfl (lv_at hl 2 rfl) ?_
  refine g_callv (pc := 3) w (mm_runV (ci := 7) (q := (RX7, TX7, 9)) (As := [.int (mm_I a1), .ref (mm_ad G a2)]) (rest := []) C w (c_X7_standAside l G this a1 a2 h0 h2 s0 _ hw) h0 rfl rfl cv_X7_standAside ml_X7_158 ⟨Nat.le_of_ble_eq_true rfl, Nat.le_of_ble_eq_true rfl⟩ ⟨Nat.le_of_ble_eq_true rfl, Nat.le_of_ble_eq_true rfl⟩ rfl hl.1 rfl (Nat.le_of_ble_eq_true rfl) dX7_goOut_3) (fun s_1 H locs hw w => ?_)
  refine lv_aload_n (pc := 6) C.1 C.2.1 dX7_goOut_6 rfl (lv_at hl 2 rfl) ?_
  refine lv_dup (pc := 7) C.1 C.2.1 dX7_goOut_7 rfl ?_
  refine g_getiN (pc := 8) C w h2 ff_X5_5 lk_X7_161 dX7_goOut_8 ?_
  refine lv_iconst (pc := 11) (v := mm_I 1) C.1 C.2.1 dX7_goOut_11 rfl ?_
  refine g_iadd (pc := 12) C dX7_goOut_12 ?_
  refine g_putiN (pc := 13) C w h2 ff_X5_5 fw_X5_5 lk_X7_161 dX7_goOut_13 (fun s_3 H locs es_3 w => ?_)
  have hw := hw s_3 es_3
  refine lv_aload_n (pc := 16) C.1 C.2.1 dX7_goOut_16 rfl (lv_at hl 0 rfl) ?_
  refine g_getr (pc := 17) C w h0 ff_X7_0 lk_X7_34 dX7_goOut_17 ?_
  refine g_calli (pc := 20) w (mm_runV (ci := 9) (q := (RX9, TX9, 9)) (As := []) (rest := []) C w (c_X9_bow l G (mm_rt this 0) (ro_X7_0 h0) s_3 _ hw) (ro_X7_0 h0) rfl rfl cv_X9_bow ml_X7_164 ⟨Nat.le_of_ble_eq_true rfl, Nat.le_of_ble_eq_true rfl⟩ ⟨Nat.le_of_ble_eq_true rfl, Nat.le_of_ble_eq_true rfl⟩ rfl hl.1 rfl (Nat.le_of_ble_eq_true rfl) dX7_goOut_20) (fun r_5 s_4 H locs hw w => ?_)
  refine g_if_ne (pc := 23) (tgt := 33) C rfl dX7_goOut_23 (by decide) (fun hc => ?_) (fun hc => ?_)
  · have hw := hw.1 hc
    refine lv_aload_n (pc := 33) C.1 C.2.1 dX7_goOut_33 rfl (lv_at hl 2 rfl) ?_
    refine lv_iconst (pc := 34) (v := mm_I 1) C.1 C.2.1 dX7_goOut_34 rfl ?_
    refine g_putiN (pc := 35) C w h2 ff_X5_0 fw_X5_0 lk_X7_64 dX7_goOut_35 (fun s_6 H locs es_6 w => ?_)
    have hw := hw s_6 es_6
    refine lv_aload_n (pc := 38) C.1 C.2.1 dX7_goOut_38 rfl (lv_at hl 2 rfl) ?_
    refine lv_aload_n (pc := 39) C.1 C.2.1 dX7_goOut_39 rfl (lv_at hl 0 rfl) ?_
    refine g_geti (pc := 40) C w h0 ff_X7_7 lk_X7_48 dX7_goOut_40 ?_
    refine lv_aload_n (pc := 43) C.1 C.2.1 dX7_goOut_43 rfl (lv_at hl 0 rfl) ?_
    refine g_getr (pc := 44) C w h0 ff_X7_0 lk_X7_34 dX7_goOut_44 ?_
    refine g_calli (pc := 47) w (mm_runV (ci := 9) (q := (RX9, TX9, 9)) (As := []) (rest := [.int (mm_I (s_6 this 7)), .ref (mm_ad G a2)]) C w (c_X9_bow l G (mm_rt this 0) (ro_X7_0 h0) s_6 _ hw) (ro_X7_0 h0) rfl rfl cv_X9_bow ml_X7_164 ⟨Nat.le_of_ble_eq_true rfl, Nat.le_of_ble_eq_true rfl⟩ ⟨Nat.le_of_ble_eq_true rfl, Nat.le_of_ble_eq_true rfl⟩ rfl hl.1 rfl (Nat.le_of_ble_eq_true rfl) dX7_goOut_47) (fun r_8 s_7 H locs hw w => ?_)
    refine g_iadd (pc := 50) C dX7_goOut_50 ?_
    refine g_putiN (pc := 51) C w h2 ff_X5_6 fw_X5_6 lk_X7_149 dX7_goOut_51 (fun s_9 H locs es_9 w => ?_)
    have hw := hw s_9 es_9
    exact g_vret (pc := 54) C w hr hk hw dX7_goOut_54
  · have hw := hw.2 hc
    refine lv_aload_n (pc := 26) C.1 C.2.1 dX7_goOut_26 rfl (lv_at hl 0 rfl) ?_
    refine lv_iload_n (pc := 27) C.1 C.2.1 dX7_goOut_27 rfl (lv_at hl 1 rfl) ?_
    refine lv_aload_n (pc := 28) C.1 C.2.1 dX7_goOut_28 rfl (lv_at hl 2 rfl) ?_
    refine g_callv (pc := 29) w (mm_runV (ci := 7) (q := (RX7, TX7, 9)) (As := [.int (mm_I a1), .ref (mm_ad G a2)]) (rest := []) C w (c_X7_comeIn l G this a1 a2 h0 h2 s_4 _ hw) h0 rfl rfl cv_X7_comeIn ml_X7_136 ⟨Nat.le_of_ble_eq_true rfl, Nat.le_of_ble_eq_true rfl⟩ ⟨Nat.le_of_ble_eq_true rfl, Nat.le_of_ble_eq_true rfl⟩ rfl hl.1 rfl (Nat.le_of_ble_eq_true rfl) dX7_goOut_29) (fun s_10 H locs hw w => ?_)
    exact g_vret (pc := 32) C w hr hk hw dX7_goOut_32
def wp_X7_giveUp (this : Nat) (a1 : Int) (a2 : Nat) (s0 : mm_M) (post : mm_M → Prop) : Prop :=
  (wp_X7_standAside this a1 a2 s0 (fun s_1 => (∀ s_3 : mm_M, s_3 = mm_up s_1 a2 0 (-1) → (wp_X7_raise this (s_3 a2 1) 2 1 s_3 (fun s_4 => post s_4)))))
set_option maxRecDepth 100000 in
set_option maxHeartbeats 4000000 in
theorem c_X7_giveUp (l : Launch) (G : mm_G) (this : Nat) (a1 : Int) (a2 : Nat) (h0 : mm_ok this 17 0) (h2 : mm_ok a2 15 0) (s0 : mm_M) (post : mm_M → Prop) (hw : wp_X7_giveUp this a1 a2 s0 post) : Met l yX7_giveUp (mm_wm yX7_giveUp cX7_giveUp 3 none) (mm_rm 4) (va_Pc [.ref (mm_ad G this), .int (mm_I a1), .ref (mm_ad G a2)] (mm_pre G s0)) (mm_Qv G post) 0 0 (mm_A G) := by
  refine mm_met (own := RX7) (by decide) rfl (Nat.le_of_ble_eq_true rfl) ?_
  intro p e s m args below meth c C hr hk
  unfold wp_X7_giveUp at hw
  intro H locs ls w hl
  have hl : lv_has ls 3 [(0, .ref (mm_ad G this)), (1, .int (mm_I a1)), (2, .ref (mm_ad G a2))] := hl
  refine lv_aload_n (pc := 0) C.1 C.2.1 dX7_giveUp_0 rfl (lv_at hl 0 rfl) ?_
  refine lv_iload_n (pc := 1) C.1 C.2.1 dX7_giveUp_1 rfl (lv_at hl 1 rfl) ?_
  refine lv_aload_n (pc := 2) C.1 C.2.1 dX7_giveUp_2 rfl (lv_at hl 2 rfl) ?_
  refine g_callv (pc := 3) w (mm_runV (ci := 7) (q := (RX7, TX7, 9)) (As := [.int (mm_I a1), .ref (mm_ad G a2)]) (rest := []) C w (c_X7_standAside l G this a1 a2 h0 h2 s0 _ hw) h0 rfl rfl cv_X7_standAside ml_X7_158 ⟨Nat.le_of_ble_eq_true rfl, Nat.le_of_ble_eq_true rfl⟩ ⟨Nat.le_of_ble_eq_true rfl, Nat.le_of_ble_eq_true rfl⟩ rfl hl.1 rfl (Nat.le_of_ble_eq_true rfl) dX7_giveUp_3) (fun s_1 H locs hw w => ?_)
  refine lv_aload_n (pc := 6) C.1 C.2.1 dX7_giveUp_6 rfl (lv_at hl 2 rfl) ?_
  refine lv_iconst (pc := 7) (v := mm_I (-1)) C.1 C.2.1 dX7_giveUp_7 rfl ?_
  refine g_putiN (pc := 8) C w h2 ff_X5_0 fw_X5_0 lk_X7_64 dX7_giveUp_8 (fun s_3 H locs es_3 w => ?_)
  have hw := hw s_3 es_3
  refine lv_aload_n (pc := 11) C.1 C.2.1 dX7_giveUp_11 rfl (lv_at hl 0 rfl) ?_
  refine lv_aload_n (pc := 12) C.1 C.2.1 dX7_giveUp_12 rfl (lv_at hl 2 rfl) ?_
  refine g_getiN (pc := 13) C w h2 ff_X5_1 lk_X7_140 dX7_giveUp_13 ?_
  refine lv_iconst (pc := 16) (v := mm_I 2) C.1 C.2.1 dX7_giveUp_16 rfl ?_
  refine lv_iconst (pc := 17) (v := mm_I 1) C.1 C.2.1 dX7_giveUp_17 rfl ?_
  refine g_callv (pc := 18) w (mm_runV (ci := 7) (q := (RX7, TX7, 9)) (As := [.int (mm_I (s_3 a2 1)), .int (mm_I 2), .int (mm_I 1)]) (rest := []) C w (c_X7_raise l G this (s_3 a2 1) 2 1 h0 s_3 _ hw) h0 rfl rfl cv_X7_raise ml_X7_133 ⟨Nat.le_of_ble_eq_true rfl, Nat.le_of_ble_eq_true rfl⟩ ⟨Nat.le_of_ble_eq_true rfl, Nat.le_of_ble_eq_true rfl⟩ rfl hl.1 rfl (Nat.le_of_ble_eq_true rfl) dX7_giveUp_18) (fun s_4 H locs hw w => ?_)
  exact g_vret (pc := 21) C w hr hk hw dX7_giveUp_21
theorem lk_X9_24 : Cond.fieldLink RX9 24 "LastServed$Town" "closeTold" "I" ∈ mm_ws := (mt_1 112 rfl rfl)
theorem ff_X9_6 : mm_F 9 6 0 RX9 TX9 9 := ⟨rfl, by decide, fk_X9, rfl, rfl⟩
def wp_X9_closing (this : Nat) (s0 : mm_M) (post : Int → mm_M → Prop) : Prop :=
  ((¬ n32 (s0 this 6) = (-1) → post (s0 this 6) s0) ∧ (n32 (s0 this 6) = (-1) → post 120 s0))
set_option maxRecDepth 100000 in
set_option maxHeartbeats 4000000 in
theorem c_X9_closing (l : Launch) (G : mm_G) (this : Nat) (h0 : mm_ok this 19 0) (s0 : mm_M) (post : Int → mm_M → Prop) (hw : wp_X9_closing this s0 post) : Met l yX9_closing (mm_wm yX9_closing cX9_closing 1 (some .int)) (mm_rm 1) (va_Pc [.ref (mm_ad G this)] (mm_pre G s0)) (mm_Qi G post) 0 0 (mm_A G) := by
  refine mm_met (own := RX9) (by decide) rfl (Nat.le_of_ble_eq_true rfl) ?_
  intro p e s m args below meth c C hr hk
  unfold wp_X9_closing at hw
  intro H locs ls w hl
  have hl : lv_has ls 1 [(0, .ref (mm_ad G this))] := hl
  refine lv_aload_n (pc := 0) C.1 C.2.1 dX9_closing_0 rfl (lv_at hl 0 rfl) ?_
  refine g_geti (pc := 1) C w h0 ff_X9_6 lk_X9_24 dX9_closing_1 ?_
  refine lv_iconst (pc := 4) (v := mm_I (-1)) C.1 C.2.1 dX9_closing_4 rfl ?_
  refine g_icmp_ne (pc := 5) (tgt := 13) C rfl mn_m1 dX9_closing_5 (by decide) (fun hc => ?_) (fun hc => ?_)
  · have hw := hw.1 hc
    refine lv_aload_n (pc := 13) C.1 C.2.1 dX9_closing_13 rfl (lv_at hl 0 rfl) ?_
    refine g_geti (pc := 14) C w h0 ff_X9_6 lk_X9_24 dX9_closing_14 ?_
    exact g_iret (pc := 17) C w hr hk hw dX9_closing_17
  · have hw := hw.2 hc
    refine lv_bipush (pc := 8) C.1 C.2.1 dX9_closing_8 mb_120 ?_
    refine lv_goto (pc := 10) (tgt := 17) C.1 C.2.1 dX9_closing_10 (by decide) ?_
    exact g_iret (pc := 17) C w hr hk hw dX9_closing_17
theorem lk_X7_38 : Cond.fieldLink RX7 38 "LastServed$Shop" "laws" "LLastServed$Laws;" ∈ mm_ws := (mt_2 9 rfl rfl)
theorem ff_X7_1 : mm_F 7 1 1 RX7 TX7 9 := ⟨rfl, by decide, fk_X7, rfl, rfl⟩
theorem ro_X7_1 {i : Nat} (h : mm_ok i 17 0) : mm_ok (mm_rt i 1) 13 0 := by
  have q : ∀ i, i < mm_N → mm_kd i = 17 → mm_rt i 1 < mm_N ∧ mm_kd (mm_rt i 1) = 13 ∧ mm_ln (mm_rt i 1) = 0 := by decide +kernel
  exact q i h.1 h.2.1
theorem ml_X7_167 : Cond.methodLink RX7 167 yX3_isTold ∈ mm_ws := (mt_4 66 rfl rfl)
theorem lk_X7_172 : Cond.fieldLinkNest RX7 172 "LastServed$Desk" "size" "I" "LastServed" ∈ mm_nest := by decide +kernel
theorem lk_X7_42 : Cond.fieldLink RX7 42 "LastServed$Shop" "crowd" "LLastServed$Crowd;" ∈ mm_ws := (mt_2 10 rfl rfl)
theorem ff_X7_2 : mm_F 7 2 1 RX7 TX7 9 := ⟨rfl, by decide, fk_X7, rfl, rfl⟩
theorem ro_X7_2 {i : Nat} (h : mm_ok i 17 0) : mm_ok (mm_rt i 2) 11 0 := by
  have q : ∀ i, i < mm_N → mm_kd i = 17 → mm_rt i 2 < mm_N ∧ mm_kd (mm_rt i 2) = 11 ∧ mm_ln (mm_rt i 2) = 0 := by decide +kernel
  exact q i h.1 h.2.1
theorem cv_X9_closing : mm_V yX9_closing cX9_closing 1 (some .int) 0 := ⟨(mt_3 212 rfl rfl), (mt_3 210 rfl rfl), (mt_3 211 rfl rfl), (mt_1 4 rfl rfl), by decide, by decide, by decide +kernel⟩
theorem ml_X7_176 : Cond.methodLink RX7 176 yX9_closing ∈ mm_ws := (mt_4 73 rfl rfl)
theorem ml_X7_179 : Cond.methodLink RX7 179 yX1_gather ∈ mm_ws := (mt_4 74 rfl rfl)
theorem ml_X7_173 : Cond.methodLinkNest RX7 173 yX10_placeBy "LastServed" ∈ mm_nest := by decide +kernel
theorem ml_X7_197 : Cond.methodLink RX7 197 yX3_placeOfNext ∈ mm_ws := (mt_4 87 rfl rfl)
theorem cv_X2_at : mm_V yX2_at cX2_at 2 (some .int) 1 := ⟨(mt_4 81 rfl rfl), (mt_4 79 rfl rfl), (mt_4 80 rfl rfl), (mt_1 9 rfl rfl), by decide, by decide, by decide +kernel⟩
theorem ml_X7_185 : Cond.methodLink RX7 185 yX2_at ∈ mm_ws := (mt_4 78 rfl rfl)
theorem lk_X7_188 : Cond.fieldLinkNest RX7 188 "LastServed$Person" "cameFirst" "I" "LastServed" ∈ mm_nest := by decide +kernel
theorem ml_X7_191 : Cond.methodLink RX7 191 yX9_ofSort ∈ mm_ws := (mt_4 82 rfl rfl)
theorem ml_X7_194 : Cond.methodLink RX7 194 yX1_append ∈ mm_ws := (mt_4 83 rfl rfl)
def wp_X7_placeOfNext (this : Nat) (a1 : Nat) (a2 : Int) (s0 : mm_M) (post : Int → mm_M → Prop) : Prop :=
  ∀ (L18 : mm_M → Prop), ∀ (L47 : Int → mm_M → Prop), 
  (∀  (s1 : mm_M), (wp_X10_placeBy a2 (s1 a1 1) s1 (fun r_9 s_8 => post r_9 s_8)) → L18 s1) →
  (∀ (v3 : Int) (s1 : mm_M), ((n32 (s1 a1 1) ≤ n32 v3 → (wp_X3_placeOfNext (mm_rt this 1) a2 (mm_rt this 2) s1 (fun r_11 s_10 => post r_11 s_10))) ∧ (¬ n32 (s1 a1 1) ≤ n32 v3 → (wp_X2_at a1 v3 s1 (fun r_13 s_12 => (wp_X7_whoIsThere this r_13 s_12 (fun r_15 s_14 => (r_15 = none → (∀ v3_17 : Int, v3_17 = v3 + 1 → L47 v3_17 s_14)) ∧ (∀ t_16 : Nat, r_15 = some t_16 → (wp_X9_ofSort (mm_rt this 0) (s_14 t_16 1) 1 s_14 (fun r_19 s_18 => (wp_X1_append (mm_rt this 2) (s_14 t_16 4) (s_14 t_16 3) (s_14 t_16 1) r_19 (s_18 t_16 5) s_18 (fun s_20 => (∀ v3_22 : Int, v3_22 = v3 + 1 → L47 v3_22 s_20)))))))))))) → L47 v3 s1) →
  (wp_X3_isTold (mm_rt this 1) a2 s0 (fun r_2 s_1 => ((n32 r_2 = 0 → L18 s_1) ∧ (¬ n32 r_2 = 0 → ((¬ n32 (s_1 a1 1) = 0 → (wp_X9_closing (mm_rt this 0) s_1 (fun r_4 s_3 => (wp_X1_gather (mm_rt this 2) (s_1 this 7) r_4 s_3 (fun s_5 => L47 0 s_5))))) ∧ (n32 (s_1 a1 1) = 0 → L18 s_1))))))
set_option maxRecDepth 100000 in
set_option maxHeartbeats 4000000 in
theorem c_X7_placeOfNext (l : Launch) (G : mm_G) (this : Nat) (a1 : Nat) (a2 : Int) (h0 : mm_ok this 17 0) (h1 : mm_ok a1 12 0) (s0 : mm_M) (post : Int → mm_M → Prop) (hw : wp_X7_placeOfNext this a1 a2 s0 post) : Met l yX7_placeOfNext (mm_wm yX7_placeOfNext cX7_placeOfNext 5 (some .int)) (mm_rm 5) (va_Pc [.ref (mm_ad G this), .ref (mm_ad G a1), .int (mm_I a2)] (mm_pre G s0)) (mm_Qi G post) 0 0 (mm_A G) := by
  refine mm_met (own := RX7) (by decide) rfl (Nat.le_of_ble_eq_true rfl) ?_
  intro p e s m args below meth c C hr hk
  unfold wp_X7_placeOfNext at hw
  have hw := hw (fun  (u : mm_M) => mm_X p l e (mm_rm 5) s m args below meth c (MQ below (mm_Qi G post) args s 0 0 (mm_A G)) G (mm_A G) 5 18 [(1, .ref (mm_ad G a1)), (2, .int (mm_I a2))] [] u)
  have hw := hw (fun (v3 : Int) (u : mm_M) => mm_X p l e (mm_rm 5) s m args below meth c (MQ below (mm_Qi G post) args s 0 0 (mm_A G)) G (mm_A G) 5 47 [(0, .ref (mm_ad G this)), (1, .ref (mm_ad G a1)), (2, .int (mm_I a2)), (3, .int (mm_I v3))] [] u)
  have hw := hw (by
    intro  s1 hw  H locs ls w hl
    refine lv_iload_n (pc := 18) C.1 C.2.1 dX7_placeOfNext_18 rfl (lv_at hl 1 rfl) ?_
    refine lv_aload_n (pc := 19) C.1 C.2.1 dX7_placeOfNext_19 rfl (lv_at hl 0 rfl) ?_
    refine g_getiN (pc := 20) C w h1 ff_X2_1 lk_X7_172 dX7_placeOfNext_20 ?_
    refine g_calli (pc := 23) w (mm_runSN (As := [.int (mm_I a2), .int (mm_I (s1 a1 1))]) (rest := []) C w (c_X10_placeBy l G a2 (s1 a1 1)  s1 _ hw) cs_X10_placeBy ml_X7_173 ⟨Nat.le_of_ble_eq_true rfl, Nat.le_of_ble_eq_true rfl⟩ ⟨Nat.le_of_ble_eq_true rfl, Nat.le_of_ble_eq_true rfl⟩ rfl hl.1 rfl (Nat.le_of_ble_eq_true rfl) dX7_placeOfNext_23) (fun r_9 s_8 H locs hw w => ?_)
    exact g_iret (pc := 26) C w hr hk hw dX7_placeOfNext_26)
  have hw := hw (by
    intro v3 s1 hw  H locs ls w hl
    refine lv_iload_n (pc := 47) C.1 C.2.1 dX7_placeOfNext_47 rfl (lv_at hl 3 rfl) ?_
    refine lv_aload_n (pc := 48) C.1 C.2.1 dX7_placeOfNext_48 rfl (lv_at hl 1 rfl) ?_
    refine g_getiN (pc := 49) C w h1 ff_X2_1 lk_X7_172 dX7_placeOfNext_49 ?_
    refine g_icmp_ge (pc := 52) (tgt := 117) C rfl rfl dX7_placeOfNext_52 (by decide) (fun hc => ?_) (fun hc => ?_)
    · have hw := hw.1 hc
      refine lv_aload_n (pc := 117) C.1 C.2.1 dX7_placeOfNext_117 rfl (lv_at hl 0 rfl) ?_
      refine g_getr (pc := 118) C w h0 ff_X7_1 lk_X7_38 dX7_placeOfNext_118 ?_
      refine lv_iload_n (pc := 121) C.1 C.2.1 dX7_placeOfNext_121 rfl (lv_at hl 2 rfl) ?_
      refine lv_aload_n (pc := 122) C.1 C.2.1 dX7_placeOfNext_122 rfl (lv_at hl 0 rfl) ?_
      refine g_getr (pc := 123) C w h0 ff_X7_2 lk_X7_42 dX7_placeOfNext_123 ?_
      refine g_calli (pc := 126) w (mm_runV (ci := 3) (q := (RX3, TX3, 7)) (As := [.int (mm_I a2), .ref (mm_ad G (mm_rt this 2))]) (rest := []) C w (c_X3_placeOfNext l G (mm_rt this 1) a2 (mm_rt this 2) (ro_X7_1 h0) (ro_X7_2 h0) s1 _ hw) (ro_X7_1 h0) rfl rfl cv_X3_placeOfNext ml_X7_197 ⟨Nat.le_of_ble_eq_true rfl, Nat.le_of_ble_eq_true rfl⟩ ⟨Nat.le_of_ble_eq_true rfl, Nat.le_of_ble_eq_true rfl⟩ rfl hl.1 rfl (Nat.le_of_ble_eq_true rfl) dX7_placeOfNext_126) (fun r_11 s_10 H locs hw w => ?_)
      exact g_iret (pc := 129) C w hr hk hw dX7_placeOfNext_129
    · have hw := hw.2 hc
      refine lv_aload_n (pc := 55) C.1 C.2.1 dX7_placeOfNext_55 rfl (lv_at hl 0 rfl) ?_
      refine lv_aload_n (pc := 56) C.1 C.2.1 dX7_placeOfNext_56 rfl (lv_at hl 1 rfl) ?_
      refine lv_iload_n (pc := 57) C.1 C.2.1 dX7_placeOfNext_57 rfl (lv_at hl 3 rfl) ?_
      refine g_calli (pc := 58) w (mm_runV (ci := 2) (q := (RX2, TX2, 4)) (As := [.int (mm_I v3)]) (rest := [.ref (mm_ad G this)]) C w (c_X2_at l G a1 v3 h1 s1 _ hw) h1 rfl rfl cv_X2_at ml_X7_185 ⟨Nat.le_of_ble_eq_true rfl, Nat.le_of_ble_eq_true rfl⟩ ⟨Nat.le_of_ble_eq_true rfl, Nat.le_of_ble_eq_true rfl⟩ rfl hl.1 rfl (Nat.le_of_ble_eq_true rfl) dX7_placeOfNext_58) (fun r_13 s_12 H locs hw w => ?_)
      refine g_callq (pc := 61) w (mm_runV (ci := 7) (q := (RX7, TX7, 9)) (As := [.int (mm_I r_13)]) (rest := []) C w (c_X7_whoIsThere l G this r_13 h0 s_12 _ hw) h0 rfl rfl cv_X7_whoIsThere ml_X7_97 ⟨Nat.le_of_ble_eq_true rfl, Nat.le_of_ble_eq_true rfl⟩ ⟨Nat.le_of_ble_eq_true rfl, Nat.le_of_ble_eq_true rfl⟩ rfl hl.1 rfl (Nat.le_of_ble_eq_true rfl) dX7_placeOfNext_61) (fun s_14 H locs hw w => ?_) (fun t_16 s_14 H locs ht_16 hw w => ?_)
      · have hw := hw.1 rfl
        refine lv_astoreN (pc := 64) (lv' := [(4, .null), (0, .ref (mm_ad G this)), (1, .ref (mm_ad G a1)), (2, .int (mm_I a2)), (3, .int (mm_I v3))]) C.1 C.2.1 dX7_placeOfNext_64 hl (by decide) rfl (fun ls hl => ?_)
        refine lv_aloadN (pc := 66) C.1 C.2.1 dX7_placeOfNext_66 (lv_at hl 0 rfl) ?_
        refine lv_ifnullN (pc := 68) (tgt := 111) C.1 C.2.1 dX7_placeOfNext_68 (by decide) ?_
        refine g_iinc (pc := 111) (k := 4) C dX7_placeOfNext_111 hl rfl (by decide) (fun v3_17 ev3_17 ls hl => ?_)
        have hw := hw v3_17 ev3_17
        have hl : lv_has ls 5 [(3, .int (mm_I v3_17)), (4, .null), (0, .ref (mm_ad G this)), (1, .ref (mm_ad G a1)), (2, .int (mm_I a2))] := hl
        refine lv_goto (pc := 114) (tgt := 47) C.1 C.2.1 dX7_placeOfNext_114 (by decide) ?_
        exact hw  _ _ _ w (lv_sub hl [2, 3, 4, 0] rfl)
      · have hw := hw.2 t_16 rfl
        refine lv_astore (pc := 64) (lv' := [(4, .ref (mm_ad G t_16)), (0, .ref (mm_ad G this)), (1, .ref (mm_ad G a1)), (2, .int (mm_I a2)), (3, .int (mm_I v3))]) C.1 C.2.1 dX7_placeOfNext_64 hl (by decide) rfl (fun ls hl => ?_)
        refine lv_aload (pc := 66) C.1 C.2.1 dX7_placeOfNext_66 (lv_at hl 0 rfl) ?_
        refine lv_ifnull (pc := 68) C.1 C.2.1 dX7_placeOfNext_68 ?_
        refine lv_aload_n (pc := 71) C.1 C.2.1 dX7_placeOfNext_71 rfl (lv_at hl 1 rfl) ?_
        refine g_getr (pc := 72) C w h0 ff_X7_2 lk_X7_42 dX7_placeOfNext_72 ?_
        refine lv_aload (pc := 75) C.1 C.2.1 dX7_placeOfNext_75 (lv_at hl 0 rfl) ?_
        refine g_getiN (pc := 77) C w ht_16 ff_X5_4 lk_X7_146 dX7_placeOfNext_77 ?_
        refine lv_aload (pc := 80) C.1 C.2.1 dX7_placeOfNext_80 (lv_at hl 0 rfl) ?_
        refine g_getiN (pc := 82) C w ht_16 ff_X5_3 lk_X7_188 dX7_placeOfNext_82 ?_
        refine lv_aload (pc := 85) C.1 C.2.1 dX7_placeOfNext_85 (lv_at hl 0 rfl) ?_
        refine g_getiN (pc := 87) C w ht_16 ff_X5_1 lk_X7_140 dX7_placeOfNext_87 ?_
        refine lv_aload_n (pc := 90) C.1 C.2.1 dX7_placeOfNext_90 rfl (lv_at hl 1 rfl) ?_
        refine g_getr (pc := 91) C w h0 ff_X7_0 lk_X7_34 dX7_placeOfNext_91 ?_
        refine lv_aload (pc := 94) C.1 C.2.1 dX7_placeOfNext_94 (lv_at hl 0 rfl) ?_
        refine g_getiN (pc := 96) C w ht_16 ff_X5_1 lk_X7_140 dX7_placeOfNext_96 ?_
        refine lv_iconst (pc := 99) (v := mm_I 1) C.1 C.2.1 dX7_placeOfNext_99 rfl ?_
        refine g_calli (pc := 100) w (mm_runV (ci := 9) (q := (RX9, TX9, 9)) (As := [.int (mm_I (s_14 t_16 1)), .int (mm_I 1)]) (rest := [.int (mm_I (s_14 t_16 1)), .int (mm_I (s_14 t_16 3)), .int (mm_I (s_14 t_16 4)), .ref (mm_ad G (mm_rt this 2))]) C w (c_X9_ofSort l G (mm_rt this 0) (s_14 t_16 1) 1 (ro_X7_0 h0) s_14 _ hw) (ro_X7_0 h0) rfl rfl cv_X9_ofSort ml_X7_191 ⟨Nat.le_of_ble_eq_true rfl, Nat.le_of_ble_eq_true rfl⟩ ⟨Nat.le_of_ble_eq_true rfl, Nat.le_of_ble_eq_true rfl⟩ rfl hl.1 rfl (Nat.le_of_ble_eq_true rfl) dX7_placeOfNext_100) (fun r_19 s_18 H locs hw w => ?_)
        refine lv_aload (pc := 103) C.1 C.2.1 dX7_placeOfNext_103 (lv_at hl 0 rfl) ?_
        refine g_getiN (pc := 105) C w ht_16 ff_X5_5 lk_X7_161 dX7_placeOfNext_105 ?_
        refine g_callv (pc := 108) w (mm_runV (ci := 1) (q := (RX1, TX1, 8)) (As := [.int (mm_I (s_14 t_16 4)), .int (mm_I (s_14 t_16 3)), .int (mm_I (s_14 t_16 1)), .int (mm_I r_19), .int (mm_I (s_18 t_16 5))]) (rest := []) C w (c_X1_append l G (mm_rt this 2) (s_14 t_16 4) (s_14 t_16 3) (s_14 t_16 1) r_19 (s_18 t_16 5) (ro_X7_2 h0) s_18 _ hw) (ro_X7_2 h0) rfl rfl cv_X1_append ml_X7_194 ⟨Nat.le_of_ble_eq_true rfl, Nat.le_of_ble_eq_true rfl⟩ ⟨Nat.le_of_ble_eq_true rfl, Nat.le_of_ble_eq_true rfl⟩ rfl hl.1 rfl (Nat.le_of_ble_eq_true rfl) dX7_placeOfNext_108) (fun s_20 H locs hw w => ?_)
        refine g_iinc (pc := 111) (k := 4) C dX7_placeOfNext_111 hl rfl (by decide) (fun v3_22 ev3_22 ls hl => ?_)
        have hw := hw v3_22 ev3_22
        have hl : lv_has ls 5 [(3, .int (mm_I v3_22)), (4, .ref (mm_ad G t_16)), (0, .ref (mm_ad G this)), (1, .ref (mm_ad G a1)), (2, .int (mm_I a2))] := hl
        refine lv_goto (pc := 114) (tgt := 47) C.1 C.2.1 dX7_placeOfNext_114 (by decide) ?_
        exact hw  _ _ _ w (lv_sub hl [2, 3, 4, 0] rfl))
  intro H locs ls w hl
  have hl : lv_has ls 5 [(0, .ref (mm_ad G this)), (1, .ref (mm_ad G a1)), (2, .int (mm_I a2))] := hl
  refine lv_aload_n (pc := 0) C.1 C.2.1 dX7_placeOfNext_0 rfl (lv_at hl 0 rfl) ?_
  refine g_getr (pc := 1) C w h0 ff_X7_1 lk_X7_38 dX7_placeOfNext_1 ?_
  refine lv_iload_n (pc := 4) C.1 C.2.1 dX7_placeOfNext_4 rfl (lv_at hl 2 rfl) ?_
  refine g_calli (pc := 5) w (mm_runV (ci := 3) (q := (RX3, TX3, 7)) (As := [.int (mm_I a2)]) (rest := []) C w (c_X3_isTold l G (mm_rt this 1) a2 (ro_X7_1 h0) s0 _ hw) (ro_X7_1 h0) rfl rfl cv_X3_isTold ml_X7_167 ⟨Nat.le_of_ble_eq_true rfl, Nat.le_of_ble_eq_true rfl⟩ ⟨Nat.le_of_ble_eq_true rfl, Nat.le_of_ble_eq_true rfl⟩ rfl hl.1 rfl (Nat.le_of_ble_eq_true rfl) dX7_placeOfNext_5) (fun r_2 s_1 H locs hw w => ?_)
  refine g_if_eq (pc := 8) (tgt := 18) C rfl dX7_placeOfNext_8 (by decide) (fun hc => ?_) (fun hc => ?_)
  · have hw := hw.1 hc
    exact hw  _ _ _ w (lv_sub hl [1, 2] rfl)
  · have hw := hw.2 hc
    refine lv_aload_n (pc := 11) C.1 C.2.1 dX7_placeOfNext_11 rfl (lv_at hl 1 rfl) ?_
    refine g_getiN (pc := 12) C w h1 ff_X2_1 lk_X7_172 dX7_placeOfNext_12 ?_
    refine g_if_ne (pc := 15) (tgt := 27) C rfl dX7_placeOfNext_15 (by decide) (fun hc => ?_) (fun hc => ?_)
    · have hw := hw.1 hc
      refine lv_aload_n (pc := 27) C.1 C.2.1 dX7_placeOfNext_27 rfl (lv_at hl 0 rfl) ?_
      refine g_getr (pc := 28) C w h0 ff_X7_2 lk_X7_42 dX7_placeOfNext_28 ?_
      refine lv_aload_n (pc := 31) C.1 C.2.1 dX7_placeOfNext_31 rfl (lv_at hl 0 rfl) ?_
      refine g_geti (pc := 32) C w h0 ff_X7_7 lk_X7_48 dX7_placeOfNext_32 ?_
      refine lv_aload_n (pc := 35) C.1 C.2.1 dX7_placeOfNext_35 rfl (lv_at hl 0 rfl) ?_
      refine g_getr (pc := 36) C w h0 ff_X7_0 lk_X7_34 dX7_placeOfNext_36 ?_
      refine g_calli (pc := 39) w (mm_runV (ci := 9) (q := (RX9, TX9, 9)) (As := []) (rest := [.int (mm_I (s_1 this 7)), .ref (mm_ad G (mm_rt this 2))]) C w (c_X9_closing l G (mm_rt this 0) (ro_X7_0 h0) s_1 _ hw) (ro_X7_0 h0) rfl rfl cv_X9_closing ml_X7_176 ⟨Nat.le_of_ble_eq_true rfl, Nat.le_of_ble_eq_true rfl⟩ ⟨Nat.le_of_ble_eq_true rfl, Nat.le_of_ble_eq_true rfl⟩ rfl hl.1 rfl (Nat.le_of_ble_eq_true rfl) dX7_placeOfNext_39) (fun r_4 s_3 H locs hw w => ?_)
      refine g_callv (pc := 42) w (mm_runV (ci := 1) (q := (RX1, TX1, 8)) (As := [.int (mm_I (s_1 this 7)), .int (mm_I r_4)]) (rest := []) C w (c_X1_gather l G (mm_rt this 2) (s_1 this 7) r_4 (ro_X7_2 h0) s_3 _ hw) (ro_X7_2 h0) rfl rfl cv_X1_gather ml_X7_179 ⟨Nat.le_of_ble_eq_true rfl, Nat.le_of_ble_eq_true rfl⟩ ⟨Nat.le_of_ble_eq_true rfl, Nat.le_of_ble_eq_true rfl⟩ rfl hl.1 rfl (Nat.le_of_ble_eq_true rfl) dX7_placeOfNext_42) (fun s_5 H locs hw w => ?_)
      refine lv_iconst (pc := 45) (v := mm_I 0) C.1 C.2.1 dX7_placeOfNext_45 rfl ?_
      refine lv_istore_n (pc := 46) (lv' := [(3, .int (mm_I 0)), (0, .ref (mm_ad G this)), (1, .ref (mm_ad G a1)), (2, .int (mm_I a2))]) C.1 C.2.1 dX7_placeOfNext_46 rfl hl (by decide) rfl (fun ls hl => ?_)
      exact hw  _ _ _ w (lv_sub hl [1, 2, 3, 0] rfl)
    · have hw := hw.2 hc
      exact hw  _ _ _ w (lv_sub hl [1, 2] rfl)
theorem mb_31 : (Int8.ofInt 31).toInt32 = mm_I 31 := by decide
def wp_X7_emptiest (this : Nat) (s0 : mm_M) (post : Int → mm_M → Prop) : Prop :=
  ∀ (L7 : Int → Int → Int → mm_M → Prop), 
  (∀ (v1 : Int) (v2 : Int) (v3 : Int) (s1 : mm_M), ((3 ≤ n32 v3 → post v1 s1) ∧ (¬ 3 ≤ n32 v3 → (wp_X7_deskOf this v3 s1 (fun r_5 s_4 => (r_5 = none → (∀ v3_7 : Int, v3_7 = v3 + 1 → L7 v1 v2 v3_7 s_4)) ∧ (∀ t_6 : Nat, r_5 = some t_6 → ((n32 v2 ≤ n32 (s_4 t_6 1) → (∀ v3_8 : Int, v3_8 = v3 + 1 → L7 v1 v2 v3_8 s_4)) ∧ (¬ n32 v2 ≤ n32 (s_4 t_6 1) → (∀ v2_9 : Int, v2_9 = s_4 t_6 1 → (∀ v1_10 : Int, v1_10 = v3 → (∀ v3_11 : Int, v3_11 = v3 + 1 → L7 v1_10 v2_9 v3_11 s_4)))))))))) → L7 v1 v2 v3 s1) →
  L7 0 31 0 s0
set_option maxRecDepth 100000 in
set_option maxHeartbeats 4000000 in
theorem c_X7_emptiest (l : Launch) (G : mm_G) (this : Nat) (h0 : mm_ok this 17 0) (s0 : mm_M) (post : Int → mm_M → Prop) (hw : wp_X7_emptiest this s0 post) : Met l yX7_emptiest (mm_wm yX7_emptiest cX7_emptiest 5 (some .int)) (mm_rm 3) (va_Pc [.ref (mm_ad G this)] (mm_pre G s0)) (mm_Qi G post) 0 0 (mm_A G) := by
  refine mm_met (own := RX7) (by decide) rfl (Nat.le_of_ble_eq_true rfl) ?_
  intro p e s m args below meth c C hr hk
  unfold wp_X7_emptiest at hw
  have hw := hw (fun (v1 : Int) (v2 : Int) (v3 : Int) (u : mm_M) => mm_X p l e (mm_rm 3) s m args below meth c (MQ below (mm_Qi G post) args s 0 0 (mm_A G)) G (mm_A G) 5 7 [(0, .ref (mm_ad G this)), (1, .int (mm_I v1)), (2, .int (mm_I v2)), (3, .int (mm_I v3))] [] u)
  have hw := hw (by
    intro v1 v2 v3 s1 hw  H locs ls w hl
    refine lv_iload_n (pc := 7) C.1 C.2.1 dX7_emptiest_7 rfl (lv_at hl 3 rfl) ?_
    refine lv_iconst (pc := 8) (v := mm_I 3) C.1 C.2.1 dX7_emptiest_8 rfl ?_
    refine g_icmp_ge (pc := 9) (tgt := 47) C rfl mn_3 dX7_emptiest_9 (by decide) (fun hc => ?_) (fun hc => ?_)
    · have hw := hw.1 hc
      refine lv_iload_n (pc := 47) C.1 C.2.1 dX7_emptiest_47 rfl (lv_at hl 1 rfl) ?_
      exact g_iret (pc := 48) C w hr hk hw dX7_emptiest_48
    · have hw := hw.2 hc
      refine lv_aload_n (pc := 12) C.1 C.2.1 dX7_emptiest_12 rfl (lv_at hl 0 rfl) ?_
      refine lv_iload_n (pc := 13) C.1 C.2.1 dX7_emptiest_13 rfl (lv_at hl 3 rfl) ?_
      refine g_callq (pc := 14) w (mm_runV (ci := 7) (q := (RX7, TX7, 9)) (As := [.int (mm_I v3)]) (rest := []) C w (c_X7_deskOf l G this v3 h0 s1 _ hw) h0 rfl rfl cv_X7_deskOf ml_X7_104 ⟨Nat.le_of_ble_eq_true rfl, Nat.le_of_ble_eq_true rfl⟩ ⟨Nat.le_of_ble_eq_true rfl, Nat.le_of_ble_eq_true rfl⟩ rfl hl.1 rfl (Nat.le_of_ble_eq_true rfl) dX7_emptiest_14) (fun s_4 H locs hw w => ?_) (fun t_6 s_4 H locs ht_6 hw w => ?_)
      · have hw := hw.1 rfl
        refine lv_astoreN (pc := 17) (lv' := [(4, .null), (0, .ref (mm_ad G this)), (1, .int (mm_I v1)), (2, .int (mm_I v2)), (3, .int (mm_I v3))]) C.1 C.2.1 dX7_emptiest_17 hl (by decide) rfl (fun ls hl => ?_)
        refine lv_aloadN (pc := 19) C.1 C.2.1 dX7_emptiest_19 (lv_at hl 0 rfl) ?_
        refine lv_ifnullN (pc := 21) (tgt := 41) C.1 C.2.1 dX7_emptiest_21 (by decide) ?_
        refine g_iinc (pc := 41) (k := 4) C dX7_emptiest_41 hl rfl (by decide) (fun v3_7 ev3_7 ls hl => ?_)
        have hw := hw v3_7 ev3_7
        have hl : lv_has ls 5 [(3, .int (mm_I v3_7)), (4, .null), (0, .ref (mm_ad G this)), (1, .int (mm_I v1)), (2, .int (mm_I v2))] := hl
        refine lv_goto (pc := 44) (tgt := 7) C.1 C.2.1 dX7_emptiest_44 (by decide) ?_
        exact hw  _ _ _ w (lv_sub hl [2, 3, 4, 0] rfl)
      · have hw := hw.2 t_6 rfl
        refine lv_astore (pc := 17) (lv' := [(4, .ref (mm_ad G t_6)), (0, .ref (mm_ad G this)), (1, .int (mm_I v1)), (2, .int (mm_I v2)), (3, .int (mm_I v3))]) C.1 C.2.1 dX7_emptiest_17 hl (by decide) rfl (fun ls hl => ?_)
        refine lv_aload (pc := 19) C.1 C.2.1 dX7_emptiest_19 (lv_at hl 0 rfl) ?_
        refine lv_ifnull (pc := 21) C.1 C.2.1 dX7_emptiest_21 ?_
        refine lv_aload (pc := 24) C.1 C.2.1 dX7_emptiest_24 (lv_at hl 0 rfl) ?_
        refine g_getiN (pc := 26) C w ht_6 ff_X2_1 lk_X7_172 dX7_emptiest_26 ?_
        refine lv_iload_n (pc := 29) C.1 C.2.1 dX7_emptiest_29 rfl (lv_at hl 3 rfl) ?_
        refine g_icmp_ge (pc := 30) (tgt := 41) C rfl rfl dX7_emptiest_30 (by decide) (fun hc => ?_) (fun hc => ?_)
        · have hw := hw.1 hc
          refine g_iinc (pc := 41) (k := 4) C dX7_emptiest_41 hl rfl (by decide) (fun v3_8 ev3_8 ls hl => ?_)
          have hw := hw v3_8 ev3_8
          have hl : lv_has ls 5 [(3, .int (mm_I v3_8)), (4, .ref (mm_ad G t_6)), (0, .ref (mm_ad G this)), (1, .int (mm_I v1)), (2, .int (mm_I v2))] := hl
          refine lv_goto (pc := 44) (tgt := 7) C.1 C.2.1 dX7_emptiest_44 (by decide) ?_
          exact hw  _ _ _ w (lv_sub hl [2, 3, 4, 0] rfl)
        · have hw := hw.2 hc
          refine lv_aload (pc := 33) C.1 C.2.1 dX7_emptiest_33 (lv_at hl 0 rfl) ?_
          refine g_getiN (pc := 35) C w ht_6 ff_X2_1 lk_X7_172 dX7_emptiest_35 ?_
          refine g_istore_n (pc := 38) C dX7_emptiest_38 rfl hl (by decide) (fun v2_9 ev2_9 ls hl => ?_)
          have hw := hw v2_9 ev2_9
          have hl : lv_has ls 5 [(2, .int (mm_I v2_9)), (4, .ref (mm_ad G t_6)), (0, .ref (mm_ad G this)), (1, .int (mm_I v1)), (3, .int (mm_I v3))] := hl
          refine lv_iload_n (pc := 39) C.1 C.2.1 dX7_emptiest_39 rfl (lv_at hl 4 rfl) ?_
          refine g_istore_n (pc := 40) C dX7_emptiest_40 rfl hl (by decide) (fun v1_10 ev1_10 ls hl => ?_)
          have hw := hw v1_10 ev1_10
          have hl : lv_has ls 5 [(1, .int (mm_I v1_10)), (2, .int (mm_I v2_9)), (4, .ref (mm_ad G t_6)), (0, .ref (mm_ad G this)), (3, .int (mm_I v3))] := hl
          refine g_iinc (pc := 41) (k := 4) C dX7_emptiest_41 hl rfl (by decide) (fun v3_11 ev3_11 ls hl => ?_)
          have hw := hw v3_11 ev3_11
          have hl : lv_has ls 5 [(3, .int (mm_I v3_11)), (1, .int (mm_I v1_10)), (2, .int (mm_I v2_9)), (4, .ref (mm_ad G t_6)), (0, .ref (mm_ad G this))] := hl
          refine lv_goto (pc := 44) (tgt := 7) C.1 C.2.1 dX7_emptiest_44 (by decide) ?_
          exact hw  _ _ _ w (lv_sub hl [4, 1, 2, 0] rfl))
  intro H locs ls w hl
  have hl : lv_has ls 5 [(0, .ref (mm_ad G this))] := hl
  refine lv_iconst (pc := 0) (v := mm_I 0) C.1 C.2.1 dX7_emptiest_0 rfl ?_
  refine lv_istore_n (pc := 1) (lv' := [(1, .int (mm_I 0)), (0, .ref (mm_ad G this))]) C.1 C.2.1 dX7_emptiest_1 rfl hl (by decide) rfl (fun ls hl => ?_)
  refine lv_bipush (pc := 2) C.1 C.2.1 dX7_emptiest_2 mb_31 ?_
  refine lv_istore_n (pc := 4) (lv' := [(2, .int (mm_I 31)), (1, .int (mm_I 0)), (0, .ref (mm_ad G this))]) C.1 C.2.1 dX7_emptiest_4 rfl hl (by decide) rfl (fun ls hl => ?_)
  refine lv_iconst (pc := 5) (v := mm_I 0) C.1 C.2.1 dX7_emptiest_5 rfl ?_
  refine lv_istore_n (pc := 6) (lv' := [(3, .int (mm_I 0)), (2, .int (mm_I 31)), (1, .int (mm_I 0)), (0, .ref (mm_ad G this))]) C.1 C.2.1 dX7_emptiest_6 rfl hl (by decide) rfl (fun ls hl => ?_)
  exact hw  _ _ _ w (lv_sub hl [3, 2, 1, 0] rfl)
def wp_X7_isEmptyAt (this : Nat) (a1 : Int) (s0 : mm_M) (post : Int → mm_M → Prop) : Prop :=
  (wp_X7_deskOf this a1 s0 (fun r_2 s_1 => (r_2 = none → post 0 s_1) ∧ (∀ t_3 : Nat, r_2 = some t_3 → ((¬ n32 (s_1 t_3 1) = 0 → post 0 s_1) ∧ (n32 (s_1 t_3 1) = 0 → post 1 s_1)))))
set_option maxRecDepth 100000 in
set_option maxHeartbeats 4000000 in
theorem c_X7_isEmptyAt (l : Launch) (G : mm_G) (this : Nat) (a1 : Int) (h0 : mm_ok this 17 0) (s0 : mm_M) (post : Int → mm_M → Prop) (hw : wp_X7_isEmptyAt this a1 s0 post) : Met l yX7_isEmptyAt (mm_wm yX7_isEmptyAt cX7_isEmptyAt 3 (some .boolean)) (mm_rm 3) (va_Pc [.ref (mm_ad G this), .int (mm_I a1)] (mm_pre G s0)) (mm_Qi G post) 0 0 (mm_A G) := by
  refine mm_met (own := RX7) (by decide) rfl (Nat.le_of_ble_eq_true rfl) ?_
  intro p e s m args below meth c C hr hk
  unfold wp_X7_isEmptyAt at hw
  intro H locs ls w hl
  have hl : lv_has ls 3 [(0, .ref (mm_ad G this)), (1, .int (mm_I a1))] := hl
  refine lv_aload_n (pc := 0) C.1 C.2.1 dX7_isEmptyAt_0 rfl (lv_at hl 0 rfl) ?_
  refine lv_iload_n (pc := 1) C.1 C.2.1 dX7_isEmptyAt_1 rfl (lv_at hl 1 rfl) ?_
  refine g_callq (pc := 2) w (mm_runV (ci := 7) (q := (RX7, TX7, 9)) (As := [.int (mm_I a1)]) (rest := []) C w (c_X7_deskOf l G this a1 h0 s0 _ hw) h0 rfl rfl cv_X7_deskOf ml_X7_104 ⟨Nat.le_of_ble_eq_true rfl, Nat.le_of_ble_eq_true rfl⟩ ⟨Nat.le_of_ble_eq_true rfl, Nat.le_of_ble_eq_true rfl⟩ rfl hl.1 rfl (Nat.le_of_ble_eq_true rfl) dX7_isEmptyAt_2) (fun s_1 H locs hw w => ?_) (fun t_3 s_1 H locs ht_3 hw w => ?_)
  · have hw := hw.1 rfl
    refine lv_astore_nN (pc := 5) (lv' := [(2, .null), (0, .ref (mm_ad G this)), (1, .int (mm_I a1))]) C.1 C.2.1 dX7_isEmptyAt_5 rfl hl (by decide) rfl (fun ls hl => ?_)
    refine lv_aload_nN (pc := 6) C.1 C.2.1 dX7_isEmptyAt_6 rfl (lv_at hl 0 rfl) ?_
    refine lv_ifnullN (pc := 7) (tgt := 21) C.1 C.2.1 dX7_isEmptyAt_7 (by decide) ?_
    refine lv_iconst (pc := 21) (v := mm_I 0) C.1 C.2.1 dX7_isEmptyAt_21 rfl ?_
    exact g_zret (pc := 22) C w hr hk (by decide) hw dX7_isEmptyAt_22
  · have hw := hw.2 t_3 rfl
    refine lv_astore_n (pc := 5) (lv' := [(2, .ref (mm_ad G t_3)), (0, .ref (mm_ad G this)), (1, .int (mm_I a1))]) C.1 C.2.1 dX7_isEmptyAt_5 rfl hl (by decide) rfl (fun ls hl => ?_)
    refine lv_aload_n (pc := 6) C.1 C.2.1 dX7_isEmptyAt_6 rfl (lv_at hl 0 rfl) ?_
    refine lv_ifnull (pc := 7) C.1 C.2.1 dX7_isEmptyAt_7 ?_
    refine lv_aload_n (pc := 10) C.1 C.2.1 dX7_isEmptyAt_10 rfl (lv_at hl 0 rfl) ?_
    refine g_getiN (pc := 11) C w ht_3 ff_X2_1 lk_X7_172 dX7_isEmptyAt_11 ?_
    refine g_if_ne (pc := 14) (tgt := 21) C rfl dX7_isEmptyAt_14 (by decide) (fun hc => ?_) (fun hc => ?_)
    · have hw := hw.1 hc
      refine lv_iconst (pc := 21) (v := mm_I 0) C.1 C.2.1 dX7_isEmptyAt_21 rfl ?_
      exact g_zret (pc := 22) C w hr hk (by decide) hw dX7_isEmptyAt_22
    · have hw := hw.2 hc
      refine lv_iconst (pc := 17) (v := mm_I 1) C.1 C.2.1 dX7_isEmptyAt_17 rfl ?_
      refine lv_goto (pc := 18) (tgt := 22) C.1 C.2.1 dX7_isEmptyAt_18 (by decide) ?_
      exact g_zret (pc := 22) C w hr hk (by decide) hw dX7_isEmptyAt_22
theorem lk_X7_217 : Cond.fieldLinkNest RX7 217 "LastServed$Town" "sorts" "I" "LastServed" ∈ mm_nest := by decide +kernel
theorem cv_X7_drawLot : mm_V yX7_drawLot cX7_drawLot 2 (some .int) 1 := ⟨(mt_4 151 rfl rfl), (mt_4 150 rfl rfl), (mp_2 9 rfl rfl), (mt_1 6 rfl rfl), by decide, by decide, by decide +kernel⟩
theorem ml_X7_220 : Cond.methodLink RX7 220 yX7_drawLot ∈ mm_ws := (mt_4 148 rfl rfl)
theorem cv_X7_emptiest : mm_V yX7_emptiest cX7_emptiest 5 (some .int) 0 := ⟨(mt_4 157 rfl rfl), (mt_4 156 rfl rfl), (mp_2 10 rfl rfl), (mt_1 6 rfl rfl), by decide, by decide, by decide +kernel⟩
theorem ml_X7_223 : Cond.methodLink RX7 223 yX7_emptiest ∈ mm_ws := (mt_4 154 rfl rfl)
theorem cv_X7_isEmptyAt : mm_V yX7_isEmptyAt cX7_isEmptyAt 3 (some .boolean) 1 := ⟨(mt_4 161 rfl rfl), (mt_4 160 rfl rfl), (mp_2 11 rfl rfl), (mt_1 6 rfl rfl), by decide, by decide, by decide +kernel⟩
theorem ml_X7_226 : Cond.methodLink RX7 226 yX7_isEmptyAt ∈ mm_ws := (mt_4 158 rfl rfl)
theorem cv_X7_arrive : mm_V yX7_arrive cX7_arrive 6 (some .int) 3 := ⟨(mt_3 216 rfl rfl), (mt_3 214 rfl rfl), (mt_3 215 rfl rfl), (mt_1 6 rfl rfl), by decide, by decide, by decide +kernel⟩
theorem ml_X7_229 : Cond.methodLink RX7 229 yX7_arrive ∈ mm_ws := (mt_4 162 rfl rfl)
def wp_X7_newOnesCome (this : Nat) (s0 : mm_M) (post : mm_M → Prop) : Prop :=
  ∀ (L2 : Int → mm_M → Prop), ∀ (L62 : Int → Int → Int → mm_M → Prop), 
  (∀ (v1 : Int) (s1 : mm_M), ((n32 (s1 (mm_rt this 0) 5) ≤ n32 v1 → post s1) ∧ (¬ n32 (s1 (mm_rt this 0) 5) ≤ n32 v1 → (wp_X7_drawLot this 16 s1 (fun r_3 s_2 => (wp_X9_ofSort (mm_rt this 0) v1 0 s_2 (fun r_5 s_4 => ((n32 r_5 ≤ n32 r_3 → (∀ v1_6 : Int, v1_6 = v1 + 1 → L2 v1_6 s_4)) ∧ (¬ n32 r_5 ≤ n32 r_3 → (wp_X7_emptiest this s_4 (fun r_8 s_7 => (∀ v2_9 : Int, v2_9 = r_8 → (wp_X9_ofSort (mm_rt this 0) v1 5 s_7 (fun r_11 s_10 => ((¬ n32 r_11 = 2 → L62 v1 v2_9 1 s_10) ∧ (n32 r_11 = 2 → (wp_X7_isEmptyAt this v2_9 s_10 (fun r_13 s_12 => ((n32 r_13 = 0 → L62 v1 v2_9 0 s_12) ∧ (¬ n32 r_13 = 0 → L62 v1 v2_9 1 s_12))))))))))))))))))) → L2 v1 s1) →
  (∀ (v1 : Int) (v2 : Int) (q0 : Int) (s1 : mm_M), (∀ v3_14 : Int, v3_14 = q0 → (wp_X7_arrive this v1 v2 v3_14 s1 (fun r_16 s_15 => (∀ v1_17 : Int, v1_17 = v1 + 1 → L2 v1_17 s_15)))) → L62 v1 v2 q0 s1) →
  L2 0 s0
set_option maxRecDepth 100000 in
set_option maxHeartbeats 4000000 in
theorem c_X7_newOnesCome (l : Launch) (G : mm_G) (this : Nat) (h0 : mm_ok this 17 0) (s0 : mm_M) (post : mm_M → Prop) (hw : wp_X7_newOnesCome this s0 post) : Met l yX7_newOnesCome (mm_wm yX7_newOnesCome cX7_newOnesCome 4 none) (mm_rm 5) (va_Pc [.ref (mm_ad G this)] (mm_pre G s0)) (mm_Qv G post) 0 0 (mm_A G) := by
  refine mm_met (own := RX7) (by decide) rfl (Nat.le_of_ble_eq_true rfl) ?_
  intro p e s m args below meth c C hr hk
  unfold wp_X7_newOnesCome at hw
  have hw := hw (fun (v1 : Int) (u : mm_M) => mm_X p l e (mm_rm 5) s m args below meth c (MQ below (mm_Qv G post) args s 0 0 (mm_A G)) G (mm_A G) 4 2 [(0, .ref (mm_ad G this)), (1, .int (mm_I v1))] [] u)
  have hw := hw (fun (v1 : Int) (v2 : Int) (q0 : Int) (u : mm_M) => mm_X p l e (mm_rm 5) s m args below meth c (MQ below (mm_Qv G post) args s 0 0 (mm_A G)) G (mm_A G) 4 62 [(0, .ref (mm_ad G this)), (1, .int (mm_I v1)), (2, .int (mm_I v2))] [.int (mm_I q0)] u)
  have hw := hw (by
    intro v1 s1 hw  H locs ls w hl
    refine lv_iload_n (pc := 2) C.1 C.2.1 dX7_newOnesCome_2 rfl (lv_at hl 1 rfl) ?_
    refine lv_aload_n (pc := 3) C.1 C.2.1 dX7_newOnesCome_3 rfl (lv_at hl 0 rfl) ?_
    refine g_getr (pc := 4) C w h0 ff_X7_0 lk_X7_34 dX7_newOnesCome_4 ?_
    refine g_getiN (pc := 7) C w (ro_X7_0 h0) ff_X9_5 lk_X7_217 dX7_newOnesCome_7 ?_
    refine g_icmp_ge (pc := 10) (tgt := 77) C rfl rfl dX7_newOnesCome_10 (by decide) (fun hc => ?_) (fun hc => ?_)
    · have hw := hw.1 hc
      exact g_vret (pc := 77) C w hr hk hw dX7_newOnesCome_77
    · have hw := hw.2 hc
      refine lv_aload_n (pc := 13) C.1 C.2.1 dX7_newOnesCome_13 rfl (lv_at hl 0 rfl) ?_
      refine lv_bipush (pc := 14) C.1 C.2.1 dX7_newOnesCome_14 mb_16 ?_
      refine g_calli (pc := 16) w (mm_runV (ci := 7) (q := (RX7, TX7, 9)) (As := [.int (mm_I 16)]) (rest := []) C w (c_X7_drawLot l G this 16 h0 s1 _ hw) h0 rfl rfl cv_X7_drawLot ml_X7_220 ⟨Nat.le_of_ble_eq_true rfl, Nat.le_of_ble_eq_true rfl⟩ ⟨Nat.le_of_ble_eq_true rfl, Nat.le_of_ble_eq_true rfl⟩ rfl hl.1 rfl (Nat.le_of_ble_eq_true rfl) dX7_newOnesCome_16) (fun r_3 s_2 H locs hw w => ?_)
      refine lv_aload_n (pc := 19) C.1 C.2.1 dX7_newOnesCome_19 rfl (lv_at hl 0 rfl) ?_
      refine g_getr (pc := 20) C w h0 ff_X7_0 lk_X7_34 dX7_newOnesCome_20 ?_
      refine lv_iload_n (pc := 23) C.1 C.2.1 dX7_newOnesCome_23 rfl (lv_at hl 1 rfl) ?_
      refine lv_iconst (pc := 24) (v := mm_I 0) C.1 C.2.1 dX7_newOnesCome_24 rfl ?_
      refine g_calli (pc := 25) w (mm_runV (ci := 9) (q := (RX9, TX9, 9)) (As := [.int (mm_I v1), .int (mm_I 0)]) (rest := [.int (mm_I r_3)]) C w (c_X9_ofSort l G (mm_rt this 0) v1 0 (ro_X7_0 h0) s_2 _ hw) (ro_X7_0 h0) rfl rfl cv_X9_ofSort ml_X7_191 ⟨Nat.le_of_ble_eq_true rfl, Nat.le_of_ble_eq_true rfl⟩ ⟨Nat.le_of_ble_eq_true rfl, Nat.le_of_ble_eq_true rfl⟩ rfl hl.1 rfl (Nat.le_of_ble_eq_true rfl) dX7_newOnesCome_25) (fun r_5 s_4 H locs hw w => ?_)
      refine g_icmp_ge (pc := 28) (tgt := 71) C rfl rfl dX7_newOnesCome_28 (by decide) (fun hc => ?_) (fun hc => ?_)
      · have hw := hw.1 hc
        refine g_iinc (pc := 71) (k := 1) C dX7_newOnesCome_71 hl rfl (by decide) (fun v1_6 ev1_6 ls hl => ?_)
        have hw := hw v1_6 ev1_6
        have hl : lv_has ls 4 [(1, .int (mm_I v1_6)), (0, .ref (mm_ad G this))] := hl
        refine lv_goto (pc := 74) (tgt := 2) C.1 C.2.1 dX7_newOnesCome_74 (by decide) ?_
        exact hw  _ _ _ w (lv_sub hl [1, 0] rfl)
      · have hw := hw.2 hc
        refine lv_aload_n (pc := 31) C.1 C.2.1 dX7_newOnesCome_31 rfl (lv_at hl 0 rfl) ?_
        refine g_calli (pc := 32) w (mm_runV (ci := 7) (q := (RX7, TX7, 9)) (As := []) (rest := []) C w (c_X7_emptiest l G this h0 s_4 _ hw) h0 rfl rfl cv_X7_emptiest ml_X7_223 ⟨Nat.le_of_ble_eq_true rfl, Nat.le_of_ble_eq_true rfl⟩ ⟨Nat.le_of_ble_eq_true rfl, Nat.le_of_ble_eq_true rfl⟩ rfl hl.1 rfl (Nat.le_of_ble_eq_true rfl) dX7_newOnesCome_32) (fun r_8 s_7 H locs hw w => ?_)
        refine g_istore_n (pc := 35) C dX7_newOnesCome_35 rfl hl (by decide) (fun v2_9 ev2_9 ls hl => ?_)
        have hw := hw v2_9 ev2_9
        have hl : lv_has ls 4 [(2, .int (mm_I v2_9)), (0, .ref (mm_ad G this)), (1, .int (mm_I v1))] := hl
        refine lv_aload_n (pc := 36) C.1 C.2.1 dX7_newOnesCome_36 rfl (lv_at hl 1 rfl) ?_
        refine g_getr (pc := 37) C w h0 ff_X7_0 lk_X7_34 dX7_newOnesCome_37 ?_
        refine lv_iload_n (pc := 40) C.1 C.2.1 dX7_newOnesCome_40 rfl (lv_at hl 2 rfl) ?_
        refine lv_iconst (pc := 41) (v := mm_I 5) C.1 C.2.1 dX7_newOnesCome_41 rfl ?_
        refine g_calli (pc := 42) w (mm_runV (ci := 9) (q := (RX9, TX9, 9)) (As := [.int (mm_I v1), .int (mm_I 5)]) (rest := []) C w (c_X9_ofSort l G (mm_rt this 0) v1 5 (ro_X7_0 h0) s_7 _ hw) (ro_X7_0 h0) rfl rfl cv_X9_ofSort ml_X7_191 ⟨Nat.le_of_ble_eq_true rfl, Nat.le_of_ble_eq_true rfl⟩ ⟨Nat.le_of_ble_eq_true rfl, Nat.le_of_ble_eq_true rfl⟩ rfl hl.1 rfl (Nat.le_of_ble_eq_true rfl) dX7_newOnesCome_42) (fun r_11 s_10 H locs hw w => ?_)
        refine lv_iconst (pc := 45) (v := mm_I 2) C.1 C.2.1 dX7_newOnesCome_45 rfl ?_
        refine g_icmp_ne (pc := 46) (tgt := 57) C rfl mn_2 dX7_newOnesCome_46 (by decide) (fun hc => ?_) (fun hc => ?_)
        · have hw := hw.1 hc
          refine lv_iconst (pc := 57) (v := mm_I 1) C.1 C.2.1 dX7_newOnesCome_57 rfl ?_
          refine lv_goto (pc := 58) (tgt := 62) C.1 C.2.1 dX7_newOnesCome_58 (by decide) ?_
          exact hw  _ _ _ w (lv_sub hl [1, 2, 0] rfl)
        · have hw := hw.2 hc
          refine lv_aload_n (pc := 49) C.1 C.2.1 dX7_newOnesCome_49 rfl (lv_at hl 1 rfl) ?_
          refine lv_iload_n (pc := 50) C.1 C.2.1 dX7_newOnesCome_50 rfl (lv_at hl 0 rfl) ?_
          refine g_calli (pc := 51) w (mm_runV (ci := 7) (q := (RX7, TX7, 9)) (As := [.int (mm_I v2_9)]) (rest := []) C w (c_X7_isEmptyAt l G this v2_9 h0 s_10 _ hw) h0 rfl rfl cv_X7_isEmptyAt ml_X7_226 ⟨Nat.le_of_ble_eq_true rfl, Nat.le_of_ble_eq_true rfl⟩ ⟨Nat.le_of_ble_eq_true rfl, Nat.le_of_ble_eq_true rfl⟩ rfl hl.1 rfl (Nat.le_of_ble_eq_true rfl) dX7_newOnesCome_51) (fun r_13 s_12 H locs hw w => ?_)
          refine g_if_eq (pc := 54) (tgt := 61) C rfl dX7_newOnesCome_54 (by decide) (fun hc => ?_) (fun hc => ?_)
          · have hw := hw.1 hc
            refine lv_iconst (pc := 61) (v := mm_I 0) C.1 C.2.1 dX7_newOnesCome_61 rfl ?_
            exact hw  _ _ _ w (lv_sub hl [1, 2, 0] rfl)
          · have hw := hw.2 hc
            refine lv_iconst (pc := 57) (v := mm_I 1) C.1 C.2.1 dX7_newOnesCome_57 rfl ?_
            refine lv_goto (pc := 58) (tgt := 62) C.1 C.2.1 dX7_newOnesCome_58 (by decide) ?_
            exact hw  _ _ _ w (lv_sub hl [1, 2, 0] rfl))
  have hw := hw (by
    intro v1 v2 q0 s1 hw  H locs ls w hl
    refine g_istore_n (pc := 62) C dX7_newOnesCome_62 rfl hl (by decide) (fun v3_14 ev3_14 ls hl => ?_)
    have hw := hw v3_14 ev3_14
    have hl : lv_has ls 4 [(3, .int (mm_I v3_14)), (0, .ref (mm_ad G this)), (1, .int (mm_I v1)), (2, .int (mm_I v2))] := hl
    refine lv_aload_n (pc := 63) C.1 C.2.1 dX7_newOnesCome_63 rfl (lv_at hl 1 rfl) ?_
    refine lv_iload_n (pc := 64) C.1 C.2.1 dX7_newOnesCome_64 rfl (lv_at hl 2 rfl) ?_
    refine lv_iload_n (pc := 65) C.1 C.2.1 dX7_newOnesCome_65 rfl (lv_at hl 3 rfl) ?_
    refine lv_iload_n (pc := 66) C.1 C.2.1 dX7_newOnesCome_66 rfl (lv_at hl 0 rfl) ?_
    refine g_calli (pc := 67) w (mm_runV (ci := 7) (q := (RX7, TX7, 9)) (As := [.int (mm_I v1), .int (mm_I v2), .int (mm_I v3_14)]) (rest := []) C w (c_X7_arrive l G this v1 v2 v3_14 h0 s1 _ hw) h0 rfl rfl cv_X7_arrive ml_X7_229 ⟨Nat.le_of_ble_eq_true rfl, Nat.le_of_ble_eq_true rfl⟩ ⟨Nat.le_of_ble_eq_true rfl, Nat.le_of_ble_eq_true rfl⟩ rfl hl.1 rfl (Nat.le_of_ble_eq_true rfl) dX7_newOnesCome_67) (fun r_16 s_15 H locs hw w => ?_)
    refine lv_pop (pc := 70) C.1 C.2.1 dX7_newOnesCome_70 rfl ?_
    refine g_iinc (pc := 71) (k := 2) C dX7_newOnesCome_71 hl rfl (by decide) (fun v1_17 ev1_17 ls hl => ?_)
    have hw := hw v1_17 ev1_17
    have hl : lv_has ls 4 [(1, .int (mm_I v1_17)), (3, .int (mm_I v3_14)), (0, .ref (mm_ad G this)), (2, .int (mm_I v2))] := hl
    refine lv_goto (pc := 74) (tgt := 2) C.1 C.2.1 dX7_newOnesCome_74 (by decide) ?_
    exact hw  _ _ _ w (lv_sub hl [2, 0] rfl))
  intro H locs ls w hl
  have hl : lv_has ls 4 [(0, .ref (mm_ad G this))] := hl
  refine lv_iconst (pc := 0) (v := mm_I 0) C.1 C.2.1 dX7_newOnesCome_0 rfl ?_
  refine lv_istore_n (pc := 1) (lv' := [(1, .int (mm_I 0)), (0, .ref (mm_ad G this))]) C.1 C.2.1 dX7_newOnesCome_1 rfl hl (by decide) rfl (fun ls hl => ?_)
  exact hw  _ _ _ w (lv_sub hl [1, 0] rfl)
def wp_X7_thoseOutsideComeIn (this : Nat) (s0 : mm_M) (post : mm_M → Prop) : Prop :=
  ∀ (L2 : Int → mm_M → Prop), ∀ (L45 : Int → Nat → Int → mm_M → Prop), ∀ (L70 : Int → Nat → Int → Int → mm_M → Prop), ∀ (L81 : Int → Nat → mm_M → Prop), 
  (∀ (v1 : Int) (s1 : mm_M), ((30 ≤ n32 v1 → post s1) ∧ (¬ 30 ≤ n32 v1 → (wp_X7_whoIsThere this v1 s1 (fun r_3 s_2 => (r_3 = none → (∀ v1_5 : Int, v1_5 = v1 + 1 → L2 v1_5 s_2)) ∧ (∀ t_4 : Nat, r_3 = some t_4 → ((¬ n32 (s_2 t_4 0) = 2 → L45 v1 t_4 0 s_2) ∧ (n32 (s_2 t_4 0) = 2 → (wp_X7_isEmptyAt this (s_2 t_4 2) s_2 (fun r_7 s_6 => ((n32 r_7 = 0 → L45 v1 t_4 0 s_6) ∧ (¬ n32 r_7 = 0 → L45 v1 t_4 1 s_6))))))))))) → L2 v1 s1) →
  (∀ (v1 : Int) (t2 : Nat) (q0 : Int) (s1 : mm_M), (∀ v3_8 : Int, v3_8 = q0 → ((¬ n32 (s1 t2 0) = 1 → L70 v1 t2 v3_8 0 s1) ∧ (n32 (s1 t2 0) = 1 → ((n32 (s1 this 7) < n32 (s1 t2 6) → L70 v1 t2 v3_8 0 s1) ∧ (¬ n32 (s1 this 7) < n32 (s1 t2 6) → L70 v1 t2 v3_8 1 s1))))) → L45 v1 t2 q0 s1) →
  (∀ (v1 : Int) (t2 : Nat) (v3 : Int) (q0 : Int) (s1 : mm_M), (∀ v4_9 : Int, v4_9 = q0 → ((¬ n32 v3 = 0 → L81 v1 t2 s1) ∧ (n32 v3 = 0 → ((n32 v4_9 = 0 → (∀ v1_10 : Int, v1_10 = v1 + 1 → L2 v1_10 s1)) ∧ (¬ n32 v4_9 = 0 → L81 v1 t2 s1))))) → L70 v1 t2 v3 q0 s1) →
  (∀ (v1 : Int) (t2 : Nat) (s1 : mm_M), (wp_X7_comeIn this v1 t2 s1 (fun s_11 => (∀ v1_13 : Int, v1_13 = v1 + 1 → L2 v1_13 s_11))) → L81 v1 t2 s1) →
  L2 0 s0
set_option maxRecDepth 100000 in
set_option maxHeartbeats 4000000 in
theorem c_X7_thoseOutsideComeIn (l : Launch) (G : mm_G) (this : Nat) (h0 : mm_ok this 17 0) (s0 : mm_M) (post : mm_M → Prop) (hw : wp_X7_thoseOutsideComeIn this s0 post) : Met l yX7_thoseOutsideComeIn (mm_wm yX7_thoseOutsideComeIn cX7_thoseOutsideComeIn 5 none) (mm_rm 4) (va_Pc [.ref (mm_ad G this)] (mm_pre G s0)) (mm_Qv G post) 0 0 (mm_A G) := by
  refine mm_met (own := RX7) (by decide) rfl (Nat.le_of_ble_eq_true rfl) ?_
  intro p e s m args below meth c C hr hk
  unfold wp_X7_thoseOutsideComeIn at hw
  have hw := hw (fun (v1 : Int) (u : mm_M) => mm_X p l e (mm_rm 4) s m args below meth c (MQ below (mm_Qv G post) args s 0 0 (mm_A G)) G (mm_A G) 5 2 [(0, .ref (mm_ad G this)), (1, .int (mm_I v1))] [] u)
  have hw := hw (fun (v1 : Int) (t2 : Nat) (q0 : Int) (u : mm_M) => mm_ok t2 15 0 → mm_X p l e (mm_rm 4) s m args below meth c (MQ below (mm_Qv G post) args s 0 0 (mm_A G)) G (mm_A G) 5 45 [(0, .ref (mm_ad G this)), (1, .int (mm_I v1)), (2, .ref (mm_ad G t2))] [.int (mm_I q0)] u)
  have hw := hw (fun (v1 : Int) (t2 : Nat) (v3 : Int) (q0 : Int) (u : mm_M) => mm_ok t2 15 0 → mm_X p l e (mm_rm 4) s m args below meth c (MQ below (mm_Qv G post) args s 0 0 (mm_A G)) G (mm_A G) 5 70 [(0, .ref (mm_ad G this)), (1, .int (mm_I v1)), (2, .ref (mm_ad G t2)), (3, .int (mm_I v3))] [.int (mm_I q0)] u)
  have hw := hw (fun (v1 : Int) (t2 : Nat) (u : mm_M) => mm_ok t2 15 0 → mm_X p l e (mm_rm 4) s m args below meth c (MQ below (mm_Qv G post) args s 0 0 (mm_A G)) G (mm_A G) 5 81 [(0, .ref (mm_ad G this)), (1, .int (mm_I v1)), (2, .ref (mm_ad G t2))] [] u)
  have hw := hw (by
    intro v1 s1 hw  H locs ls w hl
    refine lv_iload_n (pc := 2) C.1 C.2.1 dX7_thoseOutsideComeIn_2 rfl (lv_at hl 1 rfl) ?_
    refine lv_bipush (pc := 3) C.1 C.2.1 dX7_thoseOutsideComeIn_3 mb_30 ?_
    refine g_icmp_ge (pc := 5) (tgt := 93) C rfl mn_30 dX7_thoseOutsideComeIn_5 (by decide) (fun hc => ?_) (fun hc => ?_)
    · have hw := hw.1 hc
      exact g_vret (pc := 93) C w hr hk hw dX7_thoseOutsideComeIn_93
    · have hw := hw.2 hc
      refine lv_aload_n (pc := 8) C.1 C.2.1 dX7_thoseOutsideComeIn_8 rfl (lv_at hl 0 rfl) ?_
      refine lv_iload_n (pc := 9) C.1 C.2.1 dX7_thoseOutsideComeIn_9 rfl (lv_at hl 1 rfl) ?_
      refine g_callq (pc := 10) w (mm_runV (ci := 7) (q := (RX7, TX7, 9)) (As := [.int (mm_I v1)]) (rest := []) C w (c_X7_whoIsThere l G this v1 h0 s1 _ hw) h0 rfl rfl cv_X7_whoIsThere ml_X7_97 ⟨Nat.le_of_ble_eq_true rfl, Nat.le_of_ble_eq_true rfl⟩ ⟨Nat.le_of_ble_eq_true rfl, Nat.le_of_ble_eq_true rfl⟩ rfl hl.1 rfl (Nat.le_of_ble_eq_true rfl) dX7_thoseOutsideComeIn_10) (fun s_2 H locs hw w => ?_) (fun t_4 s_2 H locs ht_4 hw w => ?_)
      · have hw := hw.1 rfl
        refine lv_astore_nN (pc := 13) (lv' := [(2, .null), (0, .ref (mm_ad G this)), (1, .int (mm_I v1))]) C.1 C.2.1 dX7_thoseOutsideComeIn_13 rfl hl (by decide) rfl (fun ls hl => ?_)
        refine lv_aload_nN (pc := 14) C.1 C.2.1 dX7_thoseOutsideComeIn_14 rfl (lv_at hl 0 rfl) ?_
        refine lv_ifnonnullN (pc := 15) C.1 C.2.1 dX7_thoseOutsideComeIn_15 ?_
        refine lv_goto (pc := 18) (tgt := 87) C.1 C.2.1 dX7_thoseOutsideComeIn_18 (by decide) ?_
        refine g_iinc (pc := 87) (k := 2) C dX7_thoseOutsideComeIn_87 hl rfl (by decide) (fun v1_5 ev1_5 ls hl => ?_)
        have hw := hw v1_5 ev1_5
        have hl : lv_has ls 5 [(1, .int (mm_I v1_5)), (2, .null), (0, .ref (mm_ad G this))] := hl
        refine lv_goto (pc := 90) (tgt := 2) C.1 C.2.1 dX7_thoseOutsideComeIn_90 (by decide) ?_
        exact hw  _ _ _ w (lv_sub hl [2, 0] rfl)
      · have hw := hw.2 t_4 rfl
        refine lv_astore_n (pc := 13) (lv' := [(2, .ref (mm_ad G t_4)), (0, .ref (mm_ad G this)), (1, .int (mm_I v1))]) C.1 C.2.1 dX7_thoseOutsideComeIn_13 rfl hl (by decide) rfl (fun ls hl => ?_)
        refine lv_aload_n (pc := 14) C.1 C.2.1 dX7_thoseOutsideComeIn_14 rfl (lv_at hl 0 rfl) ?_
        refine lv_ifnonnull (pc := 15) (tgt := 21) C.1 C.2.1 dX7_thoseOutsideComeIn_15 (by decide) ?_
        refine lv_aload_n (pc := 21) C.1 C.2.1 dX7_thoseOutsideComeIn_21 rfl (lv_at hl 0 rfl) ?_
        refine g_getiN (pc := 22) C w ht_4 ff_X5_0 lk_X7_64 dX7_thoseOutsideComeIn_22 ?_
        refine lv_iconst (pc := 25) (v := mm_I 2) C.1 C.2.1 dX7_thoseOutsideComeIn_25 rfl ?_
        refine g_icmp_ne (pc := 26) (tgt := 44) C rfl mn_2 dX7_thoseOutsideComeIn_26 (by decide) (fun hc => ?_) (fun hc => ?_)
        · have hw := hw.1 hc
          refine lv_iconst (pc := 44) (v := mm_I 0) C.1 C.2.1 dX7_thoseOutsideComeIn_44 rfl ?_
          exact hw ht_4 _ _ _ w (lv_sub hl [1, 2, 0] rfl)
        · have hw := hw.2 hc
          refine lv_aload_n (pc := 29) C.1 C.2.1 dX7_thoseOutsideComeIn_29 rfl (lv_at hl 1 rfl) ?_
          refine lv_aload_n (pc := 30) C.1 C.2.1 dX7_thoseOutsideComeIn_30 rfl (lv_at hl 0 rfl) ?_
          refine g_getiN (pc := 31) C w ht_4 ff_X5_2 lk_X7_101 dX7_thoseOutsideComeIn_31 ?_
          refine g_calli (pc := 34) w (mm_runV (ci := 7) (q := (RX7, TX7, 9)) (As := [.int (mm_I (s_2 t_4 2))]) (rest := []) C w (c_X7_isEmptyAt l G this (s_2 t_4 2) h0 s_2 _ hw) h0 rfl rfl cv_X7_isEmptyAt ml_X7_226 ⟨Nat.le_of_ble_eq_true rfl, Nat.le_of_ble_eq_true rfl⟩ ⟨Nat.le_of_ble_eq_true rfl, Nat.le_of_ble_eq_true rfl⟩ rfl hl.1 rfl (Nat.le_of_ble_eq_true rfl) dX7_thoseOutsideComeIn_34) (fun r_7 s_6 H locs hw w => ?_)
          refine g_if_eq (pc := 37) (tgt := 44) C rfl dX7_thoseOutsideComeIn_37 (by decide) (fun hc => ?_) (fun hc => ?_)
          · have hw := hw.1 hc
            refine lv_iconst (pc := 44) (v := mm_I 0) C.1 C.2.1 dX7_thoseOutsideComeIn_44 rfl ?_
            exact hw ht_4 _ _ _ w (lv_sub hl [1, 2, 0] rfl)
          · have hw := hw.2 hc
            refine lv_iconst (pc := 40) (v := mm_I 1) C.1 C.2.1 dX7_thoseOutsideComeIn_40 rfl ?_
            refine lv_goto (pc := 41) (tgt := 45) C.1 C.2.1 dX7_thoseOutsideComeIn_41 (by decide) ?_
            exact hw ht_4 _ _ _ w (lv_sub hl [1, 2, 0] rfl))
  have hw := hw (by
    intro v1 t2 q0 s1 hw ht2 H locs ls w hl
    refine g_istore_n (pc := 45) C dX7_thoseOutsideComeIn_45 rfl hl (by decide) (fun v3_8 ev3_8 ls hl => ?_)
    have hw := hw v3_8 ev3_8
    have hl : lv_has ls 5 [(3, .int (mm_I v3_8)), (0, .ref (mm_ad G this)), (1, .int (mm_I v1)), (2, .ref (mm_ad G t2))] := hl
    refine lv_aload_n (pc := 46) C.1 C.2.1 dX7_thoseOutsideComeIn_46 rfl (lv_at hl 3 rfl) ?_
    refine g_getiN (pc := 47) C w ht2 ff_X5_0 lk_X7_64 dX7_thoseOutsideComeIn_47 ?_
    refine lv_iconst (pc := 50) (v := mm_I 1) C.1 C.2.1 dX7_thoseOutsideComeIn_50 rfl ?_
    refine g_icmp_ne (pc := 51) (tgt := 69) C rfl mn_1 dX7_thoseOutsideComeIn_51 (by decide) (fun hc => ?_) (fun hc => ?_)
    · have hw := hw.1 hc
      refine lv_iconst (pc := 69) (v := mm_I 0) C.1 C.2.1 dX7_thoseOutsideComeIn_69 rfl ?_
      exact hw ht2 _ _ _ w (lv_sub hl [1, 2, 3, 0] rfl)
    · have hw := hw.2 hc
      refine lv_aload_n (pc := 54) C.1 C.2.1 dX7_thoseOutsideComeIn_54 rfl (lv_at hl 3 rfl) ?_
      refine g_getiN (pc := 55) C w ht2 ff_X5_6 lk_X7_149 dX7_thoseOutsideComeIn_55 ?_
      refine lv_aload_n (pc := 58) C.1 C.2.1 dX7_thoseOutsideComeIn_58 rfl (lv_at hl 1 rfl) ?_
      refine g_geti (pc := 59) C w h0 ff_X7_7 lk_X7_48 dX7_thoseOutsideComeIn_59 ?_
      refine g_icmp_gt (pc := 62) (tgt := 69) C rfl rfl dX7_thoseOutsideComeIn_62 (by decide) (fun hc => ?_) (fun hc => ?_)
      · have hw := hw.1 hc
        refine lv_iconst (pc := 69) (v := mm_I 0) C.1 C.2.1 dX7_thoseOutsideComeIn_69 rfl ?_
        exact hw ht2 _ _ _ w (lv_sub hl [1, 2, 3, 0] rfl)
      · have hw := hw.2 hc
        refine lv_iconst (pc := 65) (v := mm_I 1) C.1 C.2.1 dX7_thoseOutsideComeIn_65 rfl ?_
        refine lv_goto (pc := 66) (tgt := 70) C.1 C.2.1 dX7_thoseOutsideComeIn_66 (by decide) ?_
        exact hw ht2 _ _ _ w (lv_sub hl [1, 2, 3, 0] rfl))
  have hw := hw (by
    intro v1 t2 v3 q0 s1 hw ht2 H locs ls w hl
    refine g_istore (pc := 70) C dX7_thoseOutsideComeIn_70 hl (by decide) (fun v4_9 ev4_9 ls hl => ?_)
    have hw := hw v4_9 ev4_9
    have hl : lv_has ls 5 [(4, .int (mm_I v4_9)), (0, .ref (mm_ad G this)), (1, .int (mm_I v1)), (2, .ref (mm_ad G t2)), (3, .int (mm_I v3))] := hl
    refine lv_iload_n (pc := 72) C.1 C.2.1 dX7_thoseOutsideComeIn_72 rfl (lv_at hl 4 rfl) ?_
    refine g_if_ne (pc := 73) (tgt := 81) C rfl dX7_thoseOutsideComeIn_73 (by decide) (fun hc => ?_) (fun hc => ?_)
    · have hw := hw.1 hc
      exact hw ht2 _ _ _ w (lv_sub hl [1, 2, 3] rfl)
    · have hw := hw.2 hc
      refine lv_iload (pc := 76) C.1 C.2.1 dX7_thoseOutsideComeIn_76 (lv_at hl 0 rfl) ?_
      refine g_if_eq (pc := 78) (tgt := 87) C rfl dX7_thoseOutsideComeIn_78 (by decide) (fun hc => ?_) (fun hc => ?_)
      · have hw := hw.1 hc
        refine g_iinc (pc := 87) (k := 2) C dX7_thoseOutsideComeIn_87 hl rfl (by decide) (fun v1_10 ev1_10 ls hl => ?_)
        have hw := hw v1_10 ev1_10
        have hl : lv_has ls 5 [(1, .int (mm_I v1_10)), (4, .int (mm_I v4_9)), (0, .ref (mm_ad G this)), (2, .ref (mm_ad G t2)), (3, .int (mm_I v3))] := hl
        refine lv_goto (pc := 90) (tgt := 2) C.1 C.2.1 dX7_thoseOutsideComeIn_90 (by decide) ?_
        exact hw  _ _ _ w (lv_sub hl [2, 0] rfl)
      · have hw := hw.2 hc
        exact hw ht2 _ _ _ w (lv_sub hl [1, 2, 3] rfl))
  have hw := hw (by
    intro v1 t2 s1 hw ht2 H locs ls w hl
    refine lv_aload_n (pc := 81) C.1 C.2.1 dX7_thoseOutsideComeIn_81 rfl (lv_at hl 0 rfl) ?_
    refine lv_iload_n (pc := 82) C.1 C.2.1 dX7_thoseOutsideComeIn_82 rfl (lv_at hl 1 rfl) ?_
    refine lv_aload_n (pc := 83) C.1 C.2.1 dX7_thoseOutsideComeIn_83 rfl (lv_at hl 2 rfl) ?_
    refine g_callv (pc := 84) w (mm_runV (ci := 7) (q := (RX7, TX7, 9)) (As := [.int (mm_I v1), .ref (mm_ad G t2)]) (rest := []) C w (c_X7_comeIn l G this v1 t2 h0 ht2 s1 _ hw) h0 rfl rfl cv_X7_comeIn ml_X7_136 ⟨Nat.le_of_ble_eq_true rfl, Nat.le_of_ble_eq_true rfl⟩ ⟨Nat.le_of_ble_eq_true rfl, Nat.le_of_ble_eq_true rfl⟩ rfl hl.1 rfl (Nat.le_of_ble_eq_true rfl) dX7_thoseOutsideComeIn_84) (fun s_11 H locs hw w => ?_)
    refine g_iinc (pc := 87) (k := 1) C dX7_thoseOutsideComeIn_87 hl rfl (by decide) (fun v1_13 ev1_13 ls hl => ?_)
    have hw := hw v1_13 ev1_13
    have hl : lv_has ls 5 [(1, .int (mm_I v1_13)), (0, .ref (mm_ad G this)), (2, .ref (mm_ad G t2))] := hl
    refine lv_goto (pc := 90) (tgt := 2) C.1 C.2.1 dX7_thoseOutsideComeIn_90 (by decide) ?_
    exact hw  _ _ _ w (lv_sub hl [1, 0] rfl))
  intro H locs ls w hl
  have hl : lv_has ls 5 [(0, .ref (mm_ad G this))] := hl
  refine lv_iconst (pc := 0) (v := mm_I 0) C.1 C.2.1 dX7_thoseOutsideComeIn_0 rfl ?_
  refine lv_istore_n (pc := 1) (lv' := [(1, .int (mm_I 0)), (0, .ref (mm_ad G this))]) C.1 C.2.1 dX7_thoseOutsideComeIn_1 rfl hl (by decide) rfl (fun ls hl => ?_)
  exact hw  _ _ _ w (lv_sub hl [1, 0] rfl)
theorem cv_X7_goOut : mm_V yX7_goOut cX7_goOut 3 none 2 := ⟨(mt_4 17 rfl rfl), (mt_4 15 rfl rfl), (mt_4 16 rfl rfl), (mt_1 6 rfl rfl), by decide, by decide, by decide +kernel⟩
theorem ml_X7_232 : Cond.methodLink RX7 232 yX7_goOut ∈ mm_ws := (mt_4 171 rfl rfl)
def wp_X7_turnersGoOut (this : Nat) (s0 : mm_M) (post : mm_M → Prop) : Prop :=
  ∀ (L2 : Int → mm_M → Prop), 
  (∀ (v1 : Int) (s1 : mm_M), ((30 ≤ n32 v1 → post s1) ∧ (¬ 30 ≤ n32 v1 → (wp_X7_whoIsThere this v1 s1 (fun r_3 s_2 => (r_3 = none → (∀ v1_5 : Int, v1_5 = v1 + 1 → L2 v1_5 s_2)) ∧ (∀ t_4 : Nat, r_3 = some t_4 → ((¬ n32 (s_2 t_4 0) = 0 → (∀ v1_6 : Int, v1_6 = v1 + 1 → L2 v1_6 s_2)) ∧ (n32 (s_2 t_4 0) = 0 → (wp_X9_ofSort (mm_rt this 0) (s_2 t_4 1) 5 s_2 (fun r_8 s_7 => ((n32 r_8 = 1 → (wp_X7_deskOf this (s_7 t_4 2) s_7 (fun r_10 s_9 => (r_10 = none → (∀ v1_12 : Int, v1_12 = v1 + 1 → L2 v1_12 s_9)) ∧ (∀ t_11 : Nat, r_10 = some t_11 → (wp_X2_at t_11 ((s_9 t_11 1) - 1) s_9 (fun r_14 s_13 => ((n32 r_14 = n32 v1 → (∀ v1_15 : Int, v1_15 = v1 + 1 → L2 v1_15 s_13)) ∧ (¬ n32 r_14 = n32 v1 → (wp_X7_goOut this v1 t_4 s_13 (fun s_16 => (∀ v1_18 : Int, v1_18 = v1 + 1 → L2 v1_18 s_16))))))))))) ∧ (¬ n32 r_8 = 1 → (∀ v1_19 : Int, v1_19 = v1 + 1 → L2 v1_19 s_7)))))))))))) → L2 v1 s1) →
  L2 0 s0
set_option maxRecDepth 100000 in
set_option maxHeartbeats 4000000 in
theorem c_X7_turnersGoOut (l : Launch) (G : mm_G) (this : Nat) (h0 : mm_ok this 17 0) (s0 : mm_M) (post : mm_M → Prop) (hw : wp_X7_turnersGoOut this s0 post) : Met l yX7_turnersGoOut (mm_wm yX7_turnersGoOut cX7_turnersGoOut 4 none) (mm_rm 5) (va_Pc [.ref (mm_ad G this)] (mm_pre G s0)) (mm_Qv G post) 0 0 (mm_A G) := by
  refine mm_met (own := RX7) (by decide) rfl (Nat.le_of_ble_eq_true rfl) ?_
  intro p e s m args below meth c C hr hk
  unfold wp_X7_turnersGoOut at hw
  have hw := hw (fun (v1 : Int) (u : mm_M) => mm_X p l e (mm_rm 5) s m args below meth c (MQ below (mm_Qv G post) args s 0 0 (mm_A G)) G (mm_A G) 4 2 [(0, .ref (mm_ad G this)), (1, .int (mm_I v1))] [] u)
  have hw := hw (by
    intro v1 s1 hw  H locs ls w hl
    refine lv_iload_n (pc := 2) C.1 C.2.1 dX7_turnersGoOut_2 rfl (lv_at hl 1 rfl) ?_
    refine lv_bipush (pc := 3) C.1 C.2.1 dX7_turnersGoOut_3 mb_30 ?_
    refine g_icmp_ge (pc := 5) (tgt := 83) C rfl mn_30 dX7_turnersGoOut_5 (by decide) (fun hc => ?_) (fun hc => ?_)
    · have hw := hw.1 hc
      exact g_vret (pc := 83) C w hr hk hw dX7_turnersGoOut_83
    · have hw := hw.2 hc
      refine lv_aload_n (pc := 8) C.1 C.2.1 dX7_turnersGoOut_8 rfl (lv_at hl 0 rfl) ?_
      refine lv_iload_n (pc := 9) C.1 C.2.1 dX7_turnersGoOut_9 rfl (lv_at hl 1 rfl) ?_
      refine g_callq (pc := 10) w (mm_runV (ci := 7) (q := (RX7, TX7, 9)) (As := [.int (mm_I v1)]) (rest := []) C w (c_X7_whoIsThere l G this v1 h0 s1 _ hw) h0 rfl rfl cv_X7_whoIsThere ml_X7_97 ⟨Nat.le_of_ble_eq_true rfl, Nat.le_of_ble_eq_true rfl⟩ ⟨Nat.le_of_ble_eq_true rfl, Nat.le_of_ble_eq_true rfl⟩ rfl hl.1 rfl (Nat.le_of_ble_eq_true rfl) dX7_turnersGoOut_10) (fun s_2 H locs hw w => ?_) (fun t_4 s_2 H locs ht_4 hw w => ?_)
      · have hw := hw.1 rfl
        refine lv_astore_nN (pc := 13) (lv' := [(2, .null), (0, .ref (mm_ad G this)), (1, .int (mm_I v1))]) C.1 C.2.1 dX7_turnersGoOut_13 rfl hl (by decide) rfl (fun ls hl => ?_)
        refine lv_aload_nN (pc := 14) C.1 C.2.1 dX7_turnersGoOut_14 rfl (lv_at hl 0 rfl) ?_
        refine lv_ifnullN (pc := 15) (tgt := 77) C.1 C.2.1 dX7_turnersGoOut_15 (by decide) ?_
        refine g_iinc (pc := 77) (k := 2) C dX7_turnersGoOut_77 hl rfl (by decide) (fun v1_5 ev1_5 ls hl => ?_)
        have hw := hw v1_5 ev1_5
        have hl : lv_has ls 4 [(1, .int (mm_I v1_5)), (2, .null), (0, .ref (mm_ad G this))] := hl
        refine lv_goto (pc := 80) (tgt := 2) C.1 C.2.1 dX7_turnersGoOut_80 (by decide) ?_
        exact hw  _ _ _ w (lv_sub hl [2, 0] rfl)
      · have hw := hw.2 t_4 rfl
        refine lv_astore_n (pc := 13) (lv' := [(2, .ref (mm_ad G t_4)), (0, .ref (mm_ad G this)), (1, .int (mm_I v1))]) C.1 C.2.1 dX7_turnersGoOut_13 rfl hl (by decide) rfl (fun ls hl => ?_)
        refine lv_aload_n (pc := 14) C.1 C.2.1 dX7_turnersGoOut_14 rfl (lv_at hl 0 rfl) ?_
        refine lv_ifnull (pc := 15) C.1 C.2.1 dX7_turnersGoOut_15 ?_
        refine lv_aload_n (pc := 18) C.1 C.2.1 dX7_turnersGoOut_18 rfl (lv_at hl 0 rfl) ?_
        refine g_getiN (pc := 19) C w ht_4 ff_X5_0 lk_X7_64 dX7_turnersGoOut_19 ?_
        refine g_if_ne (pc := 22) (tgt := 77) C rfl dX7_turnersGoOut_22 (by decide) (fun hc => ?_) (fun hc => ?_)
        · have hw := hw.1 hc
          refine g_iinc (pc := 77) (k := 2) C dX7_turnersGoOut_77 hl rfl (by decide) (fun v1_6 ev1_6 ls hl => ?_)
          have hw := hw v1_6 ev1_6
          have hl : lv_has ls 4 [(1, .int (mm_I v1_6)), (2, .ref (mm_ad G t_4)), (0, .ref (mm_ad G this))] := hl
          refine lv_goto (pc := 80) (tgt := 2) C.1 C.2.1 dX7_turnersGoOut_80 (by decide) ?_
          exact hw  _ _ _ w (lv_sub hl [2, 0] rfl)
        · have hw := hw.2 hc
          refine lv_aload_n (pc := 25) C.1 C.2.1 dX7_turnersGoOut_25 rfl (lv_at hl 1 rfl) ?_
          refine g_getr (pc := 26) C w h0 ff_X7_0 lk_X7_34 dX7_turnersGoOut_26 ?_
          refine lv_aload_n (pc := 29) C.1 C.2.1 dX7_turnersGoOut_29 rfl (lv_at hl 0 rfl) ?_
          refine g_getiN (pc := 30) C w ht_4 ff_X5_1 lk_X7_140 dX7_turnersGoOut_30 ?_
          refine lv_iconst (pc := 33) (v := mm_I 5) C.1 C.2.1 dX7_turnersGoOut_33 rfl ?_
          refine g_calli (pc := 34) w (mm_runV (ci := 9) (q := (RX9, TX9, 9)) (As := [.int (mm_I (s_2 t_4 1)), .int (mm_I 5)]) (rest := []) C w (c_X9_ofSort l G (mm_rt this 0) (s_2 t_4 1) 5 (ro_X7_0 h0) s_2 _ hw) (ro_X7_0 h0) rfl rfl cv_X9_ofSort ml_X7_191 ⟨Nat.le_of_ble_eq_true rfl, Nat.le_of_ble_eq_true rfl⟩ ⟨Nat.le_of_ble_eq_true rfl, Nat.le_of_ble_eq_true rfl⟩ rfl hl.1 rfl (Nat.le_of_ble_eq_true rfl) dX7_turnersGoOut_34) (fun r_8 s_7 H locs hw w => ?_)
          refine lv_iconst (pc := 37) (v := mm_I 1) C.1 C.2.1 dX7_turnersGoOut_37 rfl ?_
          refine g_icmp_eq (pc := 38) (tgt := 44) C rfl mn_1 dX7_turnersGoOut_38 (by decide) (fun hc => ?_) (fun hc => ?_)
          · have hw := hw.1 hc
            refine lv_aload_n (pc := 44) C.1 C.2.1 dX7_turnersGoOut_44 rfl (lv_at hl 1 rfl) ?_
            refine lv_aload_n (pc := 45) C.1 C.2.1 dX7_turnersGoOut_45 rfl (lv_at hl 0 rfl) ?_
            refine g_getiN (pc := 46) C w ht_4 ff_X5_2 lk_X7_101 dX7_turnersGoOut_46 ?_
            refine g_callq (pc := 49) w (mm_runV (ci := 7) (q := (RX7, TX7, 9)) (As := [.int (mm_I (s_7 t_4 2))]) (rest := []) C w (c_X7_deskOf l G this (s_7 t_4 2) h0 s_7 _ hw) h0 rfl rfl cv_X7_deskOf ml_X7_104 ⟨Nat.le_of_ble_eq_true rfl, Nat.le_of_ble_eq_true rfl⟩ ⟨Nat.le_of_ble_eq_true rfl, Nat.le_of_ble_eq_true rfl⟩ rfl hl.1 rfl (Nat.le_of_ble_eq_true rfl) dX7_turnersGoOut_49) (fun s_9 H locs hw w => ?_) (fun t_11 s_9 H locs ht_11 hw w => ?_)
            · have hw := hw.1 rfl
              refine lv_astore_nN (pc := 52) (lv' := [(3, .null), (2, .ref (mm_ad G t_4)), (0, .ref (mm_ad G this)), (1, .int (mm_I v1))]) C.1 C.2.1 dX7_turnersGoOut_52 rfl hl (by decide) rfl (fun ls hl => ?_)
              refine lv_aload_nN (pc := 53) C.1 C.2.1 dX7_turnersGoOut_53 rfl (lv_at hl 0 rfl) ?_
              refine lv_ifnullN (pc := 54) (tgt := 77) C.1 C.2.1 dX7_turnersGoOut_54 (by decide) ?_
              refine g_iinc (pc := 77) (k := 3) C dX7_turnersGoOut_77 hl rfl (by decide) (fun v1_12 ev1_12 ls hl => ?_)
              have hw := hw v1_12 ev1_12
              have hl : lv_has ls 4 [(1, .int (mm_I v1_12)), (3, .null), (2, .ref (mm_ad G t_4)), (0, .ref (mm_ad G this))] := hl
              refine lv_goto (pc := 80) (tgt := 2) C.1 C.2.1 dX7_turnersGoOut_80 (by decide) ?_
              exact hw  _ _ _ w (lv_sub hl [3, 0] rfl)
            · have hw := hw.2 t_11 rfl
              refine lv_astore_n (pc := 52) (lv' := [(3, .ref (mm_ad G t_11)), (2, .ref (mm_ad G t_4)), (0, .ref (mm_ad G this)), (1, .int (mm_I v1))]) C.1 C.2.1 dX7_turnersGoOut_52 rfl hl (by decide) rfl (fun ls hl => ?_)
              refine lv_aload_n (pc := 53) C.1 C.2.1 dX7_turnersGoOut_53 rfl (lv_at hl 0 rfl) ?_
              refine lv_ifnull (pc := 54) C.1 C.2.1 dX7_turnersGoOut_54 ?_
              refine lv_aload_n (pc := 57) C.1 C.2.1 dX7_turnersGoOut_57 rfl (lv_at hl 0 rfl) ?_
              refine lv_aload_n (pc := 58) C.1 C.2.1 dX7_turnersGoOut_58 rfl (lv_at hl 0 rfl) ?_
              refine g_getiN (pc := 59) C w ht_11 ff_X2_1 lk_X7_172 dX7_turnersGoOut_59 ?_
              refine lv_iconst (pc := 62) (v := mm_I 1) C.1 C.2.1 dX7_turnersGoOut_62 rfl ?_
              refine g_isub (pc := 63) C dX7_turnersGoOut_63 ?_
              refine g_calli (pc := 64) w (mm_runV (ci := 2) (q := (RX2, TX2, 4)) (As := [.int (mm_I ((s_9 t_11 1) - 1))]) (rest := []) C w (c_X2_at l G t_11 ((s_9 t_11 1) - 1) ht_11 s_9 _ hw) ht_11 rfl rfl cv_X2_at ml_X7_185 ⟨Nat.le_of_ble_eq_true rfl, Nat.le_of_ble_eq_true rfl⟩ ⟨Nat.le_of_ble_eq_true rfl, Nat.le_of_ble_eq_true rfl⟩ rfl hl.1 rfl (Nat.le_of_ble_eq_true rfl) dX7_turnersGoOut_64) (fun r_14 s_13 H locs hw w => ?_)
              refine lv_iload_n (pc := 67) C.1 C.2.1 dX7_turnersGoOut_67 rfl (lv_at hl 3 rfl) ?_
              refine g_icmp_eq (pc := 68) (tgt := 77) C rfl rfl dX7_turnersGoOut_68 (by decide) (fun hc => ?_) (fun hc => ?_)
              · have hw := hw.1 hc
                refine g_iinc (pc := 77) (k := 3) C dX7_turnersGoOut_77 hl rfl (by decide) (fun v1_15 ev1_15 ls hl => ?_)
                have hw := hw v1_15 ev1_15
                have hl : lv_has ls 4 [(1, .int (mm_I v1_15)), (3, .ref (mm_ad G t_11)), (2, .ref (mm_ad G t_4)), (0, .ref (mm_ad G this))] := hl
                refine lv_goto (pc := 80) (tgt := 2) C.1 C.2.1 dX7_turnersGoOut_80 (by decide) ?_
                exact hw  _ _ _ w (lv_sub hl [3, 0] rfl)
              · have hw := hw.2 hc
                refine lv_aload_n (pc := 71) C.1 C.2.1 dX7_turnersGoOut_71 rfl (lv_at hl 2 rfl) ?_
                refine lv_iload_n (pc := 72) C.1 C.2.1 dX7_turnersGoOut_72 rfl (lv_at hl 3 rfl) ?_
                refine lv_aload_n (pc := 73) C.1 C.2.1 dX7_turnersGoOut_73 rfl (lv_at hl 1 rfl) ?_
                refine g_callv (pc := 74) w (mm_runV (ci := 7) (q := (RX7, TX7, 9)) (As := [.int (mm_I v1), .ref (mm_ad G t_4)]) (rest := []) C w (c_X7_goOut l G this v1 t_4 h0 ht_4 s_13 _ hw) h0 rfl rfl cv_X7_goOut ml_X7_232 ⟨Nat.le_of_ble_eq_true rfl, Nat.le_of_ble_eq_true rfl⟩ ⟨Nat.le_of_ble_eq_true rfl, Nat.le_of_ble_eq_true rfl⟩ rfl hl.1 rfl (Nat.le_of_ble_eq_true rfl) dX7_turnersGoOut_74) (fun s_16 H locs hw w => ?_)
                refine g_iinc (pc := 77) (k := 3) C dX7_turnersGoOut_77 hl rfl (by decide) (fun v1_18 ev1_18 ls hl => ?_)
                have hw := hw v1_18 ev1_18
                have hl : lv_has ls 4 [(1, .int (mm_I v1_18)), (3, .ref (mm_ad G t_11)), (2, .ref (mm_ad G t_4)), (0, .ref (mm_ad G this))] := hl
                refine lv_goto (pc := 80) (tgt := 2) C.1 C.2.1 dX7_turnersGoOut_80 (by decide) ?_
                exact hw  _ _ _ w (lv_sub hl [3, 0] rfl)
          · have hw := hw.2 hc
            refine lv_goto (pc := 41) (tgt := 77) C.1 C.2.1 dX7_turnersGoOut_41 (by decide) ?_
            refine g_iinc (pc := 77) (k := 2) C dX7_turnersGoOut_77 hl rfl (by decide) (fun v1_19 ev1_19 ls hl => ?_)
            have hw := hw v1_19 ev1_19
            have hl : lv_has ls 4 [(1, .int (mm_I v1_19)), (2, .ref (mm_ad G t_4)), (0, .ref (mm_ad G this))] := hl
            refine lv_goto (pc := 80) (tgt := 2) C.1 C.2.1 dX7_turnersGoOut_80 (by decide) ?_
            exact hw  _ _ _ w (lv_sub hl [2, 0] rfl))
  intro H locs ls w hl
  have hl : lv_has ls 4 [(0, .ref (mm_ad G this))] := hl
  refine lv_iconst (pc := 0) (v := mm_I 0) C.1 C.2.1 dX7_turnersGoOut_0 rfl ?_
  refine lv_istore_n (pc := 1) (lv' := [(1, .int (mm_I 0)), (0, .ref (mm_ad G this))]) C.1 C.2.1 dX7_turnersGoOut_1 rfl hl (by decide) rfl (fun ls hl => ?_)
  exact hw  _ _ _ w (lv_sub hl [1, 0] rfl)
