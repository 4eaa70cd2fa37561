theorem cv_X4_actOf : mm_V yX4_actOf cX4_actOf 5 (some .int) 2 := ⟨(mt_5 113 rfl rfl), (mt_5 111 rfl rfl), (mt_5 112 rfl rfl), (mt_1 11 rfl rfl), by decide, by decide, by decide +kernel⟩
theorem ml_X4_127 : Cond.methodLink RX4 127 yX4_actOf ∈ mm_ws := (mt_5 150 rfl rfl)
def wp_X4_somebodyTurns (this : Nat) (s0 : mm_M) (post : Int → mm_M → Prop) : Prop :=
  ∀ (L2 : Int → mm_M → Prop), ∀ (L10 : Int → Int → mm_M → Prop), 
  (∀ (v1 : Int) (s1 : mm_M), ((12 < n32 v1 → post 0 s1) ∧ (¬ 12 < n32 v1 → L10 v1 0 s1)) → L2 v1 s1) →
  (∀ (v1 : Int) (v2 : Int) (s1 : mm_M), ((12 < n32 (v1 + v2) → (∀ v1_3 : Int, v1_3 = v1 + 1 → L2 v1_3 s1)) ∧ (¬ 12 < n32 (v1 + v2) → (wp_X4_actOf this v1 v2 s1 (fun r_5 s_4 => ((¬ n32 r_5 = 1 → (∀ v2_6 : Int, v2_6 = v2 + 1 → L10 v1 v2_6 s_4)) ∧ (n32 r_5 = 1 → post 1 s_4)))))) → L10 v1 v2 s1) →
  L2 0 s0
set_option maxRecDepth 100000 in
set_option maxHeartbeats 4000000 in
theorem c_X4_somebodyTurns (l : Launch) (G : mm_G) (this : Nat) (h0 : mm_ok this 14 0) (s0 : mm_M) (post : Int → mm_M → Prop) (hw : wp_X4_somebodyTurns this s0 post) : Met l yX4_somebodyTurns (mm_wm yX4_somebodyTurns cX4_somebodyTurns 3 (some .boolean)) (mm_rm 4) (va_Pc [.ref (mm_ad G this)] (mm_pre G s0)) (mm_Qi G post) 0 0 (mm_A G) := by
  refine mm_met (own := RX4) (by decide) rfl (Nat.le_of_ble_eq_true rfl) ?_
  intro p e s m args below meth c C hr hk
  unfold wp_X4_somebodyTurns at hw
  have hw := hw (fun (v1 : Int) (u : mm_M) => mm_X p l e (mm_rm 4) s m args below meth c (MQ below (mm_Qi G post) args s 0 0 (mm_A G)) G (mm_A G) 3 2 [(0, .ref (mm_ad G this)), (1, .int (mm_I v1))] [] u)
  have hw := hw (fun (v1 : Int) (v2 : Int) (u : mm_M) => mm_X p l e (mm_rm 4) s m args below meth c (MQ below (mm_Qi G post) args s 0 0 (mm_A G)) G (mm_A G) 3 10 [(0, .ref (mm_ad G this)), (1, .int (mm_I v1)), (2, .int (mm_I v2))] [] u)
  have hw := hw (by
    intro v1 s1 hw  H locs ls w hl
    refine lv_iload_n (pc := 2) C.1 C.2.1 dX4_somebodyTurns_2 rfl (lv_at hl 1 rfl) ?_
    refine lv_bipush (pc := 3) C.1 C.2.1 dX4_somebodyTurns_3 mb_12 ?_
    refine g_icmp_gt (pc := 5) (tgt := 42) C rfl mn_12 dX4_somebodyTurns_5 (by decide) (fun hc => ?_) (fun hc => ?_)
    · have hw := hw.1 hc
      refine lv_iconst (pc := 42) (v := mm_I 0) C.1 C.2.1 dX4_somebodyTurns_42 rfl ?_
      exact g_zret (pc := 43) C w hr hk (by decide) hw dX4_somebodyTurns_43
    · have hw := hw.2 hc
      refine lv_iconst (pc := 8) (v := mm_I 0) C.1 C.2.1 dX4_somebodyTurns_8 rfl ?_
      refine lv_istore_n (pc := 9) (lv' := [(2, .int (mm_I 0)), (0, .ref (mm_ad G this)), (1, .int (mm_I v1))]) C.1 C.2.1 dX4_somebodyTurns_9 rfl hl (by decide) rfl (fun ls hl => ?_)
      exact hw  _ _ _ w (lv_sub hl [1, 2, 0] rfl))
  have hw := hw (by
    intro v1 v2 s1 hw  H locs ls w hl
    refine lv_iload_n (pc := 10) C.1 C.2.1 dX4_somebodyTurns_10 rfl (lv_at hl 1 rfl) ?_
    refine lv_iload_n (pc := 11) C.1 C.2.1 dX4_somebodyTurns_11 rfl (lv_at hl 2 rfl) ?_
    refine g_iadd (pc := 12) C dX4_somebodyTurns_12 ?_
    refine lv_bipush (pc := 13) C.1 C.2.1 dX4_somebodyTurns_13 mb_12 ?_
    refine g_icmp_gt (pc := 15) (tgt := 36) C rfl mn_12 dX4_somebodyTurns_15 (by decide) (fun hc => ?_) (fun hc => ?_)
    · have hw := hw.1 hc
      refine g_iinc (pc := 36) (k := 1) C dX4_somebodyTurns_36 hl rfl (by decide) (fun v1_3 ev1_3 ls hl => ?_)
      have hw := hw v1_3 ev1_3
      have hl : lv_has ls 3 [(1, .int (mm_I v1_3)), (0, .ref (mm_ad G this)), (2, .int (mm_I v2))] := hl
      refine lv_goto (pc := 39) (tgt := 2) C.1 C.2.1 dX4_somebodyTurns_39 (by decide) ?_
      exact hw  _ _ _ w (lv_sub hl [1, 0] rfl)
    · have hw := hw.2 hc
      refine lv_aload_n (pc := 18) C.1 C.2.1 dX4_somebodyTurns_18 rfl (lv_at hl 0 rfl) ?_
      refine lv_iload_n (pc := 19) C.1 C.2.1 dX4_somebodyTurns_19 rfl (lv_at hl 1 rfl) ?_
      refine lv_iload_n (pc := 20) C.1 C.2.1 dX4_somebodyTurns_20 rfl (lv_at hl 2 rfl) ?_
      refine g_calli (pc := 21) w (mm_runV (ci := 4) (q := (RX4, TX4, 12)) (As := [.int (mm_I v1), .int (mm_I v2)]) (rest := []) C w (c_X4_actOf l G this v1 v2 h0 s1 _ hw) h0 rfl rfl cv_X4_actOf ml_X4_127 ⟨Nat.le_of_ble_eq_true rfl, Nat.le_of_ble_eq_true rfl⟩ ⟨Nat.le_of_ble_eq_true rfl, Nat.le_of_ble_eq_true rfl⟩ rfl hl.1 rfl (Nat.le_of_ble_eq_true rfl) dX4_somebodyTurns_21) (fun r_5 s_4 H locs hw w => ?_)
      refine lv_iconst (pc := 24) (v := mm_I 1) C.1 C.2.1 dX4_somebodyTurns_24 rfl ?_
      refine g_icmp_ne (pc := 25) (tgt := 30) C rfl mn_1 dX4_somebodyTurns_25 (by decide) (fun hc => ?_) (fun hc => ?_)
      · have hw := hw.1 hc
        refine g_iinc (pc := 30) (k := 2) C dX4_somebodyTurns_30 hl rfl (by decide) (fun v2_6 ev2_6 ls hl => ?_)
        have hw := hw v2_6 ev2_6
        have hl : lv_has ls 3 [(2, .int (mm_I v2_6)), (0, .ref (mm_ad G this)), (1, .int (mm_I v1))] := hl
        refine lv_goto (pc := 33) (tgt := 10) C.1 C.2.1 dX4_somebodyTurns_33 (by decide) ?_
        exact hw  _ _ _ w (lv_sub hl [1, 2, 0] rfl)
      · have hw := hw.2 hc
        refine lv_iconst (pc := 28) (v := mm_I 1) C.1 C.2.1 dX4_somebodyTurns_28 rfl ?_
        exact g_zret (pc := 29) C w hr hk (by decide) hw dX4_somebodyTurns_29)
  intro H locs ls w hl
  have hl : lv_has ls 3 [(0, .ref (mm_ad G this))] := hl
  refine lv_iconst (pc := 0) (v := mm_I 0) C.1 C.2.1 dX4_somebodyTurns_0 rfl ?_
  refine lv_istore_n (pc := 1) (lv' := [(1, .int (mm_I 0)), (0, .ref (mm_ad G this))]) C.1 C.2.1 dX4_somebodyTurns_1 rfl hl (by decide) rfl (fun ls hl => ?_)
  exact hw  _ _ _ w (lv_sub hl [1, 0] rfl)
theorem mb_99 : (Int8.ofInt 99).toInt32 = mm_I 99 := by decide
theorem mn_99 : n32 99 = 99 := by decide
theorem cv_X4_somebodyTurns : mm_V yX4_somebodyTurns cX4_somebodyTurns 3 (some .boolean) 0 := ⟨(mt_5 149 rfl rfl), (mt_5 148 rfl rfl), (mp_3 11 rfl rfl), (mt_1 11 rfl rfl), by decide, by decide, by decide +kernel⟩
theorem ml_X4_123 : Cond.methodLink RX4 123 yX4_somebodyTurns ∈ mm_ws := (mt_5 146 rfl rfl)
def wp_X4_leastFee (this : Nat) (a1 : Int) (s0 : mm_M) (post : Int → mm_M → Prop) : Prop :=
  ∀ (L4 : Int → Int → mm_M → Prop), ∀ (L33 : Int → Int → mm_M → Prop), ∀ (L66 : Int → Int → mm_M → Prop), 
  (∀ (v2 : Int) (v3 : Int) (s1 : mm_M), ((n32 a1 ≤ n32 v3 → post v2 s1) ∧ (¬ n32 a1 ≤ n32 v3 → ((60 ≤ n32 v3 → post v2 s1) ∧ (¬ 60 ≤ n32 v3 → (wp_X4_weighStaying this s1 (fun s_3 => (∀ s_5 : mm_M, s_5 = mm_up s_3 this 9 ((1000 * v2) + (s_3 this 8)) → L33 v2 v3 s_5))))))) → L4 v2 v3 s1) →
  (∀ (v2 : Int) (v3 : Int) (s1 : mm_M), ((99 < n32 v2 → L66 v2 v3 s1) ∧ (¬ 99 < n32 v2 → (wp_X4_somebodyTurns this s1 (fun r_7 s_6 => ((n32 r_7 = 0 → L66 v2 v3 s_6) ∧ (¬ n32 r_7 = 0 → (∀ v2_8 : Int, v2_8 = v2 + 1 → (∀ s_9 : mm_M, s_9 = mm_up s_6 this 9 ((1000 * v2_8) + (s_6 this 8)) → L33 v2_8 v3 s_9)))))))) → L33 v2 v3 s1) →
  (∀ (v2 : Int) (v3 : Int) (s1 : mm_M), ((n32 v2 ≤ 99 → (wp_X4_settle this s1 (fun s_10 => (∀ v3_12 : Int, v3_12 = v3 + 1 → L4 v2 v3_12 s_10)))) ∧ (¬ n32 v2 ≤ 99 → post (-1) s1)) → L66 v2 v3 s1) →
  L4 0 0 s0
set_option maxRecDepth 100000 in
set_option maxHeartbeats 4000000 in
theorem c_X4_leastFee (l : Launch) (G : mm_G) (this : Nat) (a1 : Int) (h0 : mm_ok this 14 0) (s0 : mm_M) (post : Int → mm_M → Prop) (hw : wp_X4_leastFee this a1 s0 post) : Met l yX4_leastFee (mm_wm yX4_leastFee cX4_leastFee 4 (some .int)) (mm_rm 5) (va_Pc [.ref (mm_ad G this), .int (mm_I a1)] (mm_pre G s0)) (mm_Qi G post) 0 0 (mm_A G) := by
  refine mm_met (own := RX4) (by decide) rfl (Nat.le_of_ble_eq_true rfl) ?_
  intro p e s m args below meth c C hr hk
  unfold wp_X4_leastFee at hw
  have hw := hw (fun (v2 : Int) (v3 : Int) (u : mm_M) => mm_X p l e (mm_rm 5) s m args below meth c (MQ below (mm_Qi G post) args s 0 0 (mm_A G)) G (mm_A G) 4 4 [(0, .ref (mm_ad G this)), (1, .int (mm_I a1)), (2, .int (mm_I v2)), (3, .int (mm_I v3))] [] u)
  have hw := hw (fun (v2 : Int) (v3 : Int) (u : mm_M) => mm_X p l e (mm_rm 5) s m args below meth c (MQ below (mm_Qi G post) args s 0 0 (mm_A G)) G (mm_A G) 4 33 [(0, .ref (mm_ad G this)), (1, .int (mm_I a1)), (2, .int (mm_I v2)), (3, .int (mm_I v3))] [] u)
  have hw := hw (fun (v2 : Int) (v3 : Int) (u : mm_M) => mm_X p l e (mm_rm 5) s m args below meth c (MQ below (mm_Qi G post) args s 0 0 (mm_A G)) G (mm_A G) 4 66 [(0, .ref (mm_ad G this)), (1, .int (mm_I a1)), (2, .int (mm_I v2)), (3, .int (mm_I v3))] [] u)
  have hw := hw (by
    intro v2 v3 s1 hw  H locs ls w hl
    refine lv_iload_n (pc := 4) C.1 C.2.1 dX4_leastFee_4 rfl (lv_at hl 3 rfl) ?_
    refine lv_iload_n (pc := 5) C.1 C.2.1 dX4_leastFee_5 rfl (lv_at hl 1 rfl) ?_
    refine g_icmp_ge (pc := 6) (tgt := 84) C rfl rfl dX4_leastFee_6 (by decide) (fun hc => ?_) (fun hc => ?_)
    · have hw := hw.1 hc
      refine lv_iload_n (pc := 84) C.1 C.2.1 dX4_leastFee_84 rfl (lv_at hl 2 rfl) ?_
      exact g_iret (pc := 85) C w hr hk hw dX4_leastFee_85
    · have hw := hw.2 hc
      refine lv_iload_n (pc := 9) C.1 C.2.1 dX4_leastFee_9 rfl (lv_at hl 3 rfl) ?_
      refine lv_bipush (pc := 10) C.1 C.2.1 dX4_leastFee_10 mb_60 ?_
      refine g_icmp_ge (pc := 12) (tgt := 84) C rfl mn_60 dX4_leastFee_12 (by decide) (fun hc => ?_) (fun hc => ?_)
      · have hw := hw.1 hc
        refine lv_iload_n (pc := 84) C.1 C.2.1 dX4_leastFee_84 rfl (lv_at hl 2 rfl) ?_
        exact g_iret (pc := 85) C w hr hk hw dX4_leastFee_85
      · have hw := hw.2 hc
        refine lv_aload_n (pc := 15) C.1 C.2.1 dX4_leastFee_15 rfl (lv_at hl 0 rfl) ?_
        refine g_callv (pc := 16) w (mm_runV (ci := 4) (q := (RX4, TX4, 12)) (As := []) (rest := []) C w (c_X4_weighStaying l G this h0 s1 _ hw) h0 rfl rfl cv_X4_weighStaying ml_X4_78 ⟨Nat.le_of_ble_eq_true rfl, Nat.le_of_ble_eq_true rfl⟩ ⟨Nat.le_of_ble_eq_true rfl, Nat.le_of_ble_eq_true rfl⟩ rfl hl.1 rfl (Nat.le_of_ble_eq_true rfl) dX4_leastFee_16) (fun s_3 H locs hw w => ?_)
        refine lv_aload_n (pc := 19) C.1 C.2.1 dX4_leastFee_19 rfl (lv_at hl 0 rfl) ?_
        refine lv_sipush (pc := 20) C.1 C.2.1 dX4_leastFee_20 ms_1000 ?_
        refine lv_iload_n (pc := 23) C.1 C.2.1 dX4_leastFee_23 rfl (lv_at hl 2 rfl) ?_
        refine g_imul (pc := 24) C dX4_leastFee_24 ?_
        refine lv_aload_n (pc := 25) C.1 C.2.1 dX4_leastFee_25 rfl (lv_at hl 0 rfl) ?_
        refine g_geti (pc := 26) C w h0 ff_X4_8 lk_X4_57 dX4_leastFee_26 ?_
        refine g_iadd (pc := 29) C dX4_leastFee_29 ?_
        refine g_puti (pc := 30) C w h0 ff_X4_9 fw_X4_9 lk_X4_63 dX4_leastFee_30 (fun s_5 H locs es_5 w => ?_)
        have hw := hw s_5 es_5
        exact hw  _ _ _ w (lv_sub hl [0, 1, 2, 3] rfl))
  have hw := hw (by
    intro v2 v3 s1 hw  H locs ls w hl
    refine lv_iload_n (pc := 33) C.1 C.2.1 dX4_leastFee_33 rfl (lv_at hl 2 rfl) ?_
    refine lv_bipush (pc := 34) C.1 C.2.1 dX4_leastFee_34 mb_99 ?_
    refine g_icmp_gt (pc := 36) (tgt := 66) C rfl mn_99 dX4_leastFee_36 (by decide) (fun hc => ?_) (fun hc => ?_)
    · have hw := hw.1 hc
      exact hw  _ _ _ w (lv_sub hl [0, 1, 2, 3] rfl)
    · have hw := hw.2 hc
      refine lv_aload_n (pc := 39) C.1 C.2.1 dX4_leastFee_39 rfl (lv_at hl 0 rfl) ?_
      refine g_calli (pc := 40) w (mm_runV (ci := 4) (q := (RX4, TX4, 12)) (As := []) (rest := []) C w (c_X4_somebodyTurns l G this h0 s1 _ hw) h0 rfl rfl cv_X4_somebodyTurns ml_X4_123 ⟨Nat.le_of_ble_eq_true rfl, Nat.le_of_ble_eq_true rfl⟩ ⟨Nat.le_of_ble_eq_true rfl, Nat.le_of_ble_eq_true rfl⟩ rfl hl.1 rfl (Nat.le_of_ble_eq_true rfl) dX4_leastFee_40) (fun r_7 s_6 H locs hw w => ?_)
      refine g_if_eq (pc := 43) (tgt := 66) C rfl dX4_leastFee_43 (by decide) (fun hc => ?_) (fun hc => ?_)
      · have hw := hw.1 hc
        exact hw  _ _ _ w (lv_sub hl [0, 1, 2, 3] rfl)
      · have hw := hw.2 hc
        refine g_iinc (pc := 46) (k := 2) C dX4_leastFee_46 hl rfl (by decide) (fun v2_8 ev2_8 ls hl => ?_)
        have hw := hw v2_8 ev2_8
        have hl : lv_has ls 4 [(2, .int (mm_I v2_8)), (0, .ref (mm_ad G this)), (1, .int (mm_I a1)), (3, .int (mm_I v3))] := hl
        refine lv_aload_n (pc := 49) C.1 C.2.1 dX4_leastFee_49 rfl (lv_at hl 1 rfl) ?_
        refine lv_sipush (pc := 50) C.1 C.2.1 dX4_leastFee_50 ms_1000 ?_
        refine lv_iload_n (pc := 53) C.1 C.2.1 dX4_leastFee_53 rfl (lv_at hl 0 rfl) ?_
        refine g_imul (pc := 54) C dX4_leastFee_54 ?_
        refine lv_aload_n (pc := 55) C.1 C.2.1 dX4_leastFee_55 rfl (lv_at hl 1 rfl) ?_
        refine g_geti (pc := 56) C w h0 ff_X4_8 lk_X4_57 dX4_leastFee_56 ?_
        refine g_iadd (pc := 59) C dX4_leastFee_59 ?_
        refine g_puti (pc := 60) C w h0 ff_X4_9 fw_X4_9 lk_X4_63 dX4_leastFee_60 (fun s_9 H locs es_9 w => ?_)
        have hw := hw s_9 es_9
        refine lv_goto (pc := 63) (tgt := 33) C.1 C.2.1 dX4_leastFee_63 (by decide) ?_
        exact hw  _ _ _ w (lv_sub hl [1, 2, 0, 3] rfl))
  have hw := hw (by
    intro v2 v3 s1 hw  H locs ls w hl
    refine lv_iload_n (pc := 66) C.1 C.2.1 dX4_leastFee_66 rfl (lv_at hl 2 rfl) ?_
    refine lv_bipush (pc := 67) C.1 C.2.1 dX4_leastFee_67 mb_99 ?_
    refine g_icmp_le (pc := 69) (tgt := 74) C rfl mn_99 dX4_leastFee_69 (by decide) (fun hc => ?_) (fun hc => ?_)
    · have hw := hw.1 hc
      refine lv_aload_n (pc := 74) C.1 C.2.1 dX4_leastFee_74 rfl (lv_at hl 0 rfl) ?_
      refine g_callv (pc := 75) w (mm_runV (ci := 4) (q := (RX4, TX4, 12)) (As := []) (rest := []) C w (c_X4_settle l G this h0 s1 _ hw) h0 rfl rfl cv_X4_settle ml_X4_81 ⟨Nat.le_of_ble_eq_true rfl, Nat.le_of_ble_eq_true rfl⟩ ⟨Nat.le_of_ble_eq_true rfl, Nat.le_of_ble_eq_true rfl⟩ rfl hl.1 rfl (Nat.le_of_ble_eq_true rfl) dX4_leastFee_75) (fun s_10 H locs hw w => ?_)
      refine g_iinc (pc := 78) (k := 3) C dX4_leastFee_78 hl rfl (by decide) (fun v3_12 ev3_12 ls hl => ?_)
      have hw := hw v3_12 ev3_12
      have hl : lv_has ls 4 [(3, .int (mm_I v3_12)), (0, .ref (mm_ad G this)), (1, .int (mm_I a1)), (2, .int (mm_I v2))] := hl
      refine lv_goto (pc := 81) (tgt := 4) C.1 C.2.1 dX4_leastFee_81 (by decide) ?_
      exact hw  _ _ _ w (lv_sub hl [1, 2, 3, 0] rfl)
    · have hw := hw.2 hc
      refine lv_iconst (pc := 72) (v := mm_I (-1)) C.1 C.2.1 dX4_leastFee_72 rfl ?_
      exact g_iret (pc := 73) C w hr hk hw dX4_leastFee_73)
  intro H locs ls w hl
  have hl : lv_has ls 4 [(0, .ref (mm_ad G this)), (1, .int (mm_I a1))] := hl
  refine lv_iconst (pc := 0) (v := mm_I 0) C.1 C.2.1 dX4_leastFee_0 rfl ?_
  refine lv_istore_n (pc := 1) (lv' := [(2, .int (mm_I 0)), (0, .ref (mm_ad G this)), (1, .int (mm_I a1))]) C.1 C.2.1 dX4_leastFee_1 rfl hl (by decide) rfl (fun ls hl => ?_)
  refine lv_iconst (pc := 2) (v := mm_I 0) C.1 C.2.1 dX4_leastFee_2 rfl ?_
  refine lv_istore_n (pc := 3) (lv' := [(3, .int (mm_I 0)), (2, .int (mm_I 0)), (0, .ref (mm_ad G this)), (1, .int (mm_I a1))]) C.1 C.2.1 dX4_leastFee_3 rfl hl (by decide) rfl (fun ls hl => ?_)
  exact hw  _ _ _ w (lv_sub hl [2, 3, 1, 0] rfl)
theorem lk_X5_11 : Cond.fieldLink RX5 11 "LastServed$Person" "state" "I" ∈ mm_ws := (mt_1 194 rfl rfl)
theorem ff_X5_0 : mm_F 5 0 0 RX5 TX5 7 := ⟨rfl, by decide, fk_X5, rfl, rfl⟩
theorem fw_X5_0 : mm_Fw 5 0 TX5 7 .int := ⟨⟨tyX5, tyX5_ok⟩, nmX5, rfl, by decide +kernel⟩
theorem lk_X5_15 : Cond.fieldLink RX5 15 "LastServed$Person" "sort" "I" ∈ mm_ws := (mt_1 197 rfl rfl)
theorem ff_X5_1 : mm_F 5 1 0 RX5 TX5 7 := ⟨rfl, by decide, fk_X5, rfl, rfl⟩
theorem fw_X5_1 : mm_Fw 5 1 TX5 7 .int := ⟨⟨tyX5, tyX5_ok⟩, nmX5, rfl, by decide +kernel⟩
theorem lk_X5_18 : Cond.fieldLink RX5 18 "LastServed$Person" "counter" "I" ∈ mm_ws := (mt_1 199 rfl rfl)
theorem ff_X5_2 : mm_F 5 2 0 RX5 TX5 7 := ⟨rfl, by decide, fk_X5, rfl, rfl⟩
theorem fw_X5_2 : mm_Fw 5 2 TX5 7 .int := ⟨⟨tyX5, tyX5_ok⟩, nmX5, rfl, by decide +kernel⟩
theorem lk_X5_21 : Cond.fieldLink RX5 21 "LastServed$Person" "cameFirst" "I" ∈ mm_ws := (mt_1 201 rfl rfl)
theorem ff_X5_3 : mm_F 5 3 0 RX5 TX5 7 := ⟨rfl, by decide, fk_X5, rfl, rfl⟩
theorem fw_X5_3 : mm_Fw 5 3 TX5 7 .int := ⟨⟨tyX5, tyX5_ok⟩, nmX5, rfl, by decide +kernel⟩
theorem lk_X5_24 : Cond.fieldLink RX5 24 "LastServed$Person" "cameLast" "I" ∈ mm_ws := (mt_1 203 rfl rfl)
theorem ff_X5_4 : mm_F 5 4 0 RX5 TX5 7 := ⟨rfl, by decide, fk_X5, rfl, rfl⟩
theorem fw_X5_4 : mm_Fw 5 4 TX5 7 .int := ⟨⟨tyX5, tyX5_ok⟩, nmX5, rfl, by decide +kernel⟩
theorem lk_X5_27 : Cond.fieldLink RX5 27 "LastServed$Person" "turns" "I" ∈ mm_ws := (mt_1 205 rfl rfl)
theorem ff_X5_5 : mm_F 5 5 0 RX5 TX5 7 := ⟨rfl, by decide, fk_X5, rfl, rfl⟩
theorem fw_X5_5 : mm_Fw 5 5 TX5 7 .int := ⟨⟨tyX5, tyX5_ok⟩, nmX5, rfl, by decide +kernel⟩
theorem lk_X5_30 : Cond.fieldLink RX5 30 "LastServed$Person" "bowsTill" "I" ∈ mm_ws := (mt_1 207 rfl rfl)
theorem ff_X5_6 : mm_F 5 6 0 RX5 TX5 7 := ⟨rfl, by decide, fk_X5, rfl, rfl⟩
theorem fw_X5_6 : mm_Fw 5 6 TX5 7 .int := ⟨⟨tyX5, tyX5_ok⟩, nmX5, rfl, by decide +kernel⟩
def wp_X5_arrive (this : Nat) (a1 : Int) (a2 : Int) (a3 : Int) (s0 : mm_M) (post : mm_M → Prop) : Prop :=
  (∀ s_1 : mm_M, s_1 = mm_up s0 this 0 2 → (∀ s_2 : mm_M, s_2 = mm_up s_1 this 1 a1 → (∀ s_3 : mm_M, s_3 = mm_up s_2 this 2 a2 → (∀ s_4 : mm_M, s_4 = mm_up s_3 this 3 a3 → (∀ s_5 : mm_M, s_5 = mm_up s_4 this 4 (-1) → (∀ s_6 : mm_M, s_6 = mm_up s_5 this 5 0 → (∀ s_7 : mm_M, s_7 = mm_up s_6 this 6 (-1) → post s_7)))))))
set_option maxRecDepth 100000 in
set_option maxHeartbeats 4000000 in
theorem c_X5_arrive (l : Launch) (G : mm_G) (this : Nat) (a1 : Int) (a2 : Int) (a3 : Int) (h0 : mm_ok this 15 0) (s0 : mm_M) (post : mm_M → Prop) (hw : wp_X5_arrive this a1 a2 a3 s0 post) : Met l yX5_arrive (mm_wm yX5_arrive cX5_arrive 4 none) (mm_rm 1) (va_Pc [.ref (mm_ad G this), .int (mm_I a1), .int (mm_I a2), .int (mm_I a3)] (mm_pre G s0)) (mm_Qv G post) 0 0 (mm_A G) := by
  refine mm_met (own := RX5) (by decide) rfl (Nat.le_of_ble_eq_true rfl) ?_
  intro p e s m args below meth c C hr hk
  unfold wp_X5_arrive at hw
  intro H locs ls w hl
  have hl : lv_has ls 4 [(0, .ref (mm_ad G this)), (1, .int (mm_I a1)), (2, .int (mm_I a2)), (3, .int (mm_I a3))] := hl
  refine lv_aload_n (pc := 0) C.1 C.2.1 dX5_arrive_0 rfl (lv_at hl 0 rfl) ?_
  refine lv_iconst (pc := 1) (v := mm_I 2) C.1 C.2.1 dX5_arrive_1 rfl ?_
  refine g_puti (pc := 2) C w h0 ff_X5_0 fw_X5_0 lk_X5_11 dX5_arrive_2 (fun s_1 H locs es_1 w => ?_)
  have hw := hw s_1 es_1
  refine lv_aload_n (pc := 5) C.1 C.2.1 dX5_arrive_5 rfl (lv_at hl 0 rfl) ?_
  refine lv_iload_n (pc := 6) C.1 C.2.1 dX5_arrive_6 rfl (lv_at hl 1 rfl) ?_
  refine g_puti (pc := 7) C w h0 ff_X5_1 fw_X5_1 lk_X5_15 dX5_arrive_7 (fun s_2 H locs es_2 w => ?_)
  have hw := hw s_2 es_2
  refine lv_aload_n (pc := 10) C.1 C.2.1 dX5_arrive_10 rfl (lv_at hl 0 rfl) ?_
  refine lv_iload_n (pc := 11) C.1 C.2.1 dX5_arrive_11 rfl (lv_at hl 2 rfl) ?_
  refine g_puti (pc := 12) C w h0 ff_X5_2 fw_X5_2 lk_X5_18 dX5_arrive_12 (fun s_3 H locs es_3 w => ?_)
  have hw := hw s_3 es_3
  refine lv_aload_n (pc := 15) C.1 C.2.1 dX5_arrive_15 rfl (lv_at hl 0 rfl) ?_
  refine lv_iload_n (pc := 16) C.1 C.2.1 dX5_arrive_16 rfl (lv_at hl 3 rfl) ?_
  refine g_puti (pc := 17) C w h0 ff_X5_3 fw_X5_3 lk_X5_21 dX5_arrive_17 (fun s_4 H locs es_4 w => ?_)
  have hw := hw s_4 es_4
  refine lv_aload_n (pc := 20) C.1 C.2.1 dX5_arrive_20 rfl (lv_at hl 0 rfl) ?_
  refine lv_iconst (pc := 21) (v := mm_I (-1)) C.1 C.2.1 dX5_arrive_21 rfl ?_
  refine g_puti (pc := 22) C w h0 ff_X5_4 fw_X5_4 lk_X5_24 dX5_arrive_22 (fun s_5 H locs es_5 w => ?_)
  have hw := hw s_5 es_5
  refine lv_aload_n (pc := 25) C.1 C.2.1 dX5_arrive_25 rfl (lv_at hl 0 rfl) ?_
  refine lv_iconst (pc := 26) (v := mm_I 0) C.1 C.2.1 dX5_arrive_26 rfl ?_
  refine g_puti (pc := 27) C w h0 ff_X5_5 fw_X5_5 lk_X5_27 dX5_arrive_27 (fun s_6 H locs es_6 w => ?_)
  have hw := hw s_6 es_6
  refine lv_aload_n (pc := 30) C.1 C.2.1 dX5_arrive_30 rfl (lv_at hl 0 rfl) ?_
  refine lv_iconst (pc := 31) (v := mm_I (-1)) C.1 C.2.1 dX5_arrive_31 rfl ?_
  refine g_puti (pc := 32) C w h0 ff_X5_6 fw_X5_6 lk_X5_30 dX5_arrive_32 (fun s_7 H locs es_7 w => ?_)
  have hw := hw s_7 es_7
  exact g_vret (pc := 35) C w hr hk hw dX5_arrive_35
def wp_X5_takeOver (this : Nat) (a1 : Nat) (s0 : mm_M) (post : mm_M → Prop) : Prop :=
  (∀ s_1 : mm_M, s_1 = mm_up s0 this 0 (s0 a1 0) → (∀ s_2 : mm_M, s_2 = mm_up s_1 this 1 (s_1 a1 1) → (∀ s_3 : mm_M, s_3 = mm_up s_2 this 2 (s_2 a1 2) → (∀ s_4 : mm_M, s_4 = mm_up s_3 this 3 (s_3 a1 3) → (∀ s_5 : mm_M, s_5 = mm_up s_4 this 4 (s_4 a1 4) → (∀ s_6 : mm_M, s_6 = mm_up s_5 this 5 (s_5 a1 5) → (∀ s_7 : mm_M, s_7 = mm_up s_6 this 6 (s_6 a1 6) → post s_7)))))))
set_option maxRecDepth 100000 in
set_option maxHeartbeats 4000000 in
theorem c_X5_takeOver (l : Launch) (G : mm_G) (this : Nat) (a1 : Nat) (h0 : mm_ok this 15 0) (h1 : mm_ok a1 15 0) (s0 : mm_M) (post : mm_M → Prop) (hw : wp_X5_takeOver this a1 s0 post) : Met l yX5_takeOver (mm_wm yX5_takeOver cX5_takeOver 2 none) (mm_rm 1) (va_Pc [.ref (mm_ad G this), .ref (mm_ad G a1)] (mm_pre G s0)) (mm_Qv G post) 0 0 (mm_A G) := by
  refine mm_met (own := RX5) (by decide) rfl (Nat.le_of_ble_eq_true rfl) ?_
  intro p e s m args below meth c C hr hk
  unfold wp_X5_takeOver at hw
  intro H locs ls w hl
  have hl : lv_has ls 2 [(0, .ref (mm_ad G this)), (1, .ref (mm_ad G a1))] := hl
  refine lv_aload_n (pc := 0) C.1 C.2.1 dX5_takeOver_0 rfl (lv_at hl 0 rfl) ?_
  refine lv_aload_n (pc := 1) C.1 C.2.1 dX5_takeOver_1 rfl (lv_at hl 1 rfl) ?_
  refine g_geti (pc := 2) C w h1 ff_X5_0 lk_X5_11 dX5_takeOver_2 ?_
  refine g_puti (pc := 5) C w h0 ff_X5_0 fw_X5_0 lk_X5_11 dX5_takeOver_5 (fun s_1 H locs es_1 w => ?_)
  have hw := hw s_1 es_1
  refine lv_aload_n (pc := 8) C.1 C.2.1 dX5_takeOver_8 rfl (lv_at hl 0 rfl) ?_
  refine lv_aload_n (pc := 9) C.1 C.2.1 dX5_takeOver_9 rfl (lv_at hl 1 rfl) ?_
  refine g_geti (pc := 10) C w h1 ff_X5_1 lk_X5_15 dX5_takeOver_10 ?_
  refine g_puti (pc := 13) C w h0 ff_X5_1 fw_X5_1 lk_X5_15 dX5_takeOver_13 (fun s_2 H locs es_2 w => ?_)
  have hw := hw s_2 es_2
  refine lv_aload_n (pc := 16) C.1 C.2.1 dX5_takeOver_16 rfl (lv_at hl 0 rfl) ?_
  refine lv_aload_n (pc := 17) C.1 C.2.1 dX5_takeOver_17 rfl (lv_at hl 1 rfl) ?_
  refine g_geti (pc := 18) C w h1 ff_X5_2 lk_X5_18 dX5_takeOver_18 ?_
  refine g_puti (pc := 21) C w h0 ff_X5_2 fw_X5_2 lk_X5_18 dX5_takeOver_21 (fun s_3 H locs es_3 w => ?_)
  have hw := hw s_3 es_3
  refine lv_aload_n (pc := 24) C.1 C.2.1 dX5_takeOver_24 rfl (lv_at hl 0 rfl) ?_
  refine lv_aload_n (pc := 25) C.1 C.2.1 dX5_takeOver_25 rfl (lv_at hl 1 rfl) ?_
  refine g_geti (pc := 26) C w h1 ff_X5_3 lk_X5_21 dX5_takeOver_26 ?_
  refine g_puti (pc := 29) C w h0 ff_X5_3 fw_X5_3 lk_X5_21 dX5_takeOver_29 (fun s_4 H locs es_4 w => ?_)
  have hw := hw s_4 es_4
  refine lv_aload_n (pc := 32) C.1 C.2.1 dX5_takeOver_32 rfl (lv_at hl 0 rfl) ?_
  refine lv_aload_n (pc := 33) C.1 C.2.1 dX5_takeOver_33 rfl (lv_at hl 1 rfl) ?_
  refine g_geti (pc := 34) C w h1 ff_X5_4 lk_X5_24 dX5_takeOver_34 ?_
  refine g_puti (pc := 37) C w h0 ff_X5_4 fw_X5_4 lk_X5_24 dX5_takeOver_37 (fun s_5 H locs es_5 w => ?_)
  have hw := hw s_5 es_5
  refine lv_aload_n (pc := 40) C.1 C.2.1 dX5_takeOver_40 rfl (lv_at hl 0 rfl) ?_
  refine lv_aload_n (pc := 41) C.1 C.2.1 dX5_takeOver_41 rfl (lv_at hl 1 rfl) ?_
  refine g_geti (pc := 42) C w h1 ff_X5_5 lk_X5_27 dX5_takeOver_42 ?_
  refine g_puti (pc := 45) C w h0 ff_X5_5 fw_X5_5 lk_X5_27 dX5_takeOver_45 (fun s_6 H locs es_6 w => ?_)
  have hw := hw s_6 es_6
  refine lv_aload_n (pc := 48) C.1 C.2.1 dX5_takeOver_48 rfl (lv_at hl 0 rfl) ?_
  refine lv_aload_n (pc := 49) C.1 C.2.1 dX5_takeOver_49 rfl (lv_at hl 1 rfl) ?_
  refine g_geti (pc := 50) C w h1 ff_X5_6 lk_X5_30 dX5_takeOver_50 ?_
  refine g_puti (pc := 53) C w h0 ff_X5_6 fw_X5_6 lk_X5_30 dX5_takeOver_53 (fun s_7 H locs es_7 w => ?_)
  have hw := hw s_7 es_7
  exact g_vret (pc := 56) C w hr hk hw dX5_takeOver_56
theorem mo_0_7 {x : Int} (h0 : ¬ x = 0) (h1 : ¬ x = 1) (h2 : ¬ x = 2) (h3 : ¬ x = 3) (h4 : ¬ x = 4) (h5 : ¬ x = 5) (h6 : ¬ x = 6) (h7 : ¬ x = 7) : x < 0 ∨ 7 < x := by omega
def wp_X5_fact (this : Nat) (a1 : Int) (s0 : mm_M) (post : Int → mm_M → Prop) : Prop :=
  ((n32 a1 = 0 → post (s0 this 1) s0) ∧ (¬ n32 a1 = 0 → ((n32 a1 = 1 → post (s0 this 2) s0) ∧ (¬ n32 a1 = 1 → ((n32 a1 = 2 → post (s0 this 0) s0) ∧ (¬ n32 a1 = 2 → ((n32 a1 = 3 → post (s0 this 3) s0) ∧ (¬ n32 a1 = 3 → ((n32 a1 = 4 → post (s0 this 4) s0) ∧ (¬ n32 a1 = 4 → ((n32 a1 = 5 → post (s0 this 5) s0) ∧ (¬ n32 a1 = 5 → ((n32 a1 = 6 → post (-1) s0) ∧ (¬ n32 a1 = 6 → ((n32 a1 = 7 → post (s0 this 6) s0) ∧ (¬ n32 a1 = 7 → post (-1) s0))))))))))))))))
set_option maxRecDepth 100000 in
set_option maxHeartbeats 4000000 in
theorem c_X5_fact (l : Launch) (G : mm_G) (this : Nat) (a1 : Int) (h0 : mm_ok this 15 0) (s0 : mm_M) (post : Int → mm_M → Prop) (hw : wp_X5_fact this a1 s0 post) : Met l yX5_fact (mm_wm yX5_fact cX5_fact 2 (some .int)) (mm_rm 1) (va_Pc [.ref (mm_ad G this), .int (mm_I a1)] (mm_pre G s0)) (mm_Qi G post) 0 0 (mm_A G) := by
  refine mm_met (own := RX5) (by decide) rfl (Nat.le_of_ble_eq_true rfl) ?_
  intro p e s m args below meth c C hr hk
  unfold wp_X5_fact at hw
  intro H locs ls w hl
  have hl : lv_has ls 2 [(0, .ref (mm_ad G this)), (1, .int (mm_I a1))] := hl
  refine lv_iload_n (pc := 0) C.1 C.2.1 dX5_fact_0 rfl (lv_at hl 1 rfl) ?_
  by_cases hc0 : n32 a1 = 0
  · have hw := hw.1 hc0
    refine lv_tableIn (pc := 1) (tgt := 48) C.1 C.2.1 dX5_fact_1 (by rw [show (mm_I a1).toInt = 0 from hc0]; decide) (by rw [show (mm_I a1).toInt = 0 from hc0]; decide) (by rw [show (mm_I a1).toInt = 0 from hc0]; first | done | rfl) (by decide) ?_
    refine lv_aload_n (pc := 48) C.1 C.2.1 dX5_fact_48 rfl (lv_at hl 0 rfl) ?_
    refine g_geti (pc := 49) C w h0 ff_X5_1 lk_X5_15 dX5_fact_49 ?_
    exact g_iret (pc := 52) C w hr hk hw dX5_fact_52
  have hw := hw.2 hc0
  by_cases hc1 : n32 a1 = 1
  · have hw := hw.1 hc1
    refine lv_tableIn (pc := 1) (tgt := 53) C.1 C.2.1 dX5_fact_1 (by rw [show (mm_I a1).toInt = 1 from hc1]; decide) (by rw [show (mm_I a1).toInt = 1 from hc1]; decide) (by rw [show (mm_I a1).toInt = 1 from hc1]; first | done | rfl) (by decide) ?_
    refine lv_aload_n (pc := 53) C.1 C.2.1 dX5_fact_53 rfl (lv_at hl 0 rfl) ?_
    refine g_geti (pc := 54) C w h0 ff_X5_2 lk_X5_18 dX5_fact_54 ?_
    exact g_iret (pc := 57) C w hr hk hw dX5_fact_57
  have hw := hw.2 hc1
  by_cases hc2 : n32 a1 = 2
  · have hw := hw.1 hc2
    refine lv_tableIn (pc := 1) (tgt := 58) C.1 C.2.1 dX5_fact_1 (by rw [show (mm_I a1).toInt = 2 from hc2]; decide) (by rw [show (mm_I a1).toInt = 2 from hc2]; decide) (by rw [show (mm_I a1).toInt = 2 from hc2]; first | done | rfl) (by decide) ?_
    refine lv_aload_n (pc := 58) C.1 C.2.1 dX5_fact_58 rfl (lv_at hl 0 rfl) ?_
    refine g_geti (pc := 59) C w h0 ff_X5_0 lk_X5_11 dX5_fact_59 ?_
    exact g_iret (pc := 62) C w hr hk hw dX5_fact_62
  have hw := hw.2 hc2
  by_cases hc3 : n32 a1 = 3
  · have hw := hw.1 hc3
    refine lv_tableIn (pc := 1) (tgt := 63) C.1 C.2.1 dX5_fact_1 (by rw [show (mm_I a1).toInt = 3 from hc3]; decide) (by rw [show (mm_I a1).toInt = 3 from hc3]; decide) (by rw [show (mm_I a1).toInt = 3 from hc3]; first | done | rfl) (by decide) ?_
    refine lv_aload_n (pc := 63) C.1 C.2.1 dX5_fact_63 rfl (lv_at hl 0 rfl) ?_
    refine g_geti (pc := 64) C w h0 ff_X5_3 lk_X5_21 dX5_fact_64 ?_
    exact g_iret (pc := 67) C w hr hk hw dX5_fact_67
  have hw := hw.2 hc3
  by_cases hc4 : n32 a1 = 4
  · have hw := hw.1 hc4
    refine lv_tableIn (pc := 1) (tgt := 68) C.1 C.2.1 dX5_fact_1 (by rw [show (mm_I a1).toInt = 4 from hc4]; decide) (by rw [show (mm_I a1).toInt = 4 from hc4]; decide) (by rw [show (mm_I a1).toInt = 4 from hc4]; first | done | rfl) (by decide) ?_
    refine lv_aload_n (pc := 68) C.1 C.2.1 dX5_fact_68 rfl (lv_at hl 0 rfl) ?_
    refine g_geti (pc := 69) C w h0 ff_X5_4 lk_X5_24 dX5_fact_69 ?_
    exact g_iret (pc := 72) C w hr hk hw dX5_fact_72
  have hw := hw.2 hc4
  by_cases hc5 : n32 a1 = 5
  · have hw := hw.1 hc5
    refine lv_tableIn (pc := 1) (tgt := 73) C.1 C.2.1 dX5_fact_1 (by rw [show (mm_I a1).toInt = 5 from hc5]; decide) (by rw [show (mm_I a1).toInt = 5 from hc5]; decide) (by rw [show (mm_I a1).toInt = 5 from hc5]; first | done | rfl) (by decide) ?_
    refine lv_aload_n (pc := 73) C.1 C.2.1 dX5_fact_73 rfl (lv_at hl 0 rfl) ?_
    refine g_geti (pc := 74) C w h0 ff_X5_5 lk_X5_27 dX5_fact_74 ?_
    exact g_iret (pc := 77) C w hr hk hw dX5_fact_77
  have hw := hw.2 hc5
  by_cases hc6 : n32 a1 = 6
  · have hw := hw.1 hc6
    refine lv_tableIn (pc := 1) (tgt := 83) C.1 C.2.1 dX5_fact_1 (by rw [show (mm_I a1).toInt = 6 from hc6]; decide) (by rw [show (mm_I a1).toInt = 6 from hc6]; decide) (by rw [show (mm_I a1).toInt = 6 from hc6]; first | done | rfl) (by decide) ?_
    refine lv_iconst (pc := 83) (v := mm_I (-1)) C.1 C.2.1 dX5_fact_83 rfl ?_
    exact g_iret (pc := 84) C w hr hk hw dX5_fact_84
  have hw := hw.2 hc6
  by_cases hc7 : n32 a1 = 7
  · have hw := hw.1 hc7
    refine lv_tableIn (pc := 1) (tgt := 78) C.1 C.2.1 dX5_fact_1 (by rw [show (mm_I a1).toInt = 7 from hc7]; decide) (by rw [show (mm_I a1).toInt = 7 from hc7]; decide) (by rw [show (mm_I a1).toInt = 7 from hc7]; first | done | rfl) (by decide) ?_
    refine lv_aload_n (pc := 78) C.1 C.2.1 dX5_fact_78 rfl (lv_at hl 0 rfl) ?_
    refine g_geti (pc := 79) C w h0 ff_X5_6 lk_X5_30 dX5_fact_79 ?_
    exact g_iret (pc := 82) C w hr hk hw dX5_fact_82
  have hw := hw.2 hc7
  refine lv_tableOut (pc := 1) (tgt := 83) C.1 C.2.1 dX5_fact_1 (mo_0_7 hc0 hc1 hc2 hc3 hc4 hc5 hc6 hc7) (by decide) ?_
  refine lv_iconst (pc := 83) (v := mm_I (-1)) C.1 C.2.1 dX5_fact_83 rfl ?_
  exact g_iret (pc := 84) C w hr hk hw dX5_fact_84
theorem lk_X6_38 : Cond.fieldLink RX6 38 "LastServed$Row" "size" "I" ∈ mm_ws := (mt_2 54 rfl rfl)
theorem ff_X6_8 : mm_F 6 8 0 RX6 TX6 9 := ⟨rfl, by decide, fk_X6, rfl, rfl⟩
theorem ms_200 : (Int16.ofInt 200).toInt32 = mm_I 200 := by decide
theorem mn_200 : n32 200 = 200 := by decide
theorem lk_X6_9 : Cond.fieldLink RX6 9 "LastServed$Row" "cameAt" "[I" ∈ mm_ws := (mt_2 48 rfl rfl)
theorem ff_X6_2 : mm_F 6 2 1 RX6 TX6 9 := ⟨rfl, by decide, fk_X6, rfl, rfl⟩
theorem ro_X6_2 {i : Nat} (h : mm_ok i 16 0) : mm_ok (mm_rt i 2) 0 8 := by
  have q : ∀ i, i < mm_N → mm_kd i = 16 → mm_rt i 2 < mm_N ∧ mm_kd (mm_rt i 2) = 0 ∧ mm_ln (mm_rt i 2) = 8 := by decide +kernel
  exact q i h.1 h.2.1
theorem lk_X6_15 : Cond.fieldLink RX6 15 "LastServed$Row" "takes" "[I" ∈ mm_ws := (mt_2 49 rfl rfl)
theorem ff_X6_3 : mm_F 6 3 1 RX6 TX6 9 := ⟨rfl, by decide, fk_X6, rfl, rfl⟩
theorem ro_X6_3 {i : Nat} (h : mm_ok i 16 0) : mm_ok (mm_rt i 3) 0 8 := by
  have q : ∀ i, i < mm_N → mm_kd i = 16 → mm_rt i 3 < mm_N ∧ mm_kd (mm_rt i 3) = 0 ∧ mm_ln (mm_rt i 3) = 8 := by decide +kernel
  exact q i h.1 h.2.1
theorem fw_X6_8 : mm_Fw 6 8 TX6 9 .int := ⟨⟨tyX6, tyX6_ok⟩, nmX6, rfl, by decide +kernel⟩
def wp_X6_append (this : Nat) (a1 : Int) (a2 : Int) (s0 : mm_M) (post : Int → mm_M → Prop) : Prop :=
  ∀ (L64 : mm_M → Prop), 
  (∀  (s1 : mm_M), ((0 ≤ s1 this 8 ∧ s1 this 8 < 8) ∧ (∀ s_1 : mm_M, s_1 = mm_up s1 (mm_rt this 2) (s1 this 8) a1 → ((0 ≤ s_1 this 8 ∧ s_1 this 8 < 8) ∧ (∀ s_2 : mm_M, s_2 = mm_up s_1 (mm_rt this 3) (s_1 this 8) a2 → (∀ s_3 : mm_M, s_3 = mm_up s_2 this 8 ((s_2 this 8) + 1) → post (s_3 this 8) s_3))))) → L64 s1) →
  ((n32 (s0 this 8) < 0 → post (-1) s0) ∧ (¬ n32 (s0 this 8) < 0 → ((8 ≤ n32 (s0 this 8) → post (-1) s0) ∧ (¬ 8 ≤ n32 (s0 this 8) → ((n32 a1 < 0 → post (-1) s0) ∧ (¬ n32 a1 < 0 → ((200 < n32 a1 → post (-1) s0) ∧ (¬ 200 < n32 a1 → ((n32 a2 < 1 → post (-1) s0) ∧ (¬ n32 a2 < 1 → ((n32 a2 ≤ 20 → ((n32 (s0 this 8) ≤ 0 → L64 s0) ∧ (¬ n32 (s0 this 8) ≤ 0 → ((0 ≤ (s0 this 8) - 1 ∧ (s0 this 8) - 1 < 8) ∧ ((n32 (s0 (mm_rt this 2) ((s0 this 8) - 1)) ≤ n32 a1 → L64 s0) ∧ (¬ n32 (s0 (mm_rt this 2) ((s0 this 8) - 1)) ≤ n32 a1 → post (-1) s0)))))) ∧ (¬ n32 a2 ≤ 20 → post (-1) s0))))))))))))
set_option maxRecDepth 100000 in
set_option maxHeartbeats 4000000 in
theorem c_X6_append (l : Launch) (G : mm_G) (this : Nat) (a1 : Int) (a2 : Int) (h0 : mm_ok this 16 0) (s0 : mm_M) (post : Int → mm_M → Prop) (hw : wp_X6_append this a1 a2 s0 post) : Met l yX6_append (mm_wm yX6_append cX6_append 3 (some .int)) (mm_rm 1) (va_Pc [.ref (mm_ad G this), .int (mm_I a1), .int (mm_I a2)] (mm_pre G s0)) (mm_Qi G post) 0 0 (mm_A G) := by
  refine mm_met (own := RX6) (by decide) rfl (Nat.le_of_ble_eq_true rfl) ?_
  intro p e s m args below meth c C hr hk
  unfold wp_X6_append at hw
  have hw := hw (fun  (u : mm_M) => mm_X p l e (mm_rm 1) s m args below meth c (MQ below (mm_Qi G post) args s 0 0 (mm_A G)) G (mm_A G) 3 64 [(0, .ref (mm_ad G this)), (1, .int (mm_I a1)), (2, .int (mm_I a2))] [] u)
  have hw := hw (by
    intro  s1 hw  H locs ls w hl
    refine lv_aload_n (pc := 64) C.1 C.2.1 dX6_append_64 rfl (lv_at hl 0 rfl) ?_
    refine g_getr (pc := 65) C w h0 ff_X6_2 lk_X6_9 dX6_append_65 ?_
    refine lv_aload_n (pc := 68) C.1 C.2.1 dX6_append_68 rfl (lv_at hl 0 rfl) ?_
    refine g_geti (pc := 69) C w h0 ff_X6_8 lk_X6_38 dX6_append_69 ?_
    refine lv_iload_n (pc := 72) C.1 C.2.1 dX6_append_72 rfl (lv_at hl 1 rfl) ?_
    obtain ⟨hi, hw⟩ := hw
    refine g_iast (pc := 73) C w (ro_X6_2 h0) hi  dX6_append_73 (fun s_1 H locs es_1 w => ?_)
    have hw := hw s_1 es_1
    refine lv_aload_n (pc := 74) C.1 C.2.1 dX6_append_74 rfl (lv_at hl 0 rfl) ?_
    refine g_getr (pc := 75) C w h0 ff_X6_3 lk_X6_15 dX6_append_75 ?_
    refine lv_aload_n (pc := 78) C.1 C.2.1 dX6_append_78 rfl (lv_at hl 0 rfl) ?_
    refine g_geti (pc := 79) C w h0 ff_X6_8 lk_X6_38 dX6_append_79 ?_
    refine lv_iload_n (pc := 82) C.1 C.2.1 dX6_append_82 rfl (lv_at hl 2 rfl) ?_
    obtain ⟨hi, hw⟩ := hw
    refine g_iast (pc := 83) C w (ro_X6_3 h0) hi  dX6_append_83 (fun s_2 H locs es_2 w => ?_)
    have hw := hw s_2 es_2
    refine lv_aload_n (pc := 84) C.1 C.2.1 dX6_append_84 rfl (lv_at hl 0 rfl) ?_
    refine lv_dup (pc := 85) C.1 C.2.1 dX6_append_85 rfl ?_
    refine g_geti (pc := 86) C w h0 ff_X6_8 lk_X6_38 dX6_append_86 ?_
    refine lv_iconst (pc := 89) (v := mm_I 1) C.1 C.2.1 dX6_append_89 rfl ?_
    refine g_iadd (pc := 90) C dX6_append_90 ?_
    refine g_puti (pc := 91) C w h0 ff_X6_8 fw_X6_8 lk_X6_38 dX6_append_91 (fun s_3 H locs es_3 w => ?_)
    have hw := hw s_3 es_3
    refine lv_aload_n (pc := 94) C.1 C.2.1 dX6_append_94 rfl (lv_at hl 0 rfl) ?_
    refine g_geti (pc := 95) C w h0 ff_X6_8 lk_X6_38 dX6_append_95 ?_
    exact g_iret (pc := 98) C w hr hk hw dX6_append_98)
  intro H locs ls w hl
  have hl : lv_has ls 3 [(0, .ref (mm_ad G this)), (1, .int (mm_I a1)), (2, .int (mm_I a2))] := hl
  refine lv_aload_n (pc := 0) C.1 C.2.1 dX6_append_0 rfl (lv_at hl 0 rfl) ?_
  refine g_geti (pc := 1) C w h0 ff_X6_8 lk_X6_38 dX6_append_1 ?_
  refine g_if_lt (pc := 4) (tgt := 38) C rfl dX6_append_4 (by decide) (fun hc => ?_) (fun hc => ?_)
  · have hw := hw.1 hc
    refine lv_iconst (pc := 38) (v := mm_I (-1)) C.1 C.2.1 dX6_append_38 rfl ?_
    exact g_iret (pc := 39) C w hr hk hw dX6_append_39
  · have hw := hw.2 hc
    refine lv_aload_n (pc := 7) C.1 C.2.1 dX6_append_7 rfl (lv_at hl 0 rfl) ?_
    refine g_geti (pc := 8) C w h0 ff_X6_8 lk_X6_38 dX6_append_8 ?_
    refine lv_bipush (pc := 11) C.1 C.2.1 dX6_append_11 mb_8 ?_
    refine g_icmp_ge (pc := 13) (tgt := 38) C rfl mn_8 dX6_append_13 (by decide) (fun hc => ?_) (fun hc => ?_)
    · have hw := hw.1 hc
      refine lv_iconst (pc := 38) (v := mm_I (-1)) C.1 C.2.1 dX6_append_38 rfl ?_
      exact g_iret (pc := 39) C w hr hk hw dX6_append_39
    · have hw := hw.2 hc
      refine lv_iload_n (pc := 16) C.1 C.2.1 dX6_append_16 rfl (lv_at hl 1 rfl) ?_
      refine g_if_lt (pc := 17) (tgt := 38) C rfl dX6_append_17 (by decide) (fun hc => ?_) (fun hc => ?_)
      · have hw := hw.1 hc
        refine lv_iconst (pc := 38) (v := mm_I (-1)) C.1 C.2.1 dX6_append_38 rfl ?_
        exact g_iret (pc := 39) C w hr hk hw dX6_append_39
      · have hw := hw.2 hc
        refine lv_iload_n (pc := 20) C.1 C.2.1 dX6_append_20 rfl (lv_at hl 1 rfl) ?_
        refine lv_sipush (pc := 21) C.1 C.2.1 dX6_append_21 ms_200 ?_
        refine g_icmp_gt (pc := 24) (tgt := 38) C rfl mn_200 dX6_append_24 (by decide) (fun hc => ?_) (fun hc => ?_)
        · have hw := hw.1 hc
          refine lv_iconst (pc := 38) (v := mm_I (-1)) C.1 C.2.1 dX6_append_38 rfl ?_
          exact g_iret (pc := 39) C w hr hk hw dX6_append_39
        · have hw := hw.2 hc
          refine lv_iload_n (pc := 27) C.1 C.2.1 dX6_append_27 rfl (lv_at hl 2 rfl) ?_
          refine lv_iconst (pc := 28) (v := mm_I 1) C.1 C.2.1 dX6_append_28 rfl ?_
          refine g_icmp_lt (pc := 29) (tgt := 38) C rfl mn_1 dX6_append_29 (by decide) (fun hc => ?_) (fun hc => ?_)
          · have hw := hw.1 hc
            refine lv_iconst (pc := 38) (v := mm_I (-1)) C.1 C.2.1 dX6_append_38 rfl ?_
            exact g_iret (pc := 39) C w hr hk hw dX6_append_39
          · have hw := hw.2 hc
            refine lv_iload_n (pc := 32) C.1 C.2.1 dX6_append_32 rfl (lv_at hl 2 rfl) ?_
            refine lv_bipush (pc := 33) C.1 C.2.1 dX6_append_33 mb_20 ?_
            refine g_icmp_le (pc := 35) (tgt := 40) C rfl mn_20 dX6_append_35 (by decide) (fun hc => ?_) (fun hc => ?_)
            · have hw := hw.1 hc
              refine lv_aload_n (pc := 40) C.1 C.2.1 dX6_append_40 rfl (lv_at hl 0 rfl) ?_
              refine g_geti (pc := 41) C w h0 ff_X6_8 lk_X6_38 dX6_append_41 ?_
              refine g_if_le (pc := 44) (tgt := 64) C rfl dX6_append_44 (by decide) (fun hc => ?_) (fun hc => ?_)
              · have hw := hw.1 hc
                exact hw  _ _ _ w (lv_sub hl [0, 1, 2] rfl)
              · have hw := hw.2 hc
                refine lv_iload_n (pc := 47) C.1 C.2.1 dX6_append_47 rfl (lv_at hl 1 rfl) ?_
                refine lv_aload_n (pc := 48) C.1 C.2.1 dX6_append_48 rfl (lv_at hl 0 rfl) ?_
                refine g_getr (pc := 49) C w h0 ff_X6_2 lk_X6_9 dX6_append_49 ?_
                refine lv_aload_n (pc := 52) C.1 C.2.1 dX6_append_52 rfl (lv_at hl 0 rfl) ?_
                refine g_geti (pc := 53) C w h0 ff_X6_8 lk_X6_38 dX6_append_53 ?_
                refine lv_iconst (pc := 56) (v := mm_I 1) C.1 C.2.1 dX6_append_56 rfl ?_
                refine g_isub (pc := 57) C dX6_append_57 ?_
                obtain ⟨hi, hw⟩ := hw
                refine g_iald (pc := 58) C w (ro_X6_2 h0) hi dX6_append_58 ?_
                refine g_icmp_ge (pc := 59) (tgt := 64) C rfl rfl dX6_append_59 (by decide) (fun hc => ?_) (fun hc => ?_)
                · have hw := hw.1 hc
                  exact hw  _ _ _ w (lv_sub hl [0, 1, 2] rfl)
                · have hw := hw.2 hc
                  refine lv_iconst (pc := 62) (v := mm_I (-1)) C.1 C.2.1 dX6_append_62 rfl ?_
                  exact g_iret (pc := 63) C w hr hk hw dX6_append_63
            · have hw := hw.2 hc
              refine lv_iconst (pc := 38) (v := mm_I (-1)) C.1 C.2.1 dX6_append_38 rfl ?_
              exact g_iret (pc := 39) C w hr hk hw dX6_append_39
theorem lk_X6_18 : Cond.fieldLink RX6 18 "LastServed$Row" "order" "[I" ∈ mm_ws := (mt_2 50 rfl rfl)
theorem ff_X6_4 : mm_F 6 4 1 RX6 TX6 9 := ⟨rfl, by decide, fk_X6, rfl, rfl⟩
theorem ro_X6_4 {i : Nat} (h : mm_ok i 16 0) : mm_ok (mm_rt i 4) 0 8 := by
  have q : ∀ i, i < mm_N → mm_kd i = 16 → mm_rt i 4 < mm_N ∧ mm_kd (mm_rt i 4) = 0 ∧ mm_ln (mm_rt i 4) = 8 := by decide +kernel
  exact q i h.1 h.2.1
def wp_X6_servedAt (this : Nat) (a1 : Int) (s0 : mm_M) (post : Int → mm_M → Prop) : Prop :=
  ((n32 a1 < 0 → post (-1) s0) ∧ (¬ n32 a1 < 0 → ((n32 (s0 this 8) ≤ n32 a1 → post (-1) s0) ∧ (¬ n32 (s0 this 8) ≤ n32 a1 → ((8 ≤ n32 a1 → post (-1) s0) ∧ (¬ 8 ≤ n32 a1 → ((0 ≤ a1 ∧ a1 < 8) ∧ post (s0 (mm_rt this 4) a1) s0)))))))
set_option maxRecDepth 100000 in
set_option maxHeartbeats 4000000 in
theorem c_X6_servedAt (l : Launch) (G : mm_G) (this : Nat) (a1 : Int) (h0 : mm_ok this 16 0) (s0 : mm_M) (post : Int → mm_M → Prop) (hw : wp_X6_servedAt this a1 s0 post) : Met l yX6_servedAt (mm_wm yX6_servedAt cX6_servedAt 2 (some .int)) (mm_rm 1) (va_Pc [.ref (mm_ad G this), .int (mm_I a1)] (mm_pre G s0)) (mm_Qi G post) 0 0 (mm_A G) := by
  refine mm_met (own := RX6) (by decide) rfl (Nat.le_of_ble_eq_true rfl) ?_
  intro p e s m args below meth c C hr hk
  unfold wp_X6_servedAt at hw
  intro H locs ls w hl
  have hl : lv_has ls 2 [(0, .ref (mm_ad G this)), (1, .int (mm_I a1))] := hl
  refine lv_iload_n (pc := 0) C.1 C.2.1 dX6_servedAt_0 rfl (lv_at hl 1 rfl) ?_
  refine g_if_lt (pc := 1) (tgt := 27) C rfl dX6_servedAt_1 (by decide) (fun hc => ?_) (fun hc => ?_)
  · have hw := hw.1 hc
    refine lv_iconst (pc := 27) (v := mm_I (-1)) C.1 C.2.1 dX6_servedAt_27 rfl ?_
    exact g_iret (pc := 28) C w hr hk hw dX6_servedAt_28
  · have hw := hw.2 hc
    refine lv_iload_n (pc := 4) C.1 C.2.1 dX6_servedAt_4 rfl (lv_at hl 1 rfl) ?_
    refine lv_aload_n (pc := 5) C.1 C.2.1 dX6_servedAt_5 rfl (lv_at hl 0 rfl) ?_
    refine g_geti (pc := 6) C w h0 ff_X6_8 lk_X6_38 dX6_servedAt_6 ?_
    refine g_icmp_ge (pc := 9) (tgt := 27) C rfl rfl dX6_servedAt_9 (by decide) (fun hc => ?_) (fun hc => ?_)
    · have hw := hw.1 hc
      refine lv_iconst (pc := 27) (v := mm_I (-1)) C.1 C.2.1 dX6_servedAt_27 rfl ?_
      exact g_iret (pc := 28) C w hr hk hw dX6_servedAt_28
    · have hw := hw.2 hc
      refine lv_iload_n (pc := 12) C.1 C.2.1 dX6_servedAt_12 rfl (lv_at hl 1 rfl) ?_
      refine lv_bipush (pc := 13) C.1 C.2.1 dX6_servedAt_13 mb_8 ?_
      refine g_icmp_ge (pc := 15) (tgt := 27) C rfl mn_8 dX6_servedAt_15 (by decide) (fun hc => ?_) (fun hc => ?_)
      · have hw := hw.1 hc
        refine lv_iconst (pc := 27) (v := mm_I (-1)) C.1 C.2.1 dX6_servedAt_27 rfl ?_
        exact g_iret (pc := 28) C w hr hk hw dX6_servedAt_28
      · have hw := hw.2 hc
        refine lv_aload_n (pc := 18) C.1 C.2.1 dX6_servedAt_18 rfl (lv_at hl 0 rfl) ?_
        refine g_getr (pc := 19) C w h0 ff_X6_4 lk_X6_18 dX6_servedAt_19 ?_
        refine lv_iload_n (pc := 22) C.1 C.2.1 dX6_servedAt_22 rfl (lv_at hl 1 rfl) ?_
        obtain ⟨hi, hw⟩ := hw
        refine g_iald (pc := 23) C w (ro_X6_4 h0) hi dX6_servedAt_23 ?_
        refine lv_goto (pc := 24) (tgt := 28) C.1 C.2.1 dX6_servedAt_24 (by decide) ?_
        exact g_iret (pc := 28) C w hr hk hw dX6_servedAt_28
theorem lk_X6_21 : Cond.fieldLink RX6 21 "LastServed$Row" "waits" "[I" ∈ mm_ws := (mt_2 51 rfl rfl)
theorem ff_X6_5 : mm_F 6 5 1 RX6 TX6 9 := ⟨rfl, by decide, fk_X6, rfl, rfl⟩
theorem ro_X6_5 {i : Nat} (h : mm_ok i 16 0) : mm_ok (mm_rt i 5) 0 8 := by
  have q : ∀ i, i < mm_N → mm_kd i = 16 → mm_rt i 5 < mm_N ∧ mm_kd (mm_rt i 5) = 0 ∧ mm_ln (mm_rt i 5) = 8 := by decide +kernel
  exact q i h.1 h.2.1
def wp_X6_waitOf (this : Nat) (a1 : Int) (s0 : mm_M) (post : Int → mm_M → Prop) : Prop :=
  ((n32 a1 < 0 → post (-1) s0) ∧ (¬ n32 a1 < 0 → ((n32 (s0 this 8) ≤ n32 a1 → post (-1) s0) ∧ (¬ n32 (s0 this 8) ≤ n32 a1 → ((8 ≤ n32 a1 → post (-1) s0) ∧ (¬ 8 ≤ n32 a1 → ((0 ≤ a1 ∧ a1 < 8) ∧ post (s0 (mm_rt this 5) a1) s0)))))))
set_option maxRecDepth 100000 in
set_option maxHeartbeats 4000000 in
theorem c_X6_waitOf (l : Launch) (G : mm_G) (this : Nat) (a1 : Int) (h0 : mm_ok this 16 0) (s0 : mm_M) (post : Int → mm_M → Prop) (hw : wp_X6_waitOf this a1 s0 post) : Met l yX6_waitOf (mm_wm yX6_waitOf cX6_waitOf 2 (some .int)) (mm_rm 1) (va_Pc [.ref (mm_ad G this), .int (mm_I a1)] (mm_pre G s0)) (mm_Qi G post) 0 0 (mm_A G) := by
  refine mm_met (own := RX6) (by decide) rfl (Nat.le_of_ble_eq_true rfl) ?_
  intro p e s m args below meth c C hr hk
  unfold wp_X6_waitOf at hw
  intro H locs ls w hl
  have hl : lv_has ls 2 [(0, .ref (mm_ad G this)), (1, .int (mm_I a1))] := hl
  refine lv_iload_n (pc := 0) C.1 C.2.1 dX6_waitOf_0 rfl (lv_at hl 1 rfl) ?_
  refine g_if_lt (pc := 1) (tgt := 27) C rfl dX6_waitOf_1 (by decide) (fun hc => ?_) (fun hc => ?_)
  · have hw := hw.1 hc
    refine lv_iconst (pc := 27) (v := mm_I (-1)) C.1 C.2.1 dX6_waitOf_27 rfl ?_
    exact g_iret (pc := 28) C w hr hk hw dX6_waitOf_28
  · have hw := hw.2 hc
    refine lv_iload_n (pc := 4) C.1 C.2.1 dX6_waitOf_4 rfl (lv_at hl 1 rfl) ?_
    refine lv_aload_n (pc := 5) C.1 C.2.1 dX6_waitOf_5 rfl (lv_at hl 0 rfl) ?_
    refine g_geti (pc := 6) C w h0 ff_X6_8 lk_X6_38 dX6_waitOf_6 ?_
    refine g_icmp_ge (pc := 9) (tgt := 27) C rfl rfl dX6_waitOf_9 (by decide) (fun hc => ?_) (fun hc => ?_)
    · have hw := hw.1 hc
      refine lv_iconst (pc := 27) (v := mm_I (-1)) C.1 C.2.1 dX6_waitOf_27 rfl ?_
      exact g_iret (pc := 28) C w hr hk hw dX6_waitOf_28
    · have hw := hw.2 hc
      refine lv_iload_n (pc := 12) C.1 C.2.1 dX6_waitOf_12 rfl (lv_at hl 1 rfl) ?_
      refine lv_bipush (pc := 13) C.1 C.2.1 dX6_waitOf_13 mb_8 ?_
      refine g_icmp_ge (pc := 15) (tgt := 27) C rfl mn_8 dX6_waitOf_15 (by decide) (fun hc => ?_) (fun hc => ?_)
      · have hw := hw.1 hc
        refine lv_iconst (pc := 27) (v := mm_I (-1)) C.1 C.2.1 dX6_waitOf_27 rfl ?_
        exact g_iret (pc := 28) C w hr hk hw dX6_waitOf_28
      · have hw := hw.2 hc
        refine lv_aload_n (pc := 18) C.1 C.2.1 dX6_waitOf_18 rfl (lv_at hl 0 rfl) ?_
        refine g_getr (pc := 19) C w h0 ff_X6_5 lk_X6_21 dX6_waitOf_19 ?_
        refine lv_iload_n (pc := 22) C.1 C.2.1 dX6_waitOf_22 rfl (lv_at hl 1 rfl) ?_
        obtain ⟨hi, hw⟩ := hw
        refine g_iald (pc := 23) C w (ro_X6_5 h0) hi dX6_waitOf_23 ?_
        refine lv_goto (pc := 24) (tgt := 28) C.1 C.2.1 dX6_waitOf_24 (by decide) ?_
        exact g_iret (pc := 28) C w hr hk hw dX6_waitOf_28
def wp_X6_together (this : Nat) (s0 : mm_M) (post : Int → mm_M → Prop) : Prop :=
  ∀ (L4 : Int → Int → mm_M → Prop), 
  (∀ (v1 : Int) (v2 : Int) (s1 : mm_M), ((n32 (s1 this 8) ≤ n32 v2 → post v1 s1) ∧ (¬ n32 (s1 this 8) ≤ n32 v2 → ((8 ≤ n32 v2 → post v1 s1) ∧ (¬ 8 ≤ n32 v2 → ((0 ≤ v2 ∧ v2 < 8) ∧ (∀ v1_3 : Int, v1_3 = v1 + (s1 (mm_rt this 5) v2) → (∀ v2_4 : Int, v2_4 = v2 + 1 → L4 v1_3 v2_4 s1))))))) → L4 v1 v2 s1) →
  L4 0 0 s0
set_option maxRecDepth 100000 in
set_option maxHeartbeats 4000000 in
theorem c_X6_together (l : Launch) (G : mm_G) (this : Nat) (h0 : mm_ok this 16 0) (s0 : mm_M) (post : Int → mm_M → Prop) (hw : wp_X6_together this s0 post) : Met l yX6_together (mm_wm yX6_together cX6_together 3 (some .int)) (mm_rm 1) (va_Pc [.ref (mm_ad G this)] (mm_pre G s0)) (mm_Qi G post) 0 0 (mm_A G) := by
  refine mm_met (own := RX6) (by decide) rfl (Nat.le_of_ble_eq_true rfl) ?_
  intro p e s m args below meth c C hr hk
  unfold wp_X6_together at hw
  have hw := hw (fun (v1 : Int) (v2 : Int) (u : mm_M) => mm_X p l e (mm_rm 1) s m args below meth c (MQ below (mm_Qi G post) args s 0 0 (mm_A G)) G (mm_A G) 3 4 [(0, .ref (mm_ad G this)), (1, .int (mm_I v1)), (2, .int (mm_I v2))] [] u)
  have hw := hw (by
    intro v1 v2 s1 hw  H locs ls w hl
    refine lv_iload_n (pc := 4) C.1 C.2.1 dX6_together_4 rfl (lv_at hl 2 rfl) ?_
    refine lv_aload_n (pc := 5) C.1 C.2.1 dX6_together_5 rfl (lv_at hl 0 rfl) ?_
    refine g_geti (pc := 6) C w h0 ff_X6_8 lk_X6_38 dX6_together_6 ?_
    refine g_icmp_ge (pc := 9) (tgt := 33) C rfl rfl dX6_together_9 (by decide) (fun hc => ?_) (fun hc => ?_)
    · have hw := hw.1 hc
      refine lv_iload_n (pc := 33) C.1 C.2.1 dX6_together_33 rfl (lv_at hl 1 rfl) ?_
      exact g_iret (pc := 34) C w hr hk hw dX6_together_34
    · have hw := hw.2 hc
      refine lv_iload_n (pc := 12) C.1 C.2.1 dX6_together_12 rfl (lv_at hl 2 rfl) ?_
      refine lv_bipush (pc := 13) C.1 C.2.1 dX6_together_13 mb_8 ?_
      refine g_icmp_ge (pc := 15) (tgt := 33) C rfl mn_8 dX6_together_15 (by decide) (fun hc => ?_) (fun hc => ?_)
      · have hw := hw.1 hc
        refine lv_iload_n (pc := 33) C.1 C.2.1 dX6_together_33 rfl (lv_at hl 1 rfl) ?_
        exact g_iret (pc := 34) C w hr hk hw dX6_together_34
      · have hw := hw.2 hc
        refine lv_iload_n (pc := 18) C.1 C.2.1 dX6_together_18 rfl (lv_at hl 1 rfl) ?_
        refine lv_aload_n (pc := 19) C.1 C.2.1 dX6_together_19 rfl (lv_at hl 0 rfl) ?_
        refine g_getr (pc := 20) C w h0 ff_X6_5 lk_X6_21 dX6_together_20 ?_
        refine lv_iload_n (pc := 23) C.1 C.2.1 dX6_together_23 rfl (lv_at hl 2 rfl) ?_
        obtain ⟨hi, hw⟩ := hw
        refine g_iald (pc := 24) C w (ro_X6_5 h0) hi dX6_together_24 ?_
        refine g_iadd (pc := 25) C dX6_together_25 ?_
        refine g_istore_n (pc := 26) C dX6_together_26 rfl hl (by decide) (fun v1_3 ev1_3 ls hl => ?_)
        have hw := hw v1_3 ev1_3
        have hl : lv_has ls 3 [(1, .int (mm_I v1_3)), (0, .ref (mm_ad G this)), (2, .int (mm_I v2))] := hl
        refine g_iinc (pc := 27) (k := 2) C dX6_together_27 hl rfl (by decide) (fun v2_4 ev2_4 ls hl => ?_)
        have hw := hw v2_4 ev2_4
        have hl : lv_has ls 3 [(2, .int (mm_I v2_4)), (1, .int (mm_I v1_3)), (0, .ref (mm_ad G this))] := hl
        refine lv_goto (pc := 30) (tgt := 4) C.1 C.2.1 dX6_together_30 (by decide) ?_
        exact hw  _ _ _ w (lv_sub hl [2, 1, 0] rfl))
  intro H locs ls w hl
  have hl : lv_has ls 3 [(0, .ref (mm_ad G this))] := hl
  refine lv_iconst (pc := 0) (v := mm_I 0) C.1 C.2.1 dX6_together_0 rfl ?_
  refine lv_istore_n (pc := 1) (lv' := [(1, .int (mm_I 0)), (0, .ref (mm_ad G this))]) C.1 C.2.1 dX6_together_1 rfl hl (by decide) rfl (fun ls hl => ?_)
  refine lv_iconst (pc := 2) (v := mm_I 0) C.1 C.2.1 dX6_together_2 rfl ?_
  refine lv_istore_n (pc := 3) (lv' := [(2, .int (mm_I 0)), (1, .int (mm_I 0)), (0, .ref (mm_ad G this))]) C.1 C.2.1 dX6_together_3 rfl hl (by decide) rfl (fun ls hl => ?_)
  exact hw  _ _ _ w (lv_sub hl [2, 1, 0] rfl)
theorem ml_X6_42 : Cond.methodLink RX6 42 Lib.Math.max.name ∈ mm_ws := (mt_4 217 rfl rfl)
def wp_X6_longest (this : Nat) (s0 : mm_M) (post : Int → mm_M → Prop) : Prop :=
  ∀ (L4 : Int → Int → mm_M → Prop), 
  (∀ (v1 : Int) (v2 : Int) (s1 : mm_M), ((n32 (s1 this 8) ≤ n32 v2 → post v1 s1) ∧ (¬ n32 (s1 this 8) ≤ n32 v2 → ((8 ≤ n32 v2 → post v1 s1) ∧ (¬ 8 ≤ n32 v2 → ((0 ≤ v2 ∧ v2 < 8) ∧ (∀ v1_3 : Int, v1_3 = mm_max v1 (s1 (mm_rt this 5) v2) → (∀ v2_4 : Int, v2_4 = v2 + 1 → L4 v1_3 v2_4 s1))))))) → L4 v1 v2 s1) →
  L4 0 0 s0
set_option maxRecDepth 100000 in
set_option maxHeartbeats 4000000 in
theorem c_X6_longest (l : Launch) (G : mm_G) (this : Nat) (h0 : mm_ok this 16 0) (s0 : mm_M) (post : Int → mm_M → Prop) (hw : wp_X6_longest this s0 post) : Met l yX6_longest (mm_wm yX6_longest cX6_longest 3 (some .int)) (mm_rm 2) (va_Pc [.ref (mm_ad G this)] (mm_pre G s0)) (mm_Qi G post) 0 0 (mm_A G) := by
  refine mm_met (own := RX6) (by decide) rfl (Nat.le_of_ble_eq_true rfl) ?_
  intro p e s m args below meth c C hr hk
  unfold wp_X6_longest at hw
  have hw := hw (fun (v1 : Int) (v2 : Int) (u : mm_M) => mm_X p l e (mm_rm 2) s m args below meth c (MQ below (mm_Qi G post) args s 0 0 (mm_A G)) G (mm_A G) 3 4 [(0, .ref (mm_ad G this)), (1, .int (mm_I v1)), (2, .int (mm_I v2))] [] u)
  have hw := hw (by
    intro v1 v2 s1 hw  H locs ls w hl
    refine lv_iload_n (pc := 4) C.1 C.2.1 dX6_longest_4 rfl (lv_at hl 2 rfl) ?_
    refine lv_aload_n (pc := 5) C.1 C.2.1 dX6_longest_5 rfl (lv_at hl 0 rfl) ?_
    refine g_geti (pc := 6) C w h0 ff_X6_8 lk_X6_38 dX6_longest_6 ?_
    refine g_icmp_ge (pc := 9) (tgt := 35) C rfl rfl dX6_longest_9 (by decide) (fun hc => ?_) (fun hc => ?_)
    · have hw := hw.1 hc
      refine lv_iload_n (pc := 35) C.1 C.2.1 dX6_longest_35 rfl (lv_at hl 1 rfl) ?_
      exact g_iret (pc := 36) C w hr hk hw dX6_longest_36
    · have hw := hw.2 hc
      refine lv_iload_n (pc := 12) C.1 C.2.1 dX6_longest_12 rfl (lv_at hl 2 rfl) ?_
      refine lv_bipush (pc := 13) C.1 C.2.1 dX6_longest_13 mb_8 ?_
      refine g_icmp_ge (pc := 15) (tgt := 35) C rfl mn_8 dX6_longest_15 (by decide) (fun hc => ?_) (fun hc => ?_)
      · have hw := hw.1 hc
        refine lv_iload_n (pc := 35) C.1 C.2.1 dX6_longest_35 rfl (lv_at hl 1 rfl) ?_
        exact g_iret (pc := 36) C w hr hk hw dX6_longest_36
      · have hw := hw.2 hc
        refine lv_iload_n (pc := 18) C.1 C.2.1 dX6_longest_18 rfl (lv_at hl 1 rfl) ?_
        refine lv_aload_n (pc := 19) C.1 C.2.1 dX6_longest_19 rfl (lv_at hl 0 rfl) ?_
        refine g_getr (pc := 20) C w h0 ff_X6_5 lk_X6_21 dX6_longest_20 ?_
        refine lv_iload_n (pc := 23) C.1 C.2.1 dX6_longest_23 rfl (lv_at hl 2 rfl) ?_
        obtain ⟨hi, hw⟩ := hw
        refine g_iald (pc := 24) C w (ro_X6_5 h0) hi dX6_longest_24 ?_
        refine g_max (pc := 25) C hl.1 ml_X6_42 mv_max ⟨Nat.le_of_ble_eq_true rfl, Nat.le_of_ble_eq_true rfl⟩ ⟨Nat.le_of_ble_eq_true rfl, Nat.le_of_ble_eq_true rfl⟩ dX6_longest_25 ?_
        refine g_istore_n (pc := 28) C dX6_longest_28 rfl hl (by decide) (fun v1_3 ev1_3 ls hl => ?_)
        have hw := hw v1_3 ev1_3
        have hl : lv_has ls 3 [(1, .int (mm_I v1_3)), (0, .ref (mm_ad G this)), (2, .int (mm_I v2))] := hl
        refine g_iinc (pc := 29) (k := 2) C dX6_longest_29 hl rfl (by decide) (fun v2_4 ev2_4 ls hl => ?_)
        have hw := hw v2_4 ev2_4
        have hl : lv_has ls 3 [(2, .int (mm_I v2_4)), (1, .int (mm_I v1_3)), (0, .ref (mm_ad G this))] := hl
        refine lv_goto (pc := 32) (tgt := 4) C.1 C.2.1 dX6_longest_32 (by decide) ?_
        exact hw  _ _ _ w (lv_sub hl [2, 1, 0] rfl))
  intro H locs ls w hl
  have hl : lv_has ls 3 [(0, .ref (mm_ad G this))] := hl
  refine lv_iconst (pc := 0) (v := mm_I 0) C.1 C.2.1 dX6_longest_0 rfl ?_
  refine lv_istore_n (pc := 1) (lv' := [(1, .int (mm_I 0)), (0, .ref (mm_ad G this))]) C.1 C.2.1 dX6_longest_1 rfl hl (by decide) rfl (fun ls hl => ?_)
  refine lv_iconst (pc := 2) (v := mm_I 0) C.1 C.2.1 dX6_longest_2 rfl ?_
  refine lv_istore_n (pc := 3) (lv' := [(2, .int (mm_I 0)), (1, .int (mm_I 0)), (0, .ref (mm_ad G this))]) C.1 C.2.1 dX6_longest_3 rfl hl (by decide) rfl (fun ls hl => ?_)
  exact hw  _ _ _ w (lv_sub hl [2, 1, 0] rfl)
def wp_X10_unlike (a1 : Int) (a2 : Int) (a3 : Int) (s0 : mm_M) (post : Int → mm_M → Prop) : Prop :=
  ((¬ n64 a1 = n64 0 → (n64 (a1 * a1) ≠ 0 ∧ post (Int.tdiv (n64 ((a1 * a3) - (a2 * a2))) (n64 (a1 * a1))) s0)) ∧ (n64 a1 = n64 0 → post 0 s0))
set_option maxRecDepth 100000 in
set_option maxHeartbeats 4000000 in
theorem c_X10_unlike (l : Launch) (G : mm_G) (a1 : Int) (a2 : Int) (a3 : Int)  (s0 : mm_M) (post : Int → mm_M → Prop) (hw : wp_X10_unlike a1 a2 a3 s0 post) : Met l yX10_unlike (mm_wm yX10_unlike cX10_unlike 6 (some .int)) (mm_rm 1) (va_Pc [.long (mm_L a1), .long (mm_L a2), .long (mm_L a3)] (mm_pre G s0)) (mm_Qi G post) 0 0 (mm_A G) := by
  refine mm_met (own := RX10) (by decide) rfl (Nat.le_of_ble_eq_true rfl) ?_
  intro p e s m args below meth c C hr hk
  unfold wp_X10_unlike at hw
  intro H locs ls w hl
  have hl : lv_has ls 6 [(0, .long (mm_L a1)), (2, .long (mm_L a2)), (4, .long (mm_L a3))] := hl
  refine lv_lload_n (pc := 0) C.1 C.2.1 dX10_unlike_0 rfl (lv_at hl 0 rfl) ?_
  refine lv_lconst (pc := 1) (v := mm_L 0) C.1 C.2.1 dX10_unlike_1 rfl ?_
  refine g_lcmp (pc := 2) C dX10_unlike_2 ?_
  refine g_lif_ne (pc := 3) (tgt := 10) C rfl rfl dX10_unlike_3 (by decide) (fun hc => ?_) (fun hc => ?_)
  · have hw := hw.1 hc
    refine lv_lload_n (pc := 10) C.1 C.2.1 dX10_unlike_10 rfl (lv_at hl 0 rfl) ?_
    refine lv_lload (pc := 11) C.1 C.2.1 dX10_unlike_11 (lv_at hl 2 rfl) ?_
    refine g_lmul (pc := 13) C dX10_unlike_13 ?_
    refine lv_lload_n (pc := 14) C.1 C.2.1 dX10_unlike_14 rfl (lv_at hl 1 rfl) ?_
    refine lv_lload_n (pc := 15) C.1 C.2.1 dX10_unlike_15 rfl (lv_at hl 1 rfl) ?_
    refine g_lmul (pc := 16) C dX10_unlike_16 ?_
    refine g_lsub (pc := 17) C dX10_unlike_17 ?_
    refine lv_lload_n (pc := 18) C.1 C.2.1 dX10_unlike_18 rfl (lv_at hl 0 rfl) ?_
    refine lv_lload_n (pc := 19) C.1 C.2.1 dX10_unlike_19 rfl (lv_at hl 0 rfl) ?_
    refine g_lmul (pc := 20) C dX10_unlike_20 ?_
    obtain ⟨hz, hw⟩ := hw
    refine g_ldiv (pc := 21) C hz dX10_unlike_21 ?_
    refine g_l2i (pc := 22) C dX10_unlike_22 ?_
    exact g_iret (pc := 23) C w hr hk hw dX10_unlike_23
  · have hw := hw.2 hc
    refine lv_iconst (pc := 6) (v := mm_I 0) C.1 C.2.1 dX10_unlike_6 rfl ?_
    refine lv_goto (pc := 7) (tgt := 23) C.1 C.2.1 dX10_unlike_7 (by decide) ?_
    exact g_iret (pc := 23) C w hr hk hw dX10_unlike_23
theorem cv_X6_together : mm_V yX6_together cX6_together 3 (some .int) 0 := ⟨(mt_5 2 rfl rfl), (mt_5 0 rfl rfl), (mt_5 1 rfl rfl), (mt_1 10 rfl rfl), by decide, by decide, by decide +kernel⟩
theorem ml_X6_48 : Cond.methodLink RX6 48 yX6_together ∈ mm_ws := (mt_5 7 rfl rfl)
theorem cs_X10_unlike : mm_S yX10_unlike cX10_unlike 6 (some .int) 3 := ⟨(mt_3 197 rfl rfl), (mt_3 196 rfl rfl), (mt_1 1 rfl rfl), by decide, by decide, by decide +kernel⟩
theorem ml_X6_52 : Cond.methodLinkNest RX6 52 yX10_unlike "LastServed" ∈ mm_nest := by decide +kernel
def wp_X6_unlikeOfAll (this : Nat) (s0 : mm_M) (post : Int → mm_M → Prop) : Prop :=
  ∀ (L4 : Int → Int → mm_M → Prop), ∀ (L40 : Int → mm_M → Prop), 
  (∀ (v1 : Int) (v2 : Int) (s1 : mm_M), ((n32 (s1 this 8) ≤ n32 v2 → L40 v1 s1) ∧ (¬ n32 (s1 this 8) ≤ n32 v2 → ((8 ≤ n32 v2 → L40 v1 s1) ∧ (¬ 8 ≤ n32 v2 → ((0 ≤ v2 ∧ v2 < 8) ∧ ((0 ≤ v2 ∧ v2 < 8) ∧ (∀ v1_3 : Int, v1_3 = v1 + ((s1 (mm_rt this 5) v2) * (s1 (mm_rt this 5) v2)) → (∀ v2_4 : Int, v2_4 = v2 + 1 → L4 v1_3 v2_4 s1)))))))) → L4 v1 v2 s1) →
  (∀ (v1 : Int) (s1 : mm_M), (wp_X6_together this s1 (fun r_6 s_5 => (wp_X10_unlike (n32 (s1 this 8)) (n32 r_6) (n32 v1) s_5 (fun r_8 s_7 => post r_8 s_7)))) → L40 v1 s1) →
  L4 0 0 s0
set_option maxRecDepth 100000 in
set_option maxHeartbeats 4000000 in
theorem c_X6_unlikeOfAll (l : Launch) (G : mm_G) (this : Nat) (h0 : mm_ok this 16 0) (s0 : mm_M) (post : Int → mm_M → Prop) (hw : wp_X6_unlikeOfAll this s0 post) : Met l yX6_unlikeOfAll (mm_wm yX6_unlikeOfAll cX6_unlikeOfAll 3 (some .int)) (mm_rm 2) (va_Pc [.ref (mm_ad G this)] (mm_pre G s0)) (mm_Qi G post) 0 0 (mm_A G) := by
  refine mm_met (own := RX6) (by decide) rfl (Nat.le_of_ble_eq_true rfl) ?_
  intro p e s m args below meth c C hr hk
  unfold wp_X6_unlikeOfAll at hw
  have hw := hw (fun (v1 : Int) (v2 : Int) (u : mm_M) => mm_X p l e (mm_rm 2) s m args below meth c (MQ below (mm_Qi G post) args s 0 0 (mm_A G)) G (mm_A G) 3 4 [(0, .ref (mm_ad G this)), (1, .int (mm_I v1)), (2, .int (mm_I v2))] [] u)
  have hw := hw (fun (v1 : Int) (u : mm_M) => mm_X p l e (mm_rm 2) s m args below meth c (MQ below (mm_Qi G post) args s 0 0 (mm_A G)) G (mm_A G) 3 40 [(0, .ref (mm_ad G this)), (1, .int (mm_I v1))] [] u)
  have hw := hw (by
    intro v1 v2 s1 hw  H locs ls w hl
    refine lv_iload_n (pc := 4) C.1 C.2.1 dX6_unlikeOfAll_4 rfl (lv_at hl 2 rfl) ?_
    refine lv_aload_n (pc := 5) C.1 C.2.1 dX6_unlikeOfAll_5 rfl (lv_at hl 0 rfl) ?_
    refine g_geti (pc := 6) C w h0 ff_X6_8 lk_X6_38 dX6_unlikeOfAll_6 ?_
    refine g_icmp_ge (pc := 9) (tgt := 40) C rfl rfl dX6_unlikeOfAll_9 (by decide) (fun hc => ?_) (fun hc => ?_)
    · have hw := hw.1 hc
      exact hw  _ _ _ w (lv_sub hl [0, 1] rfl)
    · have hw := hw.2 hc
      refine lv_iload_n (pc := 12) C.1 C.2.1 dX6_unlikeOfAll_12 rfl (lv_at hl 2 rfl) ?_
      refine lv_bipush (pc := 13) C.1 C.2.1 dX6_unlikeOfAll_13 mb_8 ?_
      refine g_icmp_ge (pc := 15) (tgt := 40) C rfl mn_8 dX6_unlikeOfAll_15 (by decide) (fun hc => ?_) (fun hc => ?_)
      · have hw := hw.1 hc
        exact hw  _ _ _ w (lv_sub hl [0, 1] rfl)
      · have hw := hw.2 hc
        refine lv_iload_n (pc := 18) C.1 C.2.1 dX6_unlikeOfAll_18 rfl (lv_at hl 1 rfl) ?_
        refine lv_aload_n (pc := 19) C.1 C.2.1 dX6_unlikeOfAll_19 rfl (lv_at hl 0 rfl) ?_
        refine g_getr (pc := 20) C w h0 ff_X6_5 lk_X6_21 dX6_unlikeOfAll_20 ?_
        refine lv_iload_n (pc := 23) C.1 C.2.1 dX6_unlikeOfAll_23 rfl (lv_at hl 2 rfl) ?_
        obtain ⟨hi, hw⟩ := hw
        refine g_iald (pc := 24) C w (ro_X6_5 h0) hi dX6_unlikeOfAll_24 ?_
        refine lv_aload_n (pc := 25) C.1 C.2.1 dX6_unlikeOfAll_25 rfl (lv_at hl 0 rfl) ?_
        refine g_getr (pc := 26) C w h0 ff_X6_5 lk_X6_21 dX6_unlikeOfAll_26 ?_
        refine lv_iload_n (pc := 29) C.1 C.2.1 dX6_unlikeOfAll_29 rfl (lv_at hl 2 rfl) ?_
        obtain ⟨hi, hw⟩ := hw
        refine g_iald (pc := 30) C w (ro_X6_5 h0) hi dX6_unlikeOfAll_30 ?_
        refine g_imul (pc := 31) C dX6_unlikeOfAll_31 ?_
        refine g_iadd (pc := 32) C dX6_unlikeOfAll_32 ?_
        refine g_istore_n (pc := 33) C dX6_unlikeOfAll_33 rfl hl (by decide) (fun v1_3 ev1_3 ls hl => ?_)
        have hw := hw v1_3 ev1_3
        have hl : lv_has ls 3 [(1, .int (mm_I v1_3)), (0, .ref (mm_ad G this)), (2, .int (mm_I v2))] := hl
        refine g_iinc (pc := 34) (k := 2) C dX6_unlikeOfAll_34 hl rfl (by decide) (fun v2_4 ev2_4 ls hl => ?_)
        have hw := hw v2_4 ev2_4
        have hl : lv_has ls 3 [(2, .int (mm_I v2_4)), (1, .int (mm_I v1_3)), (0, .ref (mm_ad G this))] := hl
        refine lv_goto (pc := 37) (tgt := 4) C.1 C.2.1 dX6_unlikeOfAll_37 (by decide) ?_
        exact hw  _ _ _ w (lv_sub hl [2, 1, 0] rfl))
  have hw := hw (by
    intro v1 s1 hw  H locs ls w hl
    refine lv_aload_n (pc := 40) C.1 C.2.1 dX6_unlikeOfAll_40 rfl (lv_at hl 0 rfl) ?_
    refine g_geti (pc := 41) C w h0 ff_X6_8 lk_X6_38 dX6_unlikeOfAll_41 ?_
    refine g_i2l (pc := 44) C rfl dX6_unlikeOfAll_44 ?_
    refine lv_aload_n (pc := 45) C.1 C.2.1 dX6_unlikeOfAll_45 rfl (lv_at hl 0 rfl) ?_
    refine g_calli (pc := 46) w (mm_runV (ci := 6) (q := (RX6, TX6, 9)) (As := []) (rest := [.long (mm_L (n32 (s1 this 8)))]) C w (c_X6_together l G this h0 s1 _ hw) h0 rfl rfl cv_X6_together ml_X6_48 ⟨Nat.le_of_ble_eq_true rfl, Nat.le_of_ble_eq_true rfl⟩ ⟨Nat.le_of_ble_eq_true rfl, Nat.le_of_ble_eq_true rfl⟩ rfl hl.1 rfl (Nat.le_of_ble_eq_true rfl) dX6_unlikeOfAll_46) (fun r_6 s_5 H locs hw w => ?_)
    refine g_i2l (pc := 49) C rfl dX6_unlikeOfAll_49 ?_
    refine lv_iload_n (pc := 50) C.1 C.2.1 dX6_unlikeOfAll_50 rfl (lv_at hl 1 rfl) ?_
    refine g_i2l (pc := 51) C rfl dX6_unlikeOfAll_51 ?_
    refine g_calli (pc := 52) w (mm_runSN (As := [.long (mm_L (n32 (s1 this 8))), .long (mm_L (n32 r_6)), .long (mm_L (n32 v1))]) (rest := []) C w (c_X10_unlike l G (n32 (s1 this 8)) (n32 r_6) (n32 v1)  s_5 _ hw) cs_X10_unlike ml_X6_52 ⟨Nat.le_of_ble_eq_true rfl, Nat.le_of_ble_eq_true rfl⟩ ⟨Nat.le_of_ble_eq_true rfl, Nat.le_of_ble_eq_true rfl⟩ rfl hl.1 rfl (Nat.le_of_ble_eq_true rfl) dX6_unlikeOfAll_52) (fun r_8 s_7 H locs hw w => ?_)
    exact g_iret (pc := 55) C w hr hk hw dX6_unlikeOfAll_55)
  intro H locs ls w hl
  have hl : lv_has ls 3 [(0, .ref (mm_ad G this))] := hl
  refine lv_iconst (pc := 0) (v := mm_I 0) C.1 C.2.1 dX6_unlikeOfAll_0 rfl ?_
  refine lv_istore_n (pc := 1) (lv' := [(1, .int (mm_I 0)), (0, .ref (mm_ad G this))]) C.1 C.2.1 dX6_unlikeOfAll_1 rfl hl (by decide) rfl (fun ls hl => ?_)
  refine lv_iconst (pc := 2) (v := mm_I 0) C.1 C.2.1 dX6_unlikeOfAll_2 rfl ?_
  refine lv_istore_n (pc := 3) (lv' := [(2, .int (mm_I 0)), (1, .int (mm_I 0)), (0, .ref (mm_ad G this))]) C.1 C.2.1 dX6_unlikeOfAll_3 rfl hl (by decide) rfl (fun ls hl => ?_)
  exact hw  _ _ _ w (lv_sub hl [2, 1, 0] rfl)
def wp_X6_whenServed (this : Nat) (a1 : Int) (a2 : Int) (s0 : mm_M) (post : Int → mm_M → Prop) : Prop :=
  ∀ (L2 : Int → mm_M → Prop), 
  (∀ (v3 : Int) (s1 : mm_M), ((n32 (s1 this 8) ≤ n32 v3 → post a2 s1) ∧ (¬ n32 (s1 this 8) ≤ n32 v3 → ((8 ≤ n32 v3 → post a2 s1) ∧ (¬ 8 ≤ n32 v3 → ((¬ n32 (mm_and (mm_shr a1 v3) 1) = 0 → (∀ v3_2 : Int, v3_2 = v3 + 1 → L2 v3_2 s1)) ∧ (n32 (mm_and (mm_shr a1 v3) 1) = 0 → ((0 ≤ v3 ∧ v3 < 8) ∧ post (mm_max a2 (s1 (mm_rt this 2) v3)) s1))))))) → L2 v3 s1) →
  L2 0 s0
set_option maxRecDepth 100000 in
set_option maxHeartbeats 4000000 in
theorem c_X6_whenServed (l : Launch) (G : mm_G) (this : Nat) (a1 : Int) (a2 : Int) (h0 : mm_ok this 16 0) (s0 : mm_M) (post : Int → mm_M → Prop) (hw : wp_X6_whenServed this a1 a2 s0 post) : Met l yX6_whenServed (mm_wm yX6_whenServed cX6_whenServed 4 (some .int)) (mm_rm 2) (va_Pc [.ref (mm_ad G this), .int (mm_I a1), .int (mm_I a2)] (mm_pre G s0)) (mm_Qi G post) 0 0 (mm_A G) := by
  refine mm_met (own := RX6) (by decide) rfl (Nat.le_of_ble_eq_true rfl) ?_
  intro p e s m args below meth c C hr hk
  unfold wp_X6_whenServed at hw
  have hw := hw (fun (v3 : Int) (u : mm_M) => mm_X p l e (mm_rm 2) s m args below meth c (MQ below (mm_Qi G post) args s 0 0 (mm_A G)) G (mm_A G) 4 2 [(0, .ref (mm_ad G this)), (1, .int (mm_I a1)), (2, .int (mm_I a2)), (3, .int (mm_I v3))] [] u)
  have hw := hw (by
    intro v3 s1 hw  H locs ls w hl
    refine lv_iload_n (pc := 2) C.1 C.2.1 dX6_whenServed_2 rfl (lv_at hl 3 rfl) ?_
    refine lv_aload_n (pc := 3) C.1 C.2.1 dX6_whenServed_3 rfl (lv_at hl 0 rfl) ?_
    refine g_geti (pc := 4) C w h0 ff_X6_8 lk_X6_38 dX6_whenServed_4 ?_
    refine g_icmp_ge (pc := 7) (tgt := 41) C rfl rfl dX6_whenServed_7 (by decide) (fun hc => ?_) (fun hc => ?_)
    · have hw := hw.1 hc
      refine lv_iload_n (pc := 41) C.1 C.2.1 dX6_whenServed_41 rfl (lv_at hl 2 rfl) ?_
      exact g_iret (pc := 42) C w hr hk hw dX6_whenServed_42
    · have hw := hw.2 hc
      refine lv_iload_n (pc := 10) C.1 C.2.1 dX6_whenServed_10 rfl (lv_at hl 3 rfl) ?_
      refine lv_bipush (pc := 11) C.1 C.2.1 dX6_whenServed_11 mb_8 ?_
      refine g_icmp_ge (pc := 13) (tgt := 41) C rfl mn_8 dX6_whenServed_13 (by decide) (fun hc => ?_) (fun hc => ?_)
      · have hw := hw.1 hc
        refine lv_iload_n (pc := 41) C.1 C.2.1 dX6_whenServed_41 rfl (lv_at hl 2 rfl) ?_
        exact g_iret (pc := 42) C w hr hk hw dX6_whenServed_42
      · have hw := hw.2 hc
        refine lv_iload_n (pc := 16) C.1 C.2.1 dX6_whenServed_16 rfl (lv_at hl 1 rfl) ?_
        refine lv_iload_n (pc := 17) C.1 C.2.1 dX6_whenServed_17 rfl (lv_at hl 3 rfl) ?_
        refine g_ishr (pc := 18) C dX6_whenServed_18 ?_
        refine lv_iconst (pc := 19) (v := mm_I 1) C.1 C.2.1 dX6_whenServed_19 rfl ?_
        refine g_iand (pc := 20) C dX6_whenServed_20 ?_
        refine g_if_ne (pc := 21) (tgt := 35) C rfl dX6_whenServed_21 (by decide) (fun hc => ?_) (fun hc => ?_)
        · have hw := hw.1 hc
          refine g_iinc (pc := 35) (k := 3) C dX6_whenServed_35 hl rfl (by decide) (fun v3_2 ev3_2 ls hl => ?_)
          have hw := hw v3_2 ev3_2
          have hl : lv_has ls 4 [(3, .int (mm_I v3_2)), (0, .ref (mm_ad G this)), (1, .int (mm_I a1)), (2, .int (mm_I a2))] := hl
          refine lv_goto (pc := 38) (tgt := 2) C.1 C.2.1 dX6_whenServed_38 (by decide) ?_
          exact hw  _ _ _ w (lv_sub hl [1, 2, 3, 0] rfl)
        · have hw := hw.2 hc
          refine lv_iload_n (pc := 24) C.1 C.2.1 dX6_whenServed_24 rfl (lv_at hl 2 rfl) ?_
          refine lv_aload_n (pc := 25) C.1 C.2.1 dX6_whenServed_25 rfl (lv_at hl 0 rfl) ?_
          refine g_getr (pc := 26) C w h0 ff_X6_2 lk_X6_9 dX6_whenServed_26 ?_
          refine lv_iload_n (pc := 29) C.1 C.2.1 dX6_whenServed_29 rfl (lv_at hl 3 rfl) ?_
          obtain ⟨hi, hw⟩ := hw
          refine g_iald (pc := 30) C w (ro_X6_2 h0) hi dX6_whenServed_30 ?_
          refine g_max (pc := 31) C hl.1 ml_X6_42 mv_max ⟨Nat.le_of_ble_eq_true rfl, Nat.le_of_ble_eq_true rfl⟩ ⟨Nat.le_of_ble_eq_true rfl, Nat.le_of_ble_eq_true rfl⟩ dX6_whenServed_31 ?_
          exact g_iret (pc := 34) C w hr hk hw dX6_whenServed_34)
  intro H locs ls w hl
  have hl : lv_has ls 4 [(0, .ref (mm_ad G this)), (1, .int (mm_I a1)), (2, .int (mm_I a2))] := hl
  refine lv_iconst (pc := 0) (v := mm_I 0) C.1 C.2.1 dX6_whenServed_0 rfl ?_
  refine lv_istore_n (pc := 1) (lv' := [(3, .int (mm_I 0)), (0, .ref (mm_ad G this)), (1, .int (mm_I a1)), (2, .int (mm_I a2))]) C.1 C.2.1 dX6_whenServed_1 rfl hl (by decide) rfl (fun ls hl => ?_)
  exact hw  _ _ _ w (lv_sub hl [1, 2, 3, 0] rfl)
def wp_X6_stands (this : Nat) (a1 : Int) (a2 : Int) (a3 : Int) (s0 : mm_M) (post : Int → mm_M → Prop) : Prop :=
  ((¬ n32 (mm_and (mm_shr a2 a1) 1) = 0 → post 0 s0) ∧ (n32 (mm_and (mm_shr a2 a1) 1) = 0 → ((0 ≤ a1 ∧ a1 < 8) ∧ ((n32 a3 < n32 (s0 (mm_rt this 2) a1) → post 0 s0) ∧ (¬ n32 a3 < n32 (s0 (mm_rt this 2) a1) → post 1 s0)))))
set_option maxRecDepth 100000 in
set_option maxHeartbeats 4000000 in
theorem c_X6_stands (l : Launch) (G : mm_G) (this : Nat) (a1 : Int) (a2 : Int) (a3 : Int) (h0 : mm_ok this 16 0) (s0 : mm_M) (post : Int → mm_M → Prop) (hw : wp_X6_stands this a1 a2 a3 s0 post) : Met l yX6_stands (mm_wm yX6_stands cX6_stands 4 (some .boolean)) (mm_rm 1) (va_Pc [.ref (mm_ad G this), .int (mm_I a1), .int (mm_I a2), .int (mm_I a3)] (mm_pre G s0)) (mm_Qi G post) 0 0 (mm_A G) := by
  refine mm_met (own := RX6) (by decide) rfl (Nat.le_of_ble_eq_true rfl) ?_
  intro p e s m args below meth c C hr hk
  unfold wp_X6_stands at hw
  intro H locs ls w hl
  have hl : lv_has ls 4 [(0, .ref (mm_ad G this)), (1, .int (mm_I a1)), (2, .int (mm_I a2)), (3, .int (mm_I a3))] := hl
  refine lv_iload_n (pc := 0) C.1 C.2.1 dX6_stands_0 rfl (lv_at hl 2 rfl) ?_
  refine lv_iload_n (pc := 1) C.1 C.2.1 dX6_stands_1 rfl (lv_at hl 1 rfl) ?_
  refine g_ishr (pc := 2) C dX6_stands_2 ?_
  refine lv_iconst (pc := 3) (v := mm_I 1) C.1 C.2.1 dX6_stands_3 rfl ?_
  refine g_iand (pc := 4) C dX6_stands_4 ?_
  refine g_if_ne (pc := 5) (tgt := 22) C rfl dX6_stands_5 (by decide) (fun hc => ?_) (fun hc => ?_)
  · have hw := hw.1 hc
    refine lv_iconst (pc := 22) (v := mm_I 0) C.1 C.2.1 dX6_stands_22 rfl ?_
    exact g_zret (pc := 23) C w hr hk (by decide) hw dX6_stands_23
  · have hw := hw.2 hc
    refine lv_aload_n (pc := 8) C.1 C.2.1 dX6_stands_8 rfl (lv_at hl 0 rfl) ?_
    refine g_getr (pc := 9) C w h0 ff_X6_2 lk_X6_9 dX6_stands_9 ?_
    refine lv_iload_n (pc := 12) C.1 C.2.1 dX6_stands_12 rfl (lv_at hl 1 rfl) ?_
    obtain ⟨hi, hw⟩ := hw
    refine g_iald (pc := 13) C w (ro_X6_2 h0) hi dX6_stands_13 ?_
    refine lv_iload_n (pc := 14) C.1 C.2.1 dX6_stands_14 rfl (lv_at hl 3 rfl) ?_
    refine g_icmp_gt (pc := 15) (tgt := 22) C rfl rfl dX6_stands_15 (by decide) (fun hc => ?_) (fun hc => ?_)
    · have hw := hw.1 hc
      refine lv_iconst (pc := 22) (v := mm_I 0) C.1 C.2.1 dX6_stands_22 rfl ?_
      exact g_zret (pc := 23) C w hr hk (by decide) hw dX6_stands_23
    · have hw := hw.2 hc
      refine lv_iconst (pc := 18) (v := mm_I 1) C.1 C.2.1 dX6_stands_18 rfl ?_
      refine lv_goto (pc := 19) (tgt := 23) C.1 C.2.1 dX6_stands_19 (by decide) ?_
      exact g_zret (pc := 23) C w hr hk (by decide) hw dX6_stands_23
theorem lk_X6_34 : Cond.fieldLink RX6 34 "LastServed$Row" "crowd" "LLastServed$Crowd;" ∈ mm_ws := (mt_2 47 rfl rfl)
theorem ff_X6_1 : mm_F 6 1 1 RX6 TX6 9 := ⟨rfl, by decide, fk_X6, rfl, rfl⟩
theorem ro_X6_1 {i : Nat} (h : mm_ok i 16 0) : mm_ok (mm_rt i 1) 11 0 := by
  have q : ∀ i, i < mm_N → mm_kd i = 16 → mm_rt i 1 < mm_N ∧ mm_kd (mm_rt i 1) = 11 ∧ mm_ln (mm_rt i 1) = 0 := by decide +kernel
  exact q i h.1 h.2.1
theorem cv_X1_gather : mm_V yX1_gather cX1_gather 3 none 2 := ⟨(mt_4 77 rfl rfl), (mt_4 75 rfl rfl), (mt_4 76 rfl rfl), (mt_1 2 rfl rfl), by decide, by decide, by decide +kernel⟩
theorem ml_X6_63 : Cond.methodLink RX6 63 yX1_gather ∈ mm_ws := (mt_4 222 rfl rfl)
theorem cv_X6_stands : mm_V yX6_stands cX6_stands 4 (some .boolean) 3 := ⟨(mt_4 226 rfl rfl), (mt_4 225 rfl rfl), (mp_3 3 rfl rfl), (mt_1 10 rfl rfl), by decide, by decide, by decide +kernel⟩
theorem ml_X6_69 : Cond.methodLink RX6 69 yX6_stands ∈ mm_ws := (mt_4 223 rfl rfl)
theorem cv_X1_append : mm_V yX1_append cX1_append 6 none 5 := ⟨(mt_4 86 rfl rfl), (mt_4 84 rfl rfl), (mt_4 85 rfl rfl), (mt_1 2 rfl rfl), by decide, by decide, by decide +kernel⟩
theorem ml_X6_73 : Cond.methodLink RX6 73 yX1_append ∈ mm_ws := (mt_4 227 rfl rfl)
theorem lk_X6_24 : Cond.fieldLink RX6 24 "LastServed$Row" "standing" "[I" ∈ mm_ws := (mt_2 52 rfl rfl)
theorem ff_X6_6 : mm_F 6 6 1 RX6 TX6 9 := ⟨rfl, by decide, fk_X6, rfl, rfl⟩
theorem ro_X6_6 {i : Nat} (h : mm_ok i 16 0) : mm_ok (mm_rt i 6) 0 8 := by
  have q : ∀ i, i < mm_N → mm_kd i = 16 → mm_rt i 6 < mm_N ∧ mm_kd (mm_rt i 6) = 0 ∧ mm_ln (mm_rt i 6) = 8 := by decide +kernel
  exact q i h.1 h.2.1
theorem lk_X6_30 : Cond.fieldLink RX6 30 "LastServed$Row" "laws" "LLastServed$Laws;" ∈ mm_ws := (mt_2 46 rfl rfl)
theorem ff_X6_0 : mm_F 6 0 1 RX6 TX6 9 := ⟨rfl, by decide, fk_X6, rfl, rfl⟩
theorem ro_X6_0 {i : Nat} (h : mm_ok i 16 0) : mm_ok (mm_rt i 0) 13 0 := by
  have q : ∀ i, i < mm_N → mm_kd i = 16 → mm_rt i 0 < mm_N ∧ mm_kd (mm_rt i 0) = 13 ∧ mm_ln (mm_rt i 0) = 0 := by decide +kernel
  exact q i h.1 h.2.1
theorem ml_X6_77 : Cond.methodLink RX6 77 yX3_isTold ∈ mm_ws := (mt_4 228 rfl rfl)
theorem ml_X6_87 : Cond.methodLinkNest RX6 87 yX10_placeBy "LastServed" ∈ mm_nest := by decide +kernel
theorem cv_X3_placeOfNext : mm_V yX3_placeOfNext cX3_placeOfNext 9 (some .int) 2 := ⟨(mt_4 90 rfl rfl), (mt_4 88 rfl rfl), (mt_4 89 rfl rfl), (mt_1 5 rfl rfl), by decide, by decide, by decide +kernel⟩
theorem ml_X6_83 : Cond.methodLink RX6 83 yX3_placeOfNext ∈ mm_ws := (mt_4 229 rfl rfl)
def wp_X6_whoIsNext (this : Nat) (a1 : Int) (a2 : Int) (a3 : Int) (s0 : mm_M) (post : Int → mm_M → Prop) : Prop :=
  ∀ (L17 : Int → Int → mm_M → Prop), ∀ (L92 : Int → mm_M → Prop), ∀ (L124 : Int → Int → mm_M → Prop), 
  (∀ (v4 : Int) (v5 : Int) (s1 : mm_M), ((n32 (s1 this 8) ≤ n32 v5 → L92 v4 s1) ∧ (¬ n32 (s1 this 8) ≤ n32 v5 → ((8 ≤ n32 v5 → L92 v4 s1) ∧ (¬ 8 ≤ n32 v5 → (wp_X6_stands this v5 a2 a3 s1 (fun r_6 s_5 => ((n32 r_6 = 0 → (∀ v5_7 : Int, v5_7 = v5 + 1 → L17 v4 v5_7 s_5)) ∧ (¬ n32 r_6 = 0 → ((0 ≤ v5 ∧ v5 < 8) ∧ ((0 ≤ v5 ∧ v5 < 8) ∧ ((0 ≤ v5 ∧ v5 < 8) ∧ (wp_X1_append (mm_rt this 1) (s_5 (mm_rt this 2) v5) (s_5 (mm_rt this 2) v5) (s_5 (mm_rt this 3) v5) 0 0 s_5 (fun s_8 => ((0 ≤ v4 ∧ v4 < 8) ∧ (∀ s_10 : mm_M, s_10 = mm_up s_8 (mm_rt this 6) v4 v5 → (∀ v4_11 : Int, v4_11 = v4 + 1 → (∀ v5_12 : Int, v5_12 = v5 + 1 → L17 v4_11 v5_12 s_10))))))))))))))))) → L17 v4 v5 s1) →
  (∀ (v4 : Int) (s1 : mm_M), (wp_X3_isTold (mm_rt this 0) a1 s1 (fun r_14 s_13 => ((n32 r_14 = 0 → (wp_X10_placeBy a1 v4 s_13 (fun r_16 s_15 => L124 v4 r_16 s_15))) ∧ (¬ n32 r_14 = 0 → (wp_X3_placeOfNext (mm_rt this 0) a1 (mm_rt this 1) s_13 (fun r_18 s_17 => L124 v4 r_18 s_17)))))) → L92 v4 s1) →
  (∀ (v4 : Int) (q0 : Int) (s1 : mm_M), (∀ v5_19 : Int, v5_19 = q0 → ((n32 v5_19 < 0 → post (-1) s1) ∧ (¬ n32 v5_19 < 0 → ((n32 v4 ≤ n32 v5_19 → post (-1) s1) ∧ (¬ n32 v4 ≤ n32 v5_19 → ((0 ≤ v5_19 ∧ v5_19 < 8) ∧ post (s1 (mm_rt this 6) v5_19) s1)))))) → L124 v4 q0 s1) →
  (wp_X1_gather (mm_rt this 1) a3 200 s0 (fun s_2 => L17 0 0 s_2))
set_option maxRecDepth 100000 in
set_option maxHeartbeats 4000000 in
theorem c_X6_whoIsNext (l : Launch) (G : mm_G) (this : Nat) (a1 : Int) (a2 : Int) (a3 : Int) (h0 : mm_ok this 16 0) (s0 : mm_M) (post : Int → mm_M → Prop) (hw : wp_X6_whoIsNext this a1 a2 a3 s0 post) : Met l yX6_whoIsNext (mm_wm yX6_whoIsNext cX6_whoIsNext 6 (some .int)) (mm_rm 5) (va_Pc [.ref (mm_ad G this), .int (mm_I a1), .int (mm_I a2), .int (mm_I a3)] (mm_pre G s0)) (mm_Qi G post) 0 0 (mm_A G) := by
  refine mm_met (own := RX6) (by decide) rfl (Nat.le_of_ble_eq_true rfl) ?_
  intro p e s m args below meth c C hr hk
  unfold wp_X6_whoIsNext at hw
  have hw := hw (fun (v4 : Int) (v5 : Int) (u : mm_M) => mm_X p l e (mm_rm 5) s m args below meth c (MQ below (mm_Qi G post) args s 0 0 (mm_A G)) G (mm_A G) 6 17 [(0, .ref (mm_ad G this)), (1, .int (mm_I a1)), (2, .int (mm_I a2)), (3, .int (mm_I a3)), (4, .int (mm_I v4)), (5, .int (mm_I v5))] [] u)
  have hw := hw (fun (v4 : Int) (u : mm_M) => mm_X p l e (mm_rm 5) s m args below meth c (MQ below (mm_Qi G post) args s 0 0 (mm_A G)) G (mm_A G) 6 92 [(0, .ref (mm_ad G this)), (1, .int (mm_I a1)), (4, .int (mm_I v4))] [] u)
  have hw := hw (fun (v4 : Int) (q0 : Int) (u : mm_M) => mm_X p l e (mm_rm 5) s m args below meth c (MQ below (mm_Qi G post) args s 0 0 (mm_A G)) G (mm_A G) 6 124 [(0, .ref (mm_ad G this)), (4, .int (mm_I v4))] [.int (mm_I q0)] u)
  have hw := hw (by
    intro v4 v5 s1 hw  H locs ls w hl
    refine lv_iload (pc := 17) C.1 C.2.1 dX6_whoIsNext_17 (lv_at hl 5 rfl) ?_
    refine lv_aload_n (pc := 19) C.1 C.2.1 dX6_whoIsNext_19 rfl (lv_at hl 0 rfl) ?_
    refine g_geti (pc := 20) C w h0 ff_X6_8 lk_X6_38 dX6_whoIsNext_20 ?_
    refine g_icmp_ge (pc := 23) (tgt := 92) C rfl rfl dX6_whoIsNext_23 (by decide) (fun hc => ?_) (fun hc => ?_)
    · have hw := hw.1 hc
      exact hw  _ _ _ w (lv_sub hl [0, 1, 4] rfl)
    · have hw := hw.2 hc
      refine lv_iload (pc := 26) C.1 C.2.1 dX6_whoIsNext_26 (lv_at hl 5 rfl) ?_
      refine lv_bipush (pc := 28) C.1 C.2.1 dX6_whoIsNext_28 mb_8 ?_
      refine g_icmp_ge (pc := 30) (tgt := 92) C rfl mn_8 dX6_whoIsNext_30 (by decide) (fun hc => ?_) (fun hc => ?_)
      · have hw := hw.1 hc
        exact hw  _ _ _ w (lv_sub hl [0, 1, 4] rfl)
      · have hw := hw.2 hc
        refine lv_aload_n (pc := 33) C.1 C.2.1 dX6_whoIsNext_33 rfl (lv_at hl 0 rfl) ?_
        refine lv_iload (pc := 34) C.1 C.2.1 dX6_whoIsNext_34 (lv_at hl 5 rfl) ?_
        refine lv_iload_n (pc := 36) C.1 C.2.1 dX6_whoIsNext_36 rfl (lv_at hl 2 rfl) ?_
        refine lv_iload_n (pc := 37) C.1 C.2.1 dX6_whoIsNext_37 rfl (lv_at hl 3 rfl) ?_
        refine g_calli (pc := 38) w (mm_runV (ci := 6) (q := (RX6, TX6, 9)) (As := [.int (mm_I v5), .int (mm_I a2), .int (mm_I a3)]) (rest := []) C w (c_X6_stands l G this v5 a2 a3 h0 s1 _ hw) h0 rfl rfl cv_X6_stands ml_X6_69 ⟨Nat.le_of_ble_eq_true rfl, Nat.le_of_ble_eq_true rfl⟩ ⟨Nat.le_of_ble_eq_true rfl, Nat.le_of_ble_eq_true rfl⟩ rfl hl.1 rfl (Nat.le_of_ble_eq_true rfl) dX6_whoIsNext_38) (fun r_6 s_5 H locs hw w => ?_)
        refine g_if_eq (pc := 41) (tgt := 86) C rfl dX6_whoIsNext_41 (by decide) (fun hc => ?_) (fun hc => ?_)
        · have hw := hw.1 hc
          refine g_iinc (pc := 86) (k := 5) C dX6_whoIsNext_86 hl rfl (by decide) (fun v5_7 ev5_7 ls hl => ?_)
          have hw := hw v5_7 ev5_7
          have hl : lv_has ls 6 [(5, .int (mm_I v5_7)), (0, .ref (mm_ad G this)), (1, .int (mm_I a1)), (2, .int (mm_I a2)), (3, .int (mm_I a3)), (4, .int (mm_I v4))] := hl
          refine lv_goto (pc := 89) (tgt := 17) C.1 C.2.1 dX6_whoIsNext_89 (by decide) ?_
          exact hw  _ _ _ w (lv_sub hl [1, 2, 3, 4, 5, 0] rfl)
        · have hw := hw.2 hc
          refine lv_aload_n (pc := 44) C.1 C.2.1 dX6_whoIsNext_44 rfl (lv_at hl 0 rfl) ?_
          refine g_getr (pc := 45) C w h0 ff_X6_1 lk_X6_34 dX6_whoIsNext_45 ?_
          refine lv_aload_n (pc := 48) C.1 C.2.1 dX6_whoIsNext_48 rfl (lv_at hl 0 rfl) ?_
          refine g_getr (pc := 49) C w h0 ff_X6_2 lk_X6_9 dX6_whoIsNext_49 ?_
          refine lv_iload (pc := 52) C.1 C.2.1 dX6_whoIsNext_52 (lv_at hl 5 rfl) ?_
          obtain ⟨hi, hw⟩ := hw
          refine g_iald (pc := 54) C w (ro_X6_2 h0) hi dX6_whoIsNext_54 ?_
          refine lv_aload_n (pc := 55) C.1 C.2.1 dX6_whoIsNext_55 rfl (lv_at hl 0 rfl) ?_
          refine g_getr (pc := 56) C w h0 ff_X6_2 lk_X6_9 dX6_whoIsNext_56 ?_
          refine lv_iload (pc := 59) C.1 C.2.1 dX6_whoIsNext_59 (lv_at hl 5 rfl) ?_
          obtain ⟨hi, hw⟩ := hw
          refine g_iald (pc := 61) C w (ro_X6_2 h0) hi dX6_whoIsNext_61 ?_
          refine lv_aload_n (pc := 62) C.1 C.2.1 dX6_whoIsNext_62 rfl (lv_at hl 0 rfl) ?_
          refine g_getr (pc := 63) C w h0 ff_X6_3 lk_X6_15 dX6_whoIsNext_63 ?_
          refine lv_iload (pc := 66) C.1 C.2.1 dX6_whoIsNext_66 (lv_at hl 5 rfl) ?_
          obtain ⟨hi, hw⟩ := hw
          refine g_iald (pc := 68) C w (ro_X6_3 h0) hi dX6_whoIsNext_68 ?_
          refine lv_iconst (pc := 69) (v := mm_I 0) C.1 C.2.1 dX6_whoIsNext_69 rfl ?_
          refine lv_iconst (pc := 70) (v := mm_I 0) C.1 C.2.1 dX6_whoIsNext_70 rfl ?_
          refine g_callv (pc := 71) w (mm_runV (ci := 1) (q := (RX1, TX1, 8)) (As := [.int (mm_I (s_5 (mm_rt this 2) v5)), .int (mm_I (s_5 (mm_rt this 2) v5)), .int (mm_I (s_5 (mm_rt this 3) v5)), .int (mm_I 0), .int (mm_I 0)]) (rest := []) C w (c_X1_append l G (mm_rt this 1) (s_5 (mm_rt this 2) v5) (s_5 (mm_rt this 2) v5) (s_5 (mm_rt this 3) v5) 0 0 (ro_X6_1 h0) s_5 _ hw) (ro_X6_1 h0) rfl rfl cv_X1_append ml_X6_73 ⟨Nat.le_of_ble_eq_true rfl, Nat.le_of_ble_eq_true rfl⟩ ⟨Nat.le_of_ble_eq_true rfl, Nat.le_of_ble_eq_true rfl⟩ rfl hl.1 rfl (Nat.le_of_ble_eq_true rfl) dX6_whoIsNext_71) (fun s_8 H locs hw w => ?_)
          refine lv_aload_n (pc := 74) C.1 C.2.1 dX6_whoIsNext_74 rfl (lv_at hl 0 rfl) ?_
          refine g_getr (pc := 75) C w h0 ff_X6_6 lk_X6_24 dX6_whoIsNext_75 ?_
          refine lv_iload (pc := 78) C.1 C.2.1 dX6_whoIsNext_78 (lv_at hl 4 rfl) ?_
          refine lv_iload (pc := 80) C.1 C.2.1 dX6_whoIsNext_80 (lv_at hl 5 rfl) ?_
          obtain ⟨hi, hw⟩ := hw
          refine g_iast (pc := 82) C w (ro_X6_6 h0) hi  dX6_whoIsNext_82 (fun s_10 H locs es_10 w => ?_)
          have hw := hw s_10 es_10
          refine g_iinc (pc := 83) (k := 4) C dX6_whoIsNext_83 hl rfl (by decide) (fun v4_11 ev4_11 ls hl => ?_)
          have hw := hw v4_11 ev4_11
          have hl : lv_has ls 6 [(4, .int (mm_I v4_11)), (0, .ref (mm_ad G this)), (1, .int (mm_I a1)), (2, .int (mm_I a2)), (3, .int (mm_I a3)), (5, .int (mm_I v5))] := hl
          refine g_iinc (pc := 86) (k := 5) C dX6_whoIsNext_86 hl rfl (by decide) (fun v5_12 ev5_12 ls hl => ?_)
          have hw := hw v5_12 ev5_12
          have hl : lv_has ls 6 [(5, .int (mm_I v5_12)), (4, .int (mm_I v4_11)), (0, .ref (mm_ad G this)), (1, .int (mm_I a1)), (2, .int (mm_I a2)), (3, .int (mm_I a3))] := hl
          refine lv_goto (pc := 89) (tgt := 17) C.1 C.2.1 dX6_whoIsNext_89 (by decide) ?_
          exact hw  _ _ _ w (lv_sub hl [2, 3, 4, 5, 1, 0] rfl))
  have hw := hw (by
    intro v4 s1 hw  H locs ls w hl
    refine lv_aload_n (pc := 92) C.1 C.2.1 dX6_whoIsNext_92 rfl (lv_at hl 0 rfl) ?_
    refine g_getr (pc := 93) C w h0 ff_X6_0 lk_X6_30 dX6_whoIsNext_93 ?_
    refine lv_iload_n (pc := 96) C.1 C.2.1 dX6_whoIsNext_96 rfl (lv_at hl 1 rfl) ?_
    refine g_calli (pc := 97) w (mm_runV (ci := 3) (q := (RX3, TX3, 7)) (As := [.int (mm_I a1)]) (rest := []) C w (c_X3_isTold l G (mm_rt this 0) a1 (ro_X6_0 h0) s1 _ hw) (ro_X6_0 h0) rfl rfl cv_X3_isTold ml_X6_77 ⟨Nat.le_of_ble_eq_true rfl, Nat.le_of_ble_eq_true rfl⟩ ⟨Nat.le_of_ble_eq_true rfl, Nat.le_of_ble_eq_true rfl⟩ rfl hl.1 rfl (Nat.le_of_ble_eq_true rfl) dX6_whoIsNext_97) (fun r_14 s_13 H locs hw w => ?_)
    refine g_if_eq (pc := 100) (tgt := 118) C rfl dX6_whoIsNext_100 (by decide) (fun hc => ?_) (fun hc => ?_)
    · have hw := hw.1 hc
      refine lv_iload_n (pc := 118) C.1 C.2.1 dX6_whoIsNext_118 rfl (lv_at hl 1 rfl) ?_
      refine lv_iload (pc := 119) C.1 C.2.1 dX6_whoIsNext_119 (lv_at hl 2 rfl) ?_
      refine g_calli (pc := 121) w (mm_runSN (As := [.int (mm_I a1), .int (mm_I v4)]) (rest := []) C w (c_X10_placeBy l G a1 v4  s_13 _ hw) cs_X10_placeBy ml_X6_87 ⟨Nat.le_of_ble_eq_true rfl, Nat.le_of_ble_eq_true rfl⟩ ⟨Nat.le_of_ble_eq_true rfl, Nat.le_of_ble_eq_true rfl⟩ rfl hl.1 rfl (Nat.le_of_ble_eq_true rfl) dX6_whoIsNext_121) (fun r_16 s_15 H locs hw w => ?_)
      exact hw  _ _ _ w (lv_sub hl [0, 2] rfl)
    · have hw := hw.2 hc
      refine lv_aload_n (pc := 103) C.1 C.2.1 dX6_whoIsNext_103 rfl (lv_at hl 0 rfl) ?_
      refine g_getr (pc := 104) C w h0 ff_X6_0 lk_X6_30 dX6_whoIsNext_104 ?_
      refine lv_iload_n (pc := 107) C.1 C.2.1 dX6_whoIsNext_107 rfl (lv_at hl 1 rfl) ?_
      refine lv_aload_n (pc := 108) C.1 C.2.1 dX6_whoIsNext_108 rfl (lv_at hl 0 rfl) ?_
      refine g_getr (pc := 109) C w h0 ff_X6_1 lk_X6_34 dX6_whoIsNext_109 ?_
      refine g_calli (pc := 112) w (mm_runV (ci := 3) (q := (RX3, TX3, 7)) (As := [.int (mm_I a1), .ref (mm_ad G (mm_rt this 1))]) (rest := []) C w (c_X3_placeOfNext l G (mm_rt this 0) a1 (mm_rt this 1) (ro_X6_0 h0) (ro_X6_1 h0) s_13 _ hw) (ro_X6_0 h0) rfl rfl cv_X3_placeOfNext ml_X6_83 ⟨Nat.le_of_ble_eq_true rfl, Nat.le_of_ble_eq_true rfl⟩ ⟨Nat.le_of_ble_eq_true rfl, Nat.le_of_ble_eq_true rfl⟩ rfl hl.1 rfl (Nat.le_of_ble_eq_true rfl) dX6_whoIsNext_112) (fun r_18 s_17 H locs hw w => ?_)
      refine lv_goto (pc := 115) (tgt := 124) C.1 C.2.1 dX6_whoIsNext_115 (by decide) ?_
      exact hw  _ _ _ w (lv_sub hl [0, 2] rfl))
  have hw := hw (by
    intro v4 q0 s1 hw  H locs ls w hl
    refine g_istore (pc := 124) C dX6_whoIsNext_124 hl (by decide) (fun v5_19 ev5_19 ls hl => ?_)
    have hw := hw v5_19 ev5_19
    have hl : lv_has ls 6 [(5, .int (mm_I v5_19)), (0, .ref (mm_ad G this)), (4, .int (mm_I v4))] := hl
    refine lv_iload (pc := 126) C.1 C.2.1 dX6_whoIsNext_126 (lv_at hl 0 rfl) ?_
    refine g_if_lt (pc := 128) (tgt := 148) C rfl dX6_whoIsNext_128 (by decide) (fun hc => ?_) (fun hc => ?_)
    · have hw := hw.1 hc
      refine lv_iconst (pc := 148) (v := mm_I (-1)) C.1 C.2.1 dX6_whoIsNext_148 rfl ?_
      exact g_iret (pc := 149) C w hr hk hw dX6_whoIsNext_149
    · have hw := hw.2 hc
      refine lv_iload (pc := 131) C.1 C.2.1 dX6_whoIsNext_131 (lv_at hl 0 rfl) ?_
      refine lv_iload (pc := 133) C.1 C.2.1 dX6_whoIsNext_133 (lv_at hl 2 rfl) ?_
      refine g_icmp_ge (pc := 135) (tgt := 148) C rfl rfl dX6_whoIsNext_135 (by decide) (fun hc => ?_) (fun hc => ?_)
      · have hw := hw.1 hc
        refine lv_iconst (pc := 148) (v := mm_I (-1)) C.1 C.2.1 dX6_whoIsNext_148 rfl ?_
        exact g_iret (pc := 149) C w hr hk hw dX6_whoIsNext_149
      · have hw := hw.2 hc
        refine lv_aload_n (pc := 138) C.1 C.2.1 dX6_whoIsNext_138 rfl (lv_at hl 1 rfl) ?_
        refine g_getr (pc := 139) C w h0 ff_X6_6 lk_X6_24 dX6_whoIsNext_139 ?_
        refine lv_iload (pc := 142) C.1 C.2.1 dX6_whoIsNext_142 (lv_at hl 0 rfl) ?_
        obtain ⟨hi, hw⟩ := hw
        refine g_iald (pc := 144) C w (ro_X6_6 h0) hi dX6_whoIsNext_144 ?_
        refine lv_goto (pc := 145) (tgt := 149) C.1 C.2.1 dX6_whoIsNext_145 (by decide) ?_
        exact g_iret (pc := 149) C w hr hk hw dX6_whoIsNext_149)
  intro H locs ls w hl
  have hl : lv_has ls 6 [(0, .ref (mm_ad G this)), (1, .int (mm_I a1)), (2, .int (mm_I a2)), (3, .int (mm_I a3))] := hl
  refine lv_iconst (pc := 0) (v := mm_I 0) C.1 C.2.1 dX6_whoIsNext_0 rfl ?_
  refine lv_istore (pc := 1) (lv' := [(4, .int (mm_I 0)), (0, .ref (mm_ad G this)), (1, .int (mm_I a1)), (2, .int (mm_I a2)), (3, .int (mm_I a3))]) C.1 C.2.1 dX6_whoIsNext_1 hl (by decide) rfl (fun ls hl => ?_)
  refine lv_aload_n (pc := 3) C.1 C.2.1 dX6_whoIsNext_3 rfl (lv_at hl 1 rfl) ?_
  refine g_getr (pc := 4) C w h0 ff_X6_1 lk_X6_34 dX6_whoIsNext_4 ?_
  refine lv_iload_n (pc := 7) C.1 C.2.1 dX6_whoIsNext_7 rfl (lv_at hl 4 rfl) ?_
  refine lv_sipush (pc := 8) C.1 C.2.1 dX6_whoIsNext_8 ms_200 ?_
  refine g_callv (pc := 11) w (mm_runV (ci := 1) (q := (RX1, TX1, 8)) (As := [.int (mm_I a3), .int (mm_I 200)]) (rest := []) C w (c_X1_gather l G (mm_rt this 1) a3 200 (ro_X6_1 h0) s0 _ hw) (ro_X6_1 h0) rfl rfl cv_X1_gather ml_X6_63 ⟨Nat.le_of_ble_eq_true rfl, Nat.le_of_ble_eq_true rfl⟩ ⟨Nat.le_of_ble_eq_true rfl, Nat.le_of_ble_eq_true rfl⟩ rfl hl.1 rfl (Nat.le_of_ble_eq_true rfl) dX6_whoIsNext_11) (fun s_2 H locs hw w => ?_)
  refine lv_iconst (pc := 14) (v := mm_I 0) C.1 C.2.1 dX6_whoIsNext_14 rfl ?_
  refine lv_istore (pc := 15) (lv' := [(5, .int (mm_I 0)), (4, .int (mm_I 0)), (0, .ref (mm_ad G this)), (1, .int (mm_I a1)), (2, .int (mm_I a2)), (3, .int (mm_I a3))]) C.1 C.2.1 dX6_whoIsNext_15 hl (by decide) rfl (fun ls hl => ?_)
  exact hw  _ _ _ w (lv_sub hl [2, 3, 4, 5, 1, 0] rfl)
