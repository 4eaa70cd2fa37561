theorem lk_X8_19 : Cond.fieldLink RX8 19 "LastServed$Text" "at" "I" ∈ mm_ws := (mt_1 70 rfl rfl)
theorem ff_X8_2 : mm_F 8 2 0 RX8 TX8 7 := ⟨rfl, by decide, fk_X8, rfl, rfl⟩
theorem cv_X8_kindAt : mm_V yX8_kindAt cX8_kindAt 3 (some .int) 1 := ⟨(mt_2 184 rfl rfl), (mt_2 183 rfl rfl), (mp_1 0 rfl rfl), (mt_1 3 rfl rfl), by decide, by decide, by decide +kernel⟩
theorem ml_X8_34 : Cond.methodLink RX8 34 yX8_kindAt ∈ mm_ws := (mt_2 181 rfl rfl)
theorem mn_1 : n32 1 = 1 := by decide
theorem fw_X8_2 : mm_Fw 8 2 TX8 7 .int := ⟨⟨tyX8, tyX8_ok⟩, nmX8, rfl, by decide +kernel⟩
def wp_X8_passLetters (this : Nat) (s0 : mm_M) (post : mm_M → Prop) : Prop :=
  ∀ (L0 : mm_M → Prop), 
  (∀  (s1 : mm_M), ((n32 (s1 this 1) ≤ n32 (s1 this 2) → post s1) ∧ (¬ n32 (s1 this 1) ≤ n32 (s1 this 2) → (wp_X8_kindAt this (s1 this 2) s1 (fun r_2 s_1 => ((¬ n32 r_2 = 1 → post s_1) ∧ (n32 r_2 = 1 → (∀ s_3 : mm_M, s_3 = mm_up s_1 this 2 ((s_1 this 2) + 1) → L0 s_3))))))) → L0 s1) →
  L0 s0
set_option maxRecDepth 100000 in
set_option maxHeartbeats 4000000 in
theorem c_X8_passLetters (l : Launch) (G : mm_G) (this : Nat) (h0 : mm_ok this 18 0) (s0 : mm_M) (post : mm_M → Prop) (hw : wp_X8_passLetters this s0 post) : Met l yX8_passLetters (mm_wm yX8_passLetters cX8_passLetters 1 none) (mm_rm 2) (va_Pc [.ref (mm_ad G this)] (mm_pre G s0)) (mm_Qv G post) 0 0 (mm_A G) := by
  refine mm_met (own := RX8) (by decide) rfl (Nat.le_of_ble_eq_true rfl) ?_
  intro p e s m args below meth c C hr hk
  unfold wp_X8_passLetters at hw
  have hw := hw (fun  (u : mm_M) => mm_X p l e (mm_rm 2) s m args below meth c (MQ below (mm_Qv G post) args s 0 0 (mm_A G)) G (mm_A G) 1 0 [(0, .ref (mm_ad G this))] [] u)
  have hw := hw (by
    intro  s1 hw  H locs ls w hl
    refine lv_aload_n (pc := 0) C.1 C.2.1 dX8_passLetters_0 rfl (lv_at hl 0 rfl) ?_
    refine g_geti (pc := 1) C w h0 ff_X8_2 lk_X8_19 dX8_passLetters_1 ?_
    refine lv_aload_n (pc := 4) C.1 C.2.1 dX8_passLetters_4 rfl (lv_at hl 0 rfl) ?_
    refine g_geti (pc := 5) C w h0 ff_X8_1 lk_X8_15 dX8_passLetters_5 ?_
    refine g_icmp_ge (pc := 8) (tgt := 36) C rfl rfl dX8_passLetters_8 (by decide) (fun hc => ?_) (fun hc => ?_)
    · have hw := hw.1 hc
      exact g_vret (pc := 36) C w hr hk hw dX8_passLetters_36
    · have hw := hw.2 hc
      refine lv_aload_n (pc := 11) C.1 C.2.1 dX8_passLetters_11 rfl (lv_at hl 0 rfl) ?_
      refine lv_aload_n (pc := 12) C.1 C.2.1 dX8_passLetters_12 rfl (lv_at hl 0 rfl) ?_
      refine g_geti (pc := 13) C w h0 ff_X8_2 lk_X8_19 dX8_passLetters_13 ?_
      refine g_calli (pc := 16) w (mm_runV (ci := 8) (q := (RX8, TX8, 7)) (As := [.int (mm_I (s1 this 2))]) (rest := []) C w (c_X8_kindAt l G this (s1 this 2) h0 s1 _ hw) h0 rfl rfl cv_X8_kindAt ml_X8_34 ⟨Nat.le_of_ble_eq_true rfl, Nat.le_of_ble_eq_true rfl⟩ ⟨Nat.le_of_ble_eq_true rfl, Nat.le_of_ble_eq_true rfl⟩ rfl hl.1 rfl (Nat.le_of_ble_eq_true rfl) dX8_passLetters_16) (fun r_2 s_1 H locs hw w => ?_)
      refine lv_iconst (pc := 19) (v := mm_I 1) C.1 C.2.1 dX8_passLetters_19 rfl ?_
      refine g_icmp_ne (pc := 20) (tgt := 36) C rfl mn_1 dX8_passLetters_20 (by decide) (fun hc => ?_) (fun hc => ?_)
      · have hw := hw.1 hc
        exact g_vret (pc := 36) C w hr hk hw dX8_passLetters_36
      · have hw := hw.2 hc
        refine lv_aload_n (pc := 23) C.1 C.2.1 dX8_passLetters_23 rfl (lv_at hl 0 rfl) ?_
        refine lv_dup (pc := 24) C.1 C.2.1 dX8_passLetters_24 rfl ?_
        refine g_geti (pc := 25) C w h0 ff_X8_2 lk_X8_19 dX8_passLetters_25 ?_
        refine lv_iconst (pc := 28) (v := mm_I 1) C.1 C.2.1 dX8_passLetters_28 rfl ?_
        refine g_iadd (pc := 29) C dX8_passLetters_29 ?_
        refine g_puti (pc := 30) C w h0 ff_X8_2 fw_X8_2 lk_X8_19 dX8_passLetters_30 (fun s_3 H locs es_3 w => ?_)
        have hw := hw s_3 es_3
        refine lv_goto (pc := 33) (tgt := 0) C.1 C.2.1 dX8_passLetters_33 (by decide) ?_
        exact hw  _ _ _ w (lv_sub hl [0] rfl))
  intro H locs ls w hl
  have hl : lv_has ls 1 [(0, .ref (mm_ad G this))] := hl
  exact hw  _ _ _ w (lv_sub hl [0] rfl)
theorem lk_X8_38 : Cond.fieldLink RX8 38 "LastServed$Text" "number" "I" ∈ mm_ws := (mt_1 78 rfl rfl)
theorem ff_X8_5 : mm_F 8 5 0 RX8 TX8 7 := ⟨rfl, by decide, fk_X8, rfl, rfl⟩
theorem mb_10 : (Int8.ofInt 10).toInt32 = mm_I 10 := by decide
theorem lc_X8_47 : Cond.constant RX8 47 (mm_I 100000) ∈ mm_ws := (mt_2 193 rfl rfl)
theorem mn_100000 : n32 100000 = 100000 := by decide
theorem fw_X8_5 : mm_Fw 8 5 TX8 7 .int := ⟨⟨tyX8, tyX8_ok⟩, nmX8, rfl, by decide +kernel⟩
def wp_X8_passDigits (this : Nat) (s0 : mm_M) (post : mm_M → Prop) : Prop :=
  ∀ (L0 : mm_M → Prop), 
  (∀  (s1 : mm_M), ((n32 (s1 this 1) ≤ n32 (s1 this 2) → post s1) ∧ (¬ n32 (s1 this 1) ≤ n32 (s1 this 2) → (wp_X8_kindAt this (s1 this 2) s1 (fun r_2 s_1 => ((¬ n32 r_2 = 2 → post s_1) ∧ (n32 r_2 = 2 → ((0 ≤ s_1 this 2 ∧ s_1 this 2 < 500) ∧ (∀ v1_3 : Int, v1_3 = (((s_1 this 5) * 10) + (s_1 (mm_rt this 0) (s_1 this 2))) - 48 → ((100000 ≤ n32 v1_3 → (∀ s_4 : mm_M, s_4 = mm_up s_1 this 5 100000 → (∀ s_5 : mm_M, s_5 = mm_up s_4 this 2 ((s_4 this 2) + 1) → L0 s_5))) ∧ (¬ 100000 ≤ n32 v1_3 → (∀ s_6 : mm_M, s_6 = mm_up s_1 this 5 v1_3 → (∀ s_7 : mm_M, s_7 = mm_up s_6 this 2 ((s_6 this 2) + 1) → L0 s_7)))))))))))) → L0 s1) →
  L0 s0
set_option maxRecDepth 100000 in
set_option maxHeartbeats 4000000 in
theorem c_X8_passDigits (l : Launch) (G : mm_G) (this : Nat) (h0 : mm_ok this 18 0) (s0 : mm_M) (post : mm_M → Prop) (hw : wp_X8_passDigits this s0 post) : Met l yX8_passDigits (mm_wm yX8_passDigits cX8_passDigits 2 none) (mm_rm 2) (va_Pc [.ref (mm_ad G this)] (mm_pre G s0)) (mm_Qv G post) 0 0 (mm_A G) := by
  refine mm_met (own := RX8) (by decide) rfl (Nat.le_of_ble_eq_true rfl) ?_
  intro p e s m args below meth c C hr hk
  unfold wp_X8_passDigits at hw
  have hw := hw (fun  (u : mm_M) => mm_X p l e (mm_rm 2) s m args below meth c (MQ below (mm_Qv G post) args s 0 0 (mm_A G)) G (mm_A G) 2 0 [(0, .ref (mm_ad G this))] [] u)
  have hw := hw (by
    intro  s1 hw  H locs ls w hl
    refine lv_aload_n (pc := 0) C.1 C.2.1 dX8_passDigits_0 rfl (lv_at hl 0 rfl) ?_
    refine g_geti (pc := 1) C w h0 ff_X8_2 lk_X8_19 dX8_passDigits_1 ?_
    refine lv_aload_n (pc := 4) C.1 C.2.1 dX8_passDigits_4 rfl (lv_at hl 0 rfl) ?_
    refine g_geti (pc := 5) C w h0 ff_X8_1 lk_X8_15 dX8_passDigits_5 ?_
    refine g_icmp_ge (pc := 8) (tgt := 73) C rfl rfl dX8_passDigits_8 (by decide) (fun hc => ?_) (fun hc => ?_)
    · have hw := hw.1 hc
      exact g_vret (pc := 73) C w hr hk hw dX8_passDigits_73
    · have hw := hw.2 hc
      refine lv_aload_n (pc := 11) C.1 C.2.1 dX8_passDigits_11 rfl (lv_at hl 0 rfl) ?_
      refine lv_aload_n (pc := 12) C.1 C.2.1 dX8_passDigits_12 rfl (lv_at hl 0 rfl) ?_
      refine g_geti (pc := 13) C w h0 ff_X8_2 lk_X8_19 dX8_passDigits_13 ?_
      refine g_calli (pc := 16) w (mm_runV (ci := 8) (q := (RX8, TX8, 7)) (As := [.int (mm_I (s1 this 2))]) (rest := []) C w (c_X8_kindAt l G this (s1 this 2) h0 s1 _ hw) h0 rfl rfl cv_X8_kindAt ml_X8_34 ⟨Nat.le_of_ble_eq_true rfl, Nat.le_of_ble_eq_true rfl⟩ ⟨Nat.le_of_ble_eq_true rfl, Nat.le_of_ble_eq_true rfl⟩ rfl hl.1 rfl (Nat.le_of_ble_eq_true rfl) dX8_passDigits_16) (fun r_2 s_1 H locs hw w => ?_)
      refine lv_iconst (pc := 19) (v := mm_I 2) C.1 C.2.1 dX8_passDigits_19 rfl ?_
      refine g_icmp_ne (pc := 20) (tgt := 73) C rfl mn_2 dX8_passDigits_20 (by decide) (fun hc => ?_) (fun hc => ?_)
      · have hw := hw.1 hc
        exact g_vret (pc := 73) C w hr hk hw dX8_passDigits_73
      · have hw := hw.2 hc
        refine lv_aload_n (pc := 23) C.1 C.2.1 dX8_passDigits_23 rfl (lv_at hl 0 rfl) ?_
        refine g_geti (pc := 24) C w h0 ff_X8_5 lk_X8_38 dX8_passDigits_24 ?_
        refine lv_bipush (pc := 27) C.1 C.2.1 dX8_passDigits_27 mb_10 ?_
        refine g_imul (pc := 29) C dX8_passDigits_29 ?_
        refine lv_aload_n (pc := 30) C.1 C.2.1 dX8_passDigits_30 rfl (lv_at hl 0 rfl) ?_
        refine g_getr (pc := 31) C w h0 ff_X8_0 lk_X8_9 dX8_passDigits_31 ?_
        refine lv_aload_n (pc := 34) C.1 C.2.1 dX8_passDigits_34 rfl (lv_at hl 0 rfl) ?_
        refine g_geti (pc := 35) C w h0 ff_X8_2 lk_X8_19 dX8_passDigits_35 ?_
        obtain ⟨hi, hw⟩ := hw
        refine g_iald (pc := 38) C w (ro_X8_0 h0) hi dX8_passDigits_38 ?_
        refine g_iadd (pc := 39) C dX8_passDigits_39 ?_
        refine lv_bipush (pc := 40) C.1 C.2.1 dX8_passDigits_40 mb_48 ?_
        refine g_isub (pc := 42) C dX8_passDigits_42 ?_
        refine g_istore_n (pc := 43) C dX8_passDigits_43 rfl hl (by decide) (fun v1_3 ev1_3 ls hl => ?_)
        have hw := hw v1_3 ev1_3
        have hl : lv_has ls 2 [(1, .int (mm_I v1_3)), (0, .ref (mm_ad G this))] := hl
        refine lv_aload_n (pc := 44) C.1 C.2.1 dX8_passDigits_44 rfl (lv_at hl 1 rfl) ?_
        refine lv_iload_n (pc := 45) C.1 C.2.1 dX8_passDigits_45 rfl (lv_at hl 0 rfl) ?_
        refine lv_ldc (pc := 46) C.1 C.2.1 C.2.2.2.1 (C.2.2.2.2 _ lc_X8_47) dX8_passDigits_46 ?_
        refine g_icmp_ge (pc := 48) (tgt := 55) C rfl mn_100000 dX8_passDigits_48 (by decide) (fun hc => ?_) (fun hc => ?_)
        · have hw := hw.1 hc
          refine lv_ldc (pc := 55) C.1 C.2.1 C.2.2.2.1 (C.2.2.2.2 _ lc_X8_47) dX8_passDigits_55 ?_
          refine g_puti (pc := 57) C w h0 ff_X8_5 fw_X8_5 lk_X8_38 dX8_passDigits_57 (fun s_4 H locs es_4 w => ?_)
          have hw := hw s_4 es_4
          refine lv_aload_n (pc := 60) C.1 C.2.1 dX8_passDigits_60 rfl (lv_at hl 1 rfl) ?_
          refine lv_dup (pc := 61) C.1 C.2.1 dX8_passDigits_61 rfl ?_
          refine g_geti (pc := 62) C w h0 ff_X8_2 lk_X8_19 dX8_passDigits_62 ?_
          refine lv_iconst (pc := 65) (v := mm_I 1) C.1 C.2.1 dX8_passDigits_65 rfl ?_
          refine g_iadd (pc := 66) C dX8_passDigits_66 ?_
          refine g_puti (pc := 67) C w h0 ff_X8_2 fw_X8_2 lk_X8_19 dX8_passDigits_67 (fun s_5 H locs es_5 w => ?_)
          have hw := hw s_5 es_5
          refine lv_goto (pc := 70) (tgt := 0) C.1 C.2.1 dX8_passDigits_70 (by decide) ?_
          exact hw  _ _ _ w (lv_sub hl [1] rfl)
        · have hw := hw.2 hc
          refine lv_iload_n (pc := 51) C.1 C.2.1 dX8_passDigits_51 rfl (lv_at hl 0 rfl) ?_
          refine lv_goto (pc := 52) (tgt := 57) C.1 C.2.1 dX8_passDigits_52 (by decide) ?_
          refine g_puti (pc := 57) C w h0 ff_X8_5 fw_X8_5 lk_X8_38 dX8_passDigits_57 (fun s_6 H locs es_6 w => ?_)
          have hw := hw s_6 es_6
          refine lv_aload_n (pc := 60) C.1 C.2.1 dX8_passDigits_60 rfl (lv_at hl 1 rfl) ?_
          refine lv_dup (pc := 61) C.1 C.2.1 dX8_passDigits_61 rfl ?_
          refine g_geti (pc := 62) C w h0 ff_X8_2 lk_X8_19 dX8_passDigits_62 ?_
          refine lv_iconst (pc := 65) (v := mm_I 1) C.1 C.2.1 dX8_passDigits_65 rfl ?_
          refine g_iadd (pc := 66) C dX8_passDigits_66 ?_
          refine g_puti (pc := 67) C w h0 ff_X8_2 fw_X8_2 lk_X8_19 dX8_passDigits_67 (fun s_7 H locs es_7 w => ?_)
          have hw := hw s_7 es_7
          refine lv_goto (pc := 70) (tgt := 0) C.1 C.2.1 dX8_passDigits_70 (by decide) ?_
          exact hw  _ _ _ w (lv_sub hl [1] rfl))
  intro H locs ls w hl
  have hl : lv_has ls 2 [(0, .ref (mm_ad G this))] := hl
  exact hw  _ _ _ w (lv_sub hl [0] rfl)
theorem mn_3 : n32 3 = 3 := by decide
theorem lk_X8_31 : Cond.fieldLink RX8 31 "LastServed$Text" "start" "I" ∈ mm_ws := (mt_1 72 rfl rfl)
theorem ff_X8_3 : mm_F 8 3 0 RX8 TX8 7 := ⟨rfl, by decide, fk_X8, rfl, rfl⟩
theorem fw_X8_3 : mm_Fw 8 3 TX8 7 .int := ⟨⟨tyX8, tyX8_ok⟩, nmX8, rfl, by decide +kernel⟩
theorem lk_X8_28 : Cond.fieldLink RX8 28 "LastServed$Text" "kind" "I" ∈ mm_ws := (mt_1 75 rfl rfl)
theorem ff_X8_4 : mm_F 8 4 0 RX8 TX8 7 := ⟨rfl, by decide, fk_X8, rfl, rfl⟩
theorem fw_X8_4 : mm_Fw 8 4 TX8 7 .int := ⟨⟨tyX8, tyX8_ok⟩, nmX8, rfl, by decide +kernel⟩
theorem cv_X8_passDigits : mm_V yX8_passDigits cX8_passDigits 2 none 0 := ⟨(mt_2 192 rfl rfl), (mt_2 191 rfl rfl), (mp_1 2 rfl rfl), (mt_1 3 rfl rfl), by decide, by decide, by decide +kernel⟩
theorem ml_X8_44 : Cond.methodLink RX8 44 yX8_passDigits ∈ mm_ws := (mt_2 189 rfl rfl)
theorem cv_X8_passLetters : mm_V yX8_passLetters cX8_passLetters 1 none 0 := ⟨(mt_2 188 rfl rfl), (mt_2 187 rfl rfl), (mp_1 1 rfl rfl), (mt_1 3 rfl rfl), by decide, by decide, by decide +kernel⟩
theorem ml_X8_41 : Cond.methodLink RX8 41 yX8_passLetters ∈ mm_ws := (mt_2 185 rfl rfl)
def wp_X8_advance (this : Nat) (s0 : mm_M) (post : mm_M → Prop) : Prop :=
  ∀ (L0 : mm_M → Prop), ∀ (L36 : mm_M → Prop), 
  (∀  (s1 : mm_M), ((n32 (s1 this 1) ≤ n32 (s1 this 2) → L36 s1) ∧ (¬ n32 (s1 this 1) ≤ n32 (s1 this 2) → (wp_X8_kindAt this (s1 this 2) s1 (fun r_2 s_1 => ((¬ n32 r_2 = 3 → L36 s_1) ∧ (n32 r_2 = 3 → (∀ s_3 : mm_M, s_3 = mm_up s_1 this 2 ((s_1 this 2) + 1) → L0 s_3))))))) → L0 s1) →
  (∀  (s1 : mm_M), (∀ s_4 : mm_M, s_4 = mm_up s1 this 3 (s1 this 2) → (wp_X8_kindAt this (s_4 this 2) s_4 (fun r_6 s_5 => (∀ s_7 : mm_M, s_7 = mm_up s_5 this 4 r_6 → (∀ s_8 : mm_M, s_8 = mm_up s_7 this 5 0 → ((¬ n32 (s_8 this 4) = 1 → ((¬ n32 (s_8 this 4) = 2 → ((n32 (s_8 this 4) = 0 → post s_8) ∧ (¬ n32 (s_8 this 4) = 0 → (∀ s_9 : mm_M, s_9 = mm_up s_8 this 2 ((s_8 this 2) + 1) → post s_9)))) ∧ (n32 (s_8 this 4) = 2 → (wp_X8_passDigits this s_8 (fun s_10 => post s_10))))) ∧ (n32 (s_8 this 4) = 1 → (wp_X8_passLetters this s_8 (fun s_12 => post s_12))))))))) → L36 s1) →
  L0 s0
set_option maxRecDepth 100000 in
set_option maxHeartbeats 4000000 in
theorem c_X8_advance (l : Launch) (G : mm_G) (this : Nat) (h0 : mm_ok this 18 0) (s0 : mm_M) (post : mm_M → Prop) (hw : wp_X8_advance this s0 post) : Met l yX8_advance (mm_wm yX8_advance cX8_advance 1 none) (mm_rm 3) (va_Pc [.ref (mm_ad G this)] (mm_pre G s0)) (mm_Qv G post) 0 0 (mm_A G) := by
  refine mm_met (own := RX8) (by decide) rfl (Nat.le_of_ble_eq_true rfl) ?_
  intro p e s m args below meth c C hr hk
  unfold wp_X8_advance at hw
  have hw := hw (fun  (u : mm_M) => mm_X p l e (mm_rm 3) s m args below meth c (MQ below (mm_Qv G post) args s 0 0 (mm_A G)) G (mm_A G) 1 0 [(0, .ref (mm_ad G this))] [] u)
  have hw := hw (fun  (u : mm_M) => mm_X p l e (mm_rm 3) s m args below meth c (MQ below (mm_Qv G post) args s 0 0 (mm_A G)) G (mm_A G) 1 36 [(0, .ref (mm_ad G this))] [] u)
  have hw := hw (by
    intro  s1 hw  H locs ls w hl
    refine lv_aload_n (pc := 0) C.1 C.2.1 dX8_advance_0 rfl (lv_at hl 0 rfl) ?_
    refine g_geti (pc := 1) C w h0 ff_X8_2 lk_X8_19 dX8_advance_1 ?_
    refine lv_aload_n (pc := 4) C.1 C.2.1 dX8_advance_4 rfl (lv_at hl 0 rfl) ?_
    refine g_geti (pc := 5) C w h0 ff_X8_1 lk_X8_15 dX8_advance_5 ?_
    refine g_icmp_ge (pc := 8) (tgt := 36) C rfl rfl dX8_advance_8 (by decide) (fun hc => ?_) (fun hc => ?_)
    · have hw := hw.1 hc
      exact hw  _ _ _ w (lv_sub hl [0] rfl)
    · have hw := hw.2 hc
      refine lv_aload_n (pc := 11) C.1 C.2.1 dX8_advance_11 rfl (lv_at hl 0 rfl) ?_
      refine lv_aload_n (pc := 12) C.1 C.2.1 dX8_advance_12 rfl (lv_at hl 0 rfl) ?_
      refine g_geti (pc := 13) C w h0 ff_X8_2 lk_X8_19 dX8_advance_13 ?_
      refine g_calli (pc := 16) w (mm_runV (ci := 8) (q := (RX8, TX8, 7)) (As := [.int (mm_I (s1 this 2))]) (rest := []) C w (c_X8_kindAt l G this (s1 this 2) h0 s1 _ hw) h0 rfl rfl cv_X8_kindAt ml_X8_34 ⟨Nat.le_of_ble_eq_true rfl, Nat.le_of_ble_eq_true rfl⟩ ⟨Nat.le_of_ble_eq_true rfl, Nat.le_of_ble_eq_true rfl⟩ rfl hl.1 rfl (Nat.le_of_ble_eq_true rfl) dX8_advance_16) (fun r_2 s_1 H locs hw w => ?_)
      refine lv_iconst (pc := 19) (v := mm_I 3) C.1 C.2.1 dX8_advance_19 rfl ?_
      refine g_icmp_ne (pc := 20) (tgt := 36) C rfl mn_3 dX8_advance_20 (by decide) (fun hc => ?_) (fun hc => ?_)
      · have hw := hw.1 hc
        exact hw  _ _ _ w (lv_sub hl [0] rfl)
      · have hw := hw.2 hc
        refine lv_aload_n (pc := 23) C.1 C.2.1 dX8_advance_23 rfl (lv_at hl 0 rfl) ?_
        refine lv_dup (pc := 24) C.1 C.2.1 dX8_advance_24 rfl ?_
        refine g_geti (pc := 25) C w h0 ff_X8_2 lk_X8_19 dX8_advance_25 ?_
        refine lv_iconst (pc := 28) (v := mm_I 1) C.1 C.2.1 dX8_advance_28 rfl ?_
        refine g_iadd (pc := 29) C dX8_advance_29 ?_
        refine g_puti (pc := 30) C w h0 ff_X8_2 fw_X8_2 lk_X8_19 dX8_advance_30 (fun s_3 H locs es_3 w => ?_)
        have hw := hw s_3 es_3
        refine lv_goto (pc := 33) (tgt := 0) C.1 C.2.1 dX8_advance_33 (by decide) ?_
        exact hw  _ _ _ w (lv_sub hl [0] rfl))
  have hw := hw (by
    intro  s1 hw  H locs ls w hl
    refine lv_aload_n (pc := 36) C.1 C.2.1 dX8_advance_36 rfl (lv_at hl 0 rfl) ?_
    refine lv_aload_n (pc := 37) C.1 C.2.1 dX8_advance_37 rfl (lv_at hl 0 rfl) ?_
    refine g_geti (pc := 38) C w h0 ff_X8_2 lk_X8_19 dX8_advance_38 ?_
    refine g_puti (pc := 41) C w h0 ff_X8_3 fw_X8_3 lk_X8_31 dX8_advance_41 (fun s_4 H locs es_4 w => ?_)
    have hw := hw s_4 es_4
    refine lv_aload_n (pc := 44) C.1 C.2.1 dX8_advance_44 rfl (lv_at hl 0 rfl) ?_
    refine lv_aload_n (pc := 45) C.1 C.2.1 dX8_advance_45 rfl (lv_at hl 0 rfl) ?_
    refine lv_aload_n (pc := 46) C.1 C.2.1 dX8_advance_46 rfl (lv_at hl 0 rfl) ?_
    refine g_geti (pc := 47) C w h0 ff_X8_2 lk_X8_19 dX8_advance_47 ?_
    refine g_calli (pc := 50) w (mm_runV (ci := 8) (q := (RX8, TX8, 7)) (As := [.int (mm_I (s_4 this 2))]) (rest := [.ref (mm_ad G this)]) C w (c_X8_kindAt l G this (s_4 this 2) h0 s_4 _ hw) h0 rfl rfl cv_X8_kindAt ml_X8_34 ⟨Nat.le_of_ble_eq_true rfl, Nat.le_of_ble_eq_true rfl⟩ ⟨Nat.le_of_ble_eq_true rfl, Nat.le_of_ble_eq_true rfl⟩ rfl hl.1 rfl (Nat.le_of_ble_eq_true rfl) dX8_advance_50) (fun r_6 s_5 H locs hw w => ?_)
    refine g_puti (pc := 53) C w h0 ff_X8_4 fw_X8_4 lk_X8_28 dX8_advance_53 (fun s_7 H locs es_7 w => ?_)
    have hw := hw s_7 es_7
    refine lv_aload_n (pc := 56) C.1 C.2.1 dX8_advance_56 rfl (lv_at hl 0 rfl) ?_
    refine lv_iconst (pc := 57) (v := mm_I 0) C.1 C.2.1 dX8_advance_57 rfl ?_
    refine g_puti (pc := 58) C w h0 ff_X8_5 fw_X8_5 lk_X8_38 dX8_advance_58 (fun s_8 H locs es_8 w => ?_)
    have hw := hw s_8 es_8
    refine lv_aload_n (pc := 61) C.1 C.2.1 dX8_advance_61 rfl (lv_at hl 0 rfl) ?_
    refine g_geti (pc := 62) C w h0 ff_X8_4 lk_X8_28 dX8_advance_62 ?_
    refine lv_iconst (pc := 65) (v := mm_I 1) C.1 C.2.1 dX8_advance_65 rfl ?_
    refine g_icmp_ne (pc := 66) (tgt := 76) C rfl mn_1 dX8_advance_66 (by decide) (fun hc => ?_) (fun hc => ?_)
    · have hw := hw.1 hc
      refine lv_aload_n (pc := 76) C.1 C.2.1 dX8_advance_76 rfl (lv_at hl 0 rfl) ?_
      refine g_geti (pc := 77) C w h0 ff_X8_4 lk_X8_28 dX8_advance_77 ?_
      refine lv_iconst (pc := 80) (v := mm_I 2) C.1 C.2.1 dX8_advance_80 rfl ?_
      refine g_icmp_ne (pc := 81) (tgt := 91) C rfl mn_2 dX8_advance_81 (by decide) (fun hc => ?_) (fun hc => ?_)
      · have hw := hw.1 hc
        refine lv_aload_n (pc := 91) C.1 C.2.1 dX8_advance_91 rfl (lv_at hl 0 rfl) ?_
        refine g_geti (pc := 92) C w h0 ff_X8_4 lk_X8_28 dX8_advance_92 ?_
        refine g_if_eq (pc := 95) (tgt := 108) C rfl dX8_advance_95 (by decide) (fun hc => ?_) (fun hc => ?_)
        · have hw := hw.1 hc
          exact g_vret (pc := 108) C w hr hk hw dX8_advance_108
        · have hw := hw.2 hc
          refine lv_aload_n (pc := 98) C.1 C.2.1 dX8_advance_98 rfl (lv_at hl 0 rfl) ?_
          refine lv_dup (pc := 99) C.1 C.2.1 dX8_advance_99 rfl ?_
          refine g_geti (pc := 100) C w h0 ff_X8_2 lk_X8_19 dX8_advance_100 ?_
          refine lv_iconst (pc := 103) (v := mm_I 1) C.1 C.2.1 dX8_advance_103 rfl ?_
          refine g_iadd (pc := 104) C dX8_advance_104 ?_
          refine g_puti (pc := 105) C w h0 ff_X8_2 fw_X8_2 lk_X8_19 dX8_advance_105 (fun s_9 H locs es_9 w => ?_)
          have hw := hw s_9 es_9
          exact g_vret (pc := 108) C w hr hk hw dX8_advance_108
      · have hw := hw.2 hc
        refine lv_aload_n (pc := 84) C.1 C.2.1 dX8_advance_84 rfl (lv_at hl 0 rfl) ?_
        refine g_callv (pc := 85) w (mm_runV (ci := 8) (q := (RX8, TX8, 7)) (As := []) (rest := []) C w (c_X8_passDigits l G this h0 s_8 _ hw) h0 rfl rfl cv_X8_passDigits ml_X8_44 ⟨Nat.le_of_ble_eq_true rfl, Nat.le_of_ble_eq_true rfl⟩ ⟨Nat.le_of_ble_eq_true rfl, Nat.le_of_ble_eq_true rfl⟩ rfl hl.1 rfl (Nat.le_of_ble_eq_true rfl) dX8_advance_85) (fun s_10 H locs hw w => ?_)
        refine lv_goto (pc := 88) (tgt := 108) C.1 C.2.1 dX8_advance_88 (by decide) ?_
        exact g_vret (pc := 108) C w hr hk hw dX8_advance_108
    · have hw := hw.2 hc
      refine lv_aload_n (pc := 69) C.1 C.2.1 dX8_advance_69 rfl (lv_at hl 0 rfl) ?_
      refine g_callv (pc := 70) w (mm_runV (ci := 8) (q := (RX8, TX8, 7)) (As := []) (rest := []) C w (c_X8_passLetters l G this h0 s_8 _ hw) h0 rfl rfl cv_X8_passLetters ml_X8_41 ⟨Nat.le_of_ble_eq_true rfl, Nat.le_of_ble_eq_true rfl⟩ ⟨Nat.le_of_ble_eq_true rfl, Nat.le_of_ble_eq_true rfl⟩ rfl hl.1 rfl (Nat.le_of_ble_eq_true rfl) dX8_advance_70) (fun s_12 H locs hw w => ?_)
      refine lv_goto (pc := 73) (tgt := 108) C.1 C.2.1 dX8_advance_73 (by decide) ?_
      exact g_vret (pc := 108) C w hr hk hw dX8_advance_108)
  intro H locs ls w hl
  have hl : lv_has ls 1 [(0, .ref (mm_ad G this))] := hl
  exact hw  _ _ _ w (lv_sub hl [0] rfl)
theorem lk_X8_22 : Cond.fieldLink RX8 22 "LastServed$Text" "fault" "I" ∈ mm_ws := (mt_1 81 rfl rfl)
theorem ff_X8_6 : mm_F 8 6 0 RX8 TX8 7 := ⟨rfl, by decide, fk_X8, rfl, rfl⟩
theorem fw_X8_6 : mm_Fw 8 6 TX8 7 .int := ⟨⟨tyX8, tyX8_ok⟩, nmX8, rfl, by decide +kernel⟩
theorem cv_X8_advance : mm_V yX8_advance cX8_advance 1 none 0 := ⟨(mt_2 180 rfl rfl), (mt_2 178 rfl rfl), (mt_2 179 rfl rfl), (mt_1 3 rfl rfl), by decide, by decide, by decide +kernel⟩
theorem ml_X8_25 : Cond.methodLink RX8 25 yX8_advance ∈ mm_ws := (mt_2 177 rfl rfl)
def wp_X8_begin (this : Nat) (s0 : mm_M) (post : mm_M → Prop) : Prop :=
  (∀ s_1 : mm_M, s_1 = mm_up s0 this 2 0 → (∀ s_2 : mm_M, s_2 = mm_up s_1 this 6 (-1) → (wp_X8_advance this s_2 (fun s_3 => post s_3))))
set_option maxRecDepth 100000 in
set_option maxHeartbeats 4000000 in
theorem c_X8_begin (l : Launch) (G : mm_G) (this : Nat) (h0 : mm_ok this 18 0) (s0 : mm_M) (post : mm_M → Prop) (hw : wp_X8_begin this s0 post) : Met l yX8_begin (mm_wm yX8_begin cX8_begin 1 none) (mm_rm 4) (va_Pc [.ref (mm_ad G this)] (mm_pre G s0)) (mm_Qv G post) 0 0 (mm_A G) := by
  refine mm_met (own := RX8) (by decide) rfl (Nat.le_of_ble_eq_true rfl) ?_
  intro p e s m args below meth c C hr hk
  unfold wp_X8_begin at hw
  intro H locs ls w hl
  have hl : lv_has ls 1 [(0, .ref (mm_ad G this))] := hl
  refine lv_aload_n (pc := 0) C.1 C.2.1 dX8_begin_0 rfl (lv_at hl 0 rfl) ?_
  refine lv_iconst (pc := 1) (v := mm_I 0) C.1 C.2.1 dX8_begin_1 rfl ?_
  refine g_puti (pc := 2) C w h0 ff_X8_2 fw_X8_2 lk_X8_19 dX8_begin_2 (fun s_1 H locs es_1 w => ?_)
  have hw := hw s_1 es_1
  refine lv_aload_n (pc := 5) C.1 C.2.1 dX8_begin_5 rfl (lv_at hl 0 rfl) ?_
  refine lv_iconst (pc := 6) (v := mm_I (-1)) C.1 C.2.1 dX8_begin_6 rfl ?_
  refine g_puti (pc := 7) C w h0 ff_X8_6 fw_X8_6 lk_X8_22 dX8_begin_7 (fun s_2 H locs es_2 w => ?_)
  have hw := hw s_2 es_2
  refine lv_aload_n (pc := 10) C.1 C.2.1 dX8_begin_10 rfl (lv_at hl 0 rfl) ?_
  refine g_callv (pc := 11) w (mm_runV (ci := 8) (q := (RX8, TX8, 7)) (As := []) (rest := []) C w (c_X8_advance l G this h0 s_2 _ hw) h0 rfl rfl cv_X8_advance ml_X8_25 ⟨Nat.le_of_ble_eq_true rfl, Nat.le_of_ble_eq_true rfl⟩ ⟨Nat.le_of_ble_eq_true rfl, Nat.le_of_ble_eq_true rfl⟩ rfl hl.1 rfl (Nat.le_of_ble_eq_true rfl) dX8_begin_11) (fun s_3 H locs hw w => ?_)
  exact g_vret (pc := 14) C w hr hk hw dX8_begin_14
def wp_X8_goesOn (this : Nat) (s0 : mm_M) (post : Int → mm_M → Prop) : Prop :=
  ((¬ n32 (s0 this 6) = (-1) → post 0 s0) ∧ (n32 (s0 this 6) = (-1) → ((n32 (s0 this 4) = 0 → post 0 s0) ∧ (¬ n32 (s0 this 4) = 0 → post 1 s0))))
set_option maxRecDepth 100000 in
set_option maxHeartbeats 4000000 in
theorem c_X8_goesOn (l : Launch) (G : mm_G) (this : Nat) (h0 : mm_ok this 18 0) (s0 : mm_M) (post : Int → mm_M → Prop) (hw : wp_X8_goesOn this s0 post) : Met l yX8_goesOn (mm_wm yX8_goesOn cX8_goesOn 1 (some .boolean)) (mm_rm 1) (va_Pc [.ref (mm_ad G this)] (mm_pre G s0)) (mm_Qi G post) 0 0 (mm_A G) := by
  refine mm_met (own := RX8) (by decide) rfl (Nat.le_of_ble_eq_true rfl) ?_
  intro p e s m args below meth c C hr hk
  unfold wp_X8_goesOn at hw
  intro H locs ls w hl
  have hl : lv_has ls 1 [(0, .ref (mm_ad G this))] := hl
  refine lv_aload_n (pc := 0) C.1 C.2.1 dX8_goesOn_0 rfl (lv_at hl 0 rfl) ?_
  refine g_geti (pc := 1) C w h0 ff_X8_6 lk_X8_22 dX8_goesOn_1 ?_
  refine lv_iconst (pc := 4) (v := mm_I (-1)) C.1 C.2.1 dX8_goesOn_4 rfl ?_
  refine g_icmp_ne (pc := 5) (tgt := 19) C rfl mn_m1 dX8_goesOn_5 (by decide) (fun hc => ?_) (fun hc => ?_)
  · have hw := hw.1 hc
    refine lv_iconst (pc := 19) (v := mm_I 0) C.1 C.2.1 dX8_goesOn_19 rfl ?_
    exact g_zret (pc := 20) C w hr hk (by decide) hw dX8_goesOn_20
  · have hw := hw.2 hc
    refine lv_aload_n (pc := 8) C.1 C.2.1 dX8_goesOn_8 rfl (lv_at hl 0 rfl) ?_
    refine g_geti (pc := 9) C w h0 ff_X8_4 lk_X8_28 dX8_goesOn_9 ?_
    refine g_if_eq (pc := 12) (tgt := 19) C rfl dX8_goesOn_12 (by decide) (fun hc => ?_) (fun hc => ?_)
    · have hw := hw.1 hc
      refine lv_iconst (pc := 19) (v := mm_I 0) C.1 C.2.1 dX8_goesOn_19 rfl ?_
      exact g_zret (pc := 20) C w hr hk (by decide) hw dX8_goesOn_20
    · have hw := hw.2 hc
      refine lv_iconst (pc := 15) (v := mm_I 1) C.1 C.2.1 dX8_goesOn_15 rfl ?_
      refine lv_goto (pc := 16) (tgt := 20) C.1 C.2.1 dX8_goesOn_16 (by decide) ?_
      exact g_zret (pc := 20) C w hr hk (by decide) hw dX8_goesOn_20
theorem cv_J0_length_8abf5 : mm_V yJ0_length_8abf5 cJ0_length_8abf5 1 (some .int) 0 := ⟨(mt_2 210 rfl rfl), (mt_2 208 rfl rfl), (mt_2 209 rfl rfl), (mt_1 13 rfl rfl), by decide, by decide, by decide +kernel⟩
theorem ml_X8_48 : Cond.methodLink RX8 48 yJ0_length_8abf5 ∈ mm_ws := (mt_2 207 rfl rfl)
theorem cv_J0_charAt_5068e : mm_V yJ0_charAt_5068e cJ0_charAt_5068e 2 (some .char) 1 := ⟨(mt_2 220 rfl rfl), (mt_2 218 rfl rfl), (mt_2 219 rfl rfl), (mt_1 13 rfl rfl), by decide, by decide, by decide +kernel⟩
theorem ml_X8_53 : Cond.methodLink RX8 53 yJ0_charAt_5068e ∈ mm_ws := (mt_2 217 rfl rfl)
def wp_X8_wordIs (this : Nat) (a1 : Nat) (s0 : mm_M) (post : Int → mm_M → Prop) : Prop :=
  ∀ (L48 : Int → mm_M → Prop), 
  (∀ (v2 : Int) (s1 : mm_M), ((n32 (s1 this 2) ≤ n32 v2 → post 1 s1) ∧ (¬ n32 (s1 this 2) ≤ n32 v2 → ((0 ≤ v2 ∧ v2 < 500) ∧ (wp_J0_charAt_5068e a1 (v2 - (s1 this 3)) s1 (fun r_5 s_4 => ((n32 (s1 (mm_rt this 0) v2) = n32 r_5 → (∀ v2_6 : Int, v2_6 = v2 + 1 → L48 v2_6 s_4)) ∧ (¬ n32 (s1 (mm_rt this 0) v2) = n32 r_5 → post 0 s_4))))))) → L48 v2 s1) →
  ((¬ n32 (s0 this 4) = 1 → post 0 s0) ∧ (n32 (s0 this 4) = 1 → (wp_J0_length_8abf5 a1 s0 (fun r_2 s_1 => ((¬ n32 ((s0 this 2) - (s0 this 3)) = n32 r_2 → post 0 s_1) ∧ (n32 ((s0 this 2) - (s0 this 3)) = n32 r_2 → ((n32 (s_1 this 3) < 0 → post 0 s_1) ∧ (¬ n32 (s_1 this 3) < 0 → ((n32 (s_1 this 2) ≤ 500 → (∀ v2_3 : Int, v2_3 = s_1 this 3 → L48 v2_3 s_1)) ∧ (¬ n32 (s_1 this 2) ≤ 500 → post 0 s_1))))))))))
set_option maxRecDepth 100000 in
set_option maxHeartbeats 4000000 in
theorem c_X8_wordIs (l : Launch) (G : mm_G) (this : Nat) (a1 : Nat) (h0 : mm_ok this 18 0) (k1 : a1 < mm_nS) (s0 : mm_M) (post : Int → mm_M → Prop) (hw : wp_X8_wordIs this a1 s0 post) : Met l yX8_wordIs (mm_wm yX8_wordIs cX8_wordIs 3 (some .boolean)) (mm_rm 5) (va_Pc [.ref (mm_ad G this), .ref (G.2.2.2.1 a1)] (mm_pre G s0)) (mm_Qi G post) 0 0 (mm_A G) := by
  refine mm_met (own := RX8) (by decide) rfl (Nat.le_of_ble_eq_true rfl) ?_
  intro p e s m args below meth c C hr hk
  unfold wp_X8_wordIs at hw
  have hw := hw (fun (v2 : Int) (u : mm_M) => mm_X p l e (mm_rm 5) s m args below meth c (MQ below (mm_Qi G post) args s 0 0 (mm_A G)) G (mm_A G) 3 48 [(0, .ref (mm_ad G this)), (1, .ref (G.2.2.2.1 a1)), (2, .int (mm_I v2))] [] u)
  have hw := hw (by
    intro v2 s1 hw  H locs ls w hl
    refine lv_iload_n (pc := 48) C.1 C.2.1 dX8_wordIs_48 rfl (lv_at hl 2 rfl) ?_
    refine lv_aload_n (pc := 49) C.1 C.2.1 dX8_wordIs_49 rfl (lv_at hl 0 rfl) ?_
    refine g_geti (pc := 50) C w h0 ff_X8_2 lk_X8_19 dX8_wordIs_50 ?_
    refine g_icmp_ge (pc := 53) (tgt := 83) C rfl rfl dX8_wordIs_53 (by decide) (fun hc => ?_) (fun hc => ?_)
    · have hw := hw.1 hc
      refine lv_iconst (pc := 83) (v := mm_I 1) C.1 C.2.1 dX8_wordIs_83 rfl ?_
      exact g_zret (pc := 84) C w hr hk (by decide) hw dX8_wordIs_84
    · have hw := hw.2 hc
      refine lv_aload_n (pc := 56) C.1 C.2.1 dX8_wordIs_56 rfl (lv_at hl 0 rfl) ?_
      refine g_getr (pc := 57) C w h0 ff_X8_0 lk_X8_9 dX8_wordIs_57 ?_
      refine lv_iload_n (pc := 60) C.1 C.2.1 dX8_wordIs_60 rfl (lv_at hl 2 rfl) ?_
      obtain ⟨hi, hw⟩ := hw
      refine g_iald (pc := 61) C w (ro_X8_0 h0) hi dX8_wordIs_61 ?_
      refine lv_aload_n (pc := 62) C.1 C.2.1 dX8_wordIs_62 rfl (lv_at hl 1 rfl) ?_
      refine lv_iload_n (pc := 63) C.1 C.2.1 dX8_wordIs_63 rfl (lv_at hl 2 rfl) ?_
      refine lv_aload_n (pc := 64) C.1 C.2.1 dX8_wordIs_64 rfl (lv_at hl 0 rfl) ?_
      refine g_geti (pc := 65) C w h0 ff_X8_3 lk_X8_31 dX8_wordIs_65 ?_
      refine g_isub (pc := 68) C dX8_wordIs_68 ?_
      refine g_calli (pc := 69) w (mm_runT (As := [.int (mm_I (v2 - (s1 this 3)))]) (rest := [.int (mm_I (s1 (mm_rt this 0) v2))]) C w (c_J0_charAt_5068e l G a1 (v2 - (s1 this 3)) k1 s1 _ hw) k1 rfl cv_J0_charAt_5068e ml_X8_53 ⟨Nat.le_of_ble_eq_true rfl, Nat.le_of_ble_eq_true rfl⟩ ⟨Nat.le_of_ble_eq_true rfl, Nat.le_of_ble_eq_true rfl⟩ rfl hl.1 rfl (Nat.le_of_ble_eq_true rfl) dX8_wordIs_69) (fun r_5 s_4 H locs hw w => ?_)
      refine g_icmp_eq (pc := 72) (tgt := 77) C rfl rfl dX8_wordIs_72 (by decide) (fun hc => ?_) (fun hc => ?_)
      · have hw := hw.1 hc
        refine g_iinc (pc := 77) (k := 2) C dX8_wordIs_77 hl rfl (by decide) (fun v2_6 ev2_6 ls hl => ?_)
        have hw := hw v2_6 ev2_6
        have hl : lv_has ls 3 [(2, .int (mm_I v2_6)), (0, .ref (mm_ad G this)), (1, .ref (G.2.2.2.1 a1))] := hl
        refine lv_goto (pc := 80) (tgt := 48) C.1 C.2.1 dX8_wordIs_80 (by decide) ?_
        exact hw  _ _ _ w (lv_sub hl [1, 2, 0] rfl)
      · have hw := hw.2 hc
        refine lv_iconst (pc := 75) (v := mm_I 0) C.1 C.2.1 dX8_wordIs_75 rfl ?_
        exact g_zret (pc := 76) C w hr hk (by decide) hw dX8_wordIs_76)
  intro H locs ls w hl
  have hl : lv_has ls 3 [(0, .ref (mm_ad G this)), (1, .ref (G.2.2.2.1 a1))] := hl
  refine lv_aload_n (pc := 0) C.1 C.2.1 dX8_wordIs_0 rfl (lv_at hl 0 rfl) ?_
  refine g_geti (pc := 1) C w h0 ff_X8_4 lk_X8_28 dX8_wordIs_1 ?_
  refine lv_iconst (pc := 4) (v := mm_I 1) C.1 C.2.1 dX8_wordIs_4 rfl ?_
  refine g_icmp_ne (pc := 5) (tgt := 41) C rfl mn_1 dX8_wordIs_5 (by decide) (fun hc => ?_) (fun hc => ?_)
  · have hw := hw.1 hc
    refine lv_iconst (pc := 41) (v := mm_I 0) C.1 C.2.1 dX8_wordIs_41 rfl ?_
    exact g_zret (pc := 42) C w hr hk (by decide) hw dX8_wordIs_42
  · have hw := hw.2 hc
    refine lv_aload_n (pc := 8) C.1 C.2.1 dX8_wordIs_8 rfl (lv_at hl 0 rfl) ?_
    refine g_geti (pc := 9) C w h0 ff_X8_2 lk_X8_19 dX8_wordIs_9 ?_
    refine lv_aload_n (pc := 12) C.1 C.2.1 dX8_wordIs_12 rfl (lv_at hl 0 rfl) ?_
    refine g_geti (pc := 13) C w h0 ff_X8_3 lk_X8_31 dX8_wordIs_13 ?_
    refine g_isub (pc := 16) C dX8_wordIs_16 ?_
    refine lv_aload_n (pc := 17) C.1 C.2.1 dX8_wordIs_17 rfl (lv_at hl 1 rfl) ?_
    refine g_calli (pc := 18) w (mm_runT (As := []) (rest := [.int (mm_I ((s0 this 2) - (s0 this 3)))]) C w (c_J0_length_8abf5 l G a1 k1 s0 _ hw) k1 rfl cv_J0_length_8abf5 ml_X8_48 ⟨Nat.le_of_ble_eq_true rfl, Nat.le_of_ble_eq_true rfl⟩ ⟨Nat.le_of_ble_eq_true rfl, Nat.le_of_ble_eq_true rfl⟩ rfl hl.1 rfl (Nat.le_of_ble_eq_true rfl) dX8_wordIs_18) (fun r_2 s_1 H locs hw w => ?_)
    refine g_icmp_ne (pc := 21) (tgt := 41) C rfl rfl dX8_wordIs_21 (by decide) (fun hc => ?_) (fun hc => ?_)
    · have hw := hw.1 hc
      refine lv_iconst (pc := 41) (v := mm_I 0) C.1 C.2.1 dX8_wordIs_41 rfl ?_
      exact g_zret (pc := 42) C w hr hk (by decide) hw dX8_wordIs_42
    · have hw := hw.2 hc
      refine lv_aload_n (pc := 24) C.1 C.2.1 dX8_wordIs_24 rfl (lv_at hl 0 rfl) ?_
      refine g_geti (pc := 25) C w h0 ff_X8_3 lk_X8_31 dX8_wordIs_25 ?_
      refine g_if_lt (pc := 28) (tgt := 41) C rfl dX8_wordIs_28 (by decide) (fun hc => ?_) (fun hc => ?_)
      · have hw := hw.1 hc
        refine lv_iconst (pc := 41) (v := mm_I 0) C.1 C.2.1 dX8_wordIs_41 rfl ?_
        exact g_zret (pc := 42) C w hr hk (by decide) hw dX8_wordIs_42
      · have hw := hw.2 hc
        refine lv_aload_n (pc := 31) C.1 C.2.1 dX8_wordIs_31 rfl (lv_at hl 0 rfl) ?_
        refine g_geti (pc := 32) C w h0 ff_X8_2 lk_X8_19 dX8_wordIs_32 ?_
        refine lv_sipush (pc := 35) C.1 C.2.1 dX8_wordIs_35 ms_500 ?_
        refine g_icmp_le (pc := 38) (tgt := 43) C rfl mn_500 dX8_wordIs_38 (by decide) (fun hc => ?_) (fun hc => ?_)
        · have hw := hw.1 hc
          refine lv_aload_n (pc := 43) C.1 C.2.1 dX8_wordIs_43 rfl (lv_at hl 0 rfl) ?_
          refine g_geti (pc := 44) C w h0 ff_X8_3 lk_X8_31 dX8_wordIs_44 ?_
          refine g_istore_n (pc := 47) C dX8_wordIs_47 rfl hl (by decide) (fun v2_3 ev2_3 ls hl => ?_)
          have hw := hw v2_3 ev2_3
          have hl : lv_has ls 3 [(2, .int (mm_I v2_3)), (0, .ref (mm_ad G this)), (1, .ref (G.2.2.2.1 a1))] := hl
          exact hw  _ _ _ w (lv_sub hl [1, 2, 0] rfl)
        · have hw := hw.2 hc
          refine lv_iconst (pc := 41) (v := mm_I 0) C.1 C.2.1 dX8_wordIs_41 rfl ?_
          exact g_zret (pc := 42) C w hr hk (by decide) hw dX8_wordIs_42
def wp_X8_refuse (this : Nat) (s0 : mm_M) (post : mm_M → Prop) : Prop :=
  ((¬ n32 (s0 this 6) = (-1) → post s0) ∧ (n32 (s0 this 6) = (-1) → (∀ s_1 : mm_M, s_1 = mm_up s0 this 6 (s0 this 3) → post s_1)))
set_option maxRecDepth 100000 in
set_option maxHeartbeats 4000000 in
theorem c_X8_refuse (l : Launch) (G : mm_G) (this : Nat) (h0 : mm_ok this 18 0) (s0 : mm_M) (post : mm_M → Prop) (hw : wp_X8_refuse this s0 post) : Met l yX8_refuse (mm_wm yX8_refuse cX8_refuse 1 none) (mm_rm 1) (va_Pc [.ref (mm_ad G this)] (mm_pre G s0)) (mm_Qv G post) 0 0 (mm_A G) := by
  refine mm_met (own := RX8) (by decide) rfl (Nat.le_of_ble_eq_true rfl) ?_
  intro p e s m args below meth c C hr hk
  unfold wp_X8_refuse at hw
  intro H locs ls w hl
  have hl : lv_has ls 1 [(0, .ref (mm_ad G this))] := hl
  refine lv_aload_n (pc := 0) C.1 C.2.1 dX8_refuse_0 rfl (lv_at hl 0 rfl) ?_
  refine g_geti (pc := 1) C w h0 ff_X8_6 lk_X8_22 dX8_refuse_1 ?_
  refine lv_iconst (pc := 4) (v := mm_I (-1)) C.1 C.2.1 dX8_refuse_4 rfl ?_
  refine g_icmp_ne (pc := 5) (tgt := 16) C rfl mn_m1 dX8_refuse_5 (by decide) (fun hc => ?_) (fun hc => ?_)
  · have hw := hw.1 hc
    exact g_vret (pc := 16) C w hr hk hw dX8_refuse_16
  · have hw := hw.2 hc
    refine lv_aload_n (pc := 8) C.1 C.2.1 dX8_refuse_8 rfl (lv_at hl 0 rfl) ?_
    refine lv_aload_n (pc := 9) C.1 C.2.1 dX8_refuse_9 rfl (lv_at hl 0 rfl) ?_
    refine g_geti (pc := 10) C w h0 ff_X8_3 lk_X8_31 dX8_refuse_10 ?_
    refine g_puti (pc := 13) C w h0 ff_X8_6 fw_X8_6 lk_X8_22 dX8_refuse_13 (fun s_1 H locs es_1 w => ?_)
    have hw := hw s_1 es_1
    exact g_vret (pc := 16) C w hr hk hw dX8_refuse_16
theorem cv_X8_wordIs : mm_V yX8_wordIs cX8_wordIs 3 (some .boolean) 1 := ⟨(mt_2 206 rfl rfl), (mt_2 204 rfl rfl), (mt_2 205 rfl rfl), (mt_1 3 rfl rfl), by decide, by decide, by decide +kernel⟩
theorem ml_X3_53 : Cond.methodLink RX3 53 yX8_wordIs ∈ mm_ws := (mt_3 78 rfl rfl)
theorem mb_9 : (Int8.ofInt 9).toInt32 = mm_I 9 := by decide
theorem mb_8 : (Int8.ofInt 8).toInt32 = mm_I 8 := by decide
theorem mb_7 : (Int8.ofInt 7).toInt32 = mm_I 7 := by decide
theorem mb_6 : (Int8.ofInt 6).toInt32 = mm_I 6 := by decide
def wp_X3_nameInHand (a1 : Nat) (s0 : mm_M) (post : Int → mm_M → Prop) : Prop :=
  (wp_X8_wordIs a1 8 s0 (fun r_2 s_1 => ((n32 r_2 = 0 → (wp_X8_wordIs a1 9 s_1 (fun r_4 s_3 => ((n32 r_4 = 0 → (wp_X8_wordIs a1 10 s_3 (fun r_6 s_5 => ((n32 r_6 = 0 → (wp_X8_wordIs a1 11 s_5 (fun r_8 s_7 => ((n32 r_8 = 0 → (wp_X8_wordIs a1 12 s_7 (fun r_10 s_9 => ((n32 r_10 = 0 → (wp_X8_wordIs a1 13 s_9 (fun r_12 s_11 => ((n32 r_12 = 0 → (wp_X8_wordIs a1 14 s_11 (fun r_14 s_13 => ((n32 r_14 = 0 → (wp_X8_wordIs a1 15 s_13 (fun r_16 s_15 => ((n32 r_16 = 0 → (wp_X8_wordIs a1 16 s_15 (fun r_18 s_17 => ((n32 r_18 = 0 → (wp_X8_wordIs a1 17 s_17 (fun r_20 s_19 => ((n32 r_20 = 0 → post (-1) s_19) ∧ (¬ n32 r_20 = 0 → post 9 s_19))))) ∧ (¬ n32 r_18 = 0 → post 8 s_17))))) ∧ (¬ n32 r_16 = 0 → post 7 s_15))))) ∧ (¬ n32 r_14 = 0 → post 6 s_13))))) ∧ (¬ n32 r_12 = 0 → post 5 s_11))))) ∧ (¬ n32 r_10 = 0 → post 4 s_9))))) ∧ (¬ n32 r_8 = 0 → post 3 s_7))))) ∧ (¬ n32 r_6 = 0 → post 2 s_5))))) ∧ (¬ n32 r_4 = 0 → post 1 s_3))))) ∧ (¬ n32 r_2 = 0 → post 0 s_1))))
set_option maxRecDepth 100000 in
set_option maxHeartbeats 4000000 in
theorem c_X3_nameInHand (l : Launch) (G : mm_G) (a1 : Nat) (h1 : mm_ok a1 18 0) (s0 : mm_M) (post : Int → mm_M → Prop) (hw : wp_X3_nameInHand a1 s0 post) : Met l yX3_nameInHand (mm_wm yX3_nameInHand cX3_nameInHand 1 (some .int)) (mm_rm 6) (va_Pc [.ref (mm_ad G a1)] (mm_pre G s0)) (mm_Qi G post) 0 0 (mm_A G) := by
  refine mm_met (own := RX3) (by decide) rfl (Nat.le_of_ble_eq_true rfl) ?_
  intro p e s m args below meth c C hr hk
  unfold wp_X3_nameInHand at hw
  intro H locs ls w hl
  have hl : lv_has ls 1 [(0, .ref (mm_ad G a1))] := hl
  refine lv_aload_n (pc := 0) C.1 C.2.1 dX3_nameInHand_0 rfl (lv_at hl 0 rfl) ?_
  refine va_ldcS (pc := 1) C.1 C.2.1 C.2.2.2.1 (w.2.2.2.1.2.2.2.2 8 (by decide)).1 dX3_nameInHand_1 ?_
  refine g_calli (pc := 3) w (mm_runV (ci := 8) (q := (RX8, TX8, 7)) (As := [.ref (G.2.2.2.1 8)]) (rest := []) C w (c_X8_wordIs l G a1 8 h1 (by decide) s0 _ hw) h1 rfl rfl cv_X8_wordIs ml_X3_53 ⟨Nat.le_of_ble_eq_true rfl, Nat.le_of_ble_eq_true rfl⟩ ⟨Nat.le_of_ble_eq_true rfl, Nat.le_of_ble_eq_true rfl⟩ rfl hl.1 rfl (Nat.le_of_ble_eq_true rfl) dX3_nameInHand_3) (fun r_2 s_1 H locs hw w => ?_)
  refine g_if_eq (pc := 6) (tgt := 11) C rfl dX3_nameInHand_6 (by decide) (fun hc => ?_) (fun hc => ?_)
  · have hw := hw.1 hc
    refine lv_aload_n (pc := 11) C.1 C.2.1 dX3_nameInHand_11 rfl (lv_at hl 0 rfl) ?_
    refine va_ldcS (pc := 12) C.1 C.2.1 C.2.2.2.1 (w.2.2.2.1.2.2.2.2 9 (by decide)).1 dX3_nameInHand_12 ?_
    refine g_calli (pc := 14) w (mm_runV (ci := 8) (q := (RX8, TX8, 7)) (As := [.ref (G.2.2.2.1 9)]) (rest := []) C w (c_X8_wordIs l G a1 9 h1 (by decide) s_1 _ hw) h1 rfl rfl cv_X8_wordIs ml_X3_53 ⟨Nat.le_of_ble_eq_true rfl, Nat.le_of_ble_eq_true rfl⟩ ⟨Nat.le_of_ble_eq_true rfl, Nat.le_of_ble_eq_true rfl⟩ rfl hl.1 rfl (Nat.le_of_ble_eq_true rfl) dX3_nameInHand_14) (fun r_4 s_3 H locs hw w => ?_)
    refine g_if_eq (pc := 17) (tgt := 22) C rfl dX3_nameInHand_17 (by decide) (fun hc => ?_) (fun hc => ?_)
    · have hw := hw.1 hc
      refine lv_aload_n (pc := 22) C.1 C.2.1 dX3_nameInHand_22 rfl (lv_at hl 0 rfl) ?_
      refine va_ldcS (pc := 23) C.1 C.2.1 C.2.2.2.1 (w.2.2.2.1.2.2.2.2 10 (by decide)).1 dX3_nameInHand_23 ?_
      refine g_calli (pc := 25) w (mm_runV (ci := 8) (q := (RX8, TX8, 7)) (As := [.ref (G.2.2.2.1 10)]) (rest := []) C w (c_X8_wordIs l G a1 10 h1 (by decide) s_3 _ hw) h1 rfl rfl cv_X8_wordIs ml_X3_53 ⟨Nat.le_of_ble_eq_true rfl, Nat.le_of_ble_eq_true rfl⟩ ⟨Nat.le_of_ble_eq_true rfl, Nat.le_of_ble_eq_true rfl⟩ rfl hl.1 rfl (Nat.le_of_ble_eq_true rfl) dX3_nameInHand_25) (fun r_6 s_5 H locs hw w => ?_)
      refine g_if_eq (pc := 28) (tgt := 33) C rfl dX3_nameInHand_28 (by decide) (fun hc => ?_) (fun hc => ?_)
      · have hw := hw.1 hc
        refine lv_aload_n (pc := 33) C.1 C.2.1 dX3_nameInHand_33 rfl (lv_at hl 0 rfl) ?_
        refine va_ldcS (pc := 34) C.1 C.2.1 C.2.2.2.1 (w.2.2.2.1.2.2.2.2 11 (by decide)).1 dX3_nameInHand_34 ?_
        refine g_calli (pc := 36) w (mm_runV (ci := 8) (q := (RX8, TX8, 7)) (As := [.ref (G.2.2.2.1 11)]) (rest := []) C w (c_X8_wordIs l G a1 11 h1 (by decide) s_5 _ hw) h1 rfl rfl cv_X8_wordIs ml_X3_53 ⟨Nat.le_of_ble_eq_true rfl, Nat.le_of_ble_eq_true rfl⟩ ⟨Nat.le_of_ble_eq_true rfl, Nat.le_of_ble_eq_true rfl⟩ rfl hl.1 rfl (Nat.le_of_ble_eq_true rfl) dX3_nameInHand_36) (fun r_8 s_7 H locs hw w => ?_)
        refine g_if_eq (pc := 39) (tgt := 44) C rfl dX3_nameInHand_39 (by decide) (fun hc => ?_) (fun hc => ?_)
        · have hw := hw.1 hc
          refine lv_aload_n (pc := 44) C.1 C.2.1 dX3_nameInHand_44 rfl (lv_at hl 0 rfl) ?_
          refine va_ldcS (pc := 45) C.1 C.2.1 C.2.2.2.1 (w.2.2.2.1.2.2.2.2 12 (by decide)).1 dX3_nameInHand_45 ?_
          refine g_calli (pc := 47) w (mm_runV (ci := 8) (q := (RX8, TX8, 7)) (As := [.ref (G.2.2.2.1 12)]) (rest := []) C w (c_X8_wordIs l G a1 12 h1 (by decide) s_7 _ hw) h1 rfl rfl cv_X8_wordIs ml_X3_53 ⟨Nat.le_of_ble_eq_true rfl, Nat.le_of_ble_eq_true rfl⟩ ⟨Nat.le_of_ble_eq_true rfl, Nat.le_of_ble_eq_true rfl⟩ rfl hl.1 rfl (Nat.le_of_ble_eq_true rfl) dX3_nameInHand_47) (fun r_10 s_9 H locs hw w => ?_)
          refine g_if_eq (pc := 50) (tgt := 55) C rfl dX3_nameInHand_50 (by decide) (fun hc => ?_) (fun hc => ?_)
          · have hw := hw.1 hc
            refine lv_aload_n (pc := 55) C.1 C.2.1 dX3_nameInHand_55 rfl (lv_at hl 0 rfl) ?_
            refine va_ldcS (pc := 56) C.1 C.2.1 C.2.2.2.1 (w.2.2.2.1.2.2.2.2 13 (by decide)).1 dX3_nameInHand_56 ?_
            refine g_calli (pc := 58) w (mm_runV (ci := 8) (q := (RX8, TX8, 7)) (As := [.ref (G.2.2.2.1 13)]) (rest := []) C w (c_X8_wordIs l G a1 13 h1 (by decide) s_9 _ hw) h1 rfl rfl cv_X8_wordIs ml_X3_53 ⟨Nat.le_of_ble_eq_true rfl, Nat.le_of_ble_eq_true rfl⟩ ⟨Nat.le_of_ble_eq_true rfl, Nat.le_of_ble_eq_true rfl⟩ rfl hl.1 rfl (Nat.le_of_ble_eq_true rfl) dX3_nameInHand_58) (fun r_12 s_11 H locs hw w => ?_)
            refine g_if_eq (pc := 61) (tgt := 66) C rfl dX3_nameInHand_61 (by decide) (fun hc => ?_) (fun hc => ?_)
            · have hw := hw.1 hc
              refine lv_aload_n (pc := 66) C.1 C.2.1 dX3_nameInHand_66 rfl (lv_at hl 0 rfl) ?_
              refine va_ldcS (pc := 67) C.1 C.2.1 C.2.2.2.1 (w.2.2.2.1.2.2.2.2 14 (by decide)).1 dX3_nameInHand_67 ?_
              refine g_calli (pc := 69) w (mm_runV (ci := 8) (q := (RX8, TX8, 7)) (As := [.ref (G.2.2.2.1 14)]) (rest := []) C w (c_X8_wordIs l G a1 14 h1 (by decide) s_11 _ hw) h1 rfl rfl cv_X8_wordIs ml_X3_53 ⟨Nat.le_of_ble_eq_true rfl, Nat.le_of_ble_eq_true rfl⟩ ⟨Nat.le_of_ble_eq_true rfl, Nat.le_of_ble_eq_true rfl⟩ rfl hl.1 rfl (Nat.le_of_ble_eq_true rfl) dX3_nameInHand_69) (fun r_14 s_13 H locs hw w => ?_)
              refine g_if_eq (pc := 72) (tgt := 78) C rfl dX3_nameInHand_72 (by decide) (fun hc => ?_) (fun hc => ?_)
              · have hw := hw.1 hc
                refine lv_aload_n (pc := 78) C.1 C.2.1 dX3_nameInHand_78 rfl (lv_at hl 0 rfl) ?_
                refine va_ldcS (pc := 79) C.1 C.2.1 C.2.2.2.1 (w.2.2.2.1.2.2.2.2 15 (by decide)).1 dX3_nameInHand_79 ?_
                refine g_calli (pc := 81) w (mm_runV (ci := 8) (q := (RX8, TX8, 7)) (As := [.ref (G.2.2.2.1 15)]) (rest := []) C w (c_X8_wordIs l G a1 15 h1 (by decide) s_13 _ hw) h1 rfl rfl cv_X8_wordIs ml_X3_53 ⟨Nat.le_of_ble_eq_true rfl, Nat.le_of_ble_eq_true rfl⟩ ⟨Nat.le_of_ble_eq_true rfl, Nat.le_of_ble_eq_true rfl⟩ rfl hl.1 rfl (Nat.le_of_ble_eq_true rfl) dX3_nameInHand_81) (fun r_16 s_15 H locs hw w => ?_)
                refine g_if_eq (pc := 84) (tgt := 90) C rfl dX3_nameInHand_84 (by decide) (fun hc => ?_) (fun hc => ?_)
                · have hw := hw.1 hc
                  refine lv_aload_n (pc := 90) C.1 C.2.1 dX3_nameInHand_90 rfl (lv_at hl 0 rfl) ?_
                  refine va_ldcS (pc := 91) C.1 C.2.1 C.2.2.2.1 (w.2.2.2.1.2.2.2.2 16 (by decide)).1 dX3_nameInHand_91 ?_
                  refine g_calli (pc := 93) w (mm_runV (ci := 8) (q := (RX8, TX8, 7)) (As := [.ref (G.2.2.2.1 16)]) (rest := []) C w (c_X8_wordIs l G a1 16 h1 (by decide) s_15 _ hw) h1 rfl rfl cv_X8_wordIs ml_X3_53 ⟨Nat.le_of_ble_eq_true rfl, Nat.le_of_ble_eq_true rfl⟩ ⟨Nat.le_of_ble_eq_true rfl, Nat.le_of_ble_eq_true rfl⟩ rfl hl.1 rfl (Nat.le_of_ble_eq_true rfl) dX3_nameInHand_93) (fun r_18 s_17 H locs hw w => ?_)
                  refine g_if_eq (pc := 96) (tgt := 102) C rfl dX3_nameInHand_96 (by decide) (fun hc => ?_) (fun hc => ?_)
                  · have hw := hw.1 hc
                    refine lv_aload_n (pc := 102) C.1 C.2.1 dX3_nameInHand_102 rfl (lv_at hl 0 rfl) ?_
                    refine va_ldcS (pc := 103) C.1 C.2.1 C.2.2.2.1 (w.2.2.2.1.2.2.2.2 17 (by decide)).1 dX3_nameInHand_103 ?_
                    refine g_calli (pc := 105) w (mm_runV (ci := 8) (q := (RX8, TX8, 7)) (As := [.ref (G.2.2.2.1 17)]) (rest := []) C w (c_X8_wordIs l G a1 17 h1 (by decide) s_17 _ hw) h1 rfl rfl cv_X8_wordIs ml_X3_53 ⟨Nat.le_of_ble_eq_true rfl, Nat.le_of_ble_eq_true rfl⟩ ⟨Nat.le_of_ble_eq_true rfl, Nat.le_of_ble_eq_true rfl⟩ rfl hl.1 rfl (Nat.le_of_ble_eq_true rfl) dX3_nameInHand_105) (fun r_20 s_19 H locs hw w => ?_)
                    refine g_if_eq (pc := 108) (tgt := 116) C rfl dX3_nameInHand_108 (by decide) (fun hc => ?_) (fun hc => ?_)
                    · have hw := hw.1 hc
                      refine lv_iconst (pc := 116) (v := mm_I (-1)) C.1 C.2.1 dX3_nameInHand_116 rfl ?_
                      exact g_iret (pc := 117) C w hr hk hw dX3_nameInHand_117
                    · have hw := hw.2 hc
                      refine lv_bipush (pc := 111) C.1 C.2.1 dX3_nameInHand_111 mb_9 ?_
                      refine lv_goto (pc := 113) (tgt := 117) C.1 C.2.1 dX3_nameInHand_113 (by decide) ?_
                      exact g_iret (pc := 117) C w hr hk hw dX3_nameInHand_117
                  · have hw := hw.2 hc
                    refine lv_bipush (pc := 99) C.1 C.2.1 dX3_nameInHand_99 mb_8 ?_
                    exact g_iret (pc := 101) C w hr hk hw dX3_nameInHand_101
                · have hw := hw.2 hc
                  refine lv_bipush (pc := 87) C.1 C.2.1 dX3_nameInHand_87 mb_7 ?_
                  exact g_iret (pc := 89) C w hr hk hw dX3_nameInHand_89
              · have hw := hw.2 hc
                refine lv_bipush (pc := 75) C.1 C.2.1 dX3_nameInHand_75 mb_6 ?_
                exact g_iret (pc := 77) C w hr hk hw dX3_nameInHand_77
            · have hw := hw.2 hc
              refine lv_iconst (pc := 64) (v := mm_I 5) C.1 C.2.1 dX3_nameInHand_64 rfl ?_
              exact g_iret (pc := 65) C w hr hk hw dX3_nameInHand_65
          · have hw := hw.2 hc
            refine lv_iconst (pc := 53) (v := mm_I 4) C.1 C.2.1 dX3_nameInHand_53 rfl ?_
            exact g_iret (pc := 54) C w hr hk hw dX3_nameInHand_54
        · have hw := hw.2 hc
          refine lv_iconst (pc := 42) (v := mm_I 3) C.1 C.2.1 dX3_nameInHand_42 rfl ?_
          exact g_iret (pc := 43) C w hr hk hw dX3_nameInHand_43
      · have hw := hw.2 hc
        refine lv_iconst (pc := 31) (v := mm_I 2) C.1 C.2.1 dX3_nameInHand_31 rfl ?_
        exact g_iret (pc := 32) C w hr hk hw dX3_nameInHand_32
    · have hw := hw.2 hc
      refine lv_iconst (pc := 20) (v := mm_I 1) C.1 C.2.1 dX3_nameInHand_20 rfl ?_
      exact g_iret (pc := 21) C w hr hk hw dX3_nameInHand_21
  · have hw := hw.2 hc
    refine lv_iconst (pc := 9) (v := mm_I 0) C.1 C.2.1 dX3_nameInHand_9 rfl ?_
    exact g_iret (pc := 10) C w hr hk hw dX3_nameInHand_10
theorem lk_X3_29 : Cond.fieldLink RX3 29 "LastServed$Laws" "used" "I" ∈ mm_ws := (mt_1 146 rfl rfl)
theorem ff_X3_5 : mm_F 3 5 0 RX3 TX3 7 := ⟨rfl, by decide, fk_X3, rfl, rfl⟩
theorem lk_X3_9 : Cond.fieldLink RX3 9 "LastServed$Laws" "codes" "[I" ∈ mm_ws := (mt_1 140 rfl rfl)
theorem ff_X3_0 : mm_F 3 0 1 RX3 TX3 7 := ⟨rfl, by decide, fk_X3, rfl, rfl⟩
theorem ro_X3_0 {i : Nat} (h : mm_ok i 13 0) : mm_ok (mm_rt i 0) 0 500 := by
  have q : ∀ i, i < mm_N → mm_kd i = 13 → mm_rt i 0 < mm_N ∧ mm_kd (mm_rt i 0) = 0 ∧ mm_ln (mm_rt i 0) = 500 := by decide +kernel
  exact q i h.1 h.2.1
theorem fw_X3_5 : mm_Fw 3 5 TX3 7 .int := ⟨⟨tyX3, tyX3_ok⟩, nmX3, rfl, by decide +kernel⟩
def wp_X3_write (this : Nat) (a1 : Int) (s0 : mm_M) (post : mm_M → Prop) : Prop :=
  ((n32 (s0 this 5) < 0 → post s0) ∧ (¬ n32 (s0 this 5) < 0 → ((500 ≤ n32 (s0 this 5) → post s0) ∧ (¬ 500 ≤ n32 (s0 this 5) → ((0 ≤ s0 this 5 ∧ s0 this 5 < 500) ∧ (∀ s_1 : mm_M, s_1 = mm_up s0 (mm_rt this 0) (s0 this 5) a1 → (∀ s_2 : mm_M, s_2 = mm_up s_1 this 5 ((s_1 this 5) + 1) → post s_2)))))))
set_option maxRecDepth 100000 in
set_option maxHeartbeats 4000000 in
theorem c_X3_write (l : Launch) (G : mm_G) (this : Nat) (a1 : Int) (h0 : mm_ok this 13 0) (s0 : mm_M) (post : mm_M → Prop) (hw : wp_X3_write this a1 s0 post) : Met l yX3_write (mm_wm yX3_write cX3_write 2 none) (mm_rm 1) (va_Pc [.ref (mm_ad G this), .int (mm_I a1)] (mm_pre G s0)) (mm_Qv G post) 0 0 (mm_A G) := by
  refine mm_met (own := RX3) (by decide) rfl (Nat.le_of_ble_eq_true rfl) ?_
  intro p e s m args below meth c C hr hk
  unfold wp_X3_write at hw
  intro H locs ls w hl
  have hl : lv_has ls 2 [(0, .ref (mm_ad G this)), (1, .int (mm_I a1))] := hl
  refine lv_aload_n (pc := 0) C.1 C.2.1 dX3_write_0 rfl (lv_at hl 0 rfl) ?_
  refine g_geti (pc := 1) C w h0 ff_X3_5 lk_X3_29 dX3_write_1 ?_
  refine g_if_lt (pc := 4) (tgt := 37) C rfl dX3_write_4 (by decide) (fun hc => ?_) (fun hc => ?_)
  · have hw := hw.1 hc
    exact g_vret (pc := 37) C w hr hk hw dX3_write_37
  · have hw := hw.2 hc
    refine lv_aload_n (pc := 7) C.1 C.2.1 dX3_write_7 rfl (lv_at hl 0 rfl) ?_
    refine g_geti (pc := 8) C w h0 ff_X3_5 lk_X3_29 dX3_write_8 ?_
    refine lv_sipush (pc := 11) C.1 C.2.1 dX3_write_11 ms_500 ?_
    refine g_icmp_ge (pc := 14) (tgt := 37) C rfl mn_500 dX3_write_14 (by decide) (fun hc => ?_) (fun hc => ?_)
    · have hw := hw.1 hc
      exact g_vret (pc := 37) C w hr hk hw dX3_write_37
    · have hw := hw.2 hc
      refine lv_aload_n (pc := 17) C.1 C.2.1 dX3_write_17 rfl (lv_at hl 0 rfl) ?_
      refine g_getr (pc := 18) C w h0 ff_X3_0 lk_X3_9 dX3_write_18 ?_
      refine lv_aload_n (pc := 21) C.1 C.2.1 dX3_write_21 rfl (lv_at hl 0 rfl) ?_
      refine g_geti (pc := 22) C w h0 ff_X3_5 lk_X3_29 dX3_write_22 ?_
      refine lv_iload_n (pc := 25) C.1 C.2.1 dX3_write_25 rfl (lv_at hl 1 rfl) ?_
      obtain ⟨hi, hw⟩ := hw
      refine g_iast (pc := 26) C w (ro_X3_0 h0) hi  dX3_write_26 (fun s_1 H locs es_1 w => ?_)
      have hw := hw s_1 es_1
      refine lv_aload_n (pc := 27) C.1 C.2.1 dX3_write_27 rfl (lv_at hl 0 rfl) ?_
      refine lv_dup (pc := 28) C.1 C.2.1 dX3_write_28 rfl ?_
      refine g_geti (pc := 29) C w h0 ff_X3_5 lk_X3_29 dX3_write_29 ?_
      refine lv_iconst (pc := 32) (v := mm_I 1) C.1 C.2.1 dX3_write_32 rfl ?_
      refine g_iadd (pc := 33) C dX3_write_33 ?_
      refine g_puti (pc := 34) C w h0 ff_X3_5 fw_X3_5 lk_X3_29 dX3_write_34 (fun s_2 H locs es_2 w => ?_)
      have hw := hw s_2 es_2
      exact g_vret (pc := 37) C w hr hk hw dX3_write_37
def wp_X8_isSound (this : Nat) (s0 : mm_M) (post : Int → mm_M → Prop) : Prop :=
  ((¬ n32 (s0 this 6) = (-1) → post 0 s0) ∧ (n32 (s0 this 6) = (-1) → post 1 s0))
set_option maxRecDepth 100000 in
set_option maxHeartbeats 4000000 in
theorem c_X8_isSound (l : Launch) (G : mm_G) (this : Nat) (h0 : mm_ok this 18 0) (s0 : mm_M) (post : Int → mm_M → Prop) (hw : wp_X8_isSound this s0 post) : Met l yX8_isSound (mm_wm yX8_isSound cX8_isSound 1 (some .boolean)) (mm_rm 1) (va_Pc [.ref (mm_ad G this)] (mm_pre G s0)) (mm_Qi G post) 0 0 (mm_A G) := by
  refine mm_met (own := RX8) (by decide) rfl (Nat.le_of_ble_eq_true rfl) ?_
  intro p e s m args below meth c C hr hk
  unfold wp_X8_isSound at hw
  intro H locs ls w hl
  have hl : lv_has ls 1 [(0, .ref (mm_ad G this))] := hl
  refine lv_aload_n (pc := 0) C.1 C.2.1 dX8_isSound_0 rfl (lv_at hl 0 rfl) ?_
  refine g_geti (pc := 1) C w h0 ff_X8_6 lk_X8_22 dX8_isSound_1 ?_
  refine lv_iconst (pc := 4) (v := mm_I (-1)) C.1 C.2.1 dX8_isSound_4 rfl ?_
  refine g_icmp_ne (pc := 5) (tgt := 12) C rfl mn_m1 dX8_isSound_5 (by decide) (fun hc => ?_) (fun hc => ?_)
  · have hw := hw.1 hc
    refine lv_iconst (pc := 12) (v := mm_I 0) C.1 C.2.1 dX8_isSound_12 rfl ?_
    exact g_zret (pc := 13) C w hr hk (by decide) hw dX8_isSound_13
  · have hw := hw.2 hc
    refine lv_iconst (pc := 8) (v := mm_I 1) C.1 C.2.1 dX8_isSound_8 rfl ?_
    refine lv_goto (pc := 9) (tgt := 13) C.1 C.2.1 dX8_isSound_9 (by decide) ?_
    exact g_zret (pc := 13) C w hr hk (by decide) hw dX8_isSound_13
theorem cv_X8_refuse : mm_V yX8_refuse cX8_refuse 1 none 0 := ⟨(mt_3 27 rfl rfl), (mt_3 25 rfl rfl), (mt_3 26 rfl rfl), (mt_1 3 rfl rfl), by decide, by decide, by decide +kernel⟩
theorem ml_X8_57 : Cond.methodLink RX8 57 yX8_refuse ∈ mm_ws := (mt_3 24 rfl rfl)
def wp_X8_takeSign (this : Nat) (a1 : Int) (s0 : mm_M) (post : Int → mm_M → Prop) : Prop :=
  ∀ (L16 : mm_M → Prop), 
  (∀  (s1 : mm_M), (wp_X8_refuse this s1 (fun s_3 => post 0 s_3)) → L16 s1) →
  ((¬ n32 (s0 this 6) = (-1) → L16 s0) ∧ (n32 (s0 this 6) = (-1) → ((n32 (s0 this 4) = n32 a1 → (wp_X8_advance this s0 (fun s_1 => post 1 s_1))) ∧ (¬ n32 (s0 this 4) = n32 a1 → L16 s0))))
set_option maxRecDepth 100000 in
set_option maxHeartbeats 4000000 in
theorem c_X8_takeSign (l : Launch) (G : mm_G) (this : Nat) (a1 : Int) (h0 : mm_ok this 18 0) (s0 : mm_M) (post : Int → mm_M → Prop) (hw : wp_X8_takeSign this a1 s0 post) : Met l yX8_takeSign (mm_wm yX8_takeSign cX8_takeSign 2 (some .boolean)) (mm_rm 4) (va_Pc [.ref (mm_ad G this), .int (mm_I a1)] (mm_pre G s0)) (mm_Qi G post) 0 0 (mm_A G) := by
  refine mm_met (own := RX8) (by decide) rfl (Nat.le_of_ble_eq_true rfl) ?_
  intro p e s m args below meth c C hr hk
  unfold wp_X8_takeSign at hw
  have hw := hw (fun  (u : mm_M) => mm_X p l e (mm_rm 4) s m args below meth c (MQ below (mm_Qi G post) args s 0 0 (mm_A G)) G (mm_A G) 2 16 [(0, .ref (mm_ad G this))] [] u)
  have hw := hw (by
    intro  s1 hw  H locs ls w hl
    refine lv_aload_n (pc := 16) C.1 C.2.1 dX8_takeSign_16 rfl (lv_at hl 0 rfl) ?_
    refine g_callv (pc := 17) w (mm_runV (ci := 8) (q := (RX8, TX8, 7)) (As := []) (rest := []) C w (c_X8_refuse l G this h0 s1 _ hw) h0 rfl rfl cv_X8_refuse ml_X8_57 ⟨Nat.le_of_ble_eq_true rfl, Nat.le_of_ble_eq_true rfl⟩ ⟨Nat.le_of_ble_eq_true rfl, Nat.le_of_ble_eq_true rfl⟩ rfl hl.1 rfl (Nat.le_of_ble_eq_true rfl) dX8_takeSign_17) (fun s_3 H locs hw w => ?_)
    refine lv_iconst (pc := 20) (v := mm_I 0) C.1 C.2.1 dX8_takeSign_20 rfl ?_
    exact g_zret (pc := 21) C w hr hk (by decide) hw dX8_takeSign_21)
  intro H locs ls w hl
  have hl : lv_has ls 2 [(0, .ref (mm_ad G this)), (1, .int (mm_I a1))] := hl
  refine lv_aload_n (pc := 0) C.1 C.2.1 dX8_takeSign_0 rfl (lv_at hl 0 rfl) ?_
  refine g_geti (pc := 1) C w h0 ff_X8_6 lk_X8_22 dX8_takeSign_1 ?_
  refine lv_iconst (pc := 4) (v := mm_I (-1)) C.1 C.2.1 dX8_takeSign_4 rfl ?_
  refine g_icmp_ne (pc := 5) (tgt := 16) C rfl mn_m1 dX8_takeSign_5 (by decide) (fun hc => ?_) (fun hc => ?_)
  · have hw := hw.1 hc
    exact hw  _ _ _ w (lv_sub hl [0] rfl)
  · have hw := hw.2 hc
    refine lv_aload_n (pc := 8) C.1 C.2.1 dX8_takeSign_8 rfl (lv_at hl 0 rfl) ?_
    refine g_geti (pc := 9) C w h0 ff_X8_4 lk_X8_28 dX8_takeSign_9 ?_
    refine lv_iload_n (pc := 12) C.1 C.2.1 dX8_takeSign_12 rfl (lv_at hl 1 rfl) ?_
    refine g_icmp_eq (pc := 13) (tgt := 22) C rfl rfl dX8_takeSign_13 (by decide) (fun hc => ?_) (fun hc => ?_)
    · have hw := hw.1 hc
      refine lv_aload_n (pc := 22) C.1 C.2.1 dX8_takeSign_22 rfl (lv_at hl 0 rfl) ?_
      refine g_callv (pc := 23) w (mm_runV (ci := 8) (q := (RX8, TX8, 7)) (As := []) (rest := []) C w (c_X8_advance l G this h0 s0 _ hw) h0 rfl rfl cv_X8_advance ml_X8_25 ⟨Nat.le_of_ble_eq_true rfl, Nat.le_of_ble_eq_true rfl⟩ ⟨Nat.le_of_ble_eq_true rfl, Nat.le_of_ble_eq_true rfl⟩ rfl hl.1 rfl (Nat.le_of_ble_eq_true rfl) dX8_takeSign_23) (fun s_1 H locs hw w => ?_)
      refine lv_iconst (pc := 26) (v := mm_I 1) C.1 C.2.1 dX8_takeSign_26 rfl ?_
      exact g_zret (pc := 27) C w hr hk (by decide) hw dX8_takeSign_27
    · have hw := hw.2 hc
      exact hw  _ _ _ w (lv_sub hl [0] rfl)
theorem cv_X3_readProduct : mm_V yX3_readProduct cX3_readProduct 4 none 2 := ⟨(mt_3 90 rfl rfl), (mt_3 89 rfl rfl), (mp_1 12 rfl rfl), (mt_1 5 rfl rfl), by decide, by decide, by decide +kernel⟩
theorem ml_X3_72 : Cond.methodLink RX3 72 yX3_readProduct ∈ mm_ws := (mt_3 87 rfl rfl)
theorem cv_X8_isSound : mm_V yX8_isSound cX8_isSound 1 (some .boolean) 0 := ⟨(mt_3 119 rfl rfl), (mt_3 117 rfl rfl), (mt_3 118 rfl rfl), (mt_1 3 rfl rfl), by decide, by decide, by decide +kernel⟩
theorem ml_X3_75 : Cond.methodLink RX3 75 yX8_isSound ∈ mm_ws := (mt_3 116 rfl rfl)
theorem lk_X3_78 : Cond.fieldLinkNest RX3 78 "LastServed$Text" "kind" "I" "LastServed" ∈ mm_nest := by decide +kernel
theorem mb_43 : (Int8.ofInt 43).toInt32 = mm_I 43 := by decide
theorem mn_43 : n32 43 = 43 := by decide
theorem mb_45 : (Int8.ofInt 45).toInt32 = mm_I 45 := by decide
theorem mn_45 : n32 45 = 45 := by decide
theorem ml_X3_57 : Cond.methodLink RX3 57 yX8_advance ∈ mm_ws := (mt_3 80 rfl rfl)
theorem ms_20000 : (Int16.ofInt 20000).toInt32 = mm_I 20000 := by decide
theorem cv_X3_write : mm_V yX3_write cX3_write 2 none 1 := ⟨(mt_3 111 rfl rfl), (mt_3 110 rfl rfl), (mp_1 14 rfl rfl), (mt_1 5 rfl rfl), by decide, by decide, by decide +kernel⟩
theorem ml_X3_81 : Cond.methodLink RX3 81 yX3_write ∈ mm_ws := (mt_3 108 rfl rfl)
theorem cv_X3_readFactor : mm_V yX3_readFactor cX3_readFactor 4 none 2 := ⟨(mt_3 94 rfl rfl), (mt_3 93 rfl rfl), (mp_1 13 rfl rfl), (mt_1 5 rfl rfl), by decide, by decide, by decide +kernel⟩
theorem ml_X3_85 : Cond.methodLink RX3 85 yX3_readFactor ∈ mm_ws := (mt_3 91 rfl rfl)
theorem mb_42 : (Int8.ofInt 42).toInt32 = mm_I 42 := by decide
theorem mn_42 : n32 42 = 42 := by decide
theorem ms_20042 : (Int16.ofInt 20042).toInt32 = mm_I 20042 := by decide
theorem cs_X3_nameInHand : mm_S yX3_nameInHand cX3_nameInHand 1 (some .int) 1 := ⟨(mt_3 97 rfl rfl), (mt_3 96 rfl rfl), (mt_1 5 rfl rfl), by decide, by decide, by decide +kernel⟩
theorem ml_X3_88 : Cond.methodLink RX3 88 yX3_nameInHand ∈ mm_ws := (mt_3 95 rfl rfl)
theorem lk_X3_92 : Cond.fieldLinkNest RX3 92 "LastServed$Text" "number" "I" "LastServed" ∈ mm_nest := by decide +kernel
theorem ms_9999 : (Int16.ofInt 9999).toInt32 = mm_I 9999 := by decide
theorem mn_9999 : n32 9999 = 9999 := by decide
theorem ms_10000 : (Int16.ofInt 10000).toInt32 = mm_I 10000 := by decide
theorem mb_40 : (Int8.ofInt 40).toInt32 = mm_I 40 := by decide
theorem mn_40 : n32 40 = 40 := by decide
theorem mn_8 : n32 8 = 8 := by decide
theorem cv_X3_readBrackets : mm_V yX3_readBrackets cX3_readBrackets 4 none 2 := ⟨(mt_3 115 rfl rfl), (mt_3 114 rfl rfl), (mp_1 15 rfl rfl), (mt_1 5 rfl rfl), by decide, by decide, by decide +kernel⟩
theorem ml_X3_95 : Cond.methodLink RX3 95 yX3_readBrackets ∈ mm_ws := (mt_3 112 rfl rfl)
theorem ml_X3_45 : Cond.methodLink RX3 45 yX8_refuse ∈ mm_ws := (mt_3 79 rfl rfl)
theorem cv_X3_readSum : mm_V yX3_readSum cX3_readSum 5 none 2 := ⟨(mt_3 86 rfl rfl), (mt_3 85 rfl rfl), (mp_1 11 rfl rfl), (mt_1 5 rfl rfl), by decide, by decide, by decide +kernel⟩
theorem ml_X3_64 : Cond.methodLink RX3 64 yX3_readSum ∈ mm_ws := (mt_3 83 rfl rfl)
theorem mb_60 : (Int8.ofInt 60).toInt32 = mm_I 60 := by decide
theorem mn_60 : n32 60 = 60 := by decide
theorem mb_61 : (Int8.ofInt 61).toInt32 = mm_I 61 := by decide
theorem mn_61 : n32 61 = 61 := by decide
theorem mb_41 : (Int8.ofInt 41).toInt32 = mm_I 41 := by decide
theorem cv_X8_takeSign : mm_V yX8_takeSign cX8_takeSign 2 (some .boolean) 1 := ⟨(mt_3 35 rfl rfl), (mt_3 33 rfl rfl), (mt_3 34 rfl rfl), (mt_1 3 rfl rfl), by decide, by decide, by decide +kernel⟩
theorem ml_X3_68 : Cond.methodLink RX3 68 yX8_takeSign ∈ mm_ws := (mt_3 120 rfl rfl)
def wpb_X3_readSum (R : Nat → Nat → Nat → Int → mm_M → (mm_M → Prop) → Prop) (this : Nat) (a1 : Nat) (a2 : Int) (s0 : mm_M) (post : mm_M → Prop) : Prop :=
  ∀ (L8 : Int → mm_M → Prop), ∀ (L43 : Int → Int → mm_M → Prop), 
  (∀ (v3 : Int) (s1 : mm_M), ((500 ≤ n32 v3 → post s1) ∧ (¬ 500 ≤ n32 v3 → (wp_X8_isSound a1 s1 (fun r_5 s_4 => ((n32 r_5 = 0 → post s_4) ∧ (¬ n32 r_5 = 0 → (∀ v4_6 : Int, v4_6 = s_4 a1 4 → ((n32 v4_6 = 43 → L43 v3 v4_6 s_4) ∧ (¬ n32 v4_6 = 43 → ((n32 v4_6 = 45 → L43 v3 v4_6 s_4) ∧ (¬ n32 v4_6 = 45 → post s_4))))))))))) → L8 v3 s1) →
  (∀ (v3 : Int) (v4 : Int) (s1 : mm_M), (wp_X8_advance a1 s1 (fun s_7 => (R 1 this a1 a2 s_7 (fun s_9 => (wp_X3_write this (20000 + v4) s_9 (fun s_11 => (∀ v3_13 : Int, v3_13 = v3 + 1 → L8 v3_13 s_11))))))) → L43 v3 v4 s1) →
  (R 1 this a1 a2 s0 (fun s_1 => L8 0 s_1))
def wpb_X3_readProduct (R : Nat → Nat → Nat → Int → mm_M → (mm_M → Prop) → Prop) (this : Nat) (a1 : Nat) (a2 : Int) (s0 : mm_M) (post : mm_M → Prop) : Prop :=
  ∀ (L8 : Int → mm_M → Prop), 
  (∀ (v3 : Int) (s1 : mm_M), ((500 ≤ n32 v3 → post s1) ∧ (¬ 500 ≤ n32 v3 → (wp_X8_isSound a1 s1 (fun r_5 s_4 => ((n32 r_5 = 0 → post s_4) ∧ (¬ n32 r_5 = 0 → ((¬ n32 (s_4 a1 4) = 42 → post s_4) ∧ (n32 (s_4 a1 4) = 42 → (wp_X8_advance a1 s_4 (fun s_6 => (R 2 this a1 a2 s_6 (fun s_8 => (wp_X3_write this 20042 s_8 (fun s_10 => (∀ v3_12 : Int, v3_12 = v3 + 1 → L8 v3_12 s_10))))))))))))))) → L8 v3 s1) →
  (R 2 this a1 a2 s0 (fun s_1 => L8 0 s_1))
def wpb_X3_readFactor (R : Nat → Nat → Nat → Int → mm_M → (mm_M → Prop) → Prop) (this : Nat) (a1 : Nat) (a2 : Int) (s0 : mm_M) (post : mm_M → Prop) : Prop :=
  ∀ (L59 : mm_M → Prop), ∀ (L89 : mm_M → Prop), 
  (∀  (s1 : mm_M), ((¬ n32 (s1 a1 4) = 40 → L89 s1) ∧ (n32 (s1 a1 4) = 40 → ((8 ≤ n32 a2 → L89 s1) ∧ (¬ 8 ≤ n32 a2 → (wp_X8_advance a1 s1 (fun s_12 => (R 3 this a1 (a2 + 1) s_12 (fun s_14 => post s_14)))))))) → L59 s1) →
  (∀  (s1 : mm_M), (wp_X8_refuse a1 s1 (fun s_16 => post s_16)) → L89 s1) →
  (wp_X3_nameInHand a1 s0 (fun r_2 s_1 => (∀ v3_3 : Int, v3_3 = r_2 → ((n32 v3_3 = (-1) → ((¬ n32 (s_1 a1 4) = 2 → L59 s_1) ∧ (n32 (s_1 a1 4) = 2 → ((9999 < n32 (s_1 a1 5) → L59 s_1) ∧ (¬ 9999 < n32 (s_1 a1 5) → (wp_X3_write this (s_1 a1 5) s_1 (fun s_4 => (wp_X8_advance a1 s_4 (fun s_6 => post s_6))))))))) ∧ (¬ n32 v3_3 = (-1) → (wp_X3_write this (10000 + v3_3) s_1 (fun s_8 => (wp_X8_advance a1 s_8 (fun s_10 => post s_10)))))))))
def wpb_X3_readBrackets (R : Nat → Nat → Nat → Int → mm_M → (mm_M → Prop) → Prop) (this : Nat) (a1 : Nat) (a2 : Int) (s0 : mm_M) (post : mm_M → Prop) : Prop :=
  ∀ (L30 : Int → mm_M → Prop), ∀ (L49 : mm_M → Prop), 
  (∀ (v3 : Int) (s1 : mm_M), (wp_X8_advance a1 s1 (fun s_8 => (R 0 this a1 a2 s_8 (fun s_10 => (wp_X3_write this (20000 + v3) s_10 (fun s_12 => L49 s_12)))))) → L30 v3 s1) →
  (∀  (s1 : mm_M), (wp_X8_takeSign a1 41 s1 (fun r_7 s_6 => post s_6)) → L49 s1) →
  (R 0 this a1 a2 s0 (fun s_1 => (∀ v3_3 : Int, v3_3 = s_1 a1 4 → (wp_X8_isSound a1 s_1 (fun r_5 s_4 => ((n32 r_5 = 0 → L49 s_4) ∧ (¬ n32 r_5 = 0 → ((n32 v3_3 = 60 → L30 v3_3 s_4) ∧ (¬ n32 v3_3 = 60 → ((¬ n32 v3_3 = 61 → L49 s_4) ∧ (n32 v3_3 = 61 → L30 v3_3 s_4)))))))))))
def wp_X3_rec : Nat → Nat → Nat → Nat → Int → mm_M → (mm_M → Prop) → Prop
  | 0 => fun _ _ _ _ _ _ => False
  | f + 1 => fun t this a1 a2 s0 post => if t = 0 then wpb_X3_readSum (wp_X3_rec f) this a1 a2 s0 post else if t = 1 then wpb_X3_readProduct (wp_X3_rec f) this a1 a2 s0 post else if t = 2 then wpb_X3_readFactor (wp_X3_rec f) this a1 a2 s0 post else wpb_X3_readBrackets (wp_X3_rec f) this a1 a2 s0 post
theorem wp_X3_rec_s (f t this a1 : Nat) (a2 : Int) (s0 : mm_M) (post : mm_M → Prop) : wp_X3_rec (f + 1) t this a1 a2 s0 post = if t = 0 then wpb_X3_readSum (wp_X3_rec f) this a1 a2 s0 post else if t = 1 then wpb_X3_readProduct (wp_X3_rec f) this a1 a2 s0 post else if t = 2 then wpb_X3_readFactor (wp_X3_rec f) this a1 a2 s0 post else wpb_X3_readBrackets (wp_X3_rec f) this a1 a2 s0 post := rfl
def mm_ih (l : Launch) (G : mm_G) (f : Nat) : Prop := ∀ (t this a1 : Nat) (a2 : Int), mm_ok this 13 0 → mm_ok a1 18 0 → ∀ (s0 : mm_M) (post : mm_M → Prop), wp_X3_rec f t this a1 a2 s0 post → (t = 0 → Met l yX3_readSum (mm_wm yX3_readSum cX3_readSum 5 none) (mm_rm (14 + f)) (va_Pc [.ref (mm_ad G this), .ref (mm_ad G a1), .int (mm_I a2)] (mm_pre G s0)) (mm_Qv G post) 0 0 (mm_A G)) ∧ (t = 1 → Met l yX3_readProduct (mm_wm yX3_readProduct cX3_readProduct 4 none) (mm_rm (14 + f)) (va_Pc [.ref (mm_ad G this), .ref (mm_ad G a1), .int (mm_I a2)] (mm_pre G s0)) (mm_Qv G post) 0 0 (mm_A G)) ∧ (t = 2 → Met l yX3_readFactor (mm_wm yX3_readFactor cX3_readFactor 4 none) (mm_rm (14 + f)) (va_Pc [.ref (mm_ad G this), .ref (mm_ad G a1), .int (mm_I a2)] (mm_pre G s0)) (mm_Qv G post) 0 0 (mm_A G)) ∧ (t = 3 → Met l yX3_readBrackets (mm_wm yX3_readBrackets cX3_readBrackets 4 none) (mm_rm (14 + f)) (va_Pc [.ref (mm_ad G this), .ref (mm_ad G a1), .int (mm_I a2)] (mm_pre G s0)) (mm_Qv G post) 0 0 (mm_A G))
set_option maxRecDepth 100000 in
set_option maxHeartbeats 4000000 in
theorem cr_X3_readSum (l : Launch) (G : mm_G) (f : Nat) (ih : mm_ih l G f) (this : Nat) (a1 : Nat) (a2 : Int) (h0 : mm_ok this 13 0) (h1 : mm_ok a1 18 0) (s0 : mm_M) (post : mm_M → Prop) (hw : wpb_X3_readSum (wp_X3_rec f) this a1 a2 s0 post) : Met l yX3_readSum (mm_wm yX3_readSum cX3_readSum 5 none) (mm_rm (14 + (f + 1))) (va_Pc [.ref (mm_ad G this), .ref (mm_ad G a1), .int (mm_I a2)] (mm_pre G s0)) (mm_Qv G post) 0 0 (mm_A G) := by
  refine mm_met (own := RX3) (by decide) rfl (Nat.le_of_ble_eq_true rfl) ?_
  intro p e s m args below meth c C hr hk
  unfold wpb_X3_readSum at hw
  have hw := hw (fun (v3 : Int) (u : mm_M) => mm_X p l e (mm_rm (14 + (f + 1))) s m args below meth c (MQ below (mm_Qv G post) args s 0 0 (mm_A G)) G (mm_A G) 5 8 [(0, .ref (mm_ad G this)), (1, .ref (mm_ad G a1)), (2, .int (mm_I a2)), (3, .int (mm_I v3))] [] u)
  have hw := hw (fun (v3 : Int) (v4 : Int) (u : mm_M) => mm_X p l e (mm_rm (14 + (f + 1))) s m args below meth c (MQ below (mm_Qv G post) args s 0 0 (mm_A G)) G (mm_A G) 5 43 [(0, .ref (mm_ad G this)), (1, .ref (mm_ad G a1)), (2, .int (mm_I a2)), (3, .int (mm_I v3)), (4, .int (mm_I v4))] [] u)
  have hw := hw (by
    intro v3 s1 hw  H locs ls w hl
    refine lv_iload_n (pc := 8) C.1 C.2.1 dX3_readSum_8 rfl (lv_at hl 3 rfl) ?_
    refine lv_sipush (pc := 9) C.1 C.2.1 dX3_readSum_9 ms_500 ?_
    refine g_icmp_ge (pc := 12) (tgt := 69) C rfl mn_500 dX3_readSum_12 (by decide) (fun hc => ?_) (fun hc => ?_)
    · have hw := hw.1 hc
      exact g_vret (pc := 69) C w hr hk hw dX3_readSum_69
    · have hw := hw.2 hc
      refine lv_aload_n (pc := 15) C.1 C.2.1 dX3_readSum_15 rfl (lv_at hl 1 rfl) ?_
      refine g_calli (pc := 16) w (mm_runV (ci := 8) (q := (RX8, TX8, 7)) (As := []) (rest := []) C w (c_X8_isSound l G a1 h1 s1 _ hw) h1 rfl rfl cv_X8_isSound ml_X3_75 ⟨by clear hw; show _ ≤ 14 + (f + 1); omega, by clear hw; show _ ≤ 64 * (14 + (f + 1)); omega⟩ ⟨Nat.le_of_ble_eq_true rfl, Nat.le_of_ble_eq_true rfl⟩ rfl hl.1 rfl (Nat.le_of_ble_eq_true rfl) dX3_readSum_16) (fun r_5 s_4 H locs hw w => ?_)
      refine g_if_eq (pc := 19) (tgt := 69) C rfl dX3_readSum_19 (by decide) (fun hc => ?_) (fun hc => ?_)
      · have hw := hw.1 hc
        exact g_vret (pc := 69) C w hr hk hw dX3_readSum_69
      · have hw := hw.2 hc
        refine lv_aload_n (pc := 22) C.1 C.2.1 dX3_readSum_22 rfl (lv_at hl 1 rfl) ?_
        refine g_getiN (pc := 23) C w h1 ff_X8_4 lk_X3_78 dX3_readSum_23 ?_
        refine g_istore (pc := 26) C dX3_readSum_26 hl (by decide) (fun v4_6 ev4_6 ls hl => ?_)
        have hw := hw v4_6 ev4_6
        have hl : lv_has ls 5 [(4, .int (mm_I v4_6)), (0, .ref (mm_ad G this)), (1, .ref (mm_ad G a1)), (2, .int (mm_I a2)), (3, .int (mm_I v3))] := hl
        refine lv_iload (pc := 28) C.1 C.2.1 dX3_readSum_28 (lv_at hl 0 rfl) ?_
        refine lv_bipush (pc := 30) C.1 C.2.1 dX3_readSum_30 mb_43 ?_
        refine g_icmp_eq (pc := 32) (tgt := 43) C rfl mn_43 dX3_readSum_32 (by decide) (fun hc => ?_) (fun hc => ?_)
        · have hw := hw.1 hc
          exact hw  _ _ _ w (lv_sub hl [1, 2, 3, 4, 0] rfl)
        · have hw := hw.2 hc
          refine lv_iload (pc := 35) C.1 C.2.1 dX3_readSum_35 (lv_at hl 0 rfl) ?_
          refine lv_bipush (pc := 37) C.1 C.2.1 dX3_readSum_37 mb_45 ?_
          refine g_icmp_eq (pc := 39) (tgt := 43) C rfl mn_45 dX3_readSum_39 (by decide) (fun hc => ?_) (fun hc => ?_)
          · have hw := hw.1 hc
            exact hw  _ _ _ w (lv_sub hl [1, 2, 3, 4, 0] rfl)
          · have hw := hw.2 hc
            exact g_vret (pc := 42) C w hr hk hw dX3_readSum_42)
  have hw := hw (by
    intro v3 v4 s1 hw  H locs ls w hl
    refine lv_aload_n (pc := 43) C.1 C.2.1 dX3_readSum_43 rfl (lv_at hl 1 rfl) ?_
    refine g_callv (pc := 44) w (mm_runV (ci := 8) (q := (RX8, TX8, 7)) (As := []) (rest := []) C w (c_X8_advance l G a1 h1 s1 _ hw) h1 rfl rfl cv_X8_advance ml_X3_57 ⟨by clear hw; show _ ≤ 14 + (f + 1); omega, by clear hw; show _ ≤ 64 * (14 + (f + 1)); omega⟩ ⟨Nat.le_of_ble_eq_true rfl, Nat.le_of_ble_eq_true rfl⟩ rfl hl.1 rfl (Nat.le_of_ble_eq_true rfl) dX3_readSum_44) (fun s_7 H locs hw w => ?_)
    refine lv_aload_n (pc := 47) C.1 C.2.1 dX3_readSum_47 rfl (lv_at hl 0 rfl) ?_
    refine lv_aload_n (pc := 48) C.1 C.2.1 dX3_readSum_48 rfl (lv_at hl 1 rfl) ?_
    refine lv_iload_n (pc := 49) C.1 C.2.1 dX3_readSum_49 rfl (lv_at hl 2 rfl) ?_
    refine g_callv (pc := 50) w (mm_runV (ci := 3) (q := (RX3, TX3, 7)) (As := [.ref (mm_ad G a1), .int (mm_I a2)]) (rest := []) C w ((ih 1 this a1 a2 h0 h1 s_7 _ hw).2.1 rfl) h0 rfl rfl cv_X3_readProduct ml_X3_72 ⟨by clear hw; show _ ≤ 14 + (f + 1); omega, by clear hw; show _ ≤ 64 * (14 + (f + 1)); omega⟩ ⟨Nat.le_of_ble_eq_true rfl, Nat.le_of_ble_eq_true rfl⟩ rfl hl.1 rfl (Nat.le_of_ble_eq_true rfl) dX3_readSum_50) (fun s_9 H locs hw w => ?_)
    refine lv_aload_n (pc := 53) C.1 C.2.1 dX3_readSum_53 rfl (lv_at hl 0 rfl) ?_
    refine lv_sipush (pc := 54) C.1 C.2.1 dX3_readSum_54 ms_20000 ?_
    refine lv_iload (pc := 57) C.1 C.2.1 dX3_readSum_57 (lv_at hl 4 rfl) ?_
    refine g_iadd (pc := 59) C dX3_readSum_59 ?_
    refine g_callv (pc := 60) w (mm_runV (ci := 3) (q := (RX3, TX3, 7)) (As := [.int (mm_I (20000 + v4))]) (rest := []) C w (c_X3_write l G this (20000 + v4) h0 s_9 _ hw) h0 rfl rfl cv_X3_write ml_X3_81 ⟨by clear hw; show _ ≤ 14 + (f + 1); omega, by clear hw; show _ ≤ 64 * (14 + (f + 1)); omega⟩ ⟨Nat.le_of_ble_eq_true rfl, Nat.le_of_ble_eq_true rfl⟩ rfl hl.1 rfl (Nat.le_of_ble_eq_true rfl) dX3_readSum_60) (fun s_11 H locs hw w => ?_)
    refine g_iinc (pc := 63) (k := 3) C dX3_readSum_63 hl rfl (by decide) (fun v3_13 ev3_13 ls hl => ?_)
    have hw := hw v3_13 ev3_13
    have hl : lv_has ls 5 [(3, .int (mm_I v3_13)), (0, .ref (mm_ad G this)), (1, .ref (mm_ad G a1)), (2, .int (mm_I a2)), (4, .int (mm_I v4))] := hl
    refine lv_goto (pc := 66) (tgt := 8) C.1 C.2.1 dX3_readSum_66 (by decide) ?_
    exact hw  _ _ _ w (lv_sub hl [1, 2, 3, 0] rfl))
  intro H locs ls w hl
  have hl : lv_has ls 5 [(0, .ref (mm_ad G this)), (1, .ref (mm_ad G a1)), (2, .int (mm_I a2))] := hl
  refine lv_aload_n (pc := 0) C.1 C.2.1 dX3_readSum_0 rfl (lv_at hl 0 rfl) ?_
  refine lv_aload_n (pc := 1) C.1 C.2.1 dX3_readSum_1 rfl (lv_at hl 1 rfl) ?_
  refine lv_iload_n (pc := 2) C.1 C.2.1 dX3_readSum_2 rfl (lv_at hl 2 rfl) ?_
  refine g_callv (pc := 3) w (mm_runV (ci := 3) (q := (RX3, TX3, 7)) (As := [.ref (mm_ad G a1), .int (mm_I a2)]) (rest := []) C w ((ih 1 this a1 a2 h0 h1 s0 _ hw).2.1 rfl) h0 rfl rfl cv_X3_readProduct ml_X3_72 ⟨by clear hw; show _ ≤ 14 + (f + 1); omega, by clear hw; show _ ≤ 64 * (14 + (f + 1)); omega⟩ ⟨Nat.le_of_ble_eq_true rfl, Nat.le_of_ble_eq_true rfl⟩ rfl hl.1 rfl (Nat.le_of_ble_eq_true rfl) dX3_readSum_3) (fun s_1 H locs hw w => ?_)
  refine lv_iconst (pc := 6) (v := mm_I 0) C.1 C.2.1 dX3_readSum_6 rfl ?_
  refine lv_istore_n (pc := 7) (lv' := [(3, .int (mm_I 0)), (0, .ref (mm_ad G this)), (1, .ref (mm_ad G a1)), (2, .int (mm_I a2))]) C.1 C.2.1 dX3_readSum_7 rfl hl (by decide) rfl (fun ls hl => ?_)
  exact hw  _ _ _ w (lv_sub hl [1, 2, 3, 0] rfl)
set_option maxRecDepth 100000 in
set_option maxHeartbeats 4000000 in
theorem cr_X3_readProduct (l : Launch) (G : mm_G) (f : Nat) (ih : mm_ih l G f) (this : Nat) (a1 : Nat) (a2 : Int) (h0 : mm_ok this 13 0) (h1 : mm_ok a1 18 0) (s0 : mm_M) (post : mm_M → Prop) (hw : wpb_X3_readProduct (wp_X3_rec f) this a1 a2 s0 post) : Met l yX3_readProduct (mm_wm yX3_readProduct cX3_readProduct 4 none) (mm_rm (14 + (f + 1))) (va_Pc [.ref (mm_ad G this), .ref (mm_ad G a1), .int (mm_I a2)] (mm_pre G s0)) (mm_Qv G post) 0 0 (mm_A G) := by
  refine mm_met (own := RX3) (by decide) rfl (Nat.le_of_ble_eq_true rfl) ?_
  intro p e s m args below meth c C hr hk
  unfold wpb_X3_readProduct at hw
  have hw := hw (fun (v3 : Int) (u : mm_M) => mm_X p l e (mm_rm (14 + (f + 1))) s m args below meth c (MQ below (mm_Qv G post) args s 0 0 (mm_A G)) G (mm_A G) 4 8 [(0, .ref (mm_ad G this)), (1, .ref (mm_ad G a1)), (2, .int (mm_I a2)), (3, .int (mm_I v3))] [] u)
  have hw := hw (by
    intro v3 s1 hw  H locs ls w hl
    refine lv_iload_n (pc := 8) C.1 C.2.1 dX3_readProduct_8 rfl (lv_at hl 3 rfl) ?_
    refine lv_sipush (pc := 9) C.1 C.2.1 dX3_readProduct_9 ms_500 ?_
    refine g_icmp_ge (pc := 12) (tgt := 54) C rfl mn_500 dX3_readProduct_12 (by decide) (fun hc => ?_) (fun hc => ?_)
    · have hw := hw.1 hc
      exact g_vret (pc := 54) C w hr hk hw dX3_readProduct_54
    · have hw := hw.2 hc
      refine lv_aload_n (pc := 15) C.1 C.2.1 dX3_readProduct_15 rfl (lv_at hl 1 rfl) ?_
      refine g_calli (pc := 16) w (mm_runV (ci := 8) (q := (RX8, TX8, 7)) (As := []) (rest := []) C w (c_X8_isSound l G a1 h1 s1 _ hw) h1 rfl rfl cv_X8_isSound ml_X3_75 ⟨by clear hw; show _ ≤ 14 + (f + 1); omega, by clear hw; show _ ≤ 64 * (14 + (f + 1)); omega⟩ ⟨Nat.le_of_ble_eq_true rfl, Nat.le_of_ble_eq_true rfl⟩ rfl hl.1 rfl (Nat.le_of_ble_eq_true rfl) dX3_readProduct_16) (fun r_5 s_4 H locs hw w => ?_)
      refine g_if_eq (pc := 19) (tgt := 54) C rfl dX3_readProduct_19 (by decide) (fun hc => ?_) (fun hc => ?_)
      · have hw := hw.1 hc
        exact g_vret (pc := 54) C w hr hk hw dX3_readProduct_54
      · have hw := hw.2 hc
        refine lv_aload_n (pc := 22) C.1 C.2.1 dX3_readProduct_22 rfl (lv_at hl 1 rfl) ?_
        refine g_getiN (pc := 23) C w h1 ff_X8_4 lk_X3_78 dX3_readProduct_23 ?_
        refine lv_bipush (pc := 26) C.1 C.2.1 dX3_readProduct_26 mb_42 ?_
        refine g_icmp_ne (pc := 28) (tgt := 54) C rfl mn_42 dX3_readProduct_28 (by decide) (fun hc => ?_) (fun hc => ?_)
        · have hw := hw.1 hc
          exact g_vret (pc := 54) C w hr hk hw dX3_readProduct_54
        · have hw := hw.2 hc
          refine lv_aload_n (pc := 31) C.1 C.2.1 dX3_readProduct_31 rfl (lv_at hl 1 rfl) ?_
          refine g_callv (pc := 32) w (mm_runV (ci := 8) (q := (RX8, TX8, 7)) (As := []) (rest := []) C w (c_X8_advance l G a1 h1 s_4 _ hw) h1 rfl rfl cv_X8_advance ml_X3_57 ⟨by clear hw; show _ ≤ 14 + (f + 1); omega, by clear hw; show _ ≤ 64 * (14 + (f + 1)); omega⟩ ⟨Nat.le_of_ble_eq_true rfl, Nat.le_of_ble_eq_true rfl⟩ rfl hl.1 rfl (Nat.le_of_ble_eq_true rfl) dX3_readProduct_32) (fun s_6 H locs hw w => ?_)
          refine lv_aload_n (pc := 35) C.1 C.2.1 dX3_readProduct_35 rfl (lv_at hl 0 rfl) ?_
          refine lv_aload_n (pc := 36) C.1 C.2.1 dX3_readProduct_36 rfl (lv_at hl 1 rfl) ?_
          refine lv_iload_n (pc := 37) C.1 C.2.1 dX3_readProduct_37 rfl (lv_at hl 2 rfl) ?_
          refine g_callv (pc := 38) w (mm_runV (ci := 3) (q := (RX3, TX3, 7)) (As := [.ref (mm_ad G a1), .int (mm_I a2)]) (rest := []) C w ((ih 2 this a1 a2 h0 h1 s_6 _ hw).2.2.1 rfl) h0 rfl rfl cv_X3_readFactor ml_X3_85 ⟨by clear hw; show _ ≤ 14 + (f + 1); omega, by clear hw; show _ ≤ 64 * (14 + (f + 1)); omega⟩ ⟨Nat.le_of_ble_eq_true rfl, Nat.le_of_ble_eq_true rfl⟩ rfl hl.1 rfl (Nat.le_of_ble_eq_true rfl) dX3_readProduct_38) (fun s_8 H locs hw w => ?_)
          refine lv_aload_n (pc := 41) C.1 C.2.1 dX3_readProduct_41 rfl (lv_at hl 0 rfl) ?_
          refine lv_sipush (pc := 42) C.1 C.2.1 dX3_readProduct_42 ms_20042 ?_
          refine g_callv (pc := 45) w (mm_runV (ci := 3) (q := (RX3, TX3, 7)) (As := [.int (mm_I 20042)]) (rest := []) C w (c_X3_write l G this 20042 h0 s_8 _ hw) h0 rfl rfl cv_X3_write ml_X3_81 ⟨by clear hw; show _ ≤ 14 + (f + 1); omega, by clear hw; show _ ≤ 64 * (14 + (f + 1)); omega⟩ ⟨Nat.le_of_ble_eq_true rfl, Nat.le_of_ble_eq_true rfl⟩ rfl hl.1 rfl (Nat.le_of_ble_eq_true rfl) dX3_readProduct_45) (fun s_10 H locs hw w => ?_)
          refine g_iinc (pc := 48) (k := 3) C dX3_readProduct_48 hl rfl (by decide) (fun v3_12 ev3_12 ls hl => ?_)
          have hw := hw v3_12 ev3_12
          have hl : lv_has ls 4 [(3, .int (mm_I v3_12)), (0, .ref (mm_ad G this)), (1, .ref (mm_ad G a1)), (2, .int (mm_I a2))] := hl
          refine lv_goto (pc := 51) (tgt := 8) C.1 C.2.1 dX3_readProduct_51 (by decide) ?_
          exact hw  _ _ _ w (lv_sub hl [1, 2, 3, 0] rfl))
  intro H locs ls w hl
  have hl : lv_has ls 4 [(0, .ref (mm_ad G this)), (1, .ref (mm_ad G a1)), (2, .int (mm_I a2))] := hl
  refine lv_aload_n (pc := 0) C.1 C.2.1 dX3_readProduct_0 rfl (lv_at hl 0 rfl) ?_
  refine lv_aload_n (pc := 1) C.1 C.2.1 dX3_readProduct_1 rfl (lv_at hl 1 rfl) ?_
  refine lv_iload_n (pc := 2) C.1 C.2.1 dX3_readProduct_2 rfl (lv_at hl 2 rfl) ?_
  refine g_callv (pc := 3) w (mm_runV (ci := 3) (q := (RX3, TX3, 7)) (As := [.ref (mm_ad G a1), .int (mm_I a2)]) (rest := []) C w ((ih 2 this a1 a2 h0 h1 s0 _ hw).2.2.1 rfl) h0 rfl rfl cv_X3_readFactor ml_X3_85 ⟨by clear hw; show _ ≤ 14 + (f + 1); omega, by clear hw; show _ ≤ 64 * (14 + (f + 1)); omega⟩ ⟨Nat.le_of_ble_eq_true rfl, Nat.le_of_ble_eq_true rfl⟩ rfl hl.1 rfl (Nat.le_of_ble_eq_true rfl) dX3_readProduct_3) (fun s_1 H locs hw w => ?_)
  refine lv_iconst (pc := 6) (v := mm_I 0) C.1 C.2.1 dX3_readProduct_6 rfl ?_
  refine lv_istore_n (pc := 7) (lv' := [(3, .int (mm_I 0)), (0, .ref (mm_ad G this)), (1, .ref (mm_ad G a1)), (2, .int (mm_I a2))]) C.1 C.2.1 dX3_readProduct_7 rfl hl (by decide) rfl (fun ls hl => ?_)
  exact hw  _ _ _ w (lv_sub hl [1, 2, 3, 0] rfl)
set_option maxRecDepth 100000 in
set_option maxHeartbeats 4000000 in
theorem cr_X3_readFactor (l : Launch) (G : mm_G) (f : Nat) (ih : mm_ih l G f) (this : Nat) (a1 : Nat) (a2 : Int) (h0 : mm_ok this 13 0) (h1 : mm_ok a1 18 0) (s0 : mm_M) (post : mm_M → Prop) (hw : wpb_X3_readFactor (wp_X3_rec f) this a1 a2 s0 post) : Met l yX3_readFactor (mm_wm yX3_readFactor cX3_readFactor 4 none) (mm_rm (14 + (f + 1))) (va_Pc [.ref (mm_ad G this), .ref (mm_ad G a1), .int (mm_I a2)] (mm_pre G s0)) (mm_Qv G post) 0 0 (mm_A G) := by
  refine mm_met (own := RX3) (by decide) rfl (Nat.le_of_ble_eq_true rfl) ?_
  intro p e s m args below meth c C hr hk
  unfold wpb_X3_readFactor at hw
  have hw := hw (fun  (u : mm_M) => mm_X p l e (mm_rm (14 + (f + 1))) s m args below meth c (MQ below (mm_Qv G post) args s 0 0 (mm_A G)) G (mm_A G) 4 59 [(0, .ref (mm_ad G this)), (1, .ref (mm_ad G a1)), (2, .int (mm_I a2))] [] u)
  have hw := hw (fun  (u : mm_M) => mm_X p l e (mm_rm (14 + (f + 1))) s m args below meth c (MQ below (mm_Qv G post) args s 0 0 (mm_A G)) G (mm_A G) 4 89 [(1, .ref (mm_ad G a1))] [] u)
  have hw := hw (by
    intro  s1 hw  H locs ls w hl
    refine lv_aload_n (pc := 59) C.1 C.2.1 dX3_readFactor_59 rfl (lv_at hl 1 rfl) ?_
    refine g_getiN (pc := 60) C w h1 ff_X8_4 lk_X3_78 dX3_readFactor_60 ?_
    refine lv_bipush (pc := 63) C.1 C.2.1 dX3_readFactor_63 mb_40 ?_
    refine g_icmp_ne (pc := 65) (tgt := 89) C rfl mn_40 dX3_readFactor_65 (by decide) (fun hc => ?_) (fun hc => ?_)
    · have hw := hw.1 hc
      exact hw  _ _ _ w (lv_sub hl [1] rfl)
    · have hw := hw.2 hc
      refine lv_iload_n (pc := 68) C.1 C.2.1 dX3_readFactor_68 rfl (lv_at hl 2 rfl) ?_
      refine lv_bipush (pc := 69) C.1 C.2.1 dX3_readFactor_69 mb_8 ?_
      refine g_icmp_ge (pc := 71) (tgt := 89) C rfl mn_8 dX3_readFactor_71 (by decide) (fun hc => ?_) (fun hc => ?_)
      · have hw := hw.1 hc
        exact hw  _ _ _ w (lv_sub hl [1] rfl)
      · have hw := hw.2 hc
        refine lv_aload_n (pc := 74) C.1 C.2.1 dX3_readFactor_74 rfl (lv_at hl 1 rfl) ?_
        refine g_callv (pc := 75) w (mm_runV (ci := 8) (q := (RX8, TX8, 7)) (As := []) (rest := []) C w (c_X8_advance l G a1 h1 s1 _ hw) h1 rfl rfl cv_X8_advance ml_X3_57 ⟨by clear hw; show _ ≤ 14 + (f + 1); omega, by clear hw; show _ ≤ 64 * (14 + (f + 1)); omega⟩ ⟨Nat.le_of_ble_eq_true rfl, Nat.le_of_ble_eq_true rfl⟩ rfl hl.1 rfl (Nat.le_of_ble_eq_true rfl) dX3_readFactor_75) (fun s_12 H locs hw w => ?_)
        refine lv_aload_n (pc := 78) C.1 C.2.1 dX3_readFactor_78 rfl (lv_at hl 0 rfl) ?_
        refine lv_aload_n (pc := 79) C.1 C.2.1 dX3_readFactor_79 rfl (lv_at hl 1 rfl) ?_
        refine lv_iload_n (pc := 80) C.1 C.2.1 dX3_readFactor_80 rfl (lv_at hl 2 rfl) ?_
        refine lv_iconst (pc := 81) (v := mm_I 1) C.1 C.2.1 dX3_readFactor_81 rfl ?_
        refine g_iadd (pc := 82) C dX3_readFactor_82 ?_
        refine g_callv (pc := 83) w (mm_runV (ci := 3) (q := (RX3, TX3, 7)) (As := [.ref (mm_ad G a1), .int (mm_I (a2 + 1))]) (rest := []) C w ((ih 3 this a1 (a2 + 1) h0 h1 s_12 _ hw).2.2.2 rfl) h0 rfl rfl cv_X3_readBrackets ml_X3_95 ⟨by clear hw; show _ ≤ 14 + (f + 1); omega, by clear hw; show _ ≤ 64 * (14 + (f + 1)); omega⟩ ⟨Nat.le_of_ble_eq_true rfl, Nat.le_of_ble_eq_true rfl⟩ rfl hl.1 rfl (Nat.le_of_ble_eq_true rfl) dX3_readFactor_83) (fun s_14 H locs hw w => ?_)
        refine lv_goto (pc := 86) (tgt := 93) C.1 C.2.1 dX3_readFactor_86 (by decide) ?_
        exact g_vret (pc := 93) C w hr hk hw dX3_readFactor_93)
  have hw := hw (by
    intro  s1 hw  H locs ls w hl
    refine lv_aload_n (pc := 89) C.1 C.2.1 dX3_readFactor_89 rfl (lv_at hl 0 rfl) ?_
    refine g_callv (pc := 90) w (mm_runV (ci := 8) (q := (RX8, TX8, 7)) (As := []) (rest := []) C w (c_X8_refuse l G a1 h1 s1 _ hw) h1 rfl rfl cv_X8_refuse ml_X3_45 ⟨by clear hw; show _ ≤ 14 + (f + 1); omega, by clear hw; show _ ≤ 64 * (14 + (f + 1)); omega⟩ ⟨Nat.le_of_ble_eq_true rfl, Nat.le_of_ble_eq_true rfl⟩ rfl hl.1 rfl (Nat.le_of_ble_eq_true rfl) dX3_readFactor_90) (fun s_16 H locs hw w => ?_)
    exact g_vret (pc := 93) C w hr hk hw dX3_readFactor_93)
  intro H locs ls w hl
  have hl : lv_has ls 4 [(0, .ref (mm_ad G this)), (1, .ref (mm_ad G a1)), (2, .int (mm_I a2))] := hl
  refine lv_aload_n (pc := 0) C.1 C.2.1 dX3_readFactor_0 rfl (lv_at hl 1 rfl) ?_
  refine g_calli (pc := 1) w (mm_runS (As := [.ref (mm_ad G a1)]) (rest := []) C w (c_X3_nameInHand l G a1 h1 s0 _ hw) cs_X3_nameInHand ml_X3_88 ⟨by clear hw; show _ ≤ 14 + (f + 1); omega, by clear hw; show _ ≤ 64 * (14 + (f + 1)); omega⟩ ⟨Nat.le_of_ble_eq_true rfl, Nat.le_of_ble_eq_true rfl⟩ rfl hl.1 rfl (Nat.le_of_ble_eq_true rfl) dX3_readFactor_1) (fun r_2 s_1 H locs hw w => ?_)
  refine g_istore_n (pc := 4) C dX3_readFactor_4 rfl hl (by decide) (fun v3_3 ev3_3 ls hl => ?_)
  have hw := hw v3_3 ev3_3
  have hl : lv_has ls 4 [(3, .int (mm_I v3_3)), (0, .ref (mm_ad G this)), (1, .ref (mm_ad G a1)), (2, .int (mm_I a2))] := hl
  refine lv_iload_n (pc := 5) C.1 C.2.1 dX3_readFactor_5 rfl (lv_at hl 0 rfl) ?_
  refine lv_iconst (pc := 6) (v := mm_I (-1)) C.1 C.2.1 dX3_readFactor_6 rfl ?_
  refine g_icmp_eq (pc := 7) (tgt := 26) C rfl mn_m1 dX3_readFactor_7 (by decide) (fun hc => ?_) (fun hc => ?_)
  · have hw := hw.1 hc
    refine lv_aload_n (pc := 26) C.1 C.2.1 dX3_readFactor_26 rfl (lv_at hl 2 rfl) ?_
    refine g_getiN (pc := 27) C w h1 ff_X8_4 lk_X3_78 dX3_readFactor_27 ?_
    refine lv_iconst (pc := 30) (v := mm_I 2) C.1 C.2.1 dX3_readFactor_30 rfl ?_
    refine g_icmp_ne (pc := 31) (tgt := 59) C rfl mn_2 dX3_readFactor_31 (by decide) (fun hc => ?_) (fun hc => ?_)
    · have hw := hw.1 hc
      exact hw  _ _ _ w (lv_sub hl [1, 2, 3] rfl)
    · have hw := hw.2 hc
      refine lv_aload_n (pc := 34) C.1 C.2.1 dX3_readFactor_34 rfl (lv_at hl 2 rfl) ?_
      refine g_getiN (pc := 35) C w h1 ff_X8_5 lk_X3_92 dX3_readFactor_35 ?_
      refine lv_sipush (pc := 38) C.1 C.2.1 dX3_readFactor_38 ms_9999 ?_
      refine g_icmp_gt (pc := 41) (tgt := 59) C rfl mn_9999 dX3_readFactor_41 (by decide) (fun hc => ?_) (fun hc => ?_)
      · have hw := hw.1 hc
        exact hw  _ _ _ w (lv_sub hl [1, 2, 3] rfl)
      · have hw := hw.2 hc
        refine lv_aload_n (pc := 44) C.1 C.2.1 dX3_readFactor_44 rfl (lv_at hl 1 rfl) ?_
        refine lv_aload_n (pc := 45) C.1 C.2.1 dX3_readFactor_45 rfl (lv_at hl 2 rfl) ?_
        refine g_getiN (pc := 46) C w h1 ff_X8_5 lk_X3_92 dX3_readFactor_46 ?_
        refine g_callv (pc := 49) w (mm_runV (ci := 3) (q := (RX3, TX3, 7)) (As := [.int (mm_I (s_1 a1 5))]) (rest := []) C w (c_X3_write l G this (s_1 a1 5) h0 s_1 _ hw) h0 rfl rfl cv_X3_write ml_X3_81 ⟨by clear hw; show _ ≤ 14 + (f + 1); omega, by clear hw; show _ ≤ 64 * (14 + (f + 1)); omega⟩ ⟨Nat.le_of_ble_eq_true rfl, Nat.le_of_ble_eq_true rfl⟩ rfl hl.1 rfl (Nat.le_of_ble_eq_true rfl) dX3_readFactor_49) (fun s_4 H locs hw w => ?_)
        refine lv_aload_n (pc := 52) C.1 C.2.1 dX3_readFactor_52 rfl (lv_at hl 2 rfl) ?_
        refine g_callv (pc := 53) w (mm_runV (ci := 8) (q := (RX8, TX8, 7)) (As := []) (rest := []) C w (c_X8_advance l G a1 h1 s_4 _ hw) h1 rfl rfl cv_X8_advance ml_X3_57 ⟨by clear hw; show _ ≤ 14 + (f + 1); omega, by clear hw; show _ ≤ 64 * (14 + (f + 1)); omega⟩ ⟨Nat.le_of_ble_eq_true rfl, Nat.le_of_ble_eq_true rfl⟩ rfl hl.1 rfl (Nat.le_of_ble_eq_true rfl) dX3_readFactor_53) (fun s_6 H locs hw w => ?_)
        refine lv_goto (pc := 56) (tgt := 93) C.1 C.2.1 dX3_readFactor_56 (by decide) ?_
        exact g_vret (pc := 93) C w hr hk hw dX3_readFactor_93
  · have hw := hw.2 hc
    refine lv_aload_n (pc := 10) C.1 C.2.1 dX3_readFactor_10 rfl (lv_at hl 1 rfl) ?_
    refine lv_sipush (pc := 11) C.1 C.2.1 dX3_readFactor_11 ms_10000 ?_
    refine lv_iload_n (pc := 14) C.1 C.2.1 dX3_readFactor_14 rfl (lv_at hl 0 rfl) ?_
    refine g_iadd (pc := 15) C dX3_readFactor_15 ?_
    refine g_callv (pc := 16) w (mm_runV (ci := 3) (q := (RX3, TX3, 7)) (As := [.int (mm_I (10000 + v3_3))]) (rest := []) C w (c_X3_write l G this (10000 + v3_3) h0 s_1 _ hw) h0 rfl rfl cv_X3_write ml_X3_81 ⟨by clear hw; show _ ≤ 14 + (f + 1); omega, by clear hw; show _ ≤ 64 * (14 + (f + 1)); omega⟩ ⟨Nat.le_of_ble_eq_true rfl, Nat.le_of_ble_eq_true rfl⟩ rfl hl.1 rfl (Nat.le_of_ble_eq_true rfl) dX3_readFactor_16) (fun s_8 H locs hw w => ?_)
    refine lv_aload_n (pc := 19) C.1 C.2.1 dX3_readFactor_19 rfl (lv_at hl 2 rfl) ?_
    refine g_callv (pc := 20) w (mm_runV (ci := 8) (q := (RX8, TX8, 7)) (As := []) (rest := []) C w (c_X8_advance l G a1 h1 s_8 _ hw) h1 rfl rfl cv_X8_advance ml_X3_57 ⟨by clear hw; show _ ≤ 14 + (f + 1); omega, by clear hw; show _ ≤ 64 * (14 + (f + 1)); omega⟩ ⟨Nat.le_of_ble_eq_true rfl, Nat.le_of_ble_eq_true rfl⟩ rfl hl.1 rfl (Nat.le_of_ble_eq_true rfl) dX3_readFactor_20) (fun s_10 H locs hw w => ?_)
    refine lv_goto (pc := 23) (tgt := 93) C.1 C.2.1 dX3_readFactor_23 (by decide) ?_
    exact g_vret (pc := 93) C w hr hk hw dX3_readFactor_93
set_option maxRecDepth 100000 in
set_option maxHeartbeats 4000000 in
theorem cr_X3_readBrackets (l : Launch) (G : mm_G) (f : Nat) (ih : mm_ih l G f) (this : Nat) (a1 : Nat) (a2 : Int) (h0 : mm_ok this 13 0) (h1 : mm_ok a1 18 0) (s0 : mm_M) (post : mm_M → Prop) (hw : wpb_X3_readBrackets (wp_X3_rec f) this a1 a2 s0 post) : Met l yX3_readBrackets (mm_wm yX3_readBrackets cX3_readBrackets 4 none) (mm_rm (14 + (f + 1))) (va_Pc [.ref (mm_ad G this), .ref (mm_ad G a1), .int (mm_I a2)] (mm_pre G s0)) (mm_Qv G post) 0 0 (mm_A G) := by
  refine mm_met (own := RX3) (by decide) rfl (Nat.le_of_ble_eq_true rfl) ?_
  intro p e s m args below meth c C hr hk
  unfold wpb_X3_readBrackets at hw
  have hw := hw (fun (v3 : Int) (u : mm_M) => mm_X p l e (mm_rm (14 + (f + 1))) s m args below meth c (MQ below (mm_Qv G post) args s 0 0 (mm_A G)) G (mm_A G) 4 30 [(0, .ref (mm_ad G this)), (1, .ref (mm_ad G a1)), (2, .int (mm_I a2)), (3, .int (mm_I v3))] [] u)
  have hw := hw (fun  (u : mm_M) => mm_X p l e (mm_rm (14 + (f + 1))) s m args below meth c (MQ below (mm_Qv G post) args s 0 0 (mm_A G)) G (mm_A G) 4 49 [(1, .ref (mm_ad G a1))] [] u)
  have hw := hw (by
    intro v3 s1 hw  H locs ls w hl
    refine lv_aload_n (pc := 30) C.1 C.2.1 dX3_readBrackets_30 rfl (lv_at hl 1 rfl) ?_
    refine g_callv (pc := 31) w (mm_runV (ci := 8) (q := (RX8, TX8, 7)) (As := []) (rest := []) C w (c_X8_advance l G a1 h1 s1 _ hw) h1 rfl rfl cv_X8_advance ml_X3_57 ⟨by clear hw; show _ ≤ 14 + (f + 1); omega, by clear hw; show _ ≤ 64 * (14 + (f + 1)); omega⟩ ⟨Nat.le_of_ble_eq_true rfl, Nat.le_of_ble_eq_true rfl⟩ rfl hl.1 rfl (Nat.le_of_ble_eq_true rfl) dX3_readBrackets_31) (fun s_8 H locs hw w => ?_)
    refine lv_aload_n (pc := 34) C.1 C.2.1 dX3_readBrackets_34 rfl (lv_at hl 0 rfl) ?_
    refine lv_aload_n (pc := 35) C.1 C.2.1 dX3_readBrackets_35 rfl (lv_at hl 1 rfl) ?_
    refine lv_iload_n (pc := 36) C.1 C.2.1 dX3_readBrackets_36 rfl (lv_at hl 2 rfl) ?_
    refine g_callv (pc := 37) w (mm_runV (ci := 3) (q := (RX3, TX3, 7)) (As := [.ref (mm_ad G a1), .int (mm_I a2)]) (rest := []) C w ((ih 0 this a1 a2 h0 h1 s_8 _ hw).1 rfl) h0 rfl rfl cv_X3_readSum ml_X3_64 ⟨by clear hw; show _ ≤ 14 + (f + 1); omega, by clear hw; show _ ≤ 64 * (14 + (f + 1)); omega⟩ ⟨Nat.le_of_ble_eq_true rfl, Nat.le_of_ble_eq_true rfl⟩ rfl hl.1 rfl (Nat.le_of_ble_eq_true rfl) dX3_readBrackets_37) (fun s_10 H locs hw w => ?_)
    refine lv_aload_n (pc := 40) C.1 C.2.1 dX3_readBrackets_40 rfl (lv_at hl 0 rfl) ?_
    refine lv_sipush (pc := 41) C.1 C.2.1 dX3_readBrackets_41 ms_20000 ?_
    refine lv_iload_n (pc := 44) C.1 C.2.1 dX3_readBrackets_44 rfl (lv_at hl 3 rfl) ?_
    refine g_iadd (pc := 45) C dX3_readBrackets_45 ?_
    refine g_callv (pc := 46) w (mm_runV (ci := 3) (q := (RX3, TX3, 7)) (As := [.int (mm_I (20000 + v3))]) (rest := []) C w (c_X3_write l G this (20000 + v3) h0 s_10 _ hw) h0 rfl rfl cv_X3_write ml_X3_81 ⟨by clear hw; show _ ≤ 14 + (f + 1); omega, by clear hw; show _ ≤ 64 * (14 + (f + 1)); omega⟩ ⟨Nat.le_of_ble_eq_true rfl, Nat.le_of_ble_eq_true rfl⟩ rfl hl.1 rfl (Nat.le_of_ble_eq_true rfl) dX3_readBrackets_46) (fun s_12 H locs hw w => ?_)
    exact hw  _ _ _ w (lv_sub hl [1] rfl))
  have hw := hw (by
    intro  s1 hw  H locs ls w hl
    refine lv_aload_n (pc := 49) C.1 C.2.1 dX3_readBrackets_49 rfl (lv_at hl 0 rfl) ?_
    refine lv_bipush (pc := 50) C.1 C.2.1 dX3_readBrackets_50 mb_41 ?_
    refine g_calli (pc := 52) w (mm_runV (ci := 8) (q := (RX8, TX8, 7)) (As := [.int (mm_I 41)]) (rest := []) C w (c_X8_takeSign l G a1 41 h1 s1 _ hw) h1 rfl rfl cv_X8_takeSign ml_X3_68 ⟨by clear hw; show _ ≤ 14 + (f + 1); omega, by clear hw; show _ ≤ 64 * (14 + (f + 1)); omega⟩ ⟨Nat.le_of_ble_eq_true rfl, Nat.le_of_ble_eq_true rfl⟩ rfl hl.1 rfl (Nat.le_of_ble_eq_true rfl) dX3_readBrackets_52) (fun r_7 s_6 H locs hw w => ?_)
    refine lv_pop (pc := 55) C.1 C.2.1 dX3_readBrackets_55 rfl ?_
    exact g_vret (pc := 56) C w hr hk hw dX3_readBrackets_56)
  intro H locs ls w hl
  have hl : lv_has ls 4 [(0, .ref (mm_ad G this)), (1, .ref (mm_ad G a1)), (2, .int (mm_I a2))] := hl
  refine lv_aload_n (pc := 0) C.1 C.2.1 dX3_readBrackets_0 rfl (lv_at hl 0 rfl) ?_
  refine lv_aload_n (pc := 1) C.1 C.2.1 dX3_readBrackets_1 rfl (lv_at hl 1 rfl) ?_
  refine lv_iload_n (pc := 2) C.1 C.2.1 dX3_readBrackets_2 rfl (lv_at hl 2 rfl) ?_
  refine g_callv (pc := 3) w (mm_runV (ci := 3) (q := (RX3, TX3, 7)) (As := [.ref (mm_ad G a1), .int (mm_I a2)]) (rest := []) C w ((ih 0 this a1 a2 h0 h1 s0 _ hw).1 rfl) h0 rfl rfl cv_X3_readSum ml_X3_64 ⟨by clear hw; show _ ≤ 14 + (f + 1); omega, by clear hw; show _ ≤ 64 * (14 + (f + 1)); omega⟩ ⟨Nat.le_of_ble_eq_true rfl, Nat.le_of_ble_eq_true rfl⟩ rfl hl.1 rfl (Nat.le_of_ble_eq_true rfl) dX3_readBrackets_3) (fun s_1 H locs hw w => ?_)
  refine lv_aload_n (pc := 6) C.1 C.2.1 dX3_readBrackets_6 rfl (lv_at hl 1 rfl) ?_
  refine g_getiN (pc := 7) C w h1 ff_X8_4 lk_X3_78 dX3_readBrackets_7 ?_
  refine g_istore_n (pc := 10) C dX3_readBrackets_10 rfl hl (by decide) (fun v3_3 ev3_3 ls hl => ?_)
  have hw := hw v3_3 ev3_3
  have hl : lv_has ls 4 [(3, .int (mm_I v3_3)), (0, .ref (mm_ad G this)), (1, .ref (mm_ad G a1)), (2, .int (mm_I a2))] := hl
  refine lv_aload_n (pc := 11) C.1 C.2.1 dX3_readBrackets_11 rfl (lv_at hl 2 rfl) ?_
  refine g_calli (pc := 12) w (mm_runV (ci := 8) (q := (RX8, TX8, 7)) (As := []) (rest := []) C w (c_X8_isSound l G a1 h1 s_1 _ hw) h1 rfl rfl cv_X8_isSound ml_X3_75 ⟨by clear hw; show _ ≤ 14 + (f + 1); omega, by clear hw; show _ ≤ 64 * (14 + (f + 1)); omega⟩ ⟨Nat.le_of_ble_eq_true rfl, Nat.le_of_ble_eq_true rfl⟩ rfl hl.1 rfl (Nat.le_of_ble_eq_true rfl) dX3_readBrackets_12) (fun r_5 s_4 H locs hw w => ?_)
  refine g_if_eq (pc := 15) (tgt := 49) C rfl dX3_readBrackets_15 (by decide) (fun hc => ?_) (fun hc => ?_)
  · have hw := hw.1 hc
    exact hw  _ _ _ w (lv_sub hl [2] rfl)
  · have hw := hw.2 hc
    refine lv_iload_n (pc := 18) C.1 C.2.1 dX3_readBrackets_18 rfl (lv_at hl 0 rfl) ?_
    refine lv_bipush (pc := 19) C.1 C.2.1 dX3_readBrackets_19 mb_60 ?_
    refine g_icmp_eq (pc := 21) (tgt := 30) C rfl mn_60 dX3_readBrackets_21 (by decide) (fun hc => ?_) (fun hc => ?_)
    · have hw := hw.1 hc
      exact hw  _ _ _ w (lv_sub hl [1, 2, 3, 0] rfl)
    · have hw := hw.2 hc
      refine lv_iload_n (pc := 24) C.1 C.2.1 dX3_readBrackets_24 rfl (lv_at hl 0 rfl) ?_
      refine lv_bipush (pc := 25) C.1 C.2.1 dX3_readBrackets_25 mb_61 ?_
      refine g_icmp_ne (pc := 27) (tgt := 49) C rfl mn_61 dX3_readBrackets_27 (by decide) (fun hc => ?_) (fun hc => ?_)
      · have hw := hw.1 hc
        exact hw  _ _ _ w (lv_sub hl [2] rfl)
      · have hw := hw.2 hc
        exact hw  _ _ _ w (lv_sub hl [1, 2, 3, 0] rfl)
theorem c_X3_rec (l : Launch) (G : mm_G) : ∀ f : Nat, mm_ih l G f := by
  intro f
  induction f with
  | zero => intro t this a1 a2 h0 h1 s0 post hw; exact hw.elim
  | succ f ih =>
    intro t this a1 a2 h0 h1 s0 post hw
    rw [wp_X3_rec_s] at hw
    refine ⟨fun ht => ?_, fun ht => ?_, fun ht => ?_, fun ht => ?_⟩
    · subst ht; exact cr_X3_readSum l G f ih this a1 a2 h0 h1 s0 post hw
    · subst ht; exact cr_X3_readProduct l G f ih this a1 a2 h0 h1 s0 post hw
    · subst ht; exact cr_X3_readFactor l G f ih this a1 a2 h0 h1 s0 post hw
    · subst ht; exact cr_X3_readBrackets l G f ih this a1 a2 h0 h1 s0 post hw
def wp_X3_readSum (this a1 : Nat) (a2 : Int) (s0 : mm_M) (post : mm_M → Prop) : Prop := wp_X3_rec 60 0 this a1 a2 s0 post
theorem c_X3_readSum (l : Launch) (G : mm_G) (this a1 : Nat) (a2 : Int) (h0 : mm_ok this 13 0) (h1 : mm_ok a1 18 0) (s0 : mm_M) (post : mm_M → Prop) (hw : wp_X3_readSum this a1 a2 s0 post) : Met l yX3_readSum (mm_wm yX3_readSum cX3_readSum 5 none) (mm_rm 74) (va_Pc [.ref (mm_ad G this), .ref (mm_ad G a1), .int (mm_I a2)] (mm_pre G s0)) (mm_Qv G post) 0 0 (mm_A G) := (c_X3_rec l G 60 0 this a1 a2 h0 h1 s0 post hw).1 rfl
