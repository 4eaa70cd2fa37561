theorem lk_X9_31 : Cond.fieldLink RX9 31 "LastServed$Town" "bowTold" "I" ∈ mm_ws := (mt_1 114 rfl rfl)
theorem ff_X9_8 : mm_F 9 8 0 RX9 TX9 9 := ⟨rfl, by decide, fk_X9, rfl, rfl⟩
theorem ml_X9_137 : Cond.methodLink RX9 137 Lib.Math.max.name ∈ mm_ws := (mt_4 2 rfl rfl)
def wp_X9_bow (this : Nat) (s0 : mm_M) (post : Int → mm_M → Prop) : Prop :=
  post (mm_max (s0 this 8) 0) s0
set_option maxRecDepth 100000 in
set_option maxHeartbeats 4000000 in
theorem c_X9_bow (l : Launch) (G : mm_G) (this : Nat) (h0 : mm_ok this 19 0) (s0 : mm_M) (post : Int → mm_M → Prop) (hw : wp_X9_bow this s0 post) : Met l yX9_bow (mm_wm yX9_bow cX9_bow 1 (some .int)) (mm_rm 2) (va_Pc [.ref (mm_ad G this)] (mm_pre G s0)) (mm_Qi G post) 0 0 (mm_A G) := by
  refine mm_met (own := RX9) (by decide) rfl (Nat.le_of_ble_eq_true rfl) ?_
  intro p e s m args below meth c C hr hk
  unfold wp_X9_bow at hw
  intro H locs ls w hl
  have hl : lv_has ls 1 [(0, .ref (mm_ad G this))] := hl
  refine lv_aload_n (pc := 0) C.1 C.2.1 dX9_bow_0 rfl (lv_at hl 0 rfl) ?_
  refine g_geti (pc := 1) C w h0 ff_X9_8 lk_X9_31 dX9_bow_1 ?_
  refine lv_iconst (pc := 4) (v := mm_I 0) C.1 C.2.1 dX9_bow_4 rfl ?_
  refine g_max (pc := 5) C hl.1 ml_X9_137 mv_max ⟨Nat.le_of_ble_eq_true rfl, Nat.le_of_ble_eq_true rfl⟩ ⟨Nat.le_of_ble_eq_true rfl, Nat.le_of_ble_eq_true rfl⟩ dX9_bow_5 ?_
  exact g_iret (pc := 8) C w hr hk hw dX9_bow_8
theorem lk_X9_28 : Cond.fieldLink RX9 28 "LastServed$Town" "feeTold" "I" ∈ mm_ws := (mt_1 113 rfl rfl)
theorem ff_X9_7 : mm_F 9 7 0 RX9 TX9 9 := ⟨rfl, by decide, fk_X9, rfl, rfl⟩
def wp_X9_fee (this : Nat) (s0 : mm_M) (post : Int → mm_M → Prop) : Prop :=
  post (mm_max (s0 this 7) 0) s0
set_option maxRecDepth 100000 in
set_option maxHeartbeats 4000000 in
theorem c_X9_fee (l : Launch) (G : mm_G) (this : Nat) (h0 : mm_ok this 19 0) (s0 : mm_M) (post : Int → mm_M → Prop) (hw : wp_X9_fee this s0 post) : Met l yX9_fee (mm_wm yX9_fee cX9_fee 1 (some .int)) (mm_rm 2) (va_Pc [.ref (mm_ad G this)] (mm_pre G s0)) (mm_Qi G post) 0 0 (mm_A G) := by
  refine mm_met (own := RX9) (by decide) rfl (Nat.le_of_ble_eq_true rfl) ?_
  intro p e s m args below meth c C hr hk
  unfold wp_X9_fee at hw
  intro H locs ls w hl
  have hl : lv_has ls 1 [(0, .ref (mm_ad G this))] := hl
  refine lv_aload_n (pc := 0) C.1 C.2.1 dX9_fee_0 rfl (lv_at hl 0 rfl) ?_
  refine g_geti (pc := 1) C w h0 ff_X9_7 lk_X9_28 dX9_fee_1 ?_
  refine lv_iconst (pc := 4) (v := mm_I 0) C.1 C.2.1 dX9_fee_4 rfl ?_
  refine g_max (pc := 5) C hl.1 ml_X9_137 mv_max ⟨Nat.le_of_ble_eq_true rfl, Nat.le_of_ble_eq_true rfl⟩ ⟨Nat.le_of_ble_eq_true rfl, Nat.le_of_ble_eq_true rfl⟩ dX9_fee_5 ?_
  exact g_iret (pc := 8) C w hr hk hw dX9_fee_8
theorem ml_X4_24 : Cond.methodLink RX4 24 yX9_hasSort ∈ mm_ws := (mt_5 69 rfl rfl)
theorem ml_X4_30 : Cond.methodLink RX4 30 yX9_hasCounter ∈ mm_ws := (mt_5 70 rfl rfl)
theorem mb_16 : (Int8.ofInt 16).toInt32 = mm_I 16 := by decide
theorem mn_16 : n32 16 = 16 := by decide
theorem cv_X9_ofCounter : mm_V yX9_ofCounter cX9_ofCounter 3 (some .int) 2 := ⟨(mt_3 144 rfl rfl), (mt_3 142 rfl rfl), (mt_3 143 rfl rfl), (mt_1 4 rfl rfl), by decide, by decide, by decide +kernel⟩
theorem ml_X4_33 : Cond.methodLink RX4 33 yX9_ofCounter ∈ mm_ws := (mt_5 71 rfl rfl)
theorem lk_X4_37 : Cond.fieldLink RX4 37 "LastServed$Ones" "law" "I" ∈ mm_ws := (mt_2 85 rfl rfl)
theorem ff_X4_4 : mm_F 4 4 0 RX4 TX4 12 := ⟨rfl, by decide, fk_X4, rfl, rfl⟩
theorem fw_X4_4 : mm_Fw 4 4 TX4 12 .int := ⟨⟨tyX4, tyX4_ok⟩, nmX4, rfl, by decide +kernel⟩
theorem lk_X4_41 : Cond.fieldLink RX4 41 "LastServed$Ones" "minutesEach" "I" ∈ mm_ws := (mt_2 86 rfl rfl)
theorem ff_X4_5 : mm_F 4 5 0 RX4 TX4 12 := ⟨rfl, by decide, fk_X4, rfl, rfl⟩
theorem fw_X4_5 : mm_Fw 4 5 TX4 12 .int := ⟨⟨tyX4, tyX4_ok⟩, nmX4, rfl, by decide +kernel⟩
theorem ms_1000 : (Int16.ofInt 1000).toInt32 = mm_I 1000 := by decide
theorem cv_X9_ofSort : mm_V yX9_ofSort cX9_ofSort 3 (some .int) 2 := ⟨(mt_3 183 rfl rfl), (mt_3 181 rfl rfl), (mt_3 182 rfl rfl), (mt_1 4 rfl rfl), by decide, by decide, by decide +kernel⟩
theorem ml_X4_44 : Cond.methodLink RX4 44 yX9_ofSort ∈ mm_ws := (mt_5 72 rfl rfl)
theorem lk_X4_47 : Cond.fieldLink RX4 47 "LastServed$Ones" "worth" "I" ∈ mm_ws := (mt_2 87 rfl rfl)
theorem ff_X4_6 : mm_F 4 6 0 RX4 TX4 12 := ⟨rfl, by decide, fk_X4, rfl, rfl⟩
theorem fw_X4_6 : mm_Fw 4 6 TX4 12 .int := ⟨⟨tyX4, tyX4_ok⟩, nmX4, rfl, by decide +kernel⟩
theorem lk_X4_50 : Cond.fieldLink RX4 50 "LastServed$Ones" "cost" "I" ∈ mm_ws := (mt_2 88 rfl rfl)
theorem ff_X4_7 : mm_F 4 7 0 RX4 TX4 12 := ⟨rfl, by decide, fk_X4, rfl, rfl⟩
theorem fw_X4_7 : mm_Fw 4 7 TX4 12 .int := ⟨⟨tyX4, tyX4_ok⟩, nmX4, rfl, by decide +kernel⟩
theorem cv_X9_bow : mm_V yX9_bow cX9_bow 1 (some .int) 0 := ⟨(mt_4 33 rfl rfl), (mt_4 31 rfl rfl), (mt_4 32 rfl rfl), (mt_1 4 rfl rfl), by decide, by decide, by decide +kernel⟩
theorem ml_X4_53 : Cond.methodLink RX4 53 yX9_bow ∈ mm_ws := (mt_5 73 rfl rfl)
theorem lk_X4_57 : Cond.fieldLink RX4 57 "LastServed$Ones" "bowCost" "I" ∈ mm_ws := (mt_2 89 rfl rfl)
theorem ff_X4_8 : mm_F 4 8 0 RX4 TX4 12 := ⟨rfl, by decide, fk_X4, rfl, rfl⟩
theorem fw_X4_8 : mm_Fw 4 8 TX4 12 .int := ⟨⟨tyX4, tyX4_ok⟩, nmX4, rfl, by decide +kernel⟩
theorem cv_X9_fee : mm_V yX9_fee cX9_fee 1 (some .int) 0 := ⟨(mt_4 1 rfl rfl), (mt_3 239 rfl rfl), (mt_4 0 rfl rfl), (mt_1 4 rfl rfl), by decide, by decide, by decide +kernel⟩
theorem ml_X4_60 : Cond.methodLink RX4 60 yX9_fee ∈ mm_ws := (mt_5 74 rfl rfl)
theorem lk_X4_63 : Cond.fieldLink RX4 63 "LastServed$Ones" "turnCost" "I" ∈ mm_ws := (mt_2 90 rfl rfl)
theorem ff_X4_9 : mm_F 4 9 0 RX4 TX4 12 := ⟨rfl, by decide, fk_X4, rfl, rfl⟩
theorem fw_X4_9 : mm_Fw 4 9 TX4 12 .int := ⟨⟨tyX4, tyX4_ok⟩, nmX4, rfl, by decide +kernel⟩
theorem lk_X4_66 : Cond.fieldLink RX4 66 "LastServed$Ones" "q" "I" ∈ mm_ws := (mt_2 91 rfl rfl)
theorem ff_X4_10 : mm_F 4 10 0 RX4 TX4 12 := ⟨rfl, by decide, fk_X4, rfl, rfl⟩
theorem fw_X4_10 : mm_Fw 4 10 TX4 12 .int := ⟨⟨tyX4, tyX4_ok⟩, nmX4, rfl, by decide +kernel⟩
theorem lk_X4_69 : Cond.fieldLink RX4 69 "LastServed$Ones" "t" "I" ∈ mm_ws := (mt_2 92 rfl rfl)
theorem ff_X4_11 : mm_F 4 11 0 RX4 TX4 12 := ⟨rfl, by decide, fk_X4, rfl, rfl⟩
theorem fw_X4_11 : mm_Fw 4 11 TX4 12 .int := ⟨⟨tyX4, tyX4_ok⟩, nmX4, rfl, by decide +kernel⟩
theorem lk_X4_15 : Cond.fieldLink RX4 15 "LastServed$Ones" "now" "[I" ∈ mm_ws := (mt_2 82 rfl rfl)
theorem ff_X4_1 : mm_F 4 1 1 RX4 TX4 12 := ⟨rfl, by decide, fk_X4, rfl, rfl⟩
theorem ro_X4_1 {i : Nat} (h : mm_ok i 14 0) : mm_ok (mm_rt i 1) 0 169 := by
  have q : ∀ i, i < mm_N → mm_kd i = 14 → mm_rt i 1 < mm_N ∧ mm_kd (mm_rt i 1) = 0 ∧ mm_ln (mm_rt i 1) = 169 := by decide +kernel
  exact q i h.1 h.2.1
theorem cs_J7_fill_53178 : mm_S yJ7_fill_53178 cJ7_fill_53178 4 none 2 := ⟨(mt_3 140 rfl rfl), (mt_3 139 rfl rfl), (mt_1 18 rfl rfl), by decide, by decide, by decide +kernel⟩
theorem ml_X4_72 : Cond.methodLink RX4 72 yJ7_fill_53178 ∈ mm_ws := (mt_5 75 rfl rfl)
theorem lk_X4_18 : Cond.fieldLink RX4 18 "LastServed$Ones" "staying" "[I" ∈ mm_ws := (mt_2 83 rfl rfl)
theorem ff_X4_2 : mm_F 4 2 1 RX4 TX4 12 := ⟨rfl, by decide, fk_X4, rfl, rfl⟩
theorem ro_X4_2 {i : Nat} (h : mm_ok i 14 0) : mm_ok (mm_rt i 2) 0 169 := by
  have q : ∀ i, i < mm_N → mm_kd i = 14 → mm_rt i 2 < mm_N ∧ mm_kd (mm_rt i 2) = 0 ∧ mm_ln (mm_rt i 2) = 169 := by decide +kernel
  exact q i h.1 h.2.1
def wp_X4_begin (this : Nat) (a1 : Nat) (a2 : Int) (a3 : Int) (a4 : Int) (s0 : mm_M) (post : Int → mm_M → Prop) : Prop :=
  (wp_X9_hasSort a1 a2 s0 (fun r_2 s_1 => ((n32 r_2 = 0 → post 0 s_1) ∧ (¬ n32 r_2 = 0 → (wp_X9_hasCounter a1 a3 s_1 (fun r_4 s_3 => ((n32 r_4 = 0 → post 0 s_3) ∧ (¬ n32 r_4 = 0 → ((n32 a4 < 0 → post 0 s_3) ∧ (¬ n32 a4 < 0 → ((n32 a4 ≤ 16 → (wp_X9_ofCounter a1 a3 0 s_3 (fun r_6 s_5 => (∀ s_7 : mm_M, s_7 = mm_up s_5 this 4 r_6 → ((n32 (s_7 this 4) < 4 → (wp_X9_ofCounter a1 a3 1 s_7 (fun r_9 s_8 => (∀ s_10 : mm_M, s_10 = mm_up s_8 this 5 r_9 → (wp_X9_ofSort a1 a2 1 s_10 (fun r_12 s_11 => (∀ s_13 : mm_M, s_13 = mm_up s_11 this 6 (1000 * r_12) → (wp_X9_ofSort a1 a2 3 s_13 (fun r_15 s_14 => (∀ s_16 : mm_M, s_16 = mm_up s_14 this 7 (1000 * r_15) → (wp_X9_bow a1 s_16 (fun r_18 s_17 => (wp_X9_ofSort a1 a2 4 s_17 (fun r_20 s_19 => (∀ s_21 : mm_M, s_21 = mm_up s_19 this 8 ((1000 * r_18) * r_20) → (wp_X9_fee a1 s_21 (fun r_23 s_22 => (∀ s_24 : mm_M, s_24 = mm_up s_22 this 9 ((1000 * r_23) + (s_22 this 8)) → (∀ s_25 : mm_M, s_25 = mm_up s_24 this 10 a4 → (∀ s_26 : mm_M, s_26 = mm_up s_25 this 11 0 → (wp_J7_fill_53178 (mm_rt this 1) 169 0 s_26 (fun s_27 => (wp_J7_fill_53178 (mm_rt this 2) 169 0 s_27 (fun s_29 => post 1 s_29)))))))))))))))))))))))) ∧ (¬ n32 (s_7 this 4) < 4 → post 0 s_7)))))) ∧ (¬ n32 a4 ≤ 16 → post 0 s_3))))))))))))
set_option maxRecDepth 100000 in
set_option maxHeartbeats 4000000 in
theorem c_X4_begin (l : Launch) (G : mm_G) (this : Nat) (a1 : Nat) (a2 : Int) (a3 : Int) (a4 : Int) (h0 : mm_ok this 14 0) (h1 : mm_ok a1 19 0) (s0 : mm_M) (post : Int → mm_M → Prop) (hw : wp_X4_begin this a1 a2 a3 a4 s0 post) : Met l yX4_begin (mm_wm yX4_begin cX4_begin 5 (some .boolean)) (mm_rm 3) (va_Pc [.ref (mm_ad G this), .ref (mm_ad G a1), .int (mm_I a2), .int (mm_I a3), .int (mm_I a4)] (mm_pre G s0)) (mm_Qi G post) 0 0 (mm_A G) := by
  refine mm_met (own := RX4) (by decide) rfl (Nat.le_of_ble_eq_true rfl) ?_
  intro p e s m args below meth c C hr hk
  unfold wp_X4_begin at hw
  intro H locs ls w hl
  have hl : lv_has ls 5 [(0, .ref (mm_ad G this)), (1, .ref (mm_ad G a1)), (2, .int (mm_I a2)), (3, .int (mm_I a3)), (4, .int (mm_I a4))] := hl
  refine lv_aload_n (pc := 0) C.1 C.2.1 dX4_begin_0 rfl (lv_at hl 1 rfl) ?_
  refine lv_iload_n (pc := 1) C.1 C.2.1 dX4_begin_1 rfl (lv_at hl 2 rfl) ?_
  refine g_calli (pc := 2) w (mm_runV (ci := 9) (q := (RX9, TX9, 9)) (As := [.int (mm_I a2)]) (rest := []) C w (c_X9_hasSort l G a1 a2 h1 s0 _ hw) h1 rfl rfl cv_X9_hasSort ml_X4_24 ⟨Nat.le_of_ble_eq_true rfl, Nat.le_of_ble_eq_true rfl⟩ ⟨Nat.le_of_ble_eq_true rfl, Nat.le_of_ble_eq_true rfl⟩ rfl hl.1 rfl (Nat.le_of_ble_eq_true rfl) dX4_begin_2) (fun r_2 s_1 H locs hw w => ?_)
  refine g_if_eq (pc := 5) (tgt := 28) C rfl dX4_begin_5 (by decide) (fun hc => ?_) (fun hc => ?_)
  · have hw := hw.1 hc
    refine lv_iconst (pc := 28) (v := mm_I 0) C.1 C.2.1 dX4_begin_28 rfl ?_
    exact g_zret (pc := 29) C w hr hk (by decide) hw dX4_begin_29
  · have hw := hw.2 hc
    refine lv_aload_n (pc := 8) C.1 C.2.1 dX4_begin_8 rfl (lv_at hl 1 rfl) ?_
    refine lv_iload_n (pc := 9) C.1 C.2.1 dX4_begin_9 rfl (lv_at hl 3 rfl) ?_
    refine g_calli (pc := 10) w (mm_runV (ci := 9) (q := (RX9, TX9, 9)) (As := [.int (mm_I a3)]) (rest := []) C w (c_X9_hasCounter l G a1 a3 h1 s_1 _ hw) h1 rfl rfl cv_X9_hasCounter ml_X4_30 ⟨Nat.le_of_ble_eq_true rfl, Nat.le_of_ble_eq_true rfl⟩ ⟨Nat.le_of_ble_eq_true rfl, Nat.le_of_ble_eq_true rfl⟩ rfl hl.1 rfl (Nat.le_of_ble_eq_true rfl) dX4_begin_10) (fun r_4 s_3 H locs hw w => ?_)
    refine g_if_eq (pc := 13) (tgt := 28) C rfl dX4_begin_13 (by decide) (fun hc => ?_) (fun hc => ?_)
    · have hw := hw.1 hc
      refine lv_iconst (pc := 28) (v := mm_I 0) C.1 C.2.1 dX4_begin_28 rfl ?_
      exact g_zret (pc := 29) C w hr hk (by decide) hw dX4_begin_29
    · have hw := hw.2 hc
      refine lv_iload (pc := 16) C.1 C.2.1 dX4_begin_16 (lv_at hl 4 rfl) ?_
      refine g_if_lt (pc := 18) (tgt := 28) C rfl dX4_begin_18 (by decide) (fun hc => ?_) (fun hc => ?_)
      · have hw := hw.1 hc
        refine lv_iconst (pc := 28) (v := mm_I 0) C.1 C.2.1 dX4_begin_28 rfl ?_
        exact g_zret (pc := 29) C w hr hk (by decide) hw dX4_begin_29
      · have hw := hw.2 hc
        refine lv_iload (pc := 21) C.1 C.2.1 dX4_begin_21 (lv_at hl 4 rfl) ?_
        refine lv_bipush (pc := 23) C.1 C.2.1 dX4_begin_23 mb_16 ?_
        refine g_icmp_le (pc := 25) (tgt := 30) C rfl mn_16 dX4_begin_25 (by decide) (fun hc => ?_) (fun hc => ?_)
        · have hw := hw.1 hc
          refine lv_aload_n (pc := 30) C.1 C.2.1 dX4_begin_30 rfl (lv_at hl 0 rfl) ?_
          refine lv_aload_n (pc := 31) C.1 C.2.1 dX4_begin_31 rfl (lv_at hl 1 rfl) ?_
          refine lv_iload_n (pc := 32) C.1 C.2.1 dX4_begin_32 rfl (lv_at hl 3 rfl) ?_
          refine lv_iconst (pc := 33) (v := mm_I 0) C.1 C.2.1 dX4_begin_33 rfl ?_
          refine g_calli (pc := 34) w (mm_runV (ci := 9) (q := (RX9, TX9, 9)) (As := [.int (mm_I a3), .int (mm_I 0)]) (rest := [.ref (mm_ad G this)]) C w (c_X9_ofCounter l G a1 a3 0 h1 s_3 _ hw) h1 rfl rfl cv_X9_ofCounter ml_X4_33 ⟨Nat.le_of_ble_eq_true rfl, Nat.le_of_ble_eq_true rfl⟩ ⟨Nat.le_of_ble_eq_true rfl, Nat.le_of_ble_eq_true rfl⟩ rfl hl.1 rfl (Nat.le_of_ble_eq_true rfl) dX4_begin_34) (fun r_6 s_5 H locs hw w => ?_)
          refine g_puti (pc := 37) C w h0 ff_X4_4 fw_X4_4 lk_X4_37 dX4_begin_37 (fun s_7 H locs es_7 w => ?_)
          have hw := hw s_7 es_7
          refine lv_aload_n (pc := 40) C.1 C.2.1 dX4_begin_40 rfl (lv_at hl 0 rfl) ?_
          refine g_geti (pc := 41) C w h0 ff_X4_4 lk_X4_37 dX4_begin_41 ?_
          refine lv_iconst (pc := 44) (v := mm_I 4) C.1 C.2.1 dX4_begin_44 rfl ?_
          refine g_icmp_lt (pc := 45) (tgt := 50) C rfl mn_4 dX4_begin_45 (by decide) (fun hc => ?_) (fun hc => ?_)
          · have hw := hw.1 hc
            refine lv_aload_n (pc := 50) C.1 C.2.1 dX4_begin_50 rfl (lv_at hl 0 rfl) ?_
            refine lv_aload_n (pc := 51) C.1 C.2.1 dX4_begin_51 rfl (lv_at hl 1 rfl) ?_
            refine lv_iload_n (pc := 52) C.1 C.2.1 dX4_begin_52 rfl (lv_at hl 3 rfl) ?_
            refine lv_iconst (pc := 53) (v := mm_I 1) C.1 C.2.1 dX4_begin_53 rfl ?_
            refine g_calli (pc := 54) w (mm_runV (ci := 9) (q := (RX9, TX9, 9)) (As := [.int (mm_I a3), .int (mm_I 1)]) (rest := [.ref (mm_ad G this)]) C w (c_X9_ofCounter l G a1 a3 1 h1 s_7 _ hw) h1 rfl rfl cv_X9_ofCounter ml_X4_33 ⟨Nat.le_of_ble_eq_true rfl, Nat.le_of_ble_eq_true rfl⟩ ⟨Nat.le_of_ble_eq_true rfl, Nat.le_of_ble_eq_true rfl⟩ rfl hl.1 rfl (Nat.le_of_ble_eq_true rfl) dX4_begin_54) (fun r_9 s_8 H locs hw w => ?_)
            refine g_puti (pc := 57) C w h0 ff_X4_5 fw_X4_5 lk_X4_41 dX4_begin_57 (fun s_10 H locs es_10 w => ?_)
            have hw := hw s_10 es_10
            refine lv_aload_n (pc := 60) C.1 C.2.1 dX4_begin_60 rfl (lv_at hl 0 rfl) ?_
            refine lv_sipush (pc := 61) C.1 C.2.1 dX4_begin_61 ms_1000 ?_
            refine lv_aload_n (pc := 64) C.1 C.2.1 dX4_begin_64 rfl (lv_at hl 1 rfl) ?_
            refine lv_iload_n (pc := 65) C.1 C.2.1 dX4_begin_65 rfl (lv_at hl 2 rfl) ?_
            refine lv_iconst (pc := 66) (v := mm_I 1) C.1 C.2.1 dX4_begin_66 rfl ?_
            refine g_calli (pc := 67) w (mm_runV (ci := 9) (q := (RX9, TX9, 9)) (As := [.int (mm_I a2), .int (mm_I 1)]) (rest := [.int (mm_I 1000), .ref (mm_ad G this)]) C w (c_X9_ofSort l G a1 a2 1 h1 s_10 _ hw) h1 rfl rfl cv_X9_ofSort ml_X4_44 ⟨Nat.le_of_ble_eq_true rfl, Nat.le_of_ble_eq_true rfl⟩ ⟨Nat.le_of_ble_eq_true rfl, Nat.le_of_ble_eq_true rfl⟩ rfl hl.1 rfl (Nat.le_of_ble_eq_true rfl) dX4_begin_67) (fun r_12 s_11 H locs hw w => ?_)
            refine g_imul (pc := 70) C dX4_begin_70 ?_
            refine g_puti (pc := 71) C w h0 ff_X4_6 fw_X4_6 lk_X4_47 dX4_begin_71 (fun s_13 H locs es_13 w => ?_)
            have hw := hw s_13 es_13
            refine lv_aload_n (pc := 74) C.1 C.2.1 dX4_begin_74 rfl (lv_at hl 0 rfl) ?_
            refine lv_sipush (pc := 75) C.1 C.2.1 dX4_begin_75 ms_1000 ?_
            refine lv_aload_n (pc := 78) C.1 C.2.1 dX4_begin_78 rfl (lv_at hl 1 rfl) ?_
            refine lv_iload_n (pc := 79) C.1 C.2.1 dX4_begin_79 rfl (lv_at hl 2 rfl) ?_
            refine lv_iconst (pc := 80) (v := mm_I 3) C.1 C.2.1 dX4_begin_80 rfl ?_
            refine g_calli (pc := 81) w (mm_runV (ci := 9) (q := (RX9, TX9, 9)) (As := [.int (mm_I a2), .int (mm_I 3)]) (rest := [.int (mm_I 1000), .ref (mm_ad G this)]) C w (c_X9_ofSort l G a1 a2 3 h1 s_13 _ hw) h1 rfl rfl cv_X9_ofSort ml_X4_44 ⟨Nat.le_of_ble_eq_true rfl, Nat.le_of_ble_eq_true rfl⟩ ⟨Nat.le_of_ble_eq_true rfl, Nat.le_of_ble_eq_true rfl⟩ rfl hl.1 rfl (Nat.le_of_ble_eq_true rfl) dX4_begin_81) (fun r_15 s_14 H locs hw w => ?_)
            refine g_imul (pc := 84) C dX4_begin_84 ?_
            refine g_puti (pc := 85) C w h0 ff_X4_7 fw_X4_7 lk_X4_50 dX4_begin_85 (fun s_16 H locs es_16 w => ?_)
            have hw := hw s_16 es_16
            refine lv_aload_n (pc := 88) C.1 C.2.1 dX4_begin_88 rfl (lv_at hl 0 rfl) ?_
            refine lv_sipush (pc := 89) C.1 C.2.1 dX4_begin_89 ms_1000 ?_
            refine lv_aload_n (pc := 92) C.1 C.2.1 dX4_begin_92 rfl (lv_at hl 1 rfl) ?_
            refine g_calli (pc := 93) w (mm_runV (ci := 9) (q := (RX9, TX9, 9)) (As := []) (rest := [.int (mm_I 1000), .ref (mm_ad G this)]) C w (c_X9_bow l G a1 h1 s_16 _ hw) h1 rfl rfl cv_X9_bow ml_X4_53 ⟨Nat.le_of_ble_eq_true rfl, Nat.le_of_ble_eq_true rfl⟩ ⟨Nat.le_of_ble_eq_true rfl, Nat.le_of_ble_eq_true rfl⟩ rfl hl.1 rfl (Nat.le_of_ble_eq_true rfl) dX4_begin_93) (fun r_18 s_17 H locs hw w => ?_)
            refine g_imul (pc := 96) C dX4_begin_96 ?_
            refine lv_aload_n (pc := 97) C.1 C.2.1 dX4_begin_97 rfl (lv_at hl 1 rfl) ?_
            refine lv_iload_n (pc := 98) C.1 C.2.1 dX4_begin_98 rfl (lv_at hl 2 rfl) ?_
            refine lv_iconst (pc := 99) (v := mm_I 4) C.1 C.2.1 dX4_begin_99 rfl ?_
            refine g_calli (pc := 100) w (mm_runV (ci := 9) (q := (RX9, TX9, 9)) (As := [.int (mm_I a2), .int (mm_I 4)]) (rest := [.int (mm_I (1000 * r_18)), .ref (mm_ad G this)]) C w (c_X9_ofSort l G a1 a2 4 h1 s_17 _ hw) h1 rfl rfl cv_X9_ofSort ml_X4_44 ⟨Nat.le_of_ble_eq_true rfl, Nat.le_of_ble_eq_true rfl⟩ ⟨Nat.le_of_ble_eq_true rfl, Nat.le_of_ble_eq_true rfl⟩ rfl hl.1 rfl (Nat.le_of_ble_eq_true rfl) dX4_begin_100) (fun r_20 s_19 H locs hw w => ?_)
            refine g_imul (pc := 103) C dX4_begin_103 ?_
            refine g_puti (pc := 104) C w h0 ff_X4_8 fw_X4_8 lk_X4_57 dX4_begin_104 (fun s_21 H locs es_21 w => ?_)
            have hw := hw s_21 es_21
            refine lv_aload_n (pc := 107) C.1 C.2.1 dX4_begin_107 rfl (lv_at hl 0 rfl) ?_
            refine lv_sipush (pc := 108) C.1 C.2.1 dX4_begin_108 ms_1000 ?_
            refine lv_aload_n (pc := 111) C.1 C.2.1 dX4_begin_111 rfl (lv_at hl 1 rfl) ?_
            refine g_calli (pc := 112) w (mm_runV (ci := 9) (q := (RX9, TX9, 9)) (As := []) (rest := [.int (mm_I 1000), .ref (mm_ad G this)]) C w (c_X9_fee l G a1 h1 s_21 _ hw) h1 rfl rfl cv_X9_fee ml_X4_60 ⟨Nat.le_of_ble_eq_true rfl, Nat.le_of_ble_eq_true rfl⟩ ⟨Nat.le_of_ble_eq_true rfl, Nat.le_of_ble_eq_true rfl⟩ rfl hl.1 rfl (Nat.le_of_ble_eq_true rfl) dX4_begin_112) (fun r_23 s_22 H locs hw w => ?_)
            refine g_imul (pc := 115) C dX4_begin_115 ?_
            refine lv_aload_n (pc := 116) C.1 C.2.1 dX4_begin_116 rfl (lv_at hl 0 rfl) ?_
            refine g_geti (pc := 117) C w h0 ff_X4_8 lk_X4_57 dX4_begin_117 ?_
            refine g_iadd (pc := 120) C dX4_begin_120 ?_
            refine g_puti (pc := 121) C w h0 ff_X4_9 fw_X4_9 lk_X4_63 dX4_begin_121 (fun s_24 H locs es_24 w => ?_)
            have hw := hw s_24 es_24
            refine lv_aload_n (pc := 124) C.1 C.2.1 dX4_begin_124 rfl (lv_at hl 0 rfl) ?_
            refine lv_iload (pc := 125) C.1 C.2.1 dX4_begin_125 (lv_at hl 4 rfl) ?_
            refine g_puti (pc := 127) C w h0 ff_X4_10 fw_X4_10 lk_X4_66 dX4_begin_127 (fun s_25 H locs es_25 w => ?_)
            have hw := hw s_25 es_25
            refine lv_aload_n (pc := 130) C.1 C.2.1 dX4_begin_130 rfl (lv_at hl 0 rfl) ?_
            refine lv_iconst (pc := 131) (v := mm_I 0) C.1 C.2.1 dX4_begin_131 rfl ?_
            refine g_puti (pc := 132) C w h0 ff_X4_11 fw_X4_11 lk_X4_69 dX4_begin_132 (fun s_26 H locs es_26 w => ?_)
            have hw := hw s_26 es_26
            refine lv_aload_n (pc := 135) C.1 C.2.1 dX4_begin_135 rfl (lv_at hl 0 rfl) ?_
            refine g_getr (pc := 136) C w h0 ff_X4_1 lk_X4_15 dX4_begin_136 ?_
            refine lv_iconst (pc := 139) (v := mm_I 0) C.1 C.2.1 dX4_begin_139 rfl ?_
            refine g_callv (pc := 140) w (mm_runS (As := [.ref (mm_ad G (mm_rt this 1)), .int (mm_I 0)]) (rest := []) C w (c_J7_fill_53178 l G (mm_rt this 1) 169 0 (ro_X4_1 h0) s_26 _ hw) cs_J7_fill_53178 ml_X4_72 ⟨Nat.le_of_ble_eq_true rfl, Nat.le_of_ble_eq_true rfl⟩ ⟨Nat.le_of_ble_eq_true rfl, Nat.le_of_ble_eq_true rfl⟩ rfl hl.1 rfl (Nat.le_of_ble_eq_true rfl) dX4_begin_140) (fun s_27 H locs hw w => ?_)
            refine lv_aload_n (pc := 143) C.1 C.2.1 dX4_begin_143 rfl (lv_at hl 0 rfl) ?_
            refine g_getr (pc := 144) C w h0 ff_X4_2 lk_X4_18 dX4_begin_144 ?_
            refine lv_iconst (pc := 147) (v := mm_I 0) C.1 C.2.1 dX4_begin_147 rfl ?_
            refine g_callv (pc := 148) w (mm_runS (As := [.ref (mm_ad G (mm_rt this 2)), .int (mm_I 0)]) (rest := []) C w (c_J7_fill_53178 l G (mm_rt this 2) 169 0 (ro_X4_2 h0) s_27 _ hw) cs_J7_fill_53178 ml_X4_72 ⟨Nat.le_of_ble_eq_true rfl, Nat.le_of_ble_eq_true rfl⟩ ⟨Nat.le_of_ble_eq_true rfl, Nat.le_of_ble_eq_true rfl⟩ rfl hl.1 rfl (Nat.le_of_ble_eq_true rfl) dX4_begin_148) (fun s_29 H locs hw w => ?_)
            refine lv_iconst (pc := 151) (v := mm_I 1) C.1 C.2.1 dX4_begin_151 rfl ?_
            exact g_zret (pc := 152) C w hr hk (by decide) hw dX4_begin_152
          · have hw := hw.2 hc
            refine lv_iconst (pc := 48) (v := mm_I 0) C.1 C.2.1 dX4_begin_48 rfl ?_
            exact g_zret (pc := 49) C w hr hk (by decide) hw dX4_begin_49
        · have hw := hw.2 hc
          refine lv_iconst (pc := 28) (v := mm_I 0) C.1 C.2.1 dX4_begin_28 rfl ?_
          exact g_zret (pc := 29) C w hr hk (by decide) hw dX4_begin_29
theorem mb_12 : (Int8.ofInt 12).toInt32 = mm_I 12 := by decide
theorem mn_12 : n32 12 = 12 := by decide
theorem mb_13 : (Int8.ofInt 13).toInt32 = mm_I 13 := by decide
def wp_X4_indexOf (a1 : Int) (a2 : Int) (s0 : mm_M) (post : Int → mm_M → Prop) : Prop :=
  ∀ (L21 : Int → mm_M → Prop), 
  (∀ (q0 : Int) (s1 : mm_M), (∀ v2_1 : Int, v2_1 = q0 → ((n32 v2_1 = 0 → post 0 s1) ∧ (¬ n32 v2_1 = 0 → post ((a1 * 13) + a2) s1))) → L21 q0 s1) →
  ((n32 a1 < 0 → L21 0 s0) ∧ (¬ n32 a1 < 0 → ((n32 a2 < 0 → L21 0 s0) ∧ (¬ n32 a2 < 0 → ((12 < n32 (a1 + a2) → L21 0 s0) ∧ (¬ 12 < n32 (a1 + a2) → L21 1 s0))))))
set_option maxRecDepth 100000 in
set_option maxHeartbeats 4000000 in
theorem c_X4_indexOf (l : Launch) (G : mm_G) (a1 : Int) (a2 : Int)  (s0 : mm_M) (post : Int → mm_M → Prop) (hw : wp_X4_indexOf a1 a2 s0 post) : Met l yX4_indexOf (mm_wm yX4_indexOf cX4_indexOf 3 (some .int)) (mm_rm 1) (va_Pc [.int (mm_I a1), .int (mm_I a2)] (mm_pre G s0)) (mm_Qi G post) 0 0 (mm_A G) := by
  refine mm_met (own := RX4) (by decide) rfl (Nat.le_of_ble_eq_true rfl) ?_
  intro p e s m args below meth c C hr hk
  unfold wp_X4_indexOf at hw
  have hw := hw (fun (q0 : Int) (u : mm_M) => mm_X p l e (mm_rm 1) s m args below meth c (MQ below (mm_Qi G post) args s 0 0 (mm_A G)) G (mm_A G) 3 21 [(0, .int (mm_I a1)), (1, .int (mm_I a2))] [.int (mm_I q0)] u)
  have hw := hw (by
    intro q0 s1 hw  H locs ls w hl
    refine g_istore_n (pc := 21) C dX4_indexOf_21 rfl hl (by decide) (fun v2_1 ev2_1 ls hl => ?_)
    have hw := hw v2_1 ev2_1
    have hl : lv_has ls 3 [(2, .int (mm_I v2_1)), (0, .int (mm_I a1)), (1, .int (mm_I a2))] := hl
    refine lv_iload_n (pc := 22) C.1 C.2.1 dX4_indexOf_22 rfl (lv_at hl 0 rfl) ?_
    refine g_if_eq (pc := 23) (tgt := 35) C rfl dX4_indexOf_23 (by decide) (fun hc => ?_) (fun hc => ?_)
    · have hw := hw.1 hc
      refine lv_iconst (pc := 35) (v := mm_I 0) C.1 C.2.1 dX4_indexOf_35 rfl ?_
      exact g_iret (pc := 36) C w hr hk hw dX4_indexOf_36
    · have hw := hw.2 hc
      refine lv_iload_n (pc := 26) C.1 C.2.1 dX4_indexOf_26 rfl (lv_at hl 1 rfl) ?_
      refine lv_bipush (pc := 27) C.1 C.2.1 dX4_indexOf_27 mb_13 ?_
      refine g_imul (pc := 29) C dX4_indexOf_29 ?_
      refine lv_iload_n (pc := 30) C.1 C.2.1 dX4_indexOf_30 rfl (lv_at hl 2 rfl) ?_
      refine g_iadd (pc := 31) C dX4_indexOf_31 ?_
      refine lv_goto (pc := 32) (tgt := 36) C.1 C.2.1 dX4_indexOf_32 (by decide) ?_
      exact g_iret (pc := 36) C w hr hk hw dX4_indexOf_36)
  intro H locs ls w hl
  have hl : lv_has ls 3 [(0, .int (mm_I a1)), (1, .int (mm_I a2))] := hl
  refine lv_iload_n (pc := 0) C.1 C.2.1 dX4_indexOf_0 rfl (lv_at hl 0 rfl) ?_
  refine g_if_lt (pc := 1) (tgt := 20) C rfl dX4_indexOf_1 (by decide) (fun hc => ?_) (fun hc => ?_)
  · have hw := hw.1 hc
    refine lv_iconst (pc := 20) (v := mm_I 0) C.1 C.2.1 dX4_indexOf_20 rfl ?_
    exact hw  _ _ _ w (lv_sub hl [0, 1] rfl)
  · have hw := hw.2 hc
    refine lv_iload_n (pc := 4) C.1 C.2.1 dX4_indexOf_4 rfl (lv_at hl 1 rfl) ?_
    refine g_if_lt (pc := 5) (tgt := 20) C rfl dX4_indexOf_5 (by decide) (fun hc => ?_) (fun hc => ?_)
    · have hw := hw.1 hc
      refine lv_iconst (pc := 20) (v := mm_I 0) C.1 C.2.1 dX4_indexOf_20 rfl ?_
      exact hw  _ _ _ w (lv_sub hl [0, 1] rfl)
    · have hw := hw.2 hc
      refine lv_iload_n (pc := 8) C.1 C.2.1 dX4_indexOf_8 rfl (lv_at hl 0 rfl) ?_
      refine lv_iload_n (pc := 9) C.1 C.2.1 dX4_indexOf_9 rfl (lv_at hl 1 rfl) ?_
      refine g_iadd (pc := 10) C dX4_indexOf_10 ?_
      refine lv_bipush (pc := 11) C.1 C.2.1 dX4_indexOf_11 mb_12 ?_
      refine g_icmp_gt (pc := 13) (tgt := 20) C rfl mn_12 dX4_indexOf_13 (by decide) (fun hc => ?_) (fun hc => ?_)
      · have hw := hw.1 hc
        refine lv_iconst (pc := 20) (v := mm_I 0) C.1 C.2.1 dX4_indexOf_20 rfl ?_
        exact hw  _ _ _ w (lv_sub hl [0, 1] rfl)
      · have hw := hw.2 hc
        refine lv_iconst (pc := 16) (v := mm_I 1) C.1 C.2.1 dX4_indexOf_16 rfl ?_
        refine lv_goto (pc := 17) (tgt := 21) C.1 C.2.1 dX4_indexOf_17 (by decide) ?_
        exact hw  _ _ _ w (lv_sub hl [0, 1] rfl)
theorem lk_X4_11 : Cond.fieldLink RX4 11 "LastServed$Ones" "before" "[I" ∈ mm_ws := (mt_2 81 rfl rfl)
theorem ff_X4_0 : mm_F 4 0 1 RX4 TX4 12 := ⟨rfl, by decide, fk_X4, rfl, rfl⟩
theorem ro_X4_0 {i : Nat} (h : mm_ok i 14 0) : mm_ok (mm_rt i 0) 0 169 := by
  have q : ∀ i, i < mm_N → mm_kd i = 14 → mm_rt i 0 < mm_N ∧ mm_kd (mm_rt i 0) = 0 ∧ mm_ln (mm_rt i 0) = 169 := by decide +kernel
  exact q i h.1 h.2.1
theorem cs_X4_indexOf : mm_S yX4_indexOf cX4_indexOf 3 (some .int) 2 := ⟨(mt_5 95 rfl rfl), (mt_5 94 rfl rfl), (mt_1 11 rfl rfl), by decide, by decide, by decide +kernel⟩
theorem ml_X4_84 : Cond.methodLink RX4 84 yX4_indexOf ∈ mm_ws := (mt_5 93 rfl rfl)
def wp_X4_follows (this : Nat) (a1 : Int) (a2 : Int) (s0 : mm_M) (post : Int → mm_M → Prop) : Prop :=
  ((n32 a1 < 0 → post 0 s0) ∧ (¬ n32 a1 < 0 → ((0 ≤ n32 a2 → (wp_X4_indexOf a1 a2 s0 (fun r_2 s_1 => ((0 ≤ r_2 ∧ r_2 < 169) ∧ (∀ v3_3 : Int, v3_3 = s_1 (mm_rt this 0) r_2 → ((n32 (a1 + a2) < 12 → (wp_X4_indexOf a1 (a2 + 1) s_1 (fun r_5 s_4 => ((0 ≤ r_5 ∧ r_5 < 169) ∧ post (Int.tdiv (n32 (((s_1 this 10) * (s_4 (mm_rt this 0) r_5)) + ((16 - (s_4 this 10)) * v3_3))) 16) s_4)))) ∧ (¬ n32 (a1 + a2) < 12 → post v3_3 s_1))))))) ∧ (¬ 0 ≤ n32 a2 → post 0 s0))))
set_option maxRecDepth 100000 in
set_option maxHeartbeats 4000000 in
theorem c_X4_follows (l : Launch) (G : mm_G) (this : Nat) (a1 : Int) (a2 : Int) (h0 : mm_ok this 14 0) (s0 : mm_M) (post : Int → mm_M → Prop) (hw : wp_X4_follows this a1 a2 s0 post) : Met l yX4_follows (mm_wm yX4_follows cX4_follows 4 (some .int)) (mm_rm 2) (va_Pc [.ref (mm_ad G this), .int (mm_I a1), .int (mm_I a2)] (mm_pre G s0)) (mm_Qi G post) 0 0 (mm_A G) := by
  refine mm_met (own := RX4) (by decide) rfl (Nat.le_of_ble_eq_true rfl) ?_
  intro p e s m args below meth c C hr hk
  unfold wp_X4_follows at hw
  intro H locs ls w hl
  have hl : lv_has ls 4 [(0, .ref (mm_ad G this)), (1, .int (mm_I a1)), (2, .int (mm_I a2))] := hl
  refine lv_iload_n (pc := 0) C.1 C.2.1 dX4_follows_0 rfl (lv_at hl 1 rfl) ?_
  refine g_if_lt (pc := 1) (tgt := 8) C rfl dX4_follows_1 (by decide) (fun hc => ?_) (fun hc => ?_)
  · have hw := hw.1 hc
    refine lv_iconst (pc := 8) (v := mm_I 0) C.1 C.2.1 dX4_follows_8 rfl ?_
    exact g_iret (pc := 9) C w hr hk hw dX4_follows_9
  · have hw := hw.2 hc
    refine lv_iload_n (pc := 4) C.1 C.2.1 dX4_follows_4 rfl (lv_at hl 2 rfl) ?_
    refine g_if_ge (pc := 5) (tgt := 10) C rfl dX4_follows_5 (by decide) (fun hc => ?_) (fun hc => ?_)
    · have hw := hw.1 hc
      refine lv_aload_n (pc := 10) C.1 C.2.1 dX4_follows_10 rfl (lv_at hl 0 rfl) ?_
      refine g_getr (pc := 11) C w h0 ff_X4_0 lk_X4_11 dX4_follows_11 ?_
      refine lv_iload_n (pc := 14) C.1 C.2.1 dX4_follows_14 rfl (lv_at hl 1 rfl) ?_
      refine lv_iload_n (pc := 15) C.1 C.2.1 dX4_follows_15 rfl (lv_at hl 2 rfl) ?_
      refine g_calli (pc := 16) w (mm_runS (As := [.int (mm_I a1), .int (mm_I a2)]) (rest := [.ref (mm_ad G (mm_rt this 0))]) C w (c_X4_indexOf l G a1 a2  s0 _ hw) cs_X4_indexOf ml_X4_84 ⟨Nat.le_of_ble_eq_true rfl, Nat.le_of_ble_eq_true rfl⟩ ⟨Nat.le_of_ble_eq_true rfl, Nat.le_of_ble_eq_true rfl⟩ rfl hl.1 rfl (Nat.le_of_ble_eq_true rfl) dX4_follows_16) (fun r_2 s_1 H locs hw w => ?_)
      obtain ⟨hi, hw⟩ := hw
      refine g_iald (pc := 19) C w (ro_X4_0 h0) hi dX4_follows_19 ?_
      refine g_istore_n (pc := 20) C dX4_follows_20 rfl hl (by decide) (fun v3_3 ev3_3 ls hl => ?_)
      have hw := hw v3_3 ev3_3
      have hl : lv_has ls 4 [(3, .int (mm_I v3_3)), (0, .ref (mm_ad G this)), (1, .int (mm_I a1)), (2, .int (mm_I a2))] := hl
      refine lv_iload_n (pc := 21) C.1 C.2.1 dX4_follows_21 rfl (lv_at hl 2 rfl) ?_
      refine lv_iload_n (pc := 22) C.1 C.2.1 dX4_follows_22 rfl (lv_at hl 3 rfl) ?_
      refine g_iadd (pc := 23) C dX4_follows_23 ?_
      refine lv_bipush (pc := 24) C.1 C.2.1 dX4_follows_24 mb_12 ?_
      refine g_icmp_lt (pc := 26) (tgt := 31) C rfl mn_12 dX4_follows_26 (by decide) (fun hc => ?_) (fun hc => ?_)
      · have hw := hw.1 hc
        refine lv_aload_n (pc := 31) C.1 C.2.1 dX4_follows_31 rfl (lv_at hl 1 rfl) ?_
        refine g_geti (pc := 32) C w h0 ff_X4_10 lk_X4_66 dX4_follows_32 ?_
        refine lv_aload_n (pc := 35) C.1 C.2.1 dX4_follows_35 rfl (lv_at hl 1 rfl) ?_
        refine g_getr (pc := 36) C w h0 ff_X4_0 lk_X4_11 dX4_follows_36 ?_
        refine lv_iload_n (pc := 39) C.1 C.2.1 dX4_follows_39 rfl (lv_at hl 2 rfl) ?_
        refine lv_iload_n (pc := 40) C.1 C.2.1 dX4_follows_40 rfl (lv_at hl 3 rfl) ?_
        refine lv_iconst (pc := 41) (v := mm_I 1) C.1 C.2.1 dX4_follows_41 rfl ?_
        refine g_iadd (pc := 42) C dX4_follows_42 ?_
        refine g_calli (pc := 43) w (mm_runS (As := [.int (mm_I a1), .int (mm_I (a2 + 1))]) (rest := [.ref (mm_ad G (mm_rt this 0)), .int (mm_I (s_1 this 10))]) C w (c_X4_indexOf l G a1 (a2 + 1)  s_1 _ hw) cs_X4_indexOf ml_X4_84 ⟨Nat.le_of_ble_eq_true rfl, Nat.le_of_ble_eq_true rfl⟩ ⟨Nat.le_of_ble_eq_true rfl, Nat.le_of_ble_eq_true rfl⟩ rfl hl.1 rfl (Nat.le_of_ble_eq_true rfl) dX4_follows_43) (fun r_5 s_4 H locs hw w => ?_)
        obtain ⟨hi, hw⟩ := hw
        refine g_iald (pc := 46) C w (ro_X4_0 h0) hi dX4_follows_46 ?_
        refine g_imul (pc := 47) C dX4_follows_47 ?_
        refine lv_bipush (pc := 48) C.1 C.2.1 dX4_follows_48 mb_16 ?_
        refine lv_aload_n (pc := 50) C.1 C.2.1 dX4_follows_50 rfl (lv_at hl 1 rfl) ?_
        refine g_geti (pc := 51) C w h0 ff_X4_10 lk_X4_66 dX4_follows_51 ?_
        refine g_isub (pc := 54) C dX4_follows_54 ?_
        refine lv_iload_n (pc := 55) C.1 C.2.1 dX4_follows_55 rfl (lv_at hl 0 rfl) ?_
        refine g_imul (pc := 56) C dX4_follows_56 ?_
        refine g_iadd (pc := 57) C dX4_follows_57 ?_
        refine lv_bipush (pc := 58) C.1 C.2.1 dX4_follows_58 mb_16 ?_
        refine g_idiv (pc := 60) C rfl mn_16 (by decide) dX4_follows_60 ?_
        exact g_iret (pc := 61) C w hr hk hw dX4_follows_61
      · have hw := hw.2 hc
        refine lv_iload_n (pc := 29) C.1 C.2.1 dX4_follows_29 rfl (lv_at hl 0 rfl) ?_
        exact g_iret (pc := 30) C w hr hk hw dX4_follows_30
    · have hw := hw.2 hc
      refine lv_iconst (pc := 8) (v := mm_I 0) C.1 C.2.1 dX4_follows_8 rfl ?_
      exact g_iret (pc := 9) C w hr hk hw dX4_follows_9
theorem ml_X4_110 : Cond.methodLinkNest RX4 110 yX10_placeBy "LastServed" ∈ mm_nest := by decide +kernel
theorem cv_X4_follows : mm_V yX4_follows cX4_follows 4 (some .int) 2 := ⟨(mt_5 92 rfl rfl), (mt_5 91 rfl rfl), (mp_3 8 rfl rfl), (mt_1 11 rfl rfl), by decide, by decide, by decide +kernel⟩
theorem ml_X4_102 : Cond.methodLink RX4 102 yX4_follows ∈ mm_ws := (mt_5 89 rfl rfl)
def wp_X4_served (this : Nat) (a1 : Int) (a2 : Int) (s0 : mm_M) (post : Int → mm_M → Prop) : Prop :=
  (∀ v3_1 : Int, v3_1 = (a1 + a2) + 1 → ((¬ n32 (s0 this 4) = 3 → (wp_X10_placeBy (s0 this 4) v3_1 s0 (fun r_3 s_2 => (∀ v4_4 : Int, v4_4 = r_3 → ((¬ n32 v4_4 = n32 a1 → ((n32 a1 ≤ n32 v4_4 → (wp_X4_follows this a1 (a2 - 1) s_2 (fun r_6 s_5 => post r_6 s_5))) ∧ (¬ n32 a1 ≤ n32 v4_4 → (wp_X4_follows this (a1 - 1) a2 s_2 (fun r_8 s_7 => post r_8 s_7))))) ∧ (n32 v4_4 = n32 a1 → post (s_2 this 6) s_2)))))) ∧ (n32 (s0 this 4) = 3 → (wp_X4_follows this (a1 - 1) a2 s0 (fun r_10 s_9 => (wp_X4_follows this a1 (a2 - 1) s_9 (fun r_12 s_11 => (∀ v4_13 : Int, v4_13 = ((s0 this 6) + (a1 * r_10)) + (a2 * r_12) → ((0 < n32 v3_1 → (n32 v3_1 ≠ 0 ∧ post (Int.tdiv (n32 v4_13) (n32 v3_1)) s_11)) ∧ (¬ 0 < n32 v3_1 → post 0 s_11))))))))))
set_option maxRecDepth 100000 in
set_option maxHeartbeats 4000000 in
theorem c_X4_served (l : Launch) (G : mm_G) (this : Nat) (a1 : Int) (a2 : Int) (h0 : mm_ok this 14 0) (s0 : mm_M) (post : Int → mm_M → Prop) (hw : wp_X4_served this a1 a2 s0 post) : Met l yX4_served (mm_wm yX4_served cX4_served 5 (some .int)) (mm_rm 3) (va_Pc [.ref (mm_ad G this), .int (mm_I a1), .int (mm_I a2)] (mm_pre G s0)) (mm_Qi G post) 0 0 (mm_A G) := by
  refine mm_met (own := RX4) (by decide) rfl (Nat.le_of_ble_eq_true rfl) ?_
  intro p e s m args below meth c C hr hk
  unfold wp_X4_served at hw
  intro H locs ls w hl
  have hl : lv_has ls 5 [(0, .ref (mm_ad G this)), (1, .int (mm_I a1)), (2, .int (mm_I a2))] := hl
  refine lv_iload_n (pc := 0) C.1 C.2.1 dX4_served_0 rfl (lv_at hl 1 rfl) ?_
  refine lv_iload_n (pc := 1) C.1 C.2.1 dX4_served_1 rfl (lv_at hl 2 rfl) ?_
  refine g_iadd (pc := 2) C dX4_served_2 ?_
  refine lv_iconst (pc := 3) (v := mm_I 1) C.1 C.2.1 dX4_served_3 rfl ?_
  refine g_iadd (pc := 4) C dX4_served_4 ?_
  refine g_istore_n (pc := 5) C dX4_served_5 rfl hl (by decide) (fun v3_1 ev3_1 ls hl => ?_)
  have hw := hw v3_1 ev3_1
  have hl : lv_has ls 5 [(3, .int (mm_I v3_1)), (0, .ref (mm_ad G this)), (1, .int (mm_I a1)), (2, .int (mm_I a2))] := hl
  refine lv_aload_n (pc := 6) C.1 C.2.1 dX4_served_6 rfl (lv_at hl 1 rfl) ?_
  refine g_geti (pc := 7) C w h0 ff_X4_4 lk_X4_37 dX4_served_7 ?_
  refine lv_iconst (pc := 10) (v := mm_I 3) C.1 C.2.1 dX4_served_10 rfl ?_
  refine g_icmp_ne (pc := 11) (tgt := 55) C rfl mn_3 dX4_served_11 (by decide) (fun hc => ?_) (fun hc => ?_)
  · have hw := hw.1 hc
    refine lv_aload_n (pc := 55) C.1 C.2.1 dX4_served_55 rfl (lv_at hl 1 rfl) ?_
    refine g_geti (pc := 56) C w h0 ff_X4_4 lk_X4_37 dX4_served_56 ?_
    refine lv_iload_n (pc := 59) C.1 C.2.1 dX4_served_59 rfl (lv_at hl 0 rfl) ?_
    refine g_calli (pc := 60) w (mm_runSN (As := [.int (mm_I (s0 this 4)), .int (mm_I v3_1)]) (rest := []) C w (c_X10_placeBy l G (s0 this 4) v3_1  s0 _ hw) cs_X10_placeBy ml_X4_110 ⟨Nat.le_of_ble_eq_true rfl, Nat.le_of_ble_eq_true rfl⟩ ⟨Nat.le_of_ble_eq_true rfl, Nat.le_of_ble_eq_true rfl⟩ rfl hl.1 rfl (Nat.le_of_ble_eq_true rfl) dX4_served_60) (fun r_3 s_2 H locs hw w => ?_)
    refine g_istore (pc := 63) C dX4_served_63 hl (by decide) (fun v4_4 ev4_4 ls hl => ?_)
    have hw := hw v4_4 ev4_4
    have hl : lv_has ls 5 [(4, .int (mm_I v4_4)), (3, .int (mm_I v3_1)), (0, .ref (mm_ad G this)), (1, .int (mm_I a1)), (2, .int (mm_I a2))] := hl
    refine lv_iload (pc := 65) C.1 C.2.1 dX4_served_65 (lv_at hl 0 rfl) ?_
    refine lv_iload_n (pc := 67) C.1 C.2.1 dX4_served_67 rfl (lv_at hl 3 rfl) ?_
    refine g_icmp_ne (pc := 68) (tgt := 76) C rfl rfl dX4_served_68 (by decide) (fun hc => ?_) (fun hc => ?_)
    · have hw := hw.1 hc
      refine lv_iload (pc := 76) C.1 C.2.1 dX4_served_76 (lv_at hl 0 rfl) ?_
      refine lv_iload_n (pc := 78) C.1 C.2.1 dX4_served_78 rfl (lv_at hl 3 rfl) ?_
      refine g_icmp_ge (pc := 79) (tgt := 93) C rfl rfl dX4_served_79 (by decide) (fun hc => ?_) (fun hc => ?_)
      · have hw := hw.1 hc
        refine lv_aload_n (pc := 93) C.1 C.2.1 dX4_served_93 rfl (lv_at hl 2 rfl) ?_
        refine lv_iload_n (pc := 94) C.1 C.2.1 dX4_served_94 rfl (lv_at hl 3 rfl) ?_
        refine lv_iload_n (pc := 95) C.1 C.2.1 dX4_served_95 rfl (lv_at hl 4 rfl) ?_
        refine lv_iconst (pc := 96) (v := mm_I 1) C.1 C.2.1 dX4_served_96 rfl ?_
        refine g_isub (pc := 97) C dX4_served_97 ?_
        refine g_calli (pc := 98) w (mm_runV (ci := 4) (q := (RX4, TX4, 12)) (As := [.int (mm_I a1), .int (mm_I (a2 - 1))]) (rest := []) C w (c_X4_follows l G this a1 (a2 - 1) h0 s_2 _ hw) h0 rfl rfl cv_X4_follows ml_X4_102 ⟨Nat.le_of_ble_eq_true rfl, Nat.le_of_ble_eq_true rfl⟩ ⟨Nat.le_of_ble_eq_true rfl, Nat.le_of_ble_eq_true rfl⟩ rfl hl.1 rfl (Nat.le_of_ble_eq_true rfl) dX4_served_98) (fun r_6 s_5 H locs hw w => ?_)
        exact g_iret (pc := 101) C w hr hk hw dX4_served_101
      · have hw := hw.2 hc
        refine lv_aload_n (pc := 82) C.1 C.2.1 dX4_served_82 rfl (lv_at hl 2 rfl) ?_
        refine lv_iload_n (pc := 83) C.1 C.2.1 dX4_served_83 rfl (lv_at hl 3 rfl) ?_
        refine lv_iconst (pc := 84) (v := mm_I 1) C.1 C.2.1 dX4_served_84 rfl ?_
        refine g_isub (pc := 85) C dX4_served_85 ?_
        refine lv_iload_n (pc := 86) C.1 C.2.1 dX4_served_86 rfl (lv_at hl 4 rfl) ?_
        refine g_calli (pc := 87) w (mm_runV (ci := 4) (q := (RX4, TX4, 12)) (As := [.int (mm_I (a1 - 1)), .int (mm_I a2)]) (rest := []) C w (c_X4_follows l G this (a1 - 1) a2 h0 s_2 _ hw) h0 rfl rfl cv_X4_follows ml_X4_102 ⟨Nat.le_of_ble_eq_true rfl, Nat.le_of_ble_eq_true rfl⟩ ⟨Nat.le_of_ble_eq_true rfl, Nat.le_of_ble_eq_true rfl⟩ rfl hl.1 rfl (Nat.le_of_ble_eq_true rfl) dX4_served_87) (fun r_8 s_7 H locs hw w => ?_)
        refine lv_goto (pc := 90) (tgt := 101) C.1 C.2.1 dX4_served_90 (by decide) ?_
        exact g_iret (pc := 101) C w hr hk hw dX4_served_101
    · have hw := hw.2 hc
      refine lv_aload_n (pc := 71) C.1 C.2.1 dX4_served_71 rfl (lv_at hl 2 rfl) ?_
      refine g_geti (pc := 72) C w h0 ff_X4_6 lk_X4_47 dX4_served_72 ?_
      exact g_iret (pc := 75) C w hr hk hw dX4_served_75
  · have hw := hw.2 hc
    refine lv_aload_n (pc := 14) C.1 C.2.1 dX4_served_14 rfl (lv_at hl 1 rfl) ?_
    refine g_geti (pc := 15) C w h0 ff_X4_6 lk_X4_47 dX4_served_15 ?_
    refine lv_iload_n (pc := 18) C.1 C.2.1 dX4_served_18 rfl (lv_at hl 2 rfl) ?_
    refine lv_aload_n (pc := 19) C.1 C.2.1 dX4_served_19 rfl (lv_at hl 1 rfl) ?_
    refine lv_iload_n (pc := 20) C.1 C.2.1 dX4_served_20 rfl (lv_at hl 2 rfl) ?_
    refine lv_iconst (pc := 21) (v := mm_I 1) C.1 C.2.1 dX4_served_21 rfl ?_
    refine g_isub (pc := 22) C dX4_served_22 ?_
    refine lv_iload_n (pc := 23) C.1 C.2.1 dX4_served_23 rfl (lv_at hl 3 rfl) ?_
    refine g_calli (pc := 24) w (mm_runV (ci := 4) (q := (RX4, TX4, 12)) (As := [.int (mm_I (a1 - 1)), .int (mm_I a2)]) (rest := [.int (mm_I a1), .int (mm_I (s0 this 6))]) C w (c_X4_follows l G this (a1 - 1) a2 h0 s0 _ hw) h0 rfl rfl cv_X4_follows ml_X4_102 ⟨Nat.le_of_ble_eq_true rfl, Nat.le_of_ble_eq_true rfl⟩ ⟨Nat.le_of_ble_eq_true rfl, Nat.le_of_ble_eq_true rfl⟩ rfl hl.1 rfl (Nat.le_of_ble_eq_true rfl) dX4_served_24) (fun r_10 s_9 H locs hw w => ?_)
    refine g_imul (pc := 27) C dX4_served_27 ?_
    refine g_iadd (pc := 28) C dX4_served_28 ?_
    refine lv_iload_n (pc := 29) C.1 C.2.1 dX4_served_29 rfl (lv_at hl 3 rfl) ?_
    refine lv_aload_n (pc := 30) C.1 C.2.1 dX4_served_30 rfl (lv_at hl 1 rfl) ?_
    refine lv_iload_n (pc := 31) C.1 C.2.1 dX4_served_31 rfl (lv_at hl 2 rfl) ?_
    refine lv_iload_n (pc := 32) C.1 C.2.1 dX4_served_32 rfl (lv_at hl 3 rfl) ?_
    refine lv_iconst (pc := 33) (v := mm_I 1) C.1 C.2.1 dX4_served_33 rfl ?_
    refine g_isub (pc := 34) C dX4_served_34 ?_
    refine g_calli (pc := 35) w (mm_runV (ci := 4) (q := (RX4, TX4, 12)) (As := [.int (mm_I a1), .int (mm_I (a2 - 1))]) (rest := [.int (mm_I a2), .int (mm_I ((s0 this 6) + (a1 * r_10)))]) C w (c_X4_follows l G this a1 (a2 - 1) h0 s_9 _ hw) h0 rfl rfl cv_X4_follows ml_X4_102 ⟨Nat.le_of_ble_eq_true rfl, Nat.le_of_ble_eq_true rfl⟩ ⟨Nat.le_of_ble_eq_true rfl, Nat.le_of_ble_eq_true rfl⟩ rfl hl.1 rfl (Nat.le_of_ble_eq_true rfl) dX4_served_35) (fun r_12 s_11 H locs hw w => ?_)
    refine g_imul (pc := 38) C dX4_served_38 ?_
    refine g_iadd (pc := 39) C dX4_served_39 ?_
    refine g_istore (pc := 40) C dX4_served_40 hl (by decide) (fun v4_13 ev4_13 ls hl => ?_)
    have hw := hw v4_13 ev4_13
    have hl : lv_has ls 5 [(4, .int (mm_I v4_13)), (3, .int (mm_I v3_1)), (0, .ref (mm_ad G this)), (1, .int (mm_I a1)), (2, .int (mm_I a2))] := hl
    refine lv_iload_n (pc := 42) C.1 C.2.1 dX4_served_42 rfl (lv_at hl 1 rfl) ?_
    refine g_if_gt (pc := 43) (tgt := 50) C rfl dX4_served_43 (by decide) (fun hc => ?_) (fun hc => ?_)
    · have hw := hw.1 hc
      refine lv_iload (pc := 50) C.1 C.2.1 dX4_served_50 (lv_at hl 0 rfl) ?_
      refine lv_iload_n (pc := 52) C.1 C.2.1 dX4_served_52 rfl (lv_at hl 1 rfl) ?_
      obtain ⟨hz, hw⟩ := hw
      refine g_idiv (pc := 53) C rfl rfl hz dX4_served_53 ?_
      exact g_iret (pc := 54) C w hr hk hw dX4_served_54
    · have hw := hw.2 hc
      refine lv_iconst (pc := 46) (v := mm_I 0) C.1 C.2.1 dX4_served_46 rfl ?_
      refine lv_goto (pc := 47) (tgt := 54) C.1 C.2.1 dX4_served_47 (by decide) ?_
      exact g_iret (pc := 54) C w hr hk hw dX4_served_54
theorem ms_169 : (Int16.ofInt 169).toInt32 = mm_I 169 := by decide
theorem ml_X4_93 : Cond.methodLink RX4 93 arraycopyName ∈ mm_ws := (mt_5 84 rfl rfl)
theorem cv_X4_served : mm_V yX4_served cX4_served 5 (some .int) 2 := ⟨(mt_5 88 rfl rfl), (mt_5 87 rfl rfl), (mp_3 7 rfl rfl), (mt_1 11 rfl rfl), by decide, by decide, by decide +kernel⟩
theorem ml_X4_99 : Cond.methodLink RX4 99 yX4_served ∈ mm_ws := (mt_5 85 rfl rfl)
def wp_X4_weighStaying (this : Nat) (s0 : mm_M) (post : mm_M → Prop) : Prop :=
  ∀ (L53 : Int → Int → mm_M → Prop), ∀ (L61 : Int → Int → Int → mm_M → Prop), ∀ (L88 : Int → Int → Int → Int → mm_M → Prop), 
  (∀ (v1 : Int) (v2 : Int) (s1 : mm_M), ((12 < n32 v2 → post s1) ∧ (¬ 12 < n32 v2 → L61 v1 v2 0 s1)) → L53 v1 v2 s1) →
  (∀ (v1 : Int) (v2 : Int) (v3 : Int) (s1 : mm_M), ((12 < n32 (v2 + v3) → (∀ v2_10 : Int, v2_10 = v2 + 1 → L53 v1 v2_10 s1)) ∧ (¬ 12 < n32 (v2 + v3) → ((n32 v1 = 0 → (wp_X4_follows this v2 v3 s1 (fun r_12 s_11 => L88 v1 v2 v3 r_12 s_11))) ∧ (¬ n32 v1 = 0 → (wp_X4_served this v2 v3 s1 (fun r_14 s_13 => L88 v1 v2 v3 r_14 s_13)))))) → L61 v1 v2 v3 s1) →
  (∀ (v1 : Int) (v2 : Int) (v3 : Int) (q0 : Int) (s1 : mm_M), (∀ v4_15 : Int, v4_15 = q0 → (wp_X4_indexOf v2 v3 s1 (fun r_17 s_16 => ((0 ≤ r_17 ∧ r_17 < 169) ∧ (∀ s_18 : mm_M, s_18 = mm_up s_16 (mm_rt this 2) r_17 (v4_15 - (s_16 this 7)) → (∀ v3_19 : Int, v3_19 = v3 + 1 → L61 v1 v2 v3_19 s_18)))))) → L88 v1 v2 v3 q0 s1) →
  (∀ s_1 : mm_M, s_1 = mm_up s0 this 11 ((s0 this 11) + 1) → ((0 ≤ (0 : Int) ∧ 0 ≤ (0 : Int) ∧ 0 ≤ (169 : Int) ∧ (0 : Int) + 169 ≤ 169 ∧ (0 : Int) + 169 ≤ 169) ∧ (∀ s_2 : mm_M, s_2 = mm_cp s_1 (mm_rt this 1) 0 (mm_rt this 0) 0 169 → ((n32 (s_2 this 5) ≤ 0 → L53 0 0 s_2) ∧ (¬ n32 (s_2 this 5) ≤ 0 → (n32 (s_2 this 5) ≠ 0 ∧ ((¬ n32 (Int.tmod (n32 (s_2 this 11)) (n32 (s_2 this 5))) = 0 → L53 0 0 s_2) ∧ (n32 (Int.tmod (n32 (s_2 this 11)) (n32 (s_2 this 5))) = 0 → L53 1 0 s_2))))))))
set_option maxRecDepth 100000 in
set_option maxHeartbeats 4000000 in
theorem c_X4_weighStaying (l : Launch) (G : mm_G) (this : Nat) (h0 : mm_ok this 14 0) (s0 : mm_M) (post : mm_M → Prop) (hw : wp_X4_weighStaying this s0 post) : Met l yX4_weighStaying (mm_wm yX4_weighStaying cX4_weighStaying 5 none) (mm_rm 4) (va_Pc [.ref (mm_ad G this)] (mm_pre G s0)) (mm_Qv G post) 0 0 (mm_A G) := by
  refine mm_met (own := RX4) (by decide) rfl (Nat.le_of_ble_eq_true rfl) ?_
  intro p e s m args below meth c C hr hk
  unfold wp_X4_weighStaying at hw
  have hw := hw (fun (v1 : Int) (v2 : Int) (u : mm_M) => mm_X p l e (mm_rm 4) s m args below meth c (MQ below (mm_Qv G post) args s 0 0 (mm_A G)) G (mm_A G) 5 53 [(0, .ref (mm_ad G this)), (1, .int (mm_I v1)), (2, .int (mm_I v2))] [] u)
  have hw := hw (fun (v1 : Int) (v2 : Int) (v3 : Int) (u : mm_M) => mm_X p l e (mm_rm 4) s m args below meth c (MQ below (mm_Qv G post) args s 0 0 (mm_A G)) G (mm_A G) 5 61 [(0, .ref (mm_ad G this)), (1, .int (mm_I v1)), (2, .int (mm_I v2)), (3, .int (mm_I v3))] [] u)
  have hw := hw (fun (v1 : Int) (v2 : Int) (v3 : Int) (q0 : Int) (u : mm_M) => mm_X p l e (mm_rm 4) s m args below meth c (MQ below (mm_Qv G post) args s 0 0 (mm_A G)) G (mm_A G) 5 88 [(0, .ref (mm_ad G this)), (1, .int (mm_I v1)), (2, .int (mm_I v2)), (3, .int (mm_I v3))] [.int (mm_I q0)] u)
  have hw := hw (by
    intro v1 v2 s1 hw  H locs ls w hl
    refine lv_iload_n (pc := 53) C.1 C.2.1 dX4_weighStaying_53 rfl (lv_at hl 2 rfl) ?_
    refine lv_bipush (pc := 54) C.1 C.2.1 dX4_weighStaying_54 mb_12 ?_
    refine g_icmp_gt (pc := 56) (tgt := 119) C rfl mn_12 dX4_weighStaying_56 (by decide) (fun hc => ?_) (fun hc => ?_)
    · have hw := hw.1 hc
      exact g_vret (pc := 119) C w hr hk hw dX4_weighStaying_119
    · have hw := hw.2 hc
      refine lv_iconst (pc := 59) (v := mm_I 0) C.1 C.2.1 dX4_weighStaying_59 rfl ?_
      refine lv_istore_n (pc := 60) (lv' := [(3, .int (mm_I 0)), (0, .ref (mm_ad G this)), (1, .int (mm_I v1)), (2, .int (mm_I v2))]) C.1 C.2.1 dX4_weighStaying_60 rfl hl (by decide) rfl (fun ls hl => ?_)
      exact hw  _ _ _ w (lv_sub hl [1, 2, 3, 0] rfl))
  have hw := hw (by
    intro v1 v2 v3 s1 hw  H locs ls w hl
    refine lv_iload_n (pc := 61) C.1 C.2.1 dX4_weighStaying_61 rfl (lv_at hl 2 rfl) ?_
    refine lv_iload_n (pc := 62) C.1 C.2.1 dX4_weighStaying_62 rfl (lv_at hl 3 rfl) ?_
    refine g_iadd (pc := 63) C dX4_weighStaying_63 ?_
    refine lv_bipush (pc := 64) C.1 C.2.1 dX4_weighStaying_64 mb_12 ?_
    refine g_icmp_gt (pc := 66) (tgt := 113) C rfl mn_12 dX4_weighStaying_66 (by decide) (fun hc => ?_) (fun hc => ?_)
    · have hw := hw.1 hc
      refine g_iinc (pc := 113) (k := 2) C dX4_weighStaying_113 hl rfl (by decide) (fun v2_10 ev2_10 ls hl => ?_)
      have hw := hw v2_10 ev2_10
      have hl : lv_has ls 5 [(2, .int (mm_I v2_10)), (0, .ref (mm_ad G this)), (1, .int (mm_I v1)), (3, .int (mm_I v3))] := hl
      refine lv_goto (pc := 116) (tgt := 53) C.1 C.2.1 dX4_weighStaying_116 (by decide) ?_
      exact hw  _ _ _ w (lv_sub hl [1, 2, 0] rfl)
    · have hw := hw.2 hc
      refine lv_iload_n (pc := 69) C.1 C.2.1 dX4_weighStaying_69 rfl (lv_at hl 1 rfl) ?_
      refine g_if_eq (pc := 70) (tgt := 82) C rfl dX4_weighStaying_70 (by decide) (fun hc => ?_) (fun hc => ?_)
      · have hw := hw.1 hc
        refine lv_aload_n (pc := 82) C.1 C.2.1 dX4_weighStaying_82 rfl (lv_at hl 0 rfl) ?_
        refine lv_iload_n (pc := 83) C.1 C.2.1 dX4_weighStaying_83 rfl (lv_at hl 2 rfl) ?_
        refine lv_iload_n (pc := 84) C.1 C.2.1 dX4_weighStaying_84 rfl (lv_at hl 3 rfl) ?_
        refine g_calli (pc := 85) w (mm_runV (ci := 4) (q := (RX4, TX4, 12)) (As := [.int (mm_I v2), .int (mm_I v3)]) (rest := []) C w (c_X4_follows l G this v2 v3 h0 s1 _ hw) h0 rfl rfl cv_X4_follows ml_X4_102 ⟨Nat.le_of_ble_eq_true rfl, Nat.le_of_ble_eq_true rfl⟩ ⟨Nat.le_of_ble_eq_true rfl, Nat.le_of_ble_eq_true rfl⟩ rfl hl.1 rfl (Nat.le_of_ble_eq_true rfl) dX4_weighStaying_85) (fun r_12 s_11 H locs hw w => ?_)
        exact hw  _ _ _ w (lv_sub hl [0, 1, 2, 3] rfl)
      · have hw := hw.2 hc
        refine lv_aload_n (pc := 73) C.1 C.2.1 dX4_weighStaying_73 rfl (lv_at hl 0 rfl) ?_
        refine lv_iload_n (pc := 74) C.1 C.2.1 dX4_weighStaying_74 rfl (lv_at hl 2 rfl) ?_
        refine lv_iload_n (pc := 75) C.1 C.2.1 dX4_weighStaying_75 rfl (lv_at hl 3 rfl) ?_
        refine g_calli (pc := 76) w (mm_runV (ci := 4) (q := (RX4, TX4, 12)) (As := [.int (mm_I v2), .int (mm_I v3)]) (rest := []) C w (c_X4_served l G this v2 v3 h0 s1 _ hw) h0 rfl rfl cv_X4_served ml_X4_99 ⟨Nat.le_of_ble_eq_true rfl, Nat.le_of_ble_eq_true rfl⟩ ⟨Nat.le_of_ble_eq_true rfl, Nat.le_of_ble_eq_true rfl⟩ rfl hl.1 rfl (Nat.le_of_ble_eq_true rfl) dX4_weighStaying_76) (fun r_14 s_13 H locs hw w => ?_)
        refine lv_goto (pc := 79) (tgt := 88) C.1 C.2.1 dX4_weighStaying_79 (by decide) ?_
        exact hw  _ _ _ w (lv_sub hl [0, 1, 2, 3] rfl))
  have hw := hw (by
    intro v1 v2 v3 q0 s1 hw  H locs ls w hl
    refine g_istore (pc := 88) C dX4_weighStaying_88 hl (by decide) (fun v4_15 ev4_15 ls hl => ?_)
    have hw := hw v4_15 ev4_15
    have hl : lv_has ls 5 [(4, .int (mm_I v4_15)), (0, .ref (mm_ad G this)), (1, .int (mm_I v1)), (2, .int (mm_I v2)), (3, .int (mm_I v3))] := hl
    refine lv_aload_n (pc := 90) C.1 C.2.1 dX4_weighStaying_90 rfl (lv_at hl 1 rfl) ?_
    refine g_getr (pc := 91) C w h0 ff_X4_2 lk_X4_18 dX4_weighStaying_91 ?_
    refine lv_iload_n (pc := 94) C.1 C.2.1 dX4_weighStaying_94 rfl (lv_at hl 3 rfl) ?_
    refine lv_iload_n (pc := 95) C.1 C.2.1 dX4_weighStaying_95 rfl (lv_at hl 4 rfl) ?_
    refine g_calli (pc := 96) w (mm_runS (As := [.int (mm_I v2), .int (mm_I v3)]) (rest := [.ref (mm_ad G (mm_rt this 2))]) C w (c_X4_indexOf l G v2 v3  s1 _ hw) cs_X4_indexOf ml_X4_84 ⟨Nat.le_of_ble_eq_true rfl, Nat.le_of_ble_eq_true rfl⟩ ⟨Nat.le_of_ble_eq_true rfl, Nat.le_of_ble_eq_true rfl⟩ rfl hl.1 rfl (Nat.le_of_ble_eq_true rfl) dX4_weighStaying_96) (fun r_17 s_16 H locs hw w => ?_)
    refine lv_iload (pc := 99) C.1 C.2.1 dX4_weighStaying_99 (lv_at hl 0 rfl) ?_
    refine lv_aload_n (pc := 101) C.1 C.2.1 dX4_weighStaying_101 rfl (lv_at hl 1 rfl) ?_
    refine g_geti (pc := 102) C w h0 ff_X4_7 lk_X4_50 dX4_weighStaying_102 ?_
    refine g_isub (pc := 105) C dX4_weighStaying_105 ?_
    obtain ⟨hi, hw⟩ := hw
    refine g_iast (pc := 106) C w (ro_X4_2 h0) hi  dX4_weighStaying_106 (fun s_18 H locs es_18 w => ?_)
    have hw := hw s_18 es_18
    refine g_iinc (pc := 107) (k := 4) C dX4_weighStaying_107 hl rfl (by decide) (fun v3_19 ev3_19 ls hl => ?_)
    have hw := hw v3_19 ev3_19
    have hl : lv_has ls 5 [(3, .int (mm_I v3_19)), (4, .int (mm_I v4_15)), (0, .ref (mm_ad G this)), (1, .int (mm_I v1)), (2, .int (mm_I v2))] := hl
    refine lv_goto (pc := 110) (tgt := 61) C.1 C.2.1 dX4_weighStaying_110 (by decide) ?_
    exact hw  _ _ _ w (lv_sub hl [2, 3, 4, 0] rfl))
  intro H locs ls w hl
  have hl : lv_has ls 5 [(0, .ref (mm_ad G this))] := hl
  refine lv_aload_n (pc := 0) C.1 C.2.1 dX4_weighStaying_0 rfl (lv_at hl 0 rfl) ?_
  refine lv_dup (pc := 1) C.1 C.2.1 dX4_weighStaying_1 rfl ?_
  refine g_geti (pc := 2) C w h0 ff_X4_11 lk_X4_69 dX4_weighStaying_2 ?_
  refine lv_iconst (pc := 5) (v := mm_I 1) C.1 C.2.1 dX4_weighStaying_5 rfl ?_
  refine g_iadd (pc := 6) C dX4_weighStaying_6 ?_
  refine g_puti (pc := 7) C w h0 ff_X4_11 fw_X4_11 lk_X4_69 dX4_weighStaying_7 (fun s_1 H locs es_1 w => ?_)
  have hw := hw s_1 es_1
  refine lv_aload_n (pc := 10) C.1 C.2.1 dX4_weighStaying_10 rfl (lv_at hl 0 rfl) ?_
  refine g_getr (pc := 11) C w h0 ff_X4_1 lk_X4_15 dX4_weighStaying_11 ?_
  refine lv_iconst (pc := 14) (v := mm_I 0) C.1 C.2.1 dX4_weighStaying_14 rfl ?_
  refine lv_aload_n (pc := 15) C.1 C.2.1 dX4_weighStaying_15 rfl (lv_at hl 0 rfl) ?_
  refine g_getr (pc := 16) C w h0 ff_X4_0 lk_X4_11 dX4_weighStaying_16 ?_
  refine lv_iconst (pc := 19) (v := mm_I 0) C.1 C.2.1 dX4_weighStaying_19 rfl ?_
  refine lv_sipush (pc := 20) C.1 C.2.1 dX4_weighStaying_20 ms_169 ?_
  obtain ⟨hi, hw⟩ := hw
  refine g_copy (pc := 23) C w hl.1 (ro_X4_1 h0) (ro_X4_0 h0) hi ml_X4_93 mv_copy ⟨Nat.le_of_ble_eq_true rfl, Nat.le_of_ble_eq_true rfl⟩ dX4_weighStaying_23 (fun s_2 H locs es_2 w => ?_)
  have hw := hw s_2 es_2
  refine lv_aload_n (pc := 26) C.1 C.2.1 dX4_weighStaying_26 rfl (lv_at hl 0 rfl) ?_
  refine g_geti (pc := 27) C w h0 ff_X4_5 lk_X4_41 dX4_weighStaying_27 ?_
  refine g_if_le (pc := 30) (tgt := 49) C rfl dX4_weighStaying_30 (by decide) (fun hc => ?_) (fun hc => ?_)
  · have hw := hw.1 hc
    refine lv_iconst (pc := 49) (v := mm_I 0) C.1 C.2.1 dX4_weighStaying_49 rfl ?_
    refine lv_istore_n (pc := 50) (lv' := [(1, .int (mm_I 0)), (0, .ref (mm_ad G this))]) C.1 C.2.1 dX4_weighStaying_50 rfl hl (by decide) rfl (fun ls hl => ?_)
    refine lv_iconst (pc := 51) (v := mm_I 0) C.1 C.2.1 dX4_weighStaying_51 rfl ?_
    refine lv_istore_n (pc := 52) (lv' := [(2, .int (mm_I 0)), (1, .int (mm_I 0)), (0, .ref (mm_ad G this))]) C.1 C.2.1 dX4_weighStaying_52 rfl hl (by decide) rfl (fun ls hl => ?_)
    exact hw  _ _ _ w (lv_sub hl [2, 1, 0] rfl)
  · have hw := hw.2 hc
    refine lv_aload_n (pc := 33) C.1 C.2.1 dX4_weighStaying_33 rfl (lv_at hl 0 rfl) ?_
    refine g_geti (pc := 34) C w h0 ff_X4_11 lk_X4_69 dX4_weighStaying_34 ?_
    refine lv_aload_n (pc := 37) C.1 C.2.1 dX4_weighStaying_37 rfl (lv_at hl 0 rfl) ?_
    refine g_geti (pc := 38) C w h0 ff_X4_5 lk_X4_41 dX4_weighStaying_38 ?_
    obtain ⟨hz, hw⟩ := hw
    refine g_irem (pc := 41) C rfl rfl hz dX4_weighStaying_41 ?_
    refine g_if_ne (pc := 42) (tgt := 49) C rfl dX4_weighStaying_42 (by decide) (fun hc => ?_) (fun hc => ?_)
    · have hw := hw.1 hc
      refine lv_iconst (pc := 49) (v := mm_I 0) C.1 C.2.1 dX4_weighStaying_49 rfl ?_
      refine lv_istore_n (pc := 50) (lv' := [(1, .int (mm_I 0)), (0, .ref (mm_ad G this))]) C.1 C.2.1 dX4_weighStaying_50 rfl hl (by decide) rfl (fun ls hl => ?_)
      refine lv_iconst (pc := 51) (v := mm_I 0) C.1 C.2.1 dX4_weighStaying_51 rfl ?_
      refine lv_istore_n (pc := 52) (lv' := [(2, .int (mm_I 0)), (1, .int (mm_I 0)), (0, .ref (mm_ad G this))]) C.1 C.2.1 dX4_weighStaying_52 rfl hl (by decide) rfl (fun ls hl => ?_)
      exact hw  _ _ _ w (lv_sub hl [2, 1, 0] rfl)
    · have hw := hw.2 hc
      refine lv_iconst (pc := 45) (v := mm_I 1) C.1 C.2.1 dX4_weighStaying_45 rfl ?_
      refine lv_goto (pc := 46) (tgt := 50) C.1 C.2.1 dX4_weighStaying_46 (by decide) ?_
      refine lv_istore_n (pc := 50) (lv' := [(1, .int (mm_I 1)), (0, .ref (mm_ad G this))]) C.1 C.2.1 dX4_weighStaying_50 rfl hl (by decide) rfl (fun ls hl => ?_)
      refine lv_iconst (pc := 51) (v := mm_I 0) C.1 C.2.1 dX4_weighStaying_51 rfl ?_
      refine lv_istore_n (pc := 52) (lv' := [(2, .int (mm_I 0)), (1, .int (mm_I 1)), (0, .ref (mm_ad G this))]) C.1 C.2.1 dX4_weighStaying_52 rfl hl (by decide) rfl (fun ls hl => ?_)
      exact hw  _ _ _ w (lv_sub hl [2, 1, 0] rfl)
def wp_X4_turned (this : Nat) (a1 : Int) (a2 : Int) (s0 : mm_M) (post : Int → mm_M → Prop) : Prop :=
  (wp_X4_indexOf (a1 + a2) 0 s0 (fun r_2 s_1 => ((0 ≤ r_2 ∧ r_2 < 169) ∧ post ((s_1 (mm_rt this 2) r_2) - (s_1 this 9)) s_1)))
set_option maxRecDepth 100000 in
set_option maxHeartbeats 4000000 in
theorem c_X4_turned (l : Launch) (G : mm_G) (this : Nat) (a1 : Int) (a2 : Int) (h0 : mm_ok this 14 0) (s0 : mm_M) (post : Int → mm_M → Prop) (hw : wp_X4_turned this a1 a2 s0 post) : Met l yX4_turned (mm_wm yX4_turned cX4_turned 3 (some .int)) (mm_rm 2) (va_Pc [.ref (mm_ad G this), .int (mm_I a1), .int (mm_I a2)] (mm_pre G s0)) (mm_Qi G post) 0 0 (mm_A G) := by
  refine mm_met (own := RX4) (by decide) rfl (Nat.le_of_ble_eq_true rfl) ?_
  intro p e s m args below meth c C hr hk
  unfold wp_X4_turned at hw
  intro H locs ls w hl
  have hl : lv_has ls 3 [(0, .ref (mm_ad G this)), (1, .int (mm_I a1)), (2, .int (mm_I a2))] := hl
  refine lv_aload_n (pc := 0) C.1 C.2.1 dX4_turned_0 rfl (lv_at hl 0 rfl) ?_
  refine g_getr (pc := 1) C w h0 ff_X4_2 lk_X4_18 dX4_turned_1 ?_
  refine lv_iload_n (pc := 4) C.1 C.2.1 dX4_turned_4 rfl (lv_at hl 1 rfl) ?_
  refine lv_iload_n (pc := 5) C.1 C.2.1 dX4_turned_5 rfl (lv_at hl 2 rfl) ?_
  refine g_iadd (pc := 6) C dX4_turned_6 ?_
  refine lv_iconst (pc := 7) (v := mm_I 0) C.1 C.2.1 dX4_turned_7 rfl ?_
  refine g_calli (pc := 8) w (mm_runS (As := [.int (mm_I (a1 + a2)), .int (mm_I 0)]) (rest := [.ref (mm_ad G (mm_rt this 2))]) C w (c_X4_indexOf l G (a1 + a2) 0  s0 _ hw) cs_X4_indexOf ml_X4_84 ⟨Nat.le_of_ble_eq_true rfl, Nat.le_of_ble_eq_true rfl⟩ ⟨Nat.le_of_ble_eq_true rfl, Nat.le_of_ble_eq_true rfl⟩ rfl hl.1 rfl (Nat.le_of_ble_eq_true rfl) dX4_turned_8) (fun r_2 s_1 H locs hw w => ?_)
  obtain ⟨hi, hw⟩ := hw
  refine g_iald (pc := 11) C w (ro_X4_2 h0) hi dX4_turned_11 ?_
  refine lv_aload_n (pc := 12) C.1 C.2.1 dX4_turned_12 rfl (lv_at hl 0 rfl) ?_
  refine g_geti (pc := 13) C w h0 ff_X4_9 lk_X4_63 dX4_turned_13 ?_
  refine g_isub (pc := 16) C dX4_turned_16 ?_
  exact g_iret (pc := 17) C w hr hk hw dX4_turned_17
theorem cv_X4_turned : mm_V yX4_turned cX4_turned 3 (some .int) 2 := ⟨(mt_5 104 rfl rfl), (mt_5 103 rfl rfl), (mp_3 10 rfl rfl), (mt_1 11 rfl rfl), by decide, by decide, by decide +kernel⟩
theorem ml_X4_87 : Cond.methodLink RX4 87 yX4_turned ∈ mm_ws := (mt_5 101 rfl rfl)
theorem ml_X4_105 : Cond.methodLink RX4 105 Lib.Math.max.name ∈ mm_ws := (mt_5 105 rfl rfl)
def wp_X4_settle (this : Nat) (s0 : mm_M) (post : mm_M → Prop) : Prop :=
  ∀ (L2 : Int → mm_M → Prop), ∀ (L10 : Int → Int → mm_M → Prop), 
  (∀ (v1 : Int) (s1 : mm_M), ((12 < n32 v1 → post s1) ∧ (¬ 12 < n32 v1 → L10 v1 0 s1)) → L2 v1 s1) →
  (∀ (v1 : Int) (v2 : Int) (s1 : mm_M), ((12 < n32 (v1 + v2) → (∀ v1_3 : Int, v1_3 = v1 + 1 → L2 v1_3 s1)) ∧ (¬ 12 < n32 (v1 + v2) → (wp_X4_indexOf v1 v2 s1 (fun r_5 s_4 => (∀ v3_6 : Int, v3_6 = r_5 → ((0 ≤ v3_6 ∧ v3_6 < 169) ∧ (wp_X4_turned this v1 v2 s_4 (fun r_8 s_7 => ((0 ≤ v3_6 ∧ v3_6 < 169) ∧ (∀ s_9 : mm_M, s_9 = mm_up s_7 (mm_rt this 1) v3_6 (mm_max 0 (mm_max (s_4 (mm_rt this 2) v3_6) r_8)) → (∀ v2_10 : Int, v2_10 = v2 + 1 → L10 v1 v2_10 s_9))))))))))) → L10 v1 v2 s1) →
  L2 0 s0
set_option maxRecDepth 100000 in
set_option maxHeartbeats 4000000 in
theorem c_X4_settle (l : Launch) (G : mm_G) (this : Nat) (h0 : mm_ok this 14 0) (s0 : mm_M) (post : mm_M → Prop) (hw : wp_X4_settle this s0 post) : Met l yX4_settle (mm_wm yX4_settle cX4_settle 4 none) (mm_rm 3) (va_Pc [.ref (mm_ad G this)] (mm_pre G s0)) (mm_Qv G post) 0 0 (mm_A G) := by
  refine mm_met (own := RX4) (by decide) rfl (Nat.le_of_ble_eq_true rfl) ?_
  intro p e s m args below meth c C hr hk
  unfold wp_X4_settle at hw
  have hw := hw (fun (v1 : Int) (u : mm_M) => mm_X p l e (mm_rm 3) s m args below meth c (MQ below (mm_Qv G post) args s 0 0 (mm_A G)) G (mm_A G) 4 2 [(0, .ref (mm_ad G this)), (1, .int (mm_I v1))] [] u)
  have hw := hw (fun (v1 : Int) (v2 : Int) (u : mm_M) => mm_X p l e (mm_rm 3) s m args below meth c (MQ below (mm_Qv G post) args s 0 0 (mm_A G)) G (mm_A G) 4 10 [(0, .ref (mm_ad G this)), (1, .int (mm_I v1)), (2, .int (mm_I v2))] [] u)
  have hw := hw (by
    intro v1 s1 hw  H locs ls w hl
    refine lv_iload_n (pc := 2) C.1 C.2.1 dX4_settle_2 rfl (lv_at hl 1 rfl) ?_
    refine lv_bipush (pc := 3) C.1 C.2.1 dX4_settle_3 mb_12 ?_
    refine g_icmp_gt (pc := 5) (tgt := 61) C rfl mn_12 dX4_settle_5 (by decide) (fun hc => ?_) (fun hc => ?_)
    · have hw := hw.1 hc
      exact g_vret (pc := 61) C w hr hk hw dX4_settle_61
    · have hw := hw.2 hc
      refine lv_iconst (pc := 8) (v := mm_I 0) C.1 C.2.1 dX4_settle_8 rfl ?_
      refine lv_istore_n (pc := 9) (lv' := [(2, .int (mm_I 0)), (0, .ref (mm_ad G this)), (1, .int (mm_I v1))]) C.1 C.2.1 dX4_settle_9 rfl hl (by decide) rfl (fun ls hl => ?_)
      exact hw  _ _ _ w (lv_sub hl [1, 2, 0] rfl))
  have hw := hw (by
    intro v1 v2 s1 hw  H locs ls w hl
    refine lv_iload_n (pc := 10) C.1 C.2.1 dX4_settle_10 rfl (lv_at hl 1 rfl) ?_
    refine lv_iload_n (pc := 11) C.1 C.2.1 dX4_settle_11 rfl (lv_at hl 2 rfl) ?_
    refine g_iadd (pc := 12) C dX4_settle_12 ?_
    refine lv_bipush (pc := 13) C.1 C.2.1 dX4_settle_13 mb_12 ?_
    refine g_icmp_gt (pc := 15) (tgt := 55) C rfl mn_12 dX4_settle_15 (by decide) (fun hc => ?_) (fun hc => ?_)
    · have hw := hw.1 hc
      refine g_iinc (pc := 55) (k := 1) C dX4_settle_55 hl rfl (by decide) (fun v1_3 ev1_3 ls hl => ?_)
      have hw := hw v1_3 ev1_3
      have hl : lv_has ls 4 [(1, .int (mm_I v1_3)), (0, .ref (mm_ad G this)), (2, .int (mm_I v2))] := hl
      refine lv_goto (pc := 58) (tgt := 2) C.1 C.2.1 dX4_settle_58 (by decide) ?_
      exact hw  _ _ _ w (lv_sub hl [1, 0] rfl)
    · have hw := hw.2 hc
      refine lv_iload_n (pc := 18) C.1 C.2.1 dX4_settle_18 rfl (lv_at hl 1 rfl) ?_
      refine lv_iload_n (pc := 19) C.1 C.2.1 dX4_settle_19 rfl (lv_at hl 2 rfl) ?_
      refine g_calli (pc := 20) w (mm_runS (As := [.int (mm_I v1), .int (mm_I v2)]) (rest := []) C w (c_X4_indexOf l G v1 v2  s1 _ hw) cs_X4_indexOf ml_X4_84 ⟨Nat.le_of_ble_eq_true rfl, Nat.le_of_ble_eq_true rfl⟩ ⟨Nat.le_of_ble_eq_true rfl, Nat.le_of_ble_eq_true rfl⟩ rfl hl.1 rfl (Nat.le_of_ble_eq_true rfl) dX4_settle_20) (fun r_5 s_4 H locs hw w => ?_)
      refine g_istore_n (pc := 23) C dX4_settle_23 rfl hl (by decide) (fun v3_6 ev3_6 ls hl => ?_)
      have hw := hw v3_6 ev3_6
      have hl : lv_has ls 4 [(3, .int (mm_I v3_6)), (0, .ref (mm_ad G this)), (1, .int (mm_I v1)), (2, .int (mm_I v2))] := hl
      refine lv_aload_n (pc := 24) C.1 C.2.1 dX4_settle_24 rfl (lv_at hl 1 rfl) ?_
      refine g_getr (pc := 25) C w h0 ff_X4_1 lk_X4_15 dX4_settle_25 ?_
      refine lv_iload_n (pc := 28) C.1 C.2.1 dX4_settle_28 rfl (lv_at hl 0 rfl) ?_
      refine lv_iconst (pc := 29) (v := mm_I 0) C.1 C.2.1 dX4_settle_29 rfl ?_
      refine lv_aload_n (pc := 30) C.1 C.2.1 dX4_settle_30 rfl (lv_at hl 1 rfl) ?_
      refine g_getr (pc := 31) C w h0 ff_X4_2 lk_X4_18 dX4_settle_31 ?_
      refine lv_iload_n (pc := 34) C.1 C.2.1 dX4_settle_34 rfl (lv_at hl 0 rfl) ?_
      obtain ⟨hi, hw⟩ := hw
      refine g_iald (pc := 35) C w (ro_X4_2 h0) hi dX4_settle_35 ?_
      refine lv_aload_n (pc := 36) C.1 C.2.1 dX4_settle_36 rfl (lv_at hl 1 rfl) ?_
      refine lv_iload_n (pc := 37) C.1 C.2.1 dX4_settle_37 rfl (lv_at hl 2 rfl) ?_
      refine lv_iload_n (pc := 38) C.1 C.2.1 dX4_settle_38 rfl (lv_at hl 3 rfl) ?_
      refine g_calli (pc := 39) w (mm_runV (ci := 4) (q := (RX4, TX4, 12)) (As := [.int (mm_I v1), .int (mm_I v2)]) (rest := [.int (mm_I (s_4 (mm_rt this 2) v3_6)), .int (mm_I 0), .int (mm_I v3_6), .ref (mm_ad G (mm_rt this 1))]) C w (c_X4_turned l G this v1 v2 h0 s_4 _ hw) h0 rfl rfl cv_X4_turned ml_X4_87 ⟨Nat.le_of_ble_eq_true rfl, Nat.le_of_ble_eq_true rfl⟩ ⟨Nat.le_of_ble_eq_true rfl, Nat.le_of_ble_eq_true rfl⟩ rfl hl.1 rfl (Nat.le_of_ble_eq_true rfl) dX4_settle_39) (fun r_8 s_7 H locs hw w => ?_)
      refine g_max (pc := 42) C hl.1 ml_X4_105 mv_max ⟨Nat.le_of_ble_eq_true rfl, Nat.le_of_ble_eq_true rfl⟩ ⟨Nat.le_of_ble_eq_true rfl, Nat.le_of_ble_eq_true rfl⟩ dX4_settle_42 ?_
      refine g_max (pc := 45) C hl.1 ml_X4_105 mv_max ⟨Nat.le_of_ble_eq_true rfl, Nat.le_of_ble_eq_true rfl⟩ ⟨Nat.le_of_ble_eq_true rfl, Nat.le_of_ble_eq_true rfl⟩ dX4_settle_45 ?_
      obtain ⟨hi, hw⟩ := hw
      refine g_iast (pc := 48) C w (ro_X4_1 h0) hi  dX4_settle_48 (fun s_9 H locs es_9 w => ?_)
      have hw := hw s_9 es_9
      refine g_iinc (pc := 49) (k := 3) C dX4_settle_49 hl rfl (by decide) (fun v2_10 ev2_10 ls hl => ?_)
      have hw := hw v2_10 ev2_10
      have hl : lv_has ls 4 [(2, .int (mm_I v2_10)), (3, .int (mm_I v3_6)), (0, .ref (mm_ad G this)), (1, .int (mm_I v1))] := hl
      refine lv_goto (pc := 52) (tgt := 10) C.1 C.2.1 dX4_settle_52 (by decide) ?_
      exact hw  _ _ _ w (lv_sub hl [2, 3, 0] rfl))
  intro H locs ls w hl
  have hl : lv_has ls 4 [(0, .ref (mm_ad G this))] := hl
  refine lv_iconst (pc := 0) (v := mm_I 0) C.1 C.2.1 dX4_settle_0 rfl ?_
  refine lv_istore_n (pc := 1) (lv' := [(1, .int (mm_I 0)), (0, .ref (mm_ad G this))]) C.1 C.2.1 dX4_settle_1 rfl hl (by decide) rfl (fun ls hl => ?_)
  exact hw  _ _ _ w (lv_sub hl [1, 0] rfl)
theorem mb_120 : (Int8.ofInt 120).toInt32 = mm_I 120 := by decide
theorem mn_120 : n32 120 = 120 := by decide
theorem cv_X4_weighStaying : mm_V yX4_weighStaying cX4_weighStaying 5 none 0 := ⟨(mt_5 83 rfl rfl), (mt_5 82 rfl rfl), (mp_3 6 rfl rfl), (mt_1 11 rfl rfl), by decide, by decide, by decide +kernel⟩
theorem ml_X4_78 : Cond.methodLink RX4 78 yX4_weighStaying ∈ mm_ws := (mt_5 80 rfl rfl)
theorem cv_X4_settle : mm_V yX4_settle cX4_settle 4 none 0 := ⟨(mt_5 100 rfl rfl), (mt_5 99 rfl rfl), (mp_3 9 rfl rfl), (mt_1 11 rfl rfl), by decide, by decide, by decide +kernel⟩
theorem ml_X4_81 : Cond.methodLink RX4 81 yX4_settle ∈ mm_ws := (mt_5 97 rfl rfl)
def wp_X4_reach (this : Nat) (a1 : Int) (s0 : mm_M) (post : mm_M → Prop) : Prop :=
  ∀ (L5 : Int → mm_M → Prop), 
  (∀ (v2 : Int) (s1 : mm_M), ((n32 a1 ≤ n32 v2 → post s1) ∧ (¬ n32 a1 ≤ n32 v2 → ((120 ≤ n32 v2 → post s1) ∧ (¬ 120 ≤ n32 v2 → (wp_X4_weighStaying this s1 (fun s_2 => (wp_X4_settle this s_2 (fun s_4 => (∀ v2_6 : Int, v2_6 = v2 + 1 → L5 v2_6 s_4))))))))) → L5 v2 s1) →
  (∀ v2_1 : Int, v2_1 = s0 this 11 → L5 v2_1 s0)
set_option maxRecDepth 100000 in
set_option maxHeartbeats 4000000 in
theorem c_X4_reach (l : Launch) (G : mm_G) (this : Nat) (a1 : Int) (h0 : mm_ok this 14 0) (s0 : mm_M) (post : mm_M → Prop) (hw : wp_X4_reach this a1 s0 post) : Met l yX4_reach (mm_wm yX4_reach cX4_reach 3 none) (mm_rm 5) (va_Pc [.ref (mm_ad G this), .int (mm_I a1)] (mm_pre G s0)) (mm_Qv G post) 0 0 (mm_A G) := by
  refine mm_met (own := RX4) (by decide) rfl (Nat.le_of_ble_eq_true rfl) ?_
  intro p e s m args below meth c C hr hk
  unfold wp_X4_reach at hw
  have hw := hw (fun (v2 : Int) (u : mm_M) => mm_X p l e (mm_rm 5) s m args below meth c (MQ below (mm_Qv G post) args s 0 0 (mm_A G)) G (mm_A G) 3 5 [(0, .ref (mm_ad G this)), (1, .int (mm_I a1)), (2, .int (mm_I v2))] [] u)
  have hw := hw (by
    intro v2 s1 hw  H locs ls w hl
    refine lv_iload_n (pc := 5) C.1 C.2.1 dX4_reach_5 rfl (lv_at hl 2 rfl) ?_
    refine lv_iload_n (pc := 6) C.1 C.2.1 dX4_reach_6 rfl (lv_at hl 1 rfl) ?_
    refine g_icmp_ge (pc := 7) (tgt := 30) C rfl rfl dX4_reach_7 (by decide) (fun hc => ?_) (fun hc => ?_)
    · have hw := hw.1 hc
      exact g_vret (pc := 30) C w hr hk hw dX4_reach_30
    · have hw := hw.2 hc
      refine lv_iload_n (pc := 10) C.1 C.2.1 dX4_reach_10 rfl (lv_at hl 2 rfl) ?_
      refine lv_bipush (pc := 11) C.1 C.2.1 dX4_reach_11 mb_120 ?_
      refine g_icmp_ge (pc := 13) (tgt := 30) C rfl mn_120 dX4_reach_13 (by decide) (fun hc => ?_) (fun hc => ?_)
      · have hw := hw.1 hc
        exact g_vret (pc := 30) C w hr hk hw dX4_reach_30
      · have hw := hw.2 hc
        refine lv_aload_n (pc := 16) C.1 C.2.1 dX4_reach_16 rfl (lv_at hl 0 rfl) ?_
        refine g_callv (pc := 17) w (mm_runV (ci := 4) (q := (RX4, TX4, 12)) (As := []) (rest := []) C w (c_X4_weighStaying l G this h0 s1 _ hw) h0 rfl rfl cv_X4_weighStaying ml_X4_78 ⟨Nat.le_of_ble_eq_true rfl, Nat.le_of_ble_eq_true rfl⟩ ⟨Nat.le_of_ble_eq_true rfl, Nat.le_of_ble_eq_true rfl⟩ rfl hl.1 rfl (Nat.le_of_ble_eq_true rfl) dX4_reach_17) (fun s_2 H locs hw w => ?_)
        refine lv_aload_n (pc := 20) C.1 C.2.1 dX4_reach_20 rfl (lv_at hl 0 rfl) ?_
        refine g_callv (pc := 21) w (mm_runV (ci := 4) (q := (RX4, TX4, 12)) (As := []) (rest := []) C w (c_X4_settle l G this h0 s_2 _ hw) h0 rfl rfl cv_X4_settle ml_X4_81 ⟨Nat.le_of_ble_eq_true rfl, Nat.le_of_ble_eq_true rfl⟩ ⟨Nat.le_of_ble_eq_true rfl, Nat.le_of_ble_eq_true rfl⟩ rfl hl.1 rfl (Nat.le_of_ble_eq_true rfl) dX4_reach_21) (fun s_4 H locs hw w => ?_)
        refine g_iinc (pc := 24) (k := 2) C dX4_reach_24 hl rfl (by decide) (fun v2_6 ev2_6 ls hl => ?_)
        have hw := hw v2_6 ev2_6
        have hl : lv_has ls 3 [(2, .int (mm_I v2_6)), (0, .ref (mm_ad G this)), (1, .int (mm_I a1))] := hl
        refine lv_goto (pc := 27) (tgt := 5) C.1 C.2.1 dX4_reach_27 (by decide) ?_
        exact hw  _ _ _ w (lv_sub hl [1, 2, 0] rfl))
  intro H locs ls w hl
  have hl : lv_has ls 3 [(0, .ref (mm_ad G this)), (1, .int (mm_I a1))] := hl
  refine lv_aload_n (pc := 0) C.1 C.2.1 dX4_reach_0 rfl (lv_at hl 0 rfl) ?_
  refine g_geti (pc := 1) C w h0 ff_X4_11 lk_X4_69 dX4_reach_1 ?_
  refine g_istore_n (pc := 4) C dX4_reach_4 rfl hl (by decide) (fun v2_1 ev2_1 ls hl => ?_)
  have hw := hw v2_1 ev2_1
  have hl : lv_has ls 3 [(2, .int (mm_I v2_1)), (0, .ref (mm_ad G this)), (1, .int (mm_I a1))] := hl
  exact hw  _ _ _ w (lv_sub hl [1, 2, 0] rfl)
def wp_X4_valueOf (this : Nat) (a1 : Int) (a2 : Int) (s0 : mm_M) (post : Int → mm_M → Prop) : Prop :=
  (wp_X4_indexOf a1 a2 s0 (fun r_2 s_1 => ((0 ≤ r_2 ∧ r_2 < 169) ∧ post (s_1 (mm_rt this 1) r_2) s_1)))
set_option maxRecDepth 100000 in
set_option maxHeartbeats 4000000 in
theorem c_X4_valueOf (l : Launch) (G : mm_G) (this : Nat) (a1 : Int) (a2 : Int) (h0 : mm_ok this 14 0) (s0 : mm_M) (post : Int → mm_M → Prop) (hw : wp_X4_valueOf this a1 a2 s0 post) : Met l yX4_valueOf (mm_wm yX4_valueOf cX4_valueOf 3 (some .int)) (mm_rm 2) (va_Pc [.ref (mm_ad G this), .int (mm_I a1), .int (mm_I a2)] (mm_pre G s0)) (mm_Qi G post) 0 0 (mm_A G) := by
  refine mm_met (own := RX4) (by decide) rfl (Nat.le_of_ble_eq_true rfl) ?_
  intro p e s m args below meth c C hr hk
  unfold wp_X4_valueOf at hw
  intro H locs ls w hl
  have hl : lv_has ls 3 [(0, .ref (mm_ad G this)), (1, .int (mm_I a1)), (2, .int (mm_I a2))] := hl
  refine lv_aload_n (pc := 0) C.1 C.2.1 dX4_valueOf_0 rfl (lv_at hl 0 rfl) ?_
  refine g_getr (pc := 1) C w h0 ff_X4_1 lk_X4_15 dX4_valueOf_1 ?_
  refine lv_iload_n (pc := 4) C.1 C.2.1 dX4_valueOf_4 rfl (lv_at hl 1 rfl) ?_
  refine lv_iload_n (pc := 5) C.1 C.2.1 dX4_valueOf_5 rfl (lv_at hl 2 rfl) ?_
  refine g_calli (pc := 6) w (mm_runS (As := [.int (mm_I a1), .int (mm_I a2)]) (rest := [.ref (mm_ad G (mm_rt this 1))]) C w (c_X4_indexOf l G a1 a2  s0 _ hw) cs_X4_indexOf ml_X4_84 ⟨Nat.le_of_ble_eq_true rfl, Nat.le_of_ble_eq_true rfl⟩ ⟨Nat.le_of_ble_eq_true rfl, Nat.le_of_ble_eq_true rfl⟩ rfl hl.1 rfl (Nat.le_of_ble_eq_true rfl) dX4_valueOf_6) (fun r_2 s_1 H locs hw w => ?_)
  obtain ⟨hi, hw⟩ := hw
  refine g_iald (pc := 9) C w (ro_X4_1 h0) hi dX4_valueOf_9 ?_
  exact g_iret (pc := 10) C w hr hk hw dX4_valueOf_10
def wp_X4_actOf (this : Nat) (a1 : Int) (a2 : Int) (s0 : mm_M) (post : Int → mm_M → Prop) : Prop :=
  ∀ (L40 : Int → mm_M → Prop), 
  (∀ (v4 : Int) (s1 : mm_M), ((n32 v4 < 0 → post 2 s1) ∧ (¬ n32 v4 < 0 → post 1 s1)) → L40 v4 s1) →
  ((¬ n32 (s0 this 11) = 0 → (wp_X4_indexOf a1 a2 s0 (fun r_2 s_1 => ((0 ≤ r_2 ∧ r_2 < 169) ∧ (∀ v3_3 : Int, v3_3 = s_1 (mm_rt this 2) r_2 → (wp_X4_turned this a1 a2 s_1 (fun r_5 s_4 => (∀ v4_6 : Int, v4_6 = r_5 → ((n32 v3_3 < 0 → L40 v4_6 s_4) ∧ (¬ n32 v3_3 < 0 → ((n32 v3_3 < n32 v4_6 → L40 v4_6 s_4) ∧ (¬ n32 v3_3 < n32 v4_6 → post 0 s_4)))))))))))) ∧ (n32 (s0 this 11) = 0 → post 2 s0))
set_option maxRecDepth 100000 in
set_option maxHeartbeats 4000000 in
theorem c_X4_actOf (l : Launch) (G : mm_G) (this : Nat) (a1 : Int) (a2 : Int) (h0 : mm_ok this 14 0) (s0 : mm_M) (post : Int → mm_M → Prop) (hw : wp_X4_actOf this a1 a2 s0 post) : Met l yX4_actOf (mm_wm yX4_actOf cX4_actOf 5 (some .int)) (mm_rm 3) (va_Pc [.ref (mm_ad G this), .int (mm_I a1), .int (mm_I a2)] (mm_pre G s0)) (mm_Qi G post) 0 0 (mm_A G) := by
  refine mm_met (own := RX4) (by decide) rfl (Nat.le_of_ble_eq_true rfl) ?_
  intro p e s m args below meth c C hr hk
  unfold wp_X4_actOf at hw
  have hw := hw (fun (v4 : Int) (u : mm_M) => mm_X p l e (mm_rm 3) s m args below meth c (MQ below (mm_Qi G post) args s 0 0 (mm_A G)) G (mm_A G) 5 40 [(4, .int (mm_I v4))] [] u)
  have hw := hw (by
    intro v4 s1 hw  H locs ls w hl
    refine lv_iload (pc := 40) C.1 C.2.1 dX4_actOf_40 (lv_at hl 0 rfl) ?_
    refine g_if_lt (pc := 42) (tgt := 49) C rfl dX4_actOf_42 (by decide) (fun hc => ?_) (fun hc => ?_)
    · have hw := hw.1 hc
      refine lv_iconst (pc := 49) (v := mm_I 2) C.1 C.2.1 dX4_actOf_49 rfl ?_
      exact g_iret (pc := 50) C w hr hk hw dX4_actOf_50
    · have hw := hw.2 hc
      refine lv_iconst (pc := 45) (v := mm_I 1) C.1 C.2.1 dX4_actOf_45 rfl ?_
      refine lv_goto (pc := 46) (tgt := 50) C.1 C.2.1 dX4_actOf_46 (by decide) ?_
      exact g_iret (pc := 50) C w hr hk hw dX4_actOf_50)
  intro H locs ls w hl
  have hl : lv_has ls 5 [(0, .ref (mm_ad G this)), (1, .int (mm_I a1)), (2, .int (mm_I a2))] := hl
  refine lv_aload_n (pc := 0) C.1 C.2.1 dX4_actOf_0 rfl (lv_at hl 0 rfl) ?_
  refine g_geti (pc := 1) C w h0 ff_X4_11 lk_X4_69 dX4_actOf_1 ?_
  refine g_if_ne (pc := 4) (tgt := 9) C rfl dX4_actOf_4 (by decide) (fun hc => ?_) (fun hc => ?_)
  · have hw := hw.1 hc
    refine lv_aload_n (pc := 9) C.1 C.2.1 dX4_actOf_9 rfl (lv_at hl 0 rfl) ?_
    refine g_getr (pc := 10) C w h0 ff_X4_2 lk_X4_18 dX4_actOf_10 ?_
    refine lv_iload_n (pc := 13) C.1 C.2.1 dX4_actOf_13 rfl (lv_at hl 1 rfl) ?_
    refine lv_iload_n (pc := 14) C.1 C.2.1 dX4_actOf_14 rfl (lv_at hl 2 rfl) ?_
    refine g_calli (pc := 15) w (mm_runS (As := [.int (mm_I a1), .int (mm_I a2)]) (rest := [.ref (mm_ad G (mm_rt this 2))]) C w (c_X4_indexOf l G a1 a2  s0 _ hw) cs_X4_indexOf ml_X4_84 ⟨Nat.le_of_ble_eq_true rfl, Nat.le_of_ble_eq_true rfl⟩ ⟨Nat.le_of_ble_eq_true rfl, Nat.le_of_ble_eq_true rfl⟩ rfl hl.1 rfl (Nat.le_of_ble_eq_true rfl) dX4_actOf_15) (fun r_2 s_1 H locs hw w => ?_)
    obtain ⟨hi, hw⟩ := hw
    refine g_iald (pc := 18) C w (ro_X4_2 h0) hi dX4_actOf_18 ?_
    refine g_istore_n (pc := 19) C dX4_actOf_19 rfl hl (by decide) (fun v3_3 ev3_3 ls hl => ?_)
    have hw := hw v3_3 ev3_3
    have hl : lv_has ls 5 [(3, .int (mm_I v3_3)), (0, .ref (mm_ad G this)), (1, .int (mm_I a1)), (2, .int (mm_I a2))] := hl
    refine lv_aload_n (pc := 20) C.1 C.2.1 dX4_actOf_20 rfl (lv_at hl 1 rfl) ?_
    refine lv_iload_n (pc := 21) C.1 C.2.1 dX4_actOf_21 rfl (lv_at hl 2 rfl) ?_
    refine lv_iload_n (pc := 22) C.1 C.2.1 dX4_actOf_22 rfl (lv_at hl 3 rfl) ?_
    refine g_calli (pc := 23) w (mm_runV (ci := 4) (q := (RX4, TX4, 12)) (As := [.int (mm_I a1), .int (mm_I a2)]) (rest := []) C w (c_X4_turned l G this a1 a2 h0 s_1 _ hw) h0 rfl rfl cv_X4_turned ml_X4_87 ⟨Nat.le_of_ble_eq_true rfl, Nat.le_of_ble_eq_true rfl⟩ ⟨Nat.le_of_ble_eq_true rfl, Nat.le_of_ble_eq_true rfl⟩ rfl hl.1 rfl (Nat.le_of_ble_eq_true rfl) dX4_actOf_23) (fun r_5 s_4 H locs hw w => ?_)
    refine g_istore (pc := 26) C dX4_actOf_26 hl (by decide) (fun v4_6 ev4_6 ls hl => ?_)
    have hw := hw v4_6 ev4_6
    have hl : lv_has ls 5 [(4, .int (mm_I v4_6)), (3, .int (mm_I v3_3)), (0, .ref (mm_ad G this)), (1, .int (mm_I a1)), (2, .int (mm_I a2))] := hl
    refine lv_iload_n (pc := 28) C.1 C.2.1 dX4_actOf_28 rfl (lv_at hl 1 rfl) ?_
    refine g_if_lt (pc := 29) (tgt := 40) C rfl dX4_actOf_29 (by decide) (fun hc => ?_) (fun hc => ?_)
    · have hw := hw.1 hc
      exact hw  _ _ _ w (lv_sub hl [0] rfl)
    · have hw := hw.2 hc
      refine lv_iload_n (pc := 32) C.1 C.2.1 dX4_actOf_32 rfl (lv_at hl 1 rfl) ?_
      refine lv_iload (pc := 33) C.1 C.2.1 dX4_actOf_33 (lv_at hl 0 rfl) ?_
      refine g_icmp_lt (pc := 35) (tgt := 40) C rfl rfl dX4_actOf_35 (by decide) (fun hc => ?_) (fun hc => ?_)
      · have hw := hw.1 hc
        exact hw  _ _ _ w (lv_sub hl [0] rfl)
      · have hw := hw.2 hc
        refine lv_iconst (pc := 38) (v := mm_I 0) C.1 C.2.1 dX4_actOf_38 rfl ?_
        exact g_iret (pc := 39) C w hr hk hw dX4_actOf_39
  · have hw := hw.2 hc
    refine lv_iconst (pc := 7) (v := mm_I 2) C.1 C.2.1 dX4_actOf_7 rfl ?_
    exact g_iret (pc := 8) C w hr hk hw dX4_actOf_8
theorem cv_X4_valueOf : mm_V yX4_valueOf cX4_valueOf 3 (some .int) 2 := ⟨(mt_5 109 rfl rfl), (mt_5 107 rfl rfl), (mt_5 108 rfl rfl), (mt_1 11 rfl rfl), by decide, by decide, by decide +kernel⟩
theorem ml_X4_90 : Cond.methodLink RX4 90 yX4_valueOf ∈ mm_ws := (mt_5 123 rfl rfl)
def wp_X4_worthOfEntering (this : Nat) (a1 : Int) (a2 : Int) (s0 : mm_M) (post : Int → mm_M → Prop) : Prop :=
  (wp_X4_valueOf this a1 0 s0 (fun r_2 s_1 => post (r_2 - (1000 * a2)) s_1))
set_option maxRecDepth 100000 in
set_option maxHeartbeats 4000000 in
theorem c_X4_worthOfEntering (l : Launch) (G : mm_G) (this : Nat) (a1 : Int) (a2 : Int) (h0 : mm_ok this 14 0) (s0 : mm_M) (post : Int → mm_M → Prop) (hw : wp_X4_worthOfEntering this a1 a2 s0 post) : Met l yX4_worthOfEntering (mm_wm yX4_worthOfEntering cX4_worthOfEntering 3 (some .int)) (mm_rm 3) (va_Pc [.ref (mm_ad G this), .int (mm_I a1), .int (mm_I a2)] (mm_pre G s0)) (mm_Qi G post) 0 0 (mm_A G) := by
  refine mm_met (own := RX4) (by decide) rfl (Nat.le_of_ble_eq_true rfl) ?_
  intro p e s m args below meth c C hr hk
  unfold wp_X4_worthOfEntering at hw
  intro H locs ls w hl
  have hl : lv_has ls 3 [(0, .ref (mm_ad G this)), (1, .int (mm_I a1)), (2, .int (mm_I a2))] := hl
  refine lv_aload_n (pc := 0) C.1 C.2.1 dX4_worthOfEntering_0 rfl (lv_at hl 0 rfl) ?_
  refine lv_iload_n (pc := 1) C.1 C.2.1 dX4_worthOfEntering_1 rfl (lv_at hl 1 rfl) ?_
  refine lv_iconst (pc := 2) (v := mm_I 0) C.1 C.2.1 dX4_worthOfEntering_2 rfl ?_
  refine g_calli (pc := 3) w (mm_runV (ci := 4) (q := (RX4, TX4, 12)) (As := [.int (mm_I a1), .int (mm_I 0)]) (rest := []) C w (c_X4_valueOf l G this a1 0 h0 s0 _ hw) h0 rfl rfl cv_X4_valueOf ml_X4_90 ⟨Nat.le_of_ble_eq_true rfl, Nat.le_of_ble_eq_true rfl⟩ ⟨Nat.le_of_ble_eq_true rfl, Nat.le_of_ble_eq_true rfl⟩ rfl hl.1 rfl (Nat.le_of_ble_eq_true rfl) dX4_worthOfEntering_3) (fun r_2 s_1 H locs hw w => ?_)
  refine lv_sipush (pc := 6) C.1 C.2.1 dX4_worthOfEntering_6 ms_1000 ?_
  refine lv_iload_n (pc := 9) C.1 C.2.1 dX4_worthOfEntering_9 rfl (lv_at hl 2 rfl) ?_
  refine g_imul (pc := 10) C dX4_worthOfEntering_10 ?_
  refine g_isub (pc := 11) C dX4_worthOfEntering_11 ?_
  exact g_iret (pc := 12) C w hr hk hw dX4_worthOfEntering_12
theorem mn_13 : n32 13 = 13 := by decide
def wp_X4_digitOf (a1 : Int) (a2 : Int) (s0 : mm_M) (post : Int → mm_M → Prop) : Prop :=
  ∀ (L4 : Int → Int → mm_M → Prop), 
  (∀ (v2 : Int) (v3 : Int) (s1 : mm_M), ((n32 a2 ≤ n32 v3 → post (Int.tmod (n32 v2) 13) s1) ∧ (¬ n32 a2 ≤ n32 v3 → ((6 ≤ n32 v3 → post (Int.tmod (n32 v2) 13) s1) ∧ (¬ 6 ≤ n32 v3 → (∀ v2_3 : Int, v2_3 = Int.tdiv (n32 v2) 13 → (∀ v3_4 : Int, v3_4 = v3 + 1 → L4 v2_3 v3_4 s1)))))) → L4 v2 v3 s1) →
  (∀ v2_1 : Int, v2_1 = a1 → L4 v2_1 0 s0)
set_option maxRecDepth 100000 in
set_option maxHeartbeats 4000000 in
theorem c_X4_digitOf (l : Launch) (G : mm_G) (a1 : Int) (a2 : Int)  (s0 : mm_M) (post : Int → mm_M → Prop) (hw : wp_X4_digitOf a1 a2 s0 post) : Met l yX4_digitOf (mm_wm yX4_digitOf cX4_digitOf 4 (some .int)) (mm_rm 1) (va_Pc [.int (mm_I a1), .int (mm_I a2)] (mm_pre G s0)) (mm_Qi G post) 0 0 (mm_A G) := by
  refine mm_met (own := RX4) (by decide) rfl (Nat.le_of_ble_eq_true rfl) ?_
  intro p e s m args below meth c C hr hk
  unfold wp_X4_digitOf at hw
  have hw := hw (fun (v2 : Int) (v3 : Int) (u : mm_M) => mm_X p l e (mm_rm 1) s m args below meth c (MQ below (mm_Qi G post) args s 0 0 (mm_A G)) G (mm_A G) 4 4 [(1, .int (mm_I a2)), (2, .int (mm_I v2)), (3, .int (mm_I v3))] [] u)
  have hw := hw (by
    intro v2 v3 s1 hw  H locs ls w hl
    refine lv_iload_n (pc := 4) C.1 C.2.1 dX4_digitOf_4 rfl (lv_at hl 2 rfl) ?_
    refine lv_iload_n (pc := 5) C.1 C.2.1 dX4_digitOf_5 rfl (lv_at hl 0 rfl) ?_
    refine g_icmp_ge (pc := 6) (tgt := 26) C rfl rfl dX4_digitOf_6 (by decide) (fun hc => ?_) (fun hc => ?_)
    · have hw := hw.1 hc
      refine lv_iload_n (pc := 26) C.1 C.2.1 dX4_digitOf_26 rfl (lv_at hl 1 rfl) ?_
      refine lv_bipush (pc := 27) C.1 C.2.1 dX4_digitOf_27 mb_13 ?_
      refine g_irem (pc := 29) C rfl mn_13 (by decide) dX4_digitOf_29 ?_
      exact g_iret (pc := 30) C w hr hk hw dX4_digitOf_30
    · have hw := hw.2 hc
      refine lv_iload_n (pc := 9) C.1 C.2.1 dX4_digitOf_9 rfl (lv_at hl 2 rfl) ?_
      refine lv_bipush (pc := 10) C.1 C.2.1 dX4_digitOf_10 mb_6 ?_
      refine g_icmp_ge (pc := 12) (tgt := 26) C rfl mn_6 dX4_digitOf_12 (by decide) (fun hc => ?_) (fun hc => ?_)
      · have hw := hw.1 hc
        refine lv_iload_n (pc := 26) C.1 C.2.1 dX4_digitOf_26 rfl (lv_at hl 1 rfl) ?_
        refine lv_bipush (pc := 27) C.1 C.2.1 dX4_digitOf_27 mb_13 ?_
        refine g_irem (pc := 29) C rfl mn_13 (by decide) dX4_digitOf_29 ?_
        exact g_iret (pc := 30) C w hr hk hw dX4_digitOf_30
      · have hw := hw.2 hc
        refine lv_iload_n (pc := 15) C.1 C.2.1 dX4_digitOf_15 rfl (lv_at hl 1 rfl) ?_
        refine lv_bipush (pc := 16) C.1 C.2.1 dX4_digitOf_16 mb_13 ?_
        refine g_idiv (pc := 18) C rfl mn_13 (by decide) dX4_digitOf_18 ?_
        refine g_istore_n (pc := 19) C dX4_digitOf_19 rfl hl (by decide) (fun v2_3 ev2_3 ls hl => ?_)
        have hw := hw v2_3 ev2_3
        have hl : lv_has ls 4 [(2, .int (mm_I v2_3)), (1, .int (mm_I a2)), (3, .int (mm_I v3))] := hl
        refine g_iinc (pc := 20) (k := 2) C dX4_digitOf_20 hl rfl (by decide) (fun v3_4 ev3_4 ls hl => ?_)
        have hw := hw v3_4 ev3_4
        have hl : lv_has ls 4 [(3, .int (mm_I v3_4)), (2, .int (mm_I v2_3)), (1, .int (mm_I a2))] := hl
        refine lv_goto (pc := 23) (tgt := 4) C.1 C.2.1 dX4_digitOf_23 (by decide) ?_
        exact hw  _ _ _ w (lv_sub hl [2, 1, 0] rfl))
  intro H locs ls w hl
  have hl : lv_has ls 4 [(0, .int (mm_I a1)), (1, .int (mm_I a2))] := hl
  refine lv_iload_n (pc := 0) C.1 C.2.1 dX4_digitOf_0 rfl (lv_at hl 0 rfl) ?_
  refine g_istore_n (pc := 1) C dX4_digitOf_1 rfl hl (by decide) (fun v2_1 ev2_1 ls hl => ?_)
  have hw := hw v2_1 ev2_1
  have hl : lv_has ls 4 [(2, .int (mm_I v2_1)), (0, .int (mm_I a1)), (1, .int (mm_I a2))] := hl
  refine lv_iconst (pc := 2) (v := mm_I 0) C.1 C.2.1 dX4_digitOf_2 rfl ?_
  refine lv_istore_n (pc := 3) (lv' := [(3, .int (mm_I 0)), (2, .int (mm_I v2_1)), (0, .int (mm_I a1)), (1, .int (mm_I a2))]) C.1 C.2.1 dX4_digitOf_3 rfl hl (by decide) rfl (fun ls hl => ?_)
  exact hw  _ _ _ w (lv_sub hl [3, 1, 0] rfl)
theorem lk_X4_21 : Cond.fieldLink RX4 21 "LastServed$Ones" "entering" "[I" ∈ mm_ws := (mt_2 84 rfl rfl)
theorem ff_X4_3 : mm_F 4 3 1 RX4 TX4 12 := ⟨rfl, by decide, fk_X4, rfl, rfl⟩
theorem ro_X4_3 {i : Nat} (h : mm_ok i 14 0) : mm_ok (mm_rt i 3) 0 6 := by
  have q : ∀ i, i < mm_N → mm_kd i = 14 → mm_rt i 3 < mm_N ∧ mm_kd (mm_rt i 3) = 0 ∧ mm_ln (mm_rt i 3) = 6 := by decide +kernel
  exact q i h.1 h.2.1
theorem cv_X4_reach : mm_V yX4_reach cX4_reach 3 none 1 := ⟨(mt_5 79 rfl rfl), (mt_5 77 rfl rfl), (mt_5 78 rfl rfl), (mt_1 11 rfl rfl), by decide, by decide, by decide +kernel⟩
theorem ml_X4_113 : Cond.methodLink RX4 113 yX4_reach ∈ mm_ws := (mt_5 133 rfl rfl)
theorem cs_X4_digitOf : mm_S yX4_digitOf cX4_digitOf 4 (some .int) 2 := ⟨(mt_5 136 rfl rfl), (mt_5 135 rfl rfl), (mt_1 11 rfl rfl), by decide, by decide, by decide +kernel⟩
theorem ml_X4_117 : Cond.methodLink RX4 117 yX4_digitOf ∈ mm_ws := (mt_5 134 rfl rfl)
theorem cv_X4_worthOfEntering : mm_V yX4_worthOfEntering cX4_worthOfEntering 3 (some .int) 2 := ⟨(mt_5 122 rfl rfl), (mt_5 120 rfl rfl), (mt_5 121 rfl rfl), (mt_1 11 rfl rfl), by decide, by decide, by decide +kernel⟩
theorem ml_X4_120 : Cond.methodLink RX4 120 yX4_worthOfEntering ∈ mm_ws := (mt_5 137 rfl rfl)
def wp_X4_bestTime (this : Nat) (a1 : Int) (a2 : Int) (a3 : Int) (s0 : mm_M) (post : Int → mm_M → Prop) : Prop :=
  ∀ (L3 : Int → mm_M → Prop), ∀ (L72 : Int → Int → Int → mm_M → Prop), 
  (∀ (v4 : Int) (s1 : mm_M), ((n32 v4 < 0 → L72 (-1) 0 0 s1) ∧ (¬ n32 v4 < 0 → (∀ v5_5 : Int, v5_5 = a1 - (v4 * 10) → ((n32 v5_5 < 0 → ((0 ≤ v4 ∧ v4 < 6) ∧ (∀ s_6 : mm_M, s_6 = mm_up s1 (mm_rt this 3) v4 0 → (∀ v4_7 : Int, v4_7 = v4 + (-1) → L3 v4_7 s_6)))) ∧ (¬ n32 v5_5 < 0 → (wp_X4_reach this v5_5 s1 (fun s_8 => (wp_X4_digitOf a2 v4 s_8 (fun r_11 s_10 => (wp_X4_worthOfEntering this r_11 a3 s_10 (fun r_13 s_12 => ((0 ≤ v4 ∧ v4 < 6) ∧ (∀ s_14 : mm_M, s_14 = mm_up s_12 (mm_rt this 3) v4 r_13 → (∀ v4_15 : Int, v4_15 = v4 + (-1) → L3 v4_15 s_14)))))))))))))) → L3 v4 s1) →
  (∀ (v4 : Int) (v5 : Int) (v6 : Int) (s1 : mm_M), ((6 ≤ n32 v6 → post v4 s1) ∧ (¬ 6 ≤ n32 v6 → ((0 ≤ v6 ∧ v6 < 6) ∧ ((n32 (s1 (mm_rt this 3) v6) ≤ n32 v5 → (∀ v6_16 : Int, v6_16 = v6 + 1 → L72 v4 v5 v6_16 s1)) ∧ (¬ n32 (s1 (mm_rt this 3) v6) ≤ n32 v5 → ((0 ≤ v6 ∧ v6 < 6) ∧ (∀ v5_17 : Int, v5_17 = s1 (mm_rt this 3) v6 → (∀ v4_18 : Int, v4_18 = v6 → (∀ v6_19 : Int, v6_19 = v6 + 1 → L72 v4_18 v5_17 v6_19 s1))))))))) → L72 v4 v5 v6 s1) →
  L3 5 s0
set_option maxRecDepth 100000 in
set_option maxHeartbeats 4000000 in
theorem c_X4_bestTime (l : Launch) (G : mm_G) (this : Nat) (a1 : Int) (a2 : Int) (a3 : Int) (h0 : mm_ok this 14 0) (s0 : mm_M) (post : Int → mm_M → Prop) (hw : wp_X4_bestTime this a1 a2 a3 s0 post) : Met l yX4_bestTime (mm_wm yX4_bestTime cX4_bestTime 7 (some .int)) (mm_rm 6) (va_Pc [.ref (mm_ad G this), .int (mm_I a1), .int (mm_I a2), .int (mm_I a3)] (mm_pre G s0)) (mm_Qi G post) 0 0 (mm_A G) := by
  refine mm_met (own := RX4) (by decide) rfl (Nat.le_of_ble_eq_true rfl) ?_
  intro p e s m args below meth c C hr hk
  unfold wp_X4_bestTime at hw
  have hw := hw (fun (v4 : Int) (u : mm_M) => mm_X p l e (mm_rm 6) s m args below meth c (MQ below (mm_Qi G post) args s 0 0 (mm_A G)) G (mm_A G) 7 3 [(0, .ref (mm_ad G this)), (1, .int (mm_I a1)), (2, .int (mm_I a2)), (3, .int (mm_I a3)), (4, .int (mm_I v4))] [] u)
  have hw := hw (fun (v4 : Int) (v5 : Int) (v6 : Int) (u : mm_M) => mm_X p l e (mm_rm 6) s m args below meth c (MQ below (mm_Qi G post) args s 0 0 (mm_A G)) G (mm_A G) 7 72 [(0, .ref (mm_ad G this)), (4, .int (mm_I v4)), (5, .int (mm_I v5)), (6, .int (mm_I v6))] [] u)
  have hw := hw (by
    intro v4 s1 hw  H locs ls w hl
    refine lv_iload (pc := 3) C.1 C.2.1 dX4_bestTime_3 (lv_at hl 4 rfl) ?_
    refine g_if_lt (pc := 5) (tgt := 63) C rfl dX4_bestTime_5 (by decide) (fun hc => ?_) (fun hc => ?_)
    · have hw := hw.1 hc
      refine lv_iconst (pc := 63) (v := mm_I (-1)) C.1 C.2.1 dX4_bestTime_63 rfl ?_
      refine lv_istore (pc := 64) (lv' := [(4, .int (mm_I (-1))), (0, .ref (mm_ad G this)), (1, .int (mm_I a1)), (2, .int (mm_I a2)), (3, .int (mm_I a3))]) C.1 C.2.1 dX4_bestTime_64 hl (by decide) rfl (fun ls hl => ?_)
      refine lv_iconst (pc := 66) (v := mm_I 0) C.1 C.2.1 dX4_bestTime_66 rfl ?_
      refine lv_istore (pc := 67) (lv' := [(5, .int (mm_I 0)), (4, .int (mm_I (-1))), (0, .ref (mm_ad G this)), (1, .int (mm_I a1)), (2, .int (mm_I a2)), (3, .int (mm_I a3))]) C.1 C.2.1 dX4_bestTime_67 hl (by decide) rfl (fun ls hl => ?_)
      refine lv_iconst (pc := 69) (v := mm_I 0) C.1 C.2.1 dX4_bestTime_69 rfl ?_
      refine lv_istore (pc := 70) (lv' := [(6, .int (mm_I 0)), (5, .int (mm_I 0)), (4, .int (mm_I (-1))), (0, .ref (mm_ad G this)), (1, .int (mm_I a1)), (2, .int (mm_I a2)), (3, .int (mm_I a3))]) C.1 C.2.1 dX4_bestTime_70 hl (by decide) rfl (fun ls hl => ?_)
      exact hw  _ _ _ w (lv_sub hl [3, 2, 1, 0] rfl)
    · have hw := hw.2 hc
      refine lv_iload_n (pc := 8) C.1 C.2.1 dX4_bestTime_8 rfl (lv_at hl 1 rfl) ?_
      refine lv_iload (pc := 9) C.1 C.2.1 dX4_bestTime_9 (lv_at hl 4 rfl) ?_
      refine lv_bipush (pc := 11) C.1 C.2.1 dX4_bestTime_11 mb_10 ?_
      refine g_imul (pc := 13) C dX4_bestTime_13 ?_
      refine g_isub (pc := 14) C dX4_bestTime_14 ?_
      refine g_istore (pc := 15) C dX4_bestTime_15 hl (by decide) (fun v5_5 ev5_5 ls hl => ?_)
      have hw := hw v5_5 ev5_5
      have hl : lv_has ls 7 [(5, .int (mm_I v5_5)), (0, .ref (mm_ad G this)), (1, .int (mm_I a1)), (2, .int (mm_I a2)), (3, .int (mm_I a3)), (4, .int (mm_I v4))] := hl
      refine lv_iload (pc := 17) C.1 C.2.1 dX4_bestTime_17 (lv_at hl 0 rfl) ?_
      refine g_if_lt (pc := 19) (tgt := 49) C rfl dX4_bestTime_19 (by decide) (fun hc => ?_) (fun hc => ?_)
      · have hw := hw.1 hc
        refine lv_aload_n (pc := 49) C.1 C.2.1 dX4_bestTime_49 rfl (lv_at hl 1 rfl) ?_
        refine g_getr (pc := 50) C w h0 ff_X4_3 lk_X4_21 dX4_bestTime_50 ?_
        refine lv_iload (pc := 53) C.1 C.2.1 dX4_bestTime_53 (lv_at hl 5 rfl) ?_
        refine lv_iconst (pc := 55) (v := mm_I 0) C.1 C.2.1 dX4_bestTime_55 rfl ?_
        obtain ⟨hi, hw⟩ := hw
        refine g_iast (pc := 56) C w (ro_X4_3 h0) hi  dX4_bestTime_56 (fun s_6 H locs es_6 w => ?_)
        have hw := hw s_6 es_6
        refine g_iinc (pc := 57) (k := 5) C dX4_bestTime_57 hl rfl (by decide) (fun v4_7 ev4_7 ls hl => ?_)
        have hw := hw v4_7 ev4_7
        have hl : lv_has ls 7 [(4, .int (mm_I v4_7)), (5, .int (mm_I v5_5)), (0, .ref (mm_ad G this)), (1, .int (mm_I a1)), (2, .int (mm_I a2)), (3, .int (mm_I a3))] := hl
        refine lv_goto (pc := 60) (tgt := 3) C.1 C.2.1 dX4_bestTime_60 (by decide) ?_
        exact hw  _ _ _ w (lv_sub hl [2, 3, 4, 5, 0] rfl)
      · have hw := hw.2 hc
        refine lv_aload_n (pc := 22) C.1 C.2.1 dX4_bestTime_22 rfl (lv_at hl 1 rfl) ?_
        refine lv_iload (pc := 23) C.1 C.2.1 dX4_bestTime_23 (lv_at hl 0 rfl) ?_
        refine g_callv (pc := 25) w (mm_runV (ci := 4) (q := (RX4, TX4, 12)) (As := [.int (mm_I v5_5)]) (rest := []) C w (c_X4_reach l G this v5_5 h0 s1 _ hw) h0 rfl rfl cv_X4_reach ml_X4_113 ⟨Nat.le_of_ble_eq_true rfl, Nat.le_of_ble_eq_true rfl⟩ ⟨Nat.le_of_ble_eq_true rfl, Nat.le_of_ble_eq_true rfl⟩ rfl hl.1 rfl (Nat.le_of_ble_eq_true rfl) dX4_bestTime_25) (fun s_8 H locs hw w => ?_)
        refine lv_aload_n (pc := 28) C.1 C.2.1 dX4_bestTime_28 rfl (lv_at hl 1 rfl) ?_
        refine g_getr (pc := 29) C w h0 ff_X4_3 lk_X4_21 dX4_bestTime_29 ?_
        refine lv_iload (pc := 32) C.1 C.2.1 dX4_bestTime_32 (lv_at hl 5 rfl) ?_
        refine lv_aload_n (pc := 34) C.1 C.2.1 dX4_bestTime_34 rfl (lv_at hl 1 rfl) ?_
        refine lv_iload_n (pc := 35) C.1 C.2.1 dX4_bestTime_35 rfl (lv_at hl 3 rfl) ?_
        refine lv_iload (pc := 36) C.1 C.2.1 dX4_bestTime_36 (lv_at hl 5 rfl) ?_
        refine g_calli (pc := 38) w (mm_runS (As := [.int (mm_I a2), .int (mm_I v4)]) (rest := [.ref (mm_ad G this), .int (mm_I v4), .ref (mm_ad G (mm_rt this 3))]) C w (c_X4_digitOf l G a2 v4  s_8 _ hw) cs_X4_digitOf ml_X4_117 ⟨Nat.le_of_ble_eq_true rfl, Nat.le_of_ble_eq_true rfl⟩ ⟨Nat.le_of_ble_eq_true rfl, Nat.le_of_ble_eq_true rfl⟩ rfl hl.1 rfl (Nat.le_of_ble_eq_true rfl) dX4_bestTime_38) (fun r_11 s_10 H locs hw w => ?_)
        refine lv_iload_n (pc := 41) C.1 C.2.1 dX4_bestTime_41 rfl (lv_at hl 4 rfl) ?_
        refine g_calli (pc := 42) w (mm_runV (ci := 4) (q := (RX4, TX4, 12)) (As := [.int (mm_I r_11), .int (mm_I a3)]) (rest := [.int (mm_I v4), .ref (mm_ad G (mm_rt this 3))]) C w (c_X4_worthOfEntering l G this r_11 a3 h0 s_10 _ hw) h0 rfl rfl cv_X4_worthOfEntering ml_X4_120 ⟨Nat.le_of_ble_eq_true rfl, Nat.le_of_ble_eq_true rfl⟩ ⟨Nat.le_of_ble_eq_true rfl, Nat.le_of_ble_eq_true rfl⟩ rfl hl.1 rfl (Nat.le_of_ble_eq_true rfl) dX4_bestTime_42) (fun r_13 s_12 H locs hw w => ?_)
        obtain ⟨hi, hw⟩ := hw
        refine g_iast (pc := 45) C w (ro_X4_3 h0) hi  dX4_bestTime_45 (fun s_14 H locs es_14 w => ?_)
        have hw := hw s_14 es_14
        refine lv_goto (pc := 46) (tgt := 57) C.1 C.2.1 dX4_bestTime_46 (by decide) ?_
        refine g_iinc (pc := 57) (k := 5) C dX4_bestTime_57 hl rfl (by decide) (fun v4_15 ev4_15 ls hl => ?_)
        have hw := hw v4_15 ev4_15
        have hl : lv_has ls 7 [(4, .int (mm_I v4_15)), (5, .int (mm_I v5_5)), (0, .ref (mm_ad G this)), (1, .int (mm_I a1)), (2, .int (mm_I a2)), (3, .int (mm_I a3))] := hl
        refine lv_goto (pc := 60) (tgt := 3) C.1 C.2.1 dX4_bestTime_60 (by decide) ?_
        exact hw  _ _ _ w (lv_sub hl [2, 3, 4, 5, 0] rfl))
  have hw := hw (by
    intro v4 v5 v6 s1 hw  H locs ls w hl
    refine lv_iload (pc := 72) C.1 C.2.1 dX4_bestTime_72 (lv_at hl 3 rfl) ?_
    refine lv_bipush (pc := 74) C.1 C.2.1 dX4_bestTime_74 mb_6 ?_
    refine g_icmp_ge (pc := 76) (tgt := 110) C rfl mn_6 dX4_bestTime_76 (by decide) (fun hc => ?_) (fun hc => ?_)
    · have hw := hw.1 hc
      refine lv_iload (pc := 110) C.1 C.2.1 dX4_bestTime_110 (lv_at hl 1 rfl) ?_
      exact g_iret (pc := 112) C w hr hk hw dX4_bestTime_112
    · have hw := hw.2 hc
      refine lv_aload_n (pc := 79) C.1 C.2.1 dX4_bestTime_79 rfl (lv_at hl 0 rfl) ?_
      refine g_getr (pc := 80) C w h0 ff_X4_3 lk_X4_21 dX4_bestTime_80 ?_
      refine lv_iload (pc := 83) C.1 C.2.1 dX4_bestTime_83 (lv_at hl 3 rfl) ?_
      obtain ⟨hi, hw⟩ := hw
      refine g_iald (pc := 85) C w (ro_X4_3 h0) hi dX4_bestTime_85 ?_
      refine lv_iload (pc := 86) C.1 C.2.1 dX4_bestTime_86 (lv_at hl 2 rfl) ?_
      refine g_icmp_le (pc := 88) (tgt := 104) C rfl rfl dX4_bestTime_88 (by decide) (fun hc => ?_) (fun hc => ?_)
      · have hw := hw.1 hc
        refine g_iinc (pc := 104) (k := 3) C dX4_bestTime_104 hl rfl (by decide) (fun v6_16 ev6_16 ls hl => ?_)
        have hw := hw v6_16 ev6_16
        have hl : lv_has ls 7 [(6, .int (mm_I v6_16)), (0, .ref (mm_ad G this)), (4, .int (mm_I v4)), (5, .int (mm_I v5))] := hl
        refine lv_goto (pc := 107) (tgt := 72) C.1 C.2.1 dX4_bestTime_107 (by decide) ?_
        exact hw  _ _ _ w (lv_sub hl [1, 2, 3, 0] rfl)
      · have hw := hw.2 hc
        refine lv_aload_n (pc := 91) C.1 C.2.1 dX4_bestTime_91 rfl (lv_at hl 0 rfl) ?_
        refine g_getr (pc := 92) C w h0 ff_X4_3 lk_X4_21 dX4_bestTime_92 ?_
        refine lv_iload (pc := 95) C.1 C.2.1 dX4_bestTime_95 (lv_at hl 3 rfl) ?_
        obtain ⟨hi, hw⟩ := hw
        refine g_iald (pc := 97) C w (ro_X4_3 h0) hi dX4_bestTime_97 ?_
        refine g_istore (pc := 98) C dX4_bestTime_98 hl (by decide) (fun v5_17 ev5_17 ls hl => ?_)
        have hw := hw v5_17 ev5_17
        have hl : lv_has ls 7 [(5, .int (mm_I v5_17)), (0, .ref (mm_ad G this)), (4, .int (mm_I v4)), (6, .int (mm_I v6))] := hl
        refine lv_iload (pc := 100) C.1 C.2.1 dX4_bestTime_100 (lv_at hl 3 rfl) ?_
        refine g_istore (pc := 102) C dX4_bestTime_102 hl (by decide) (fun v4_18 ev4_18 ls hl => ?_)
        have hw := hw v4_18 ev4_18
        have hl : lv_has ls 7 [(4, .int (mm_I v4_18)), (5, .int (mm_I v5_17)), (0, .ref (mm_ad G this)), (6, .int (mm_I v6))] := hl
        refine g_iinc (pc := 104) (k := 3) C dX4_bestTime_104 hl rfl (by decide) (fun v6_19 ev6_19 ls hl => ?_)
        have hw := hw v6_19 ev6_19
        have hl : lv_has ls 7 [(6, .int (mm_I v6_19)), (4, .int (mm_I v4_18)), (5, .int (mm_I v5_17)), (0, .ref (mm_ad G this))] := hl
        refine lv_goto (pc := 107) (tgt := 72) C.1 C.2.1 dX4_bestTime_107 (by decide) ?_
        exact hw  _ _ _ w (lv_sub hl [3, 1, 2, 0] rfl))
  intro H locs ls w hl
  have hl : lv_has ls 7 [(0, .ref (mm_ad G this)), (1, .int (mm_I a1)), (2, .int (mm_I a2)), (3, .int (mm_I a3))] := hl
  refine lv_iconst (pc := 0) (v := mm_I 5) C.1 C.2.1 dX4_bestTime_0 rfl ?_
  refine lv_istore (pc := 1) (lv' := [(4, .int (mm_I 5)), (0, .ref (mm_ad G this)), (1, .int (mm_I a1)), (2, .int (mm_I a2)), (3, .int (mm_I a3))]) C.1 C.2.1 dX4_bestTime_1 hl (by decide) rfl (fun ls hl => ?_)
  exact hw  _ _ _ w (lv_sub hl [1, 2, 3, 4, 0] rfl)
