theorem mv_max : Cond.static Lib.Math.max.name ∈ mm_ws ∧ Cond.initialized "java/lang/Math" ∈ mm_ws ∧ Cond.code Lib.Math.max.name Lib.Math.max.code 2 (some .int) ∈ mm_ws := ⟨(mt_4 3 rfl rfl), (mt_1 19 rfl rfl), (mt_4 4 rfl rfl)⟩
theorem mv_min : Cond.static Lib.Math.min.name ∈ mm_ws ∧ Cond.initialized "java/lang/Math" ∈ mm_ws ∧ Cond.code Lib.Math.min.name Lib.Math.min.code 2 (some .int) ∈ mm_ws := ⟨(mt_4 102 rfl rfl), (mt_1 19 rfl rfl), (mt_4 103 rfl rfl)⟩
theorem mv_copy : Cond.native arraycopyName ∈ mm_ws ∧ Cond.static arraycopyName ∈ mm_ws ∧ Cond.initialized "java/lang/System" ∈ mm_ws := ⟨(mt_3 133 rfl rfl), (mt_3 132 rfl rfl), (mt_1 17 rfl rfl)⟩
def wp_J7_fill_53178 (a1 : Nat) (n1 : Nat) (a2 : Int) (s0 : mm_M) (post : mm_M → Prop) : Prop :=
  ∀ (L5 : Int → Int → mm_M → Prop), 
  (∀ (v2 : Int) (v3 : Int) (s1 : mm_M), ((n32 v3 ≤ n32 v2 → post s1) ∧ (¬ n32 v3 ≤ n32 v2 → ((0 ≤ v2 ∧ v2 < n1) ∧ (∀ s_3 : mm_M, s_3 = mm_up s1 a1 v2 a2 → (∀ v2_4 : Int, v2_4 = v2 + 1 → L5 v2_4 v3 s_3))))) → L5 v2 v3 s1) →
  (∀ v3_2 : Int, v3_2 = (n1 : Int) → L5 0 v3_2 s0)
set_option maxRecDepth 100000 in
set_option maxHeartbeats 4000000 in
theorem c_J7_fill_53178 (l : Launch) (G : mm_G) (a1 : Nat) (n1 : Nat) (a2 : Int) (h1 : mm_ok a1 0 n1) (s0 : mm_M) (post : mm_M → Prop) (hw : wp_J7_fill_53178 a1 n1 a2 s0 post) : Met l yJ7_fill_53178 (mm_wm yJ7_fill_53178 cJ7_fill_53178 4 none) (mm_rm 1) (va_Pc [.ref (mm_ad G a1), .int (mm_I a2)] (mm_pre G s0)) (mm_Qv G post) 0 0 (mm_A G) := by
  refine mm_met (own := RJ7) (by decide) rfl (Nat.le_of_ble_eq_true rfl) ?_
  intro p e s m args below meth c C hr hk
  unfold wp_J7_fill_53178 at hw
  have hw := hw (fun (v2 : Int) (v3 : Int) (u : mm_M) => mm_X p l e (mm_rm 1) s m args below meth c (MQ below (mm_Qv G post) args s 0 0 (mm_A G)) G (mm_A G) 4 5 [(0, .ref (mm_ad G a1)), (1, .int (mm_I a2)), (2, .int (mm_I v2)), (3, .int (mm_I v3))] [] u)
  have hw := hw (by
    intro v2 v3 s1 hw  H locs ls w hl
    refine lv_iload_n (pc := 5) C.1 C.2.1 dJ7_fill_53178_5 rfl (lv_at hl 2 rfl) ?_
    refine lv_iload_n (pc := 6) C.1 C.2.1 dJ7_fill_53178_6 rfl (lv_at hl 3 rfl) ?_
    refine g_icmp_ge (pc := 7) (tgt := 20) C rfl rfl dJ7_fill_53178_7 (by decide) (fun hc => ?_) (fun hc => ?_)
    · have hw := hw.1 hc
      exact g_vret (pc := 20) C w hr hk hw dJ7_fill_53178_20
    · have hw := hw.2 hc
      refine lv_aload_n (pc := 10) C.1 C.2.1 dJ7_fill_53178_10 rfl (lv_at hl 0 rfl) ?_
      refine lv_iload_n (pc := 11) C.1 C.2.1 dJ7_fill_53178_11 rfl (lv_at hl 2 rfl) ?_
      refine lv_iload_n (pc := 12) C.1 C.2.1 dJ7_fill_53178_12 rfl (lv_at hl 1 rfl) ?_
      obtain ⟨hi, hw⟩ := hw
      refine g_iast (pc := 13) C w h1 hi  dJ7_fill_53178_13 (fun s_3 H locs es_3 w => ?_)
      have hw := hw s_3 es_3
      refine g_iinc (pc := 14) (k := 2) C dJ7_fill_53178_14 hl rfl (by decide) (fun v2_4 ev2_4 ls hl => ?_)
      have hw := hw v2_4 ev2_4
      have hl : lv_has ls 4 [(2, .int (mm_I v2_4)), (0, .ref (mm_ad G a1)), (1, .int (mm_I a2)), (3, .int (mm_I v3))] := hl
      refine lv_goto (pc := 17) (tgt := 5) C.1 C.2.1 dJ7_fill_53178_17 (by decide) ?_
      exact hw  _ _ _ w (lv_sub hl [1, 2, 0, 3] rfl))
  intro H locs ls w hl
  have hl : lv_has ls 4 [(0, .ref (mm_ad G a1)), (1, .int (mm_I a2))] := hl
  refine lv_iconst (pc := 0) (v := mm_I 0) C.1 C.2.1 dJ7_fill_53178_0 rfl ?_
  refine lv_istore_n (pc := 1) (lv' := [(2, .int (mm_I 0)), (0, .ref (mm_ad G a1)), (1, .int (mm_I a2))]) C.1 C.2.1 dJ7_fill_53178_1 rfl hl (by decide) rfl (fun ls hl => ?_)
  refine lv_aload_n (pc := 2) C.1 C.2.1 dJ7_fill_53178_2 rfl (lv_at hl 1 rfl) ?_
  refine g_alen (pc := 3) C w h1 dJ7_fill_53178_3 ?_
  refine g_istore_n (pc := 4) C dJ7_fill_53178_4 rfl hl (by decide) (fun v3_2 ev3_2 ls hl => ?_)
  have hw := hw v3_2 ev3_2
  have hl : lv_has ls 4 [(3, .int (mm_I v3_2)), (2, .int (mm_I 0)), (0, .ref (mm_ad G a1)), (1, .int (mm_I a2))] := hl
  exact hw  _ _ _ w (lv_sub hl [2, 3, 1, 0] rfl)
theorem lk_X0_15 : Cond.fieldLink RX0 15 "LastServed$Book" "size" "I" ∈ mm_ws := (mt_1 181 rfl rfl)
theorem ff_X0_1 : mm_F 0 1 0 RX0 TX0 2 := ⟨rfl, by decide, fk_X0, rfl, rfl⟩
theorem mb_20 : (Int8.ofInt 20).toInt32 = mm_I 20 := by decide
theorem mn_20 : n32 20 = 20 := by decide
theorem lk_X0_11 : Cond.fieldLink RX0 11 "LastServed$Book" "facts" "[I" ∈ mm_ws := (mt_1 180 rfl rfl)
theorem ff_X0_0 : mm_F 0 0 1 RX0 TX0 2 := ⟨rfl, by decide, fk_X0, rfl, rfl⟩
theorem ro_X0_0 {i : Nat} (h : mm_ok i 10 0) : mm_ok (mm_rt i 0) 0 100 := by
  have q : ∀ i, i < mm_N → mm_kd i = 10 → mm_rt i 0 < mm_N ∧ mm_kd (mm_rt i 0) = 0 ∧ mm_ln (mm_rt i 0) = 100 := by decide +kernel
  exact q i h.1 h.2.1
theorem mb_95 : (Int8.ofInt 95).toInt32 = mm_I 95 := by decide
theorem ml_X0_19 : Cond.methodLink RX0 19 arraycopyName ∈ mm_ws := (mt_4 181 rfl rfl)
theorem mb_19 : (Int8.ofInt 19).toInt32 = mm_I 19 := by decide
theorem fw_X0_1 : mm_Fw 0 1 TX0 2 .int := ⟨⟨tyX0, tyX0_ok⟩, nmX0, rfl, by decide +kernel⟩
theorem ml_X0_25 : Cond.methodLink RX0 25 Lib.Math.max.name ∈ mm_ws := (mt_4 182 rfl rfl)
def wp_X0_write (this : Nat) (a1 : Int) (a2 : Int) (a3 : Int) (a4 : Int) (a5 : Int) (s0 : mm_M) (post : mm_M → Prop) : Prop :=
  ∀ (L30 : mm_M → Prop), 
  (∀  (s1 : mm_M), (∀ v6_3 : Int, v6_3 = (mm_max (s1 this 1) 0) * 5 → ((0 ≤ v6_3 + 0 ∧ v6_3 + 0 < 100) ∧ (∀ s_4 : mm_M, s_4 = mm_up s1 (mm_rt this 0) (v6_3 + 0) a1 → ((0 ≤ v6_3 + 1 ∧ v6_3 + 1 < 100) ∧ (∀ s_5 : mm_M, s_5 = mm_up s_4 (mm_rt this 0) (v6_3 + 1) a2 → ((0 ≤ v6_3 + 2 ∧ v6_3 + 2 < 100) ∧ (∀ s_6 : mm_M, s_6 = mm_up s_5 (mm_rt this 0) (v6_3 + 2) a3 → ((0 ≤ v6_3 + 3 ∧ v6_3 + 3 < 100) ∧ (∀ s_7 : mm_M, s_7 = mm_up s_6 (mm_rt this 0) (v6_3 + 3) a4 → ((0 ≤ v6_3 + 4 ∧ v6_3 + 4 < 100) ∧ (∀ s_8 : mm_M, s_8 = mm_up s_7 (mm_rt this 0) (v6_3 + 4) a5 → (∀ s_9 : mm_M, s_9 = mm_up s_8 this 1 ((s_8 this 1) + 1) → post s_9)))))))))))) → L30 s1) →
  ((n32 (s0 this 1) < 20 → L30 s0) ∧ (¬ n32 (s0 this 1) < 20 → ((0 ≤ (5 : Int) ∧ 0 ≤ (0 : Int) ∧ 0 ≤ (95 : Int) ∧ (5 : Int) + 95 ≤ 100 ∧ (0 : Int) + 95 ≤ 100) ∧ (∀ s_1 : mm_M, s_1 = mm_cp s0 (mm_rt this 0) 5 (mm_rt this 0) 0 95 → (∀ s_2 : mm_M, s_2 = mm_up s_1 this 1 19 → L30 s_2)))))
set_option maxRecDepth 100000 in
set_option maxHeartbeats 4000000 in
theorem c_X0_write (l : Launch) (G : mm_G) (this : Nat) (a1 : Int) (a2 : Int) (a3 : Int) (a4 : Int) (a5 : Int) (h0 : mm_ok this 10 0) (s0 : mm_M) (post : mm_M → Prop) (hw : wp_X0_write this a1 a2 a3 a4 a5 s0 post) : Met l yX0_write (mm_wm yX0_write cX0_write 7 none) (mm_rm 2) (va_Pc [.ref (mm_ad G this), .int (mm_I a1), .int (mm_I a2), .int (mm_I a3), .int (mm_I a4), .int (mm_I a5)] (mm_pre G s0)) (mm_Qv G post) 0 0 (mm_A G) := by
  refine mm_met (own := RX0) (by decide) rfl (Nat.le_of_ble_eq_true rfl) ?_
  intro p e s m args below meth c C hr hk
  unfold wp_X0_write at hw
  have hw := hw (fun  (u : mm_M) => mm_X p l e (mm_rm 2) s m args below meth c (MQ below (mm_Qv G post) args s 0 0 (mm_A G)) G (mm_A G) 7 30 [(0, .ref (mm_ad G this)), (1, .int (mm_I a1)), (2, .int (mm_I a2)), (3, .int (mm_I a3)), (4, .int (mm_I a4)), (5, .int (mm_I a5))] [] u)
  have hw := hw (by
    intro  s1 hw  H locs ls w hl
    refine lv_aload_n (pc := 30) C.1 C.2.1 dX0_write_30 rfl (lv_at hl 0 rfl) ?_
    refine g_geti (pc := 31) C w h0 ff_X0_1 lk_X0_15 dX0_write_31 ?_
    refine lv_iconst (pc := 34) (v := mm_I 0) C.1 C.2.1 dX0_write_34 rfl ?_
    refine g_max (pc := 35) C hl.1 ml_X0_25 mv_max ⟨Nat.le_of_ble_eq_true rfl, Nat.le_of_ble_eq_true rfl⟩ ⟨Nat.le_of_ble_eq_true rfl, Nat.le_of_ble_eq_true rfl⟩ dX0_write_35 ?_
    refine lv_iconst (pc := 38) (v := mm_I 5) C.1 C.2.1 dX0_write_38 rfl ?_
    refine g_imul (pc := 39) C dX0_write_39 ?_
    refine g_istore (pc := 40) C dX0_write_40 hl (by decide) (fun v6_3 ev6_3 ls hl => ?_)
    have hw := hw v6_3 ev6_3
    have hl : lv_has ls 7 [(6, .int (mm_I v6_3)), (0, .ref (mm_ad G this)), (1, .int (mm_I a1)), (2, .int (mm_I a2)), (3, .int (mm_I a3)), (4, .int (mm_I a4)), (5, .int (mm_I a5))] := hl
    refine lv_aload_n (pc := 42) C.1 C.2.1 dX0_write_42 rfl (lv_at hl 1 rfl) ?_
    refine g_getr (pc := 43) C w h0 ff_X0_0 lk_X0_11 dX0_write_43 ?_
    refine lv_iload (pc := 46) C.1 C.2.1 dX0_write_46 (lv_at hl 0 rfl) ?_
    refine lv_iconst (pc := 48) (v := mm_I 0) C.1 C.2.1 dX0_write_48 rfl ?_
    refine g_iadd (pc := 49) C dX0_write_49 ?_
    refine lv_iload_n (pc := 50) C.1 C.2.1 dX0_write_50 rfl (lv_at hl 2 rfl) ?_
    obtain ⟨hi, hw⟩ := hw
    refine g_iast (pc := 51) C w (ro_X0_0 h0) hi  dX0_write_51 (fun s_4 H locs es_4 w => ?_)
    have hw := hw s_4 es_4
    refine lv_aload_n (pc := 52) C.1 C.2.1 dX0_write_52 rfl (lv_at hl 1 rfl) ?_
    refine g_getr (pc := 53) C w h0 ff_X0_0 lk_X0_11 dX0_write_53 ?_
    refine lv_iload (pc := 56) C.1 C.2.1 dX0_write_56 (lv_at hl 0 rfl) ?_
    refine lv_iconst (pc := 58) (v := mm_I 1) C.1 C.2.1 dX0_write_58 rfl ?_
    refine g_iadd (pc := 59) C dX0_write_59 ?_
    refine lv_iload_n (pc := 60) C.1 C.2.1 dX0_write_60 rfl (lv_at hl 3 rfl) ?_
    obtain ⟨hi, hw⟩ := hw
    refine g_iast (pc := 61) C w (ro_X0_0 h0) hi  dX0_write_61 (fun s_5 H locs es_5 w => ?_)
    have hw := hw s_5 es_5
    refine lv_aload_n (pc := 62) C.1 C.2.1 dX0_write_62 rfl (lv_at hl 1 rfl) ?_
    refine g_getr (pc := 63) C w h0 ff_X0_0 lk_X0_11 dX0_write_63 ?_
    refine lv_iload (pc := 66) C.1 C.2.1 dX0_write_66 (lv_at hl 0 rfl) ?_
    refine lv_iconst (pc := 68) (v := mm_I 2) C.1 C.2.1 dX0_write_68 rfl ?_
    refine g_iadd (pc := 69) C dX0_write_69 ?_
    refine lv_iload_n (pc := 70) C.1 C.2.1 dX0_write_70 rfl (lv_at hl 4 rfl) ?_
    obtain ⟨hi, hw⟩ := hw
    refine g_iast (pc := 71) C w (ro_X0_0 h0) hi  dX0_write_71 (fun s_6 H locs es_6 w => ?_)
    have hw := hw s_6 es_6
    refine lv_aload_n (pc := 72) C.1 C.2.1 dX0_write_72 rfl (lv_at hl 1 rfl) ?_
    refine g_getr (pc := 73) C w h0 ff_X0_0 lk_X0_11 dX0_write_73 ?_
    refine lv_iload (pc := 76) C.1 C.2.1 dX0_write_76 (lv_at hl 0 rfl) ?_
    refine lv_iconst (pc := 78) (v := mm_I 3) C.1 C.2.1 dX0_write_78 rfl ?_
    refine g_iadd (pc := 79) C dX0_write_79 ?_
    refine lv_iload (pc := 80) C.1 C.2.1 dX0_write_80 (lv_at hl 5 rfl) ?_
    obtain ⟨hi, hw⟩ := hw
    refine g_iast (pc := 82) C w (ro_X0_0 h0) hi  dX0_write_82 (fun s_7 H locs es_7 w => ?_)
    have hw := hw s_7 es_7
    refine lv_aload_n (pc := 83) C.1 C.2.1 dX0_write_83 rfl (lv_at hl 1 rfl) ?_
    refine g_getr (pc := 84) C w h0 ff_X0_0 lk_X0_11 dX0_write_84 ?_
    refine lv_iload (pc := 87) C.1 C.2.1 dX0_write_87 (lv_at hl 0 rfl) ?_
    refine lv_iconst (pc := 89) (v := mm_I 4) C.1 C.2.1 dX0_write_89 rfl ?_
    refine g_iadd (pc := 90) C dX0_write_90 ?_
    refine lv_iload (pc := 91) C.1 C.2.1 dX0_write_91 (lv_at hl 6 rfl) ?_
    obtain ⟨hi, hw⟩ := hw
    refine g_iast (pc := 93) C w (ro_X0_0 h0) hi  dX0_write_93 (fun s_8 H locs es_8 w => ?_)
    have hw := hw s_8 es_8
    refine lv_aload_n (pc := 94) C.1 C.2.1 dX0_write_94 rfl (lv_at hl 1 rfl) ?_
    refine lv_dup (pc := 95) C.1 C.2.1 dX0_write_95 rfl ?_
    refine g_geti (pc := 96) C w h0 ff_X0_1 lk_X0_15 dX0_write_96 ?_
    refine lv_iconst (pc := 99) (v := mm_I 1) C.1 C.2.1 dX0_write_99 rfl ?_
    refine g_iadd (pc := 100) C dX0_write_100 ?_
    refine g_puti (pc := 101) C w h0 ff_X0_1 fw_X0_1 lk_X0_15 dX0_write_101 (fun s_9 H locs es_9 w => ?_)
    have hw := hw s_9 es_9
    exact g_vret (pc := 104) C w hr hk hw dX0_write_104)
  intro H locs ls w hl
  have hl : lv_has ls 7 [(0, .ref (mm_ad G this)), (1, .int (mm_I a1)), (2, .int (mm_I a2)), (3, .int (mm_I a3)), (4, .int (mm_I a4)), (5, .int (mm_I a5))] := hl
  refine lv_aload_n (pc := 0) C.1 C.2.1 dX0_write_0 rfl (lv_at hl 0 rfl) ?_
  refine g_geti (pc := 1) C w h0 ff_X0_1 lk_X0_15 dX0_write_1 ?_
  refine lv_bipush (pc := 4) C.1 C.2.1 dX0_write_4 mb_20 ?_
  refine g_icmp_lt (pc := 6) (tgt := 30) C rfl mn_20 dX0_write_6 (by decide) (fun hc => ?_) (fun hc => ?_)
  · have hw := hw.1 hc
    exact hw  _ _ _ w (lv_sub hl [0, 1, 2, 3, 4, 5] rfl)
  · have hw := hw.2 hc
    refine lv_aload_n (pc := 9) C.1 C.2.1 dX0_write_9 rfl (lv_at hl 0 rfl) ?_
    refine g_getr (pc := 10) C w h0 ff_X0_0 lk_X0_11 dX0_write_10 ?_
    refine lv_iconst (pc := 13) (v := mm_I 5) C.1 C.2.1 dX0_write_13 rfl ?_
    refine lv_aload_n (pc := 14) C.1 C.2.1 dX0_write_14 rfl (lv_at hl 0 rfl) ?_
    refine g_getr (pc := 15) C w h0 ff_X0_0 lk_X0_11 dX0_write_15 ?_
    refine lv_iconst (pc := 18) (v := mm_I 0) C.1 C.2.1 dX0_write_18 rfl ?_
    refine lv_bipush (pc := 19) C.1 C.2.1 dX0_write_19 mb_95 ?_
    obtain ⟨hi, hw⟩ := hw
    refine g_copy (pc := 21) C w hl.1 (ro_X0_0 h0) (ro_X0_0 h0) hi ml_X0_19 mv_copy ⟨Nat.le_of_ble_eq_true rfl, Nat.le_of_ble_eq_true rfl⟩ dX0_write_21 (fun s_1 H locs es_1 w => ?_)
    have hw := hw s_1 es_1
    refine lv_aload_n (pc := 24) C.1 C.2.1 dX0_write_24 rfl (lv_at hl 0 rfl) ?_
    refine lv_bipush (pc := 25) C.1 C.2.1 dX0_write_25 mb_19 ?_
    refine g_puti (pc := 27) C w h0 ff_X0_1 fw_X0_1 lk_X0_15 dX0_write_27 (fun s_2 H locs es_2 w => ?_)
    have hw := hw s_2 es_2
    exact hw  _ _ _ w (lv_sub hl [0, 1, 2, 3, 4, 5] rfl)
theorem mn_5 : n32 5 = 5 := by decide
def wp_X0_fact (this : Nat) (a1 : Int) (a2 : Int) (s0 : mm_M) (post : Int → mm_M → Prop) : Prop :=
  ((n32 a1 < 0 → post (-1) s0) ∧ (¬ n32 a1 < 0 → ((n32 (s0 this 1) ≤ n32 a1 → post (-1) s0) ∧ (¬ n32 (s0 this 1) ≤ n32 a1 → ((20 ≤ n32 a1 → post (-1) s0) ∧ (¬ 20 ≤ n32 a1 → ((n32 a2 < 0 → post (-1) s0) ∧ (¬ n32 a2 < 0 → ((n32 a2 < 5 → ((0 ≤ (a1 * 5) + a2 ∧ (a1 * 5) + a2 < 100) ∧ post (s0 (mm_rt this 0) ((a1 * 5) + a2)) s0)) ∧ (¬ n32 a2 < 5 → post (-1) s0))))))))))
set_option maxRecDepth 100000 in
set_option maxHeartbeats 4000000 in
theorem c_X0_fact (l : Launch) (G : mm_G) (this : Nat) (a1 : Int) (a2 : Int) (h0 : mm_ok this 10 0) (s0 : mm_M) (post : Int → mm_M → Prop) (hw : wp_X0_fact this a1 a2 s0 post) : Met l yX0_fact (mm_wm yX0_fact cX0_fact 3 (some .int)) (mm_rm 1) (va_Pc [.ref (mm_ad G this), .int (mm_I a1), .int (mm_I a2)] (mm_pre G s0)) (mm_Qi G post) 0 0 (mm_A G) := by
  refine mm_met (own := RX0) (by decide) rfl (Nat.le_of_ble_eq_true rfl) ?_
  intro p e s m args below meth c C hr hk
  unfold wp_X0_fact at hw
  intro H locs ls w hl
  have hl : lv_has ls 3 [(0, .ref (mm_ad G this)), (1, .int (mm_I a1)), (2, .int (mm_I a2))] := hl
  refine lv_iload_n (pc := 0) C.1 C.2.1 dX0_fact_0 rfl (lv_at hl 1 rfl) ?_
  refine g_if_lt (pc := 1) (tgt := 27) C rfl dX0_fact_1 (by decide) (fun hc => ?_) (fun hc => ?_)
  · have hw := hw.1 hc
    refine lv_iconst (pc := 27) (v := mm_I (-1)) C.1 C.2.1 dX0_fact_27 rfl ?_
    exact g_iret (pc := 28) C w hr hk hw dX0_fact_28
  · have hw := hw.2 hc
    refine lv_iload_n (pc := 4) C.1 C.2.1 dX0_fact_4 rfl (lv_at hl 1 rfl) ?_
    refine lv_aload_n (pc := 5) C.1 C.2.1 dX0_fact_5 rfl (lv_at hl 0 rfl) ?_
    refine g_geti (pc := 6) C w h0 ff_X0_1 lk_X0_15 dX0_fact_6 ?_
    refine g_icmp_ge (pc := 9) (tgt := 27) C rfl rfl dX0_fact_9 (by decide) (fun hc => ?_) (fun hc => ?_)
    · have hw := hw.1 hc
      refine lv_iconst (pc := 27) (v := mm_I (-1)) C.1 C.2.1 dX0_fact_27 rfl ?_
      exact g_iret (pc := 28) C w hr hk hw dX0_fact_28
    · have hw := hw.2 hc
      refine lv_iload_n (pc := 12) C.1 C.2.1 dX0_fact_12 rfl (lv_at hl 1 rfl) ?_
      refine lv_bipush (pc := 13) C.1 C.2.1 dX0_fact_13 mb_20 ?_
      refine g_icmp_ge (pc := 15) (tgt := 27) C rfl mn_20 dX0_fact_15 (by decide) (fun hc => ?_) (fun hc => ?_)
      · have hw := hw.1 hc
        refine lv_iconst (pc := 27) (v := mm_I (-1)) C.1 C.2.1 dX0_fact_27 rfl ?_
        exact g_iret (pc := 28) C w hr hk hw dX0_fact_28
      · have hw := hw.2 hc
        refine lv_iload_n (pc := 18) C.1 C.2.1 dX0_fact_18 rfl (lv_at hl 2 rfl) ?_
        refine g_if_lt (pc := 19) (tgt := 27) C rfl dX0_fact_19 (by decide) (fun hc => ?_) (fun hc => ?_)
        · have hw := hw.1 hc
          refine lv_iconst (pc := 27) (v := mm_I (-1)) C.1 C.2.1 dX0_fact_27 rfl ?_
          exact g_iret (pc := 28) C w hr hk hw dX0_fact_28
        · have hw := hw.2 hc
          refine lv_iload_n (pc := 22) C.1 C.2.1 dX0_fact_22 rfl (lv_at hl 2 rfl) ?_
          refine lv_iconst (pc := 23) (v := mm_I 5) C.1 C.2.1 dX0_fact_23 rfl ?_
          refine g_icmp_lt (pc := 24) (tgt := 29) C rfl mn_5 dX0_fact_24 (by decide) (fun hc => ?_) (fun hc => ?_)
          · have hw := hw.1 hc
            refine lv_aload_n (pc := 29) C.1 C.2.1 dX0_fact_29 rfl (lv_at hl 0 rfl) ?_
            refine g_getr (pc := 30) C w h0 ff_X0_0 lk_X0_11 dX0_fact_30 ?_
            refine lv_iload_n (pc := 33) C.1 C.2.1 dX0_fact_33 rfl (lv_at hl 1 rfl) ?_
            refine lv_iconst (pc := 34) (v := mm_I 5) C.1 C.2.1 dX0_fact_34 rfl ?_
            refine g_imul (pc := 35) C dX0_fact_35 ?_
            refine lv_iload_n (pc := 36) C.1 C.2.1 dX0_fact_36 rfl (lv_at hl 2 rfl) ?_
            refine g_iadd (pc := 37) C dX0_fact_37 ?_
            obtain ⟨hi, hw⟩ := hw
            refine g_iald (pc := 38) C w (ro_X0_0 h0) hi dX0_fact_38 ?_
            exact g_iret (pc := 39) C w hr hk hw dX0_fact_39
          · have hw := hw.2 hc
            refine lv_iconst (pc := 27) (v := mm_I (-1)) C.1 C.2.1 dX0_fact_27 rfl ?_
            exact g_iret (pc := 28) C w hr hk hw dX0_fact_28
theorem mn_2 : n32 2 = 2 := by decide
def wp_X10_placeBy (a1 : Int) (a2 : Int) (s0 : mm_M) (post : Int → mm_M → Prop) : Prop :=
  ((¬ n32 a1 = 0 → ((¬ n32 a1 = 2 → post (a2 - 1) s0) ∧ (n32 a1 = 2 → post (Int.tdiv (n32 a2) 2) s0))) ∧ (n32 a1 = 0 → post 0 s0))
set_option maxRecDepth 100000 in
set_option maxHeartbeats 4000000 in
theorem c_X10_placeBy (l : Launch) (G : mm_G) (a1 : Int) (a2 : Int)  (s0 : mm_M) (post : Int → mm_M → Prop) (hw : wp_X10_placeBy a1 a2 s0 post) : Met l yX10_placeBy (mm_wm yX10_placeBy cX10_placeBy 2 (some .int)) (mm_rm 1) (va_Pc [.int (mm_I a1), .int (mm_I a2)] (mm_pre G s0)) (mm_Qi G post) 0 0 (mm_A G) := by
  refine mm_met (own := RX10) (by decide) rfl (Nat.le_of_ble_eq_true rfl) ?_
  intro p e s m args below meth c C hr hk
  unfold wp_X10_placeBy at hw
  intro H locs ls w hl
  have hl : lv_has ls 2 [(0, .int (mm_I a1)), (1, .int (mm_I a2))] := hl
  refine lv_iload_n (pc := 0) C.1 C.2.1 dX10_placeBy_0 rfl (lv_at hl 0 rfl) ?_
  refine g_if_ne (pc := 1) (tgt := 6) C rfl dX10_placeBy_1 (by decide) (fun hc => ?_) (fun hc => ?_)
  · have hw := hw.1 hc
    refine lv_iload_n (pc := 6) C.1 C.2.1 dX10_placeBy_6 rfl (lv_at hl 0 rfl) ?_
    refine lv_iconst (pc := 7) (v := mm_I 2) C.1 C.2.1 dX10_placeBy_7 rfl ?_
    refine g_icmp_ne (pc := 8) (tgt := 17) C rfl mn_2 dX10_placeBy_8 (by decide) (fun hc => ?_) (fun hc => ?_)
    · have hw := hw.1 hc
      refine lv_iload_n (pc := 17) C.1 C.2.1 dX10_placeBy_17 rfl (lv_at hl 1 rfl) ?_
      refine lv_iconst (pc := 18) (v := mm_I 1) C.1 C.2.1 dX10_placeBy_18 rfl ?_
      refine g_isub (pc := 19) C dX10_placeBy_19 ?_
      exact g_iret (pc := 20) C w hr hk hw dX10_placeBy_20
    · have hw := hw.2 hc
      refine lv_iload_n (pc := 11) C.1 C.2.1 dX10_placeBy_11 rfl (lv_at hl 1 rfl) ?_
      refine lv_iconst (pc := 12) (v := mm_I 2) C.1 C.2.1 dX10_placeBy_12 rfl ?_
      refine g_idiv (pc := 13) C rfl mn_2 (by decide) dX10_placeBy_13 ?_
      refine lv_goto (pc := 14) (tgt := 20) C.1 C.2.1 dX10_placeBy_14 (by decide) ?_
      exact g_iret (pc := 20) C w hr hk hw dX10_placeBy_20
  · have hw := hw.2 hc
    refine lv_iconst (pc := 4) (v := mm_I 0) C.1 C.2.1 dX10_placeBy_4 rfl ?_
    exact g_iret (pc := 5) C w hr hk hw dX10_placeBy_5
theorem cv_X0_fact : mm_V yX0_fact cX0_fact 3 (some .int) 2 := ⟨(mt_5 47 rfl rfl), (mt_5 45 rfl rfl), (mt_5 46 rfl rfl), (mt_1 7 rfl rfl), by decide, by decide, by decide +kernel⟩
theorem ml_X0_31 : Cond.methodLink RX0 31 yX0_fact ∈ mm_ws := (mt_5 56 rfl rfl)
theorem cs_X10_placeBy : mm_S yX10_placeBy cX10_placeBy 2 (some .int) 2 := ⟨(mt_4 72 rfl rfl), (mt_4 71 rfl rfl), (mt_1 1 rfl rfl), by decide, by decide, by decide +kernel⟩
theorem ml_X0_34 : Cond.methodLinkNest RX0 34 yX10_placeBy "LastServed" ∈ mm_nest := by decide +kernel
def wp_X0_outOfOrder (this : Nat) (a1 : Int) (a2 : Int) (s0 : mm_M) (post : Int → mm_M → Prop) : Prop :=
  ∀ (L5 : Int → Int → mm_M → Prop), ∀ (L30 : Int → Int → Int → mm_M → Prop), 
  (∀ (v3 : Int) (v4 : Int) (s1 : mm_M), ((n32 (s1 this 1) ≤ n32 v4 → post v3 s1) ∧ (¬ n32 (s1 this 1) ≤ n32 v4 → (wp_X0_fact this v4 1 s1 (fun r_4 s_3 => ((¬ n32 r_4 = n32 a1 → L30 v3 v4 0 s_3) ∧ (n32 r_4 = n32 a1 → L30 v3 v4 1 s_3)))))) → L5 v3 v4 s1) →
  (∀ (v3 : Int) (v4 : Int) (q0 : Int) (s1 : mm_M), (∀ v5_5 : Int, v5_5 = q0 → ((n32 v5_5 = 0 → (∀ v4_6 : Int, v4_6 = v4 + 1 → L5 v3 v4_6 s1)) ∧ (¬ n32 v5_5 = 0 → (wp_X0_fact this v4 4 s1 (fun r_8 s_7 => (wp_X0_fact this v4 3 s_7 (fun r_10 s_9 => (wp_X10_placeBy a2 r_10 s_9 (fun r_12 s_11 => ((n32 r_8 = n32 r_12 → (∀ v4_13 : Int, v4_13 = v4 + 1 → L5 v3 v4_13 s_11)) ∧ (¬ n32 r_8 = n32 r_12 → (∀ v3_14 : Int, v3_14 = v3 + 1 → (∀ v4_15 : Int, v4_15 = v4 + 1 → L5 v3_14 v4_15 s_11))))))))))))) → L30 v3 v4 q0 s1) →
  L5 0 0 s0
set_option maxRecDepth 100000 in
set_option maxHeartbeats 4000000 in
theorem c_X0_outOfOrder (l : Launch) (G : mm_G) (this : Nat) (a1 : Int) (a2 : Int) (h0 : mm_ok this 10 0) (s0 : mm_M) (post : Int → mm_M → Prop) (hw : wp_X0_outOfOrder this a1 a2 s0 post) : Met l yX0_outOfOrder (mm_wm yX0_outOfOrder cX0_outOfOrder 6 (some .int)) (mm_rm 2) (va_Pc [.ref (mm_ad G this), .int (mm_I a1), .int (mm_I a2)] (mm_pre G s0)) (mm_Qi G post) 0 0 (mm_A G) := by
  refine mm_met (own := RX0) (by decide) rfl (Nat.le_of_ble_eq_true rfl) ?_
  intro p e s m args below meth c C hr hk
  unfold wp_X0_outOfOrder at hw
  have hw := hw (fun (v3 : Int) (v4 : Int) (u : mm_M) => mm_X p l e (mm_rm 2) s m args below meth c (MQ below (mm_Qi G post) args s 0 0 (mm_A G)) G (mm_A G) 6 5 [(0, .ref (mm_ad G this)), (1, .int (mm_I a1)), (2, .int (mm_I a2)), (3, .int (mm_I v3)), (4, .int (mm_I v4))] [] u)
  have hw := hw (fun (v3 : Int) (v4 : Int) (q0 : Int) (u : mm_M) => mm_X p l e (mm_rm 2) s m args below meth c (MQ below (mm_Qi G post) args s 0 0 (mm_A G)) G (mm_A G) 6 30 [(0, .ref (mm_ad G this)), (1, .int (mm_I a1)), (2, .int (mm_I a2)), (3, .int (mm_I v3)), (4, .int (mm_I v4))] [.int (mm_I q0)] u)
  have hw := hw (by
    intro v3 v4 s1 hw  H locs ls w hl
    refine lv_iload (pc := 5) C.1 C.2.1 dX0_outOfOrder_5 (lv_at hl 4 rfl) ?_
    refine lv_aload_n (pc := 7) C.1 C.2.1 dX0_outOfOrder_7 rfl (lv_at hl 0 rfl) ?_
    refine g_geti (pc := 8) C w h0 ff_X0_1 lk_X0_15 dX0_outOfOrder_8 ?_
    refine g_icmp_ge (pc := 11) (tgt := 67) C rfl rfl dX0_outOfOrder_11 (by decide) (fun hc => ?_) (fun hc => ?_)
    · have hw := hw.1 hc
      refine lv_iload_n (pc := 67) C.1 C.2.1 dX0_outOfOrder_67 rfl (lv_at hl 3 rfl) ?_
      exact g_iret (pc := 68) C w hr hk hw dX0_outOfOrder_68
    · have hw := hw.2 hc
      refine lv_aload_n (pc := 14) C.1 C.2.1 dX0_outOfOrder_14 rfl (lv_at hl 0 rfl) ?_
      refine lv_iload (pc := 15) C.1 C.2.1 dX0_outOfOrder_15 (lv_at hl 4 rfl) ?_
      refine lv_iconst (pc := 17) (v := mm_I 1) C.1 C.2.1 dX0_outOfOrder_17 rfl ?_
      refine g_calli (pc := 18) w (mm_runV (ci := 0) (q := (RX0, TX0, 2)) (As := [.int (mm_I v4), .int (mm_I 1)]) (rest := []) C w (c_X0_fact l G this v4 1 h0 s1 _ hw) h0 rfl rfl cv_X0_fact ml_X0_31 ⟨Nat.le_of_ble_eq_true rfl, Nat.le_of_ble_eq_true rfl⟩ ⟨Nat.le_of_ble_eq_true rfl, Nat.le_of_ble_eq_true rfl⟩ rfl hl.1 rfl (Nat.le_of_ble_eq_true rfl) dX0_outOfOrder_18) (fun r_4 s_3 H locs hw w => ?_)
      refine lv_iload_n (pc := 21) C.1 C.2.1 dX0_outOfOrder_21 rfl (lv_at hl 1 rfl) ?_
      refine g_icmp_ne (pc := 22) (tgt := 29) C rfl rfl dX0_outOfOrder_22 (by decide) (fun hc => ?_) (fun hc => ?_)
      · have hw := hw.1 hc
        refine lv_iconst (pc := 29) (v := mm_I 0) C.1 C.2.1 dX0_outOfOrder_29 rfl ?_
        exact hw  _ _ _ w (lv_sub hl [0, 1, 2, 3, 4] rfl)
      · have hw := hw.2 hc
        refine lv_iconst (pc := 25) (v := mm_I 1) C.1 C.2.1 dX0_outOfOrder_25 rfl ?_
        refine lv_goto (pc := 26) (tgt := 30) C.1 C.2.1 dX0_outOfOrder_26 (by decide) ?_
        exact hw  _ _ _ w (lv_sub hl [0, 1, 2, 3, 4] rfl))
  have hw := hw (by
    intro v3 v4 q0 s1 hw  H locs ls w hl
    refine g_istore (pc := 30) C dX0_outOfOrder_30 hl (by decide) (fun v5_5 ev5_5 ls hl => ?_)
    have hw := hw v5_5 ev5_5
    have hl : lv_has ls 6 [(5, .int (mm_I v5_5)), (0, .ref (mm_ad G this)), (1, .int (mm_I a1)), (2, .int (mm_I a2)), (3, .int (mm_I v3)), (4, .int (mm_I v4))] := hl
    refine lv_iload (pc := 32) C.1 C.2.1 dX0_outOfOrder_32 (lv_at hl 0 rfl) ?_
    refine g_if_eq (pc := 34) (tgt := 61) C rfl dX0_outOfOrder_34 (by decide) (fun hc => ?_) (fun hc => ?_)
    · have hw := hw.1 hc
      refine g_iinc (pc := 61) (k := 5) C dX0_outOfOrder_61 hl rfl (by decide) (fun v4_6 ev4_6 ls hl => ?_)
      have hw := hw v4_6 ev4_6
      have hl : lv_has ls 6 [(4, .int (mm_I v4_6)), (5, .int (mm_I v5_5)), (0, .ref (mm_ad G this)), (1, .int (mm_I a1)), (2, .int (mm_I a2)), (3, .int (mm_I v3))] := hl
      refine lv_goto (pc := 64) (tgt := 5) C.1 C.2.1 dX0_outOfOrder_64 (by decide) ?_
      exact hw  _ _ _ w (lv_sub hl [2, 3, 4, 5, 0] rfl)
    · have hw := hw.2 hc
      refine lv_aload_n (pc := 37) C.1 C.2.1 dX0_outOfOrder_37 rfl (lv_at hl 1 rfl) ?_
      refine lv_iload (pc := 38) C.1 C.2.1 dX0_outOfOrder_38 (lv_at hl 5 rfl) ?_
      refine lv_iconst (pc := 40) (v := mm_I 4) C.1 C.2.1 dX0_outOfOrder_40 rfl ?_
      refine g_calli (pc := 41) w (mm_runV (ci := 0) (q := (RX0, TX0, 2)) (As := [.int (mm_I v4), .int (mm_I 4)]) (rest := []) C w (c_X0_fact l G this v4 4 h0 s1 _ hw) h0 rfl rfl cv_X0_fact ml_X0_31 ⟨Nat.le_of_ble_eq_true rfl, Nat.le_of_ble_eq_true rfl⟩ ⟨Nat.le_of_ble_eq_true rfl, Nat.le_of_ble_eq_true rfl⟩ rfl hl.1 rfl (Nat.le_of_ble_eq_true rfl) dX0_outOfOrder_41) (fun r_8 s_7 H locs hw w => ?_)
      refine lv_iload_n (pc := 44) C.1 C.2.1 dX0_outOfOrder_44 rfl (lv_at hl 3 rfl) ?_
      refine lv_aload_n (pc := 45) C.1 C.2.1 dX0_outOfOrder_45 rfl (lv_at hl 1 rfl) ?_
      refine lv_iload (pc := 46) C.1 C.2.1 dX0_outOfOrder_46 (lv_at hl 5 rfl) ?_
      refine lv_iconst (pc := 48) (v := mm_I 3) C.1 C.2.1 dX0_outOfOrder_48 rfl ?_
      refine g_calli (pc := 49) w (mm_runV (ci := 0) (q := (RX0, TX0, 2)) (As := [.int (mm_I v4), .int (mm_I 3)]) (rest := [.int (mm_I a2), .int (mm_I r_8)]) C w (c_X0_fact l G this v4 3 h0 s_7 _ hw) h0 rfl rfl cv_X0_fact ml_X0_31 ⟨Nat.le_of_ble_eq_true rfl, Nat.le_of_ble_eq_true rfl⟩ ⟨Nat.le_of_ble_eq_true rfl, Nat.le_of_ble_eq_true rfl⟩ rfl hl.1 rfl (Nat.le_of_ble_eq_true rfl) dX0_outOfOrder_49) (fun r_10 s_9 H locs hw w => ?_)
      refine g_calli (pc := 52) w (mm_runSN (As := [.int (mm_I a2), .int (mm_I r_10)]) (rest := [.int (mm_I r_8)]) C w (c_X10_placeBy l G a2 r_10  s_9 _ hw) cs_X10_placeBy ml_X0_34 ⟨Nat.le_of_ble_eq_true rfl, Nat.le_of_ble_eq_true rfl⟩ ⟨Nat.le_of_ble_eq_true rfl, Nat.le_of_ble_eq_true rfl⟩ rfl hl.1 rfl (Nat.le_of_ble_eq_true rfl) dX0_outOfOrder_52) (fun r_12 s_11 H locs hw w => ?_)
      refine g_icmp_eq (pc := 55) (tgt := 61) C rfl rfl dX0_outOfOrder_55 (by decide) (fun hc => ?_) (fun hc => ?_)
      · have hw := hw.1 hc
        refine g_iinc (pc := 61) (k := 5) C dX0_outOfOrder_61 hl rfl (by decide) (fun v4_13 ev4_13 ls hl => ?_)
        have hw := hw v4_13 ev4_13
        have hl : lv_has ls 6 [(4, .int (mm_I v4_13)), (5, .int (mm_I v5_5)), (0, .ref (mm_ad G this)), (1, .int (mm_I a1)), (2, .int (mm_I a2)), (3, .int (mm_I v3))] := hl
        refine lv_goto (pc := 64) (tgt := 5) C.1 C.2.1 dX0_outOfOrder_64 (by decide) ?_
        exact hw  _ _ _ w (lv_sub hl [2, 3, 4, 5, 0] rfl)
      · have hw := hw.2 hc
        refine g_iinc (pc := 58) (k := 4) C dX0_outOfOrder_58 hl rfl (by decide) (fun v3_14 ev3_14 ls hl => ?_)
        have hw := hw v3_14 ev3_14
        have hl : lv_has ls 6 [(3, .int (mm_I v3_14)), (5, .int (mm_I v5_5)), (0, .ref (mm_ad G this)), (1, .int (mm_I a1)), (2, .int (mm_I a2)), (4, .int (mm_I v4))] := hl
        refine g_iinc (pc := 61) (k := 5) C dX0_outOfOrder_61 hl rfl (by decide) (fun v4_15 ev4_15 ls hl => ?_)
        have hw := hw v4_15 ev4_15
        have hl : lv_has ls 6 [(4, .int (mm_I v4_15)), (3, .int (mm_I v3_14)), (5, .int (mm_I v5_5)), (0, .ref (mm_ad G this)), (1, .int (mm_I a1)), (2, .int (mm_I a2))] := hl
        refine lv_goto (pc := 64) (tgt := 5) C.1 C.2.1 dX0_outOfOrder_64 (by decide) ?_
        exact hw  _ _ _ w (lv_sub hl [3, 4, 5, 1, 0] rfl))
  intro H locs ls w hl
  have hl : lv_has ls 6 [(0, .ref (mm_ad G this)), (1, .int (mm_I a1)), (2, .int (mm_I a2))] := hl
  refine lv_iconst (pc := 0) (v := mm_I 0) C.1 C.2.1 dX0_outOfOrder_0 rfl ?_
  refine lv_istore_n (pc := 1) (lv' := [(3, .int (mm_I 0)), (0, .ref (mm_ad G this)), (1, .int (mm_I a1)), (2, .int (mm_I a2))]) C.1 C.2.1 dX0_outOfOrder_1 rfl hl (by decide) rfl (fun ls hl => ?_)
  refine lv_iconst (pc := 2) (v := mm_I 0) C.1 C.2.1 dX0_outOfOrder_2 rfl ?_
  refine lv_istore (pc := 3) (lv' := [(4, .int (mm_I 0)), (3, .int (mm_I 0)), (0, .ref (mm_ad G this)), (1, .int (mm_I a1)), (2, .int (mm_I a2))]) C.1 C.2.1 dX0_outOfOrder_3 hl (by decide) rfl (fun ls hl => ?_)
  exact hw  _ _ _ w (lv_sub hl [2, 3, 4, 1, 0] rfl)
theorem mb_100 : (Int8.ofInt 100).toInt32 = mm_I 100 := by decide
def wp_X0_takeOver (this : Nat) (a1 : Nat) (s0 : mm_M) (post : mm_M → Prop) : Prop :=
  ((0 ≤ (0 : Int) ∧ 0 ≤ (0 : Int) ∧ 0 ≤ (100 : Int) ∧ (0 : Int) + 100 ≤ 100 ∧ (0 : Int) + 100 ≤ 100) ∧ (∀ s_1 : mm_M, s_1 = mm_cp s0 (mm_rt a1 0) 0 (mm_rt this 0) 0 100 → (∀ s_2 : mm_M, s_2 = mm_up s_1 this 1 (s_1 a1 1) → post s_2)))
set_option maxRecDepth 100000 in
set_option maxHeartbeats 4000000 in
theorem c_X0_takeOver (l : Launch) (G : mm_G) (this : Nat) (a1 : Nat) (h0 : mm_ok this 10 0) (h1 : mm_ok a1 10 0) (s0 : mm_M) (post : mm_M → Prop) (hw : wp_X0_takeOver this a1 s0 post) : Met l yX0_takeOver (mm_wm yX0_takeOver cX0_takeOver 2 none) (mm_rm 2) (va_Pc [.ref (mm_ad G this), .ref (mm_ad G a1)] (mm_pre G s0)) (mm_Qv G post) 0 0 (mm_A G) := by
  refine mm_met (own := RX0) (by decide) rfl (Nat.le_of_ble_eq_true rfl) ?_
  intro p e s m args below meth c C hr hk
  unfold wp_X0_takeOver at hw
  intro H locs ls w hl
  have hl : lv_has ls 2 [(0, .ref (mm_ad G this)), (1, .ref (mm_ad G a1))] := hl
  refine lv_aload_n (pc := 0) C.1 C.2.1 dX0_takeOver_0 rfl (lv_at hl 1 rfl) ?_
  refine g_getr (pc := 1) C w h1 ff_X0_0 lk_X0_11 dX0_takeOver_1 ?_
  refine lv_iconst (pc := 4) (v := mm_I 0) C.1 C.2.1 dX0_takeOver_4 rfl ?_
  refine lv_aload_n (pc := 5) C.1 C.2.1 dX0_takeOver_5 rfl (lv_at hl 0 rfl) ?_
  refine g_getr (pc := 6) C w h0 ff_X0_0 lk_X0_11 dX0_takeOver_6 ?_
  refine lv_iconst (pc := 9) (v := mm_I 0) C.1 C.2.1 dX0_takeOver_9 rfl ?_
  refine lv_bipush (pc := 10) C.1 C.2.1 dX0_takeOver_10 mb_100 ?_
  obtain ⟨hi, hw⟩ := hw
  refine g_copy (pc := 12) C w hl.1 (ro_X0_0 h1) (ro_X0_0 h0) hi ml_X0_19 mv_copy ⟨Nat.le_of_ble_eq_true rfl, Nat.le_of_ble_eq_true rfl⟩ dX0_takeOver_12 (fun s_1 H locs es_1 w => ?_)
  have hw := hw s_1 es_1
  refine lv_aload_n (pc := 15) C.1 C.2.1 dX0_takeOver_15 rfl (lv_at hl 0 rfl) ?_
  refine lv_aload_n (pc := 16) C.1 C.2.1 dX0_takeOver_16 rfl (lv_at hl 1 rfl) ?_
  refine g_geti (pc := 17) C w h1 ff_X0_1 lk_X0_15 dX0_takeOver_17 ?_
  refine g_puti (pc := 20) C w h0 ff_X0_1 fw_X0_1 lk_X0_15 dX0_takeOver_20 (fun s_2 H locs es_2 w => ?_)
  have hw := hw s_2 es_2
  exact g_vret (pc := 23) C w hr hk hw dX0_takeOver_23
theorem lk_X1_27 : Cond.fieldLink RX1 27 "LastServed$Crowd" "size" "I" ∈ mm_ws := (mt_1 39 rfl rfl)
theorem ff_X1_5 : mm_F 1 5 0 RX1 TX1 8 := ⟨rfl, by decide, fk_X1, rfl, rfl⟩
theorem fw_X1_5 : mm_Fw 1 5 TX1 8 .int := ⟨⟨tyX1, tyX1_ok⟩, nmX1, rfl, by decide +kernel⟩
theorem lk_X1_31 : Cond.fieldLink RX1 31 "LastServed$Crowd" "minute" "I" ∈ mm_ws := (mt_1 41 rfl rfl)
theorem ff_X1_6 : mm_F 1 6 0 RX1 TX1 8 := ⟨rfl, by decide, fk_X1, rfl, rfl⟩
theorem fw_X1_6 : mm_Fw 1 6 TX1 8 .int := ⟨⟨tyX1, tyX1_ok⟩, nmX1, rfl, by decide +kernel⟩
theorem lk_X1_34 : Cond.fieldLink RX1 34 "LastServed$Crowd" "left" "I" ∈ mm_ws := (mt_1 42 rfl rfl)
theorem ff_X1_7 : mm_F 1 7 0 RX1 TX1 8 := ⟨rfl, by decide, fk_X1, rfl, rfl⟩
theorem fw_X1_7 : mm_Fw 1 7 TX1 8 .int := ⟨⟨tyX1, tyX1_ok⟩, nmX1, rfl, by decide +kernel⟩
def wp_X1_gather (this : Nat) (a1 : Int) (a2 : Int) (s0 : mm_M) (post : mm_M → Prop) : Prop :=
  (∀ s_1 : mm_M, s_1 = mm_up s0 this 5 0 → (∀ s_2 : mm_M, s_2 = mm_up s_1 this 6 a1 → (∀ s_3 : mm_M, s_3 = mm_up s_2 this 7 (a2 - a1) → post s_3)))
set_option maxRecDepth 100000 in
set_option maxHeartbeats 4000000 in
theorem c_X1_gather (l : Launch) (G : mm_G) (this : Nat) (a1 : Int) (a2 : Int) (h0 : mm_ok this 11 0) (s0 : mm_M) (post : mm_M → Prop) (hw : wp_X1_gather this a1 a2 s0 post) : Met l yX1_gather (mm_wm yX1_gather cX1_gather 3 none) (mm_rm 1) (va_Pc [.ref (mm_ad G this), .int (mm_I a1), .int (mm_I a2)] (mm_pre G s0)) (mm_Qv G post) 0 0 (mm_A G) := by
  refine mm_met (own := RX1) (by decide) rfl (Nat.le_of_ble_eq_true rfl) ?_
  intro p e s m args below meth c C hr hk
  unfold wp_X1_gather at hw
  intro H locs ls w hl
  have hl : lv_has ls 3 [(0, .ref (mm_ad G this)), (1, .int (mm_I a1)), (2, .int (mm_I a2))] := hl
  refine lv_aload_n (pc := 0) C.1 C.2.1 dX1_gather_0 rfl (lv_at hl 0 rfl) ?_
  refine lv_iconst (pc := 1) (v := mm_I 0) C.1 C.2.1 dX1_gather_1 rfl ?_
  refine g_puti (pc := 2) C w h0 ff_X1_5 fw_X1_5 lk_X1_27 dX1_gather_2 (fun s_1 H locs es_1 w => ?_)
  have hw := hw s_1 es_1
  refine lv_aload_n (pc := 5) C.1 C.2.1 dX1_gather_5 rfl (lv_at hl 0 rfl) ?_
  refine lv_iload_n (pc := 6) C.1 C.2.1 dX1_gather_6 rfl (lv_at hl 1 rfl) ?_
  refine g_puti (pc := 7) C w h0 ff_X1_6 fw_X1_6 lk_X1_31 dX1_gather_7 (fun s_2 H locs es_2 w => ?_)
  have hw := hw s_2 es_2
  refine lv_aload_n (pc := 10) C.1 C.2.1 dX1_gather_10 rfl (lv_at hl 0 rfl) ?_
  refine lv_iload_n (pc := 11) C.1 C.2.1 dX1_gather_11 rfl (lv_at hl 2 rfl) ?_
  refine lv_iload_n (pc := 12) C.1 C.2.1 dX1_gather_12 rfl (lv_at hl 1 rfl) ?_
  refine g_isub (pc := 13) C dX1_gather_13 ?_
  refine g_puti (pc := 14) C w h0 ff_X1_7 fw_X1_7 lk_X1_34 dX1_gather_14 (fun s_3 H locs es_3 w => ?_)
  have hw := hw s_3 es_3
  exact g_vret (pc := 17) C w hr hk hw dX1_gather_17
theorem mb_30 : (Int8.ofInt 30).toInt32 = mm_I 30 := by decide
theorem mn_30 : n32 30 = 30 := by decide
theorem lk_X1_9 : Cond.fieldLink RX1 9 "LastServed$Crowd" "cameIn" "[I" ∈ mm_ws := (mt_1 34 rfl rfl)
theorem ff_X1_0 : mm_F 1 0 1 RX1 TX1 8 := ⟨rfl, by decide, fk_X1, rfl, rfl⟩
theorem ro_X1_0 {i : Nat} (h : mm_ok i 11 0) : mm_ok (mm_rt i 0) 0 30 := by
  have q : ∀ i, i < mm_N → mm_kd i = 11 → mm_rt i 0 < mm_N ∧ mm_kd (mm_rt i 0) = 0 ∧ mm_ln (mm_rt i 0) = 30 := by decide +kernel
  exact q i h.1 h.2.1
theorem lk_X1_15 : Cond.fieldLink RX1 15 "LastServed$Crowd" "waited" "[I" ∈ mm_ws := (mt_1 35 rfl rfl)
theorem ff_X1_1 : mm_F 1 1 1 RX1 TX1 8 := ⟨rfl, by decide, fk_X1, rfl, rfl⟩
theorem ro_X1_1 {i : Nat} (h : mm_ok i 11 0) : mm_ok (mm_rt i 1) 0 30 := by
  have q : ∀ i, i < mm_N → mm_kd i = 11 → mm_rt i 1 < mm_N ∧ mm_kd (mm_rt i 1) = 0 ∧ mm_ln (mm_rt i 1) = 30 := by decide +kernel
  exact q i h.1 h.2.1
theorem lk_X1_18 : Cond.fieldLink RX1 18 "LastServed$Crowd" "sortOf" "[I" ∈ mm_ws := (mt_1 36 rfl rfl)
theorem ff_X1_2 : mm_F 1 2 1 RX1 TX1 8 := ⟨rfl, by decide, fk_X1, rfl, rfl⟩
theorem ro_X1_2 {i : Nat} (h : mm_ok i 11 0) : mm_ok (mm_rt i 2) 0 30 := by
  have q : ∀ i, i < mm_N → mm_kd i = 11 → mm_rt i 2 < mm_N ∧ mm_kd (mm_rt i 2) = 0 ∧ mm_ln (mm_rt i 2) = 30 := by decide +kernel
  exact q i h.1 h.2.1
theorem lk_X1_21 : Cond.fieldLink RX1 21 "LastServed$Crowd" "worthOf" "[I" ∈ mm_ws := (mt_1 37 rfl rfl)
theorem ff_X1_3 : mm_F 1 3 1 RX1 TX1 8 := ⟨rfl, by decide, fk_X1, rfl, rfl⟩
theorem ro_X1_3 {i : Nat} (h : mm_ok i 11 0) : mm_ok (mm_rt i 3) 0 30 := by
  have q : ∀ i, i < mm_N → mm_kd i = 11 → mm_rt i 3 < mm_N ∧ mm_kd (mm_rt i 3) = 0 ∧ mm_ln (mm_rt i 3) = 30 := by decide +kernel
  exact q i h.1 h.2.1
theorem lk_X1_24 : Cond.fieldLink RX1 24 "LastServed$Crowd" "turnsOf" "[I" ∈ mm_ws := (mt_1 38 rfl rfl)
theorem ff_X1_4 : mm_F 1 4 1 RX1 TX1 8 := ⟨rfl, by decide, fk_X1, rfl, rfl⟩
theorem ro_X1_4 {i : Nat} (h : mm_ok i 11 0) : mm_ok (mm_rt i 4) 0 30 := by
  have q : ∀ i, i < mm_N → mm_kd i = 11 → mm_rt i 4 < mm_N ∧ mm_kd (mm_rt i 4) = 0 ∧ mm_ln (mm_rt i 4) = 30 := by decide +kernel
  exact q i h.1 h.2.1
def wp_X1_append (this : Nat) (a1 : Int) (a2 : Int) (a3 : Int) (a4 : Int) (a5 : Int) (s0 : mm_M) (post : mm_M → Prop) : Prop :=
  ((n32 (s0 this 5) < 0 → post s0) ∧ (¬ n32 (s0 this 5) < 0 → ((n32 (s0 this 5) < 30 → ((0 ≤ s0 this 5 ∧ s0 this 5 < 30) ∧ (∀ s_1 : mm_M, s_1 = mm_up s0 (mm_rt this 0) (s0 this 5) a1 → ((0 ≤ s_1 this 5 ∧ s_1 this 5 < 30) ∧ (∀ s_2 : mm_M, s_2 = mm_up s_1 (mm_rt this 1) (s_1 this 5) ((s_1 this 6) - a2) → ((0 ≤ s_2 this 5 ∧ s_2 this 5 < 30) ∧ (∀ s_3 : mm_M, s_3 = mm_up s_2 (mm_rt this 2) (s_2 this 5) a3 → ((0 ≤ s_3 this 5 ∧ s_3 this 5 < 30) ∧ (∀ s_4 : mm_M, s_4 = mm_up s_3 (mm_rt this 3) (s_3 this 5) a4 → ((0 ≤ s_4 this 5 ∧ s_4 this 5 < 30) ∧ (∀ s_5 : mm_M, s_5 = mm_up s_4 (mm_rt this 4) (s_4 this 5) a5 → (∀ s_6 : mm_M, s_6 = mm_up s_5 this 5 ((s_5 this 5) + 1) → post s_6)))))))))))) ∧ (¬ n32 (s0 this 5) < 30 → post s0))))
set_option maxRecDepth 100000 in
set_option maxHeartbeats 4000000 in
theorem c_X1_append (l : Launch) (G : mm_G) (this : Nat) (a1 : Int) (a2 : Int) (a3 : Int) (a4 : Int) (a5 : Int) (h0 : mm_ok this 11 0) (s0 : mm_M) (post : mm_M → Prop) (hw : wp_X1_append this a1 a2 a3 a4 a5 s0 post) : Met l yX1_append (mm_wm yX1_append cX1_append 6 none) (mm_rm 1) (va_Pc [.ref (mm_ad G this), .int (mm_I a1), .int (mm_I a2), .int (mm_I a3), .int (mm_I a4), .int (mm_I a5)] (mm_pre G s0)) (mm_Qv G post) 0 0 (mm_A G) := by
  refine mm_met (own := RX1) (by decide) rfl (Nat.le_of_ble_eq_true rfl) ?_
  intro p e s m args below meth c C hr hk
  unfold wp_X1_append at hw
  intro H locs ls w hl
  have hl : lv_has ls 6 [(0, .ref (mm_ad G this)), (1, .int (mm_I a1)), (2, .int (mm_I a2)), (3, .int (mm_I a3)), (4, .int (mm_I a4)), (5, .int (mm_I a5))] := hl
  refine lv_aload_n (pc := 0) C.1 C.2.1 dX1_append_0 rfl (lv_at hl 0 rfl) ?_
  refine g_geti (pc := 1) C w h0 ff_X1_5 lk_X1_27 dX1_append_1 ?_
  refine g_if_lt (pc := 4) (tgt := 16) C rfl dX1_append_4 (by decide) (fun hc => ?_) (fun hc => ?_)
  · have hw := hw.1 hc
    exact g_vret (pc := 16) C w hr hk hw dX1_append_16
  · have hw := hw.2 hc
    refine lv_aload_n (pc := 7) C.1 C.2.1 dX1_append_7 rfl (lv_at hl 0 rfl) ?_
    refine g_geti (pc := 8) C w h0 ff_X1_5 lk_X1_27 dX1_append_8 ?_
    refine lv_bipush (pc := 11) C.1 C.2.1 dX1_append_11 mb_30 ?_
    refine g_icmp_lt (pc := 13) (tgt := 17) C rfl mn_30 dX1_append_13 (by decide) (fun hc => ?_) (fun hc => ?_)
    · have hw := hw.1 hc
      refine lv_aload_n (pc := 17) C.1 C.2.1 dX1_append_17 rfl (lv_at hl 0 rfl) ?_
      refine g_getr (pc := 18) C w h0 ff_X1_0 lk_X1_9 dX1_append_18 ?_
      refine lv_aload_n (pc := 21) C.1 C.2.1 dX1_append_21 rfl (lv_at hl 0 rfl) ?_
      refine g_geti (pc := 22) C w h0 ff_X1_5 lk_X1_27 dX1_append_22 ?_
      refine lv_iload_n (pc := 25) C.1 C.2.1 dX1_append_25 rfl (lv_at hl 1 rfl) ?_
      obtain ⟨hi, hw⟩ := hw
      refine g_iast (pc := 26) C w (ro_X1_0 h0) hi  dX1_append_26 (fun s_1 H locs es_1 w => ?_)
      have hw := hw s_1 es_1
      refine lv_aload_n (pc := 27) C.1 C.2.1 dX1_append_27 rfl (lv_at hl 0 rfl) ?_
      refine g_getr (pc := 28) C w h0 ff_X1_1 lk_X1_15 dX1_append_28 ?_
      refine lv_aload_n (pc := 31) C.1 C.2.1 dX1_append_31 rfl (lv_at hl 0 rfl) ?_
      refine g_geti (pc := 32) C w h0 ff_X1_5 lk_X1_27 dX1_append_32 ?_
      refine lv_aload_n (pc := 35) C.1 C.2.1 dX1_append_35 rfl (lv_at hl 0 rfl) ?_
      refine g_geti (pc := 36) C w h0 ff_X1_6 lk_X1_31 dX1_append_36 ?_
      refine lv_iload_n (pc := 39) C.1 C.2.1 dX1_append_39 rfl (lv_at hl 2 rfl) ?_
      refine g_isub (pc := 40) C dX1_append_40 ?_
      obtain ⟨hi, hw⟩ := hw
      refine g_iast (pc := 41) C w (ro_X1_1 h0) hi  dX1_append_41 (fun s_2 H locs es_2 w => ?_)
      have hw := hw s_2 es_2
      refine lv_aload_n (pc := 42) C.1 C.2.1 dX1_append_42 rfl (lv_at hl 0 rfl) ?_
      refine g_getr (pc := 43) C w h0 ff_X1_2 lk_X1_18 dX1_append_43 ?_
      refine lv_aload_n (pc := 46) C.1 C.2.1 dX1_append_46 rfl (lv_at hl 0 rfl) ?_
      refine g_geti (pc := 47) C w h0 ff_X1_5 lk_X1_27 dX1_append_47 ?_
      refine lv_iload_n (pc := 50) C.1 C.2.1 dX1_append_50 rfl (lv_at hl 3 rfl) ?_
      obtain ⟨hi, hw⟩ := hw
      refine g_iast (pc := 51) C w (ro_X1_2 h0) hi  dX1_append_51 (fun s_3 H locs es_3 w => ?_)
      have hw := hw s_3 es_3
      refine lv_aload_n (pc := 52) C.1 C.2.1 dX1_append_52 rfl (lv_at hl 0 rfl) ?_
      refine g_getr (pc := 53) C w h0 ff_X1_3 lk_X1_21 dX1_append_53 ?_
      refine lv_aload_n (pc := 56) C.1 C.2.1 dX1_append_56 rfl (lv_at hl 0 rfl) ?_
      refine g_geti (pc := 57) C w h0 ff_X1_5 lk_X1_27 dX1_append_57 ?_
      refine lv_iload (pc := 60) C.1 C.2.1 dX1_append_60 (lv_at hl 4 rfl) ?_
      obtain ⟨hi, hw⟩ := hw
      refine g_iast (pc := 62) C w (ro_X1_3 h0) hi  dX1_append_62 (fun s_4 H locs es_4 w => ?_)
      have hw := hw s_4 es_4
      refine lv_aload_n (pc := 63) C.1 C.2.1 dX1_append_63 rfl (lv_at hl 0 rfl) ?_
      refine g_getr (pc := 64) C w h0 ff_X1_4 lk_X1_24 dX1_append_64 ?_
      refine lv_aload_n (pc := 67) C.1 C.2.1 dX1_append_67 rfl (lv_at hl 0 rfl) ?_
      refine g_geti (pc := 68) C w h0 ff_X1_5 lk_X1_27 dX1_append_68 ?_
      refine lv_iload (pc := 71) C.1 C.2.1 dX1_append_71 (lv_at hl 5 rfl) ?_
      obtain ⟨hi, hw⟩ := hw
      refine g_iast (pc := 73) C w (ro_X1_4 h0) hi  dX1_append_73 (fun s_5 H locs es_5 w => ?_)
      have hw := hw s_5 es_5
      refine lv_aload_n (pc := 74) C.1 C.2.1 dX1_append_74 rfl (lv_at hl 0 rfl) ?_
      refine lv_dup (pc := 75) C.1 C.2.1 dX1_append_75 rfl ?_
      refine g_geti (pc := 76) C w h0 ff_X1_5 lk_X1_27 dX1_append_76 ?_
      refine lv_iconst (pc := 79) (v := mm_I 1) C.1 C.2.1 dX1_append_79 rfl ?_
      refine g_iadd (pc := 80) C dX1_append_80 ?_
      refine g_puti (pc := 81) C w h0 ff_X1_5 fw_X1_5 lk_X1_27 dX1_append_81 (fun s_6 H locs es_6 w => ?_)
      have hw := hw s_6 es_6
      exact g_vret (pc := 84) C w hr hk hw dX1_append_84
    · have hw := hw.2 hc
      exact g_vret (pc := 16) C w hr hk hw dX1_append_16
theorem mo_0_9 {x : Int} (h0 : ¬ x = 0) (h1 : ¬ x = 1) (h2 : ¬ x = 2) (h3 : ¬ x = 3) (h4 : ¬ x = 4) (h5 : ¬ x = 5) (h6 : ¬ x = 6) (h7 : ¬ x = 7) (h8 : ¬ x = 8) (h9 : ¬ x = 9) : x < 0 ∨ 9 < x := by omega
def wp_X1_named (this : Nat) (a1 : Int) (a2 : Int) (s0 : mm_M) (post : Int → mm_M → Prop) : Prop :=
  ((n32 a2 < 0 → post 0 s0) ∧ (¬ n32 a2 < 0 → ((n32 (s0 this 5) ≤ n32 a2 → post 0 s0) ∧ (¬ n32 (s0 this 5) ≤ n32 a2 → ((n32 a2 < 30 → ((n32 a1 = 0 → ((0 ≤ a2 ∧ a2 < 30) ∧ post (s0 (mm_rt this 0) a2) s0)) ∧ (¬ n32 a1 = 0 → ((n32 a1 = 1 → ((0 ≤ a2 ∧ a2 < 30) ∧ post (s0 (mm_rt this 1) a2) s0)) ∧ (¬ n32 a1 = 1 → ((n32 a1 = 2 → ((0 ≤ a2 ∧ a2 < 30) ∧ post (s0 (mm_rt this 2) a2) s0)) ∧ (¬ n32 a1 = 2 → ((n32 a1 = 3 → ((0 ≤ a2 ∧ a2 < 30) ∧ post (s0 (mm_rt this 3) a2) s0)) ∧ (¬ n32 a1 = 3 → ((n32 a1 = 4 → post a2 s0) ∧ (¬ n32 a1 = 4 → ((n32 a1 = 5 → post (((s0 this 5) - 1) - a2) s0) ∧ (¬ n32 a1 = 5 → ((n32 a1 = 6 → post (s0 this 5) s0) ∧ (¬ n32 a1 = 6 → ((n32 a1 = 7 → post (s0 this 6) s0) ∧ (¬ n32 a1 = 7 → ((n32 a1 = 8 → post (s0 this 7) s0) ∧ (¬ n32 a1 = 8 → ((n32 a1 = 9 → ((0 ≤ a2 ∧ a2 < 30) ∧ post (s0 (mm_rt this 4) a2) s0)) ∧ (¬ n32 a1 = 9 → post 0 s0))))))))))))))))))))) ∧ (¬ n32 a2 < 30 → post 0 s0))))))
set_option maxRecDepth 100000 in
set_option maxHeartbeats 4000000 in
theorem c_X1_named (l : Launch) (G : mm_G) (this : Nat) (a1 : Int) (a2 : Int) (h0 : mm_ok this 11 0) (s0 : mm_M) (post : Int → mm_M → Prop) (hw : wp_X1_named this a1 a2 s0 post) : Met l yX1_named (mm_wm yX1_named cX1_named 3 (some .int)) (mm_rm 1) (va_Pc [.ref (mm_ad G this), .int (mm_I a1), .int (mm_I a2)] (mm_pre G s0)) (mm_Qi G post) 0 0 (mm_A G) := by
  refine mm_met (own := RX1) (by decide) rfl (Nat.le_of_ble_eq_true rfl) ?_
  intro p e s m args below meth c C hr hk
  unfold wp_X1_named at hw
  intro H locs ls w hl
  have hl : lv_has ls 3 [(0, .ref (mm_ad G this)), (1, .int (mm_I a1)), (2, .int (mm_I a2))] := hl
  refine lv_iload_n (pc := 0) C.1 C.2.1 dX1_named_0 rfl (lv_at hl 2 rfl) ?_
  refine g_if_lt (pc := 1) (tgt := 18) C rfl dX1_named_1 (by decide) (fun hc => ?_) (fun hc => ?_)
  · have hw := hw.1 hc
    refine lv_iconst (pc := 18) (v := mm_I 0) C.1 C.2.1 dX1_named_18 rfl ?_
    exact g_iret (pc := 19) C w hr hk hw dX1_named_19
  · have hw := hw.2 hc
    refine lv_iload_n (pc := 4) C.1 C.2.1 dX1_named_4 rfl (lv_at hl 2 rfl) ?_
    refine lv_aload_n (pc := 5) C.1 C.2.1 dX1_named_5 rfl (lv_at hl 0 rfl) ?_
    refine g_geti (pc := 6) C w h0 ff_X1_5 lk_X1_27 dX1_named_6 ?_
    refine g_icmp_ge (pc := 9) (tgt := 18) C rfl rfl dX1_named_9 (by decide) (fun hc => ?_) (fun hc => ?_)
    · have hw := hw.1 hc
      refine lv_iconst (pc := 18) (v := mm_I 0) C.1 C.2.1 dX1_named_18 rfl ?_
      exact g_iret (pc := 19) C w hr hk hw dX1_named_19
    · have hw := hw.2 hc
      refine lv_iload_n (pc := 12) C.1 C.2.1 dX1_named_12 rfl (lv_at hl 2 rfl) ?_
      refine lv_bipush (pc := 13) C.1 C.2.1 dX1_named_13 mb_30 ?_
      refine g_icmp_lt (pc := 15) (tgt := 20) C rfl mn_30 dX1_named_15 (by decide) (fun hc => ?_) (fun hc => ?_)
      · have hw := hw.1 hc
        refine lv_iload_n (pc := 20) C.1 C.2.1 dX1_named_20 rfl (lv_at hl 1 rfl) ?_
        by_cases hc0 : n32 a1 = 0
        · have hw := hw.1 hc0
          refine lv_tableIn (pc := 21) (tgt := 76) C.1 C.2.1 dX1_named_21 (by rw [show (mm_I a1).toInt = 0 from hc0]; decide) (by rw [show (mm_I a1).toInt = 0 from hc0]; decide) (by rw [show (mm_I a1).toInt = 0 from hc0]; first | done | rfl) (by decide) ?_
          refine lv_aload_n (pc := 76) C.1 C.2.1 dX1_named_76 rfl (lv_at hl 0 rfl) ?_
          refine g_getr (pc := 77) C w h0 ff_X1_0 lk_X1_9 dX1_named_77 ?_
          refine lv_iload_n (pc := 80) C.1 C.2.1 dX1_named_80 rfl (lv_at hl 2 rfl) ?_
          obtain ⟨hi, hw⟩ := hw
          refine g_iald (pc := 81) C w (ro_X1_0 h0) hi dX1_named_81 ?_
          exact g_iret (pc := 82) C w hr hk hw dX1_named_82
        have hw := hw.2 hc0
        by_cases hc1 : n32 a1 = 1
        · have hw := hw.1 hc1
          refine lv_tableIn (pc := 21) (tgt := 83) C.1 C.2.1 dX1_named_21 (by rw [show (mm_I a1).toInt = 1 from hc1]; decide) (by rw [show (mm_I a1).toInt = 1 from hc1]; decide) (by rw [show (mm_I a1).toInt = 1 from hc1]; first | done | rfl) (by decide) ?_
          refine lv_aload_n (pc := 83) C.1 C.2.1 dX1_named_83 rfl (lv_at hl 0 rfl) ?_
          refine g_getr (pc := 84) C w h0 ff_X1_1 lk_X1_15 dX1_named_84 ?_
          refine lv_iload_n (pc := 87) C.1 C.2.1 dX1_named_87 rfl (lv_at hl 2 rfl) ?_
          obtain ⟨hi, hw⟩ := hw
          refine g_iald (pc := 88) C w (ro_X1_1 h0) hi dX1_named_88 ?_
          exact g_iret (pc := 89) C w hr hk hw dX1_named_89
        have hw := hw.2 hc1
        by_cases hc2 : n32 a1 = 2
        · have hw := hw.1 hc2
          refine lv_tableIn (pc := 21) (tgt := 90) C.1 C.2.1 dX1_named_21 (by rw [show (mm_I a1).toInt = 2 from hc2]; decide) (by rw [show (mm_I a1).toInt = 2 from hc2]; decide) (by rw [show (mm_I a1).toInt = 2 from hc2]; first | done | rfl) (by decide) ?_
          refine lv_aload_n (pc := 90) C.1 C.2.1 dX1_named_90 rfl (lv_at hl 0 rfl) ?_
          refine g_getr (pc := 91) C w h0 ff_X1_2 lk_X1_18 dX1_named_91 ?_
          refine lv_iload_n (pc := 94) C.1 C.2.1 dX1_named_94 rfl (lv_at hl 2 rfl) ?_
          obtain ⟨hi, hw⟩ := hw
          refine g_iald (pc := 95) C w (ro_X1_2 h0) hi dX1_named_95 ?_
          exact g_iret (pc := 96) C w hr hk hw dX1_named_96
        have hw := hw.2 hc2
        by_cases hc3 : n32 a1 = 3
        · have hw := hw.1 hc3
          refine lv_tableIn (pc := 21) (tgt := 97) C.1 C.2.1 dX1_named_21 (by rw [show (mm_I a1).toInt = 3 from hc3]; decide) (by rw [show (mm_I a1).toInt = 3 from hc3]; decide) (by rw [show (mm_I a1).toInt = 3 from hc3]; first | done | rfl) (by decide) ?_
          refine lv_aload_n (pc := 97) C.1 C.2.1 dX1_named_97 rfl (lv_at hl 0 rfl) ?_
          refine g_getr (pc := 98) C w h0 ff_X1_3 lk_X1_21 dX1_named_98 ?_
          refine lv_iload_n (pc := 101) C.1 C.2.1 dX1_named_101 rfl (lv_at hl 2 rfl) ?_
          obtain ⟨hi, hw⟩ := hw
          refine g_iald (pc := 102) C w (ro_X1_3 h0) hi dX1_named_102 ?_
          exact g_iret (pc := 103) C w hr hk hw dX1_named_103
        have hw := hw.2 hc3
        by_cases hc4 : n32 a1 = 4
        · have hw := hw.1 hc4
          refine lv_tableIn (pc := 21) (tgt := 104) C.1 C.2.1 dX1_named_21 (by rw [show (mm_I a1).toInt = 4 from hc4]; decide) (by rw [show (mm_I a1).toInt = 4 from hc4]; decide) (by rw [show (mm_I a1).toInt = 4 from hc4]; first | done | rfl) (by decide) ?_
          refine lv_iload_n (pc := 104) C.1 C.2.1 dX1_named_104 rfl (lv_at hl 2 rfl) ?_
          exact g_iret (pc := 105) C w hr hk hw dX1_named_105
        have hw := hw.2 hc4
        by_cases hc5 : n32 a1 = 5
        · have hw := hw.1 hc5
          refine lv_tableIn (pc := 21) (tgt := 106) C.1 C.2.1 dX1_named_21 (by rw [show (mm_I a1).toInt = 5 from hc5]; decide) (by rw [show (mm_I a1).toInt = 5 from hc5]; decide) (by rw [show (mm_I a1).toInt = 5 from hc5]; first | done | rfl) (by decide) ?_
          refine lv_aload_n (pc := 106) C.1 C.2.1 dX1_named_106 rfl (lv_at hl 0 rfl) ?_
          refine g_geti (pc := 107) C w h0 ff_X1_5 lk_X1_27 dX1_named_107 ?_
          refine lv_iconst (pc := 110) (v := mm_I 1) C.1 C.2.1 dX1_named_110 rfl ?_
          refine g_isub (pc := 111) C dX1_named_111 ?_
          refine lv_iload_n (pc := 112) C.1 C.2.1 dX1_named_112 rfl (lv_at hl 2 rfl) ?_
          refine g_isub (pc := 113) C dX1_named_113 ?_
          exact g_iret (pc := 114) C w hr hk hw dX1_named_114
        have hw := hw.2 hc5
        by_cases hc6 : n32 a1 = 6
        · have hw := hw.1 hc6
          refine lv_tableIn (pc := 21) (tgt := 115) C.1 C.2.1 dX1_named_21 (by rw [show (mm_I a1).toInt = 6 from hc6]; decide) (by rw [show (mm_I a1).toInt = 6 from hc6]; decide) (by rw [show (mm_I a1).toInt = 6 from hc6]; first | done | rfl) (by decide) ?_
          refine lv_aload_n (pc := 115) C.1 C.2.1 dX1_named_115 rfl (lv_at hl 0 rfl) ?_
          refine g_geti (pc := 116) C w h0 ff_X1_5 lk_X1_27 dX1_named_116 ?_
          exact g_iret (pc := 119) C w hr hk hw dX1_named_119
        have hw := hw.2 hc6
        by_cases hc7 : n32 a1 = 7
        · have hw := hw.1 hc7
          refine lv_tableIn (pc := 21) (tgt := 120) C.1 C.2.1 dX1_named_21 (by rw [show (mm_I a1).toInt = 7 from hc7]; decide) (by rw [show (mm_I a1).toInt = 7 from hc7]; decide) (by rw [show (mm_I a1).toInt = 7 from hc7]; first | done | rfl) (by decide) ?_
          refine lv_aload_n (pc := 120) C.1 C.2.1 dX1_named_120 rfl (lv_at hl 0 rfl) ?_
          refine g_geti (pc := 121) C w h0 ff_X1_6 lk_X1_31 dX1_named_121 ?_
          exact g_iret (pc := 124) C w hr hk hw dX1_named_124
        have hw := hw.2 hc7
        by_cases hc8 : n32 a1 = 8
        · have hw := hw.1 hc8
          refine lv_tableIn (pc := 21) (tgt := 125) C.1 C.2.1 dX1_named_21 (by rw [show (mm_I a1).toInt = 8 from hc8]; decide) (by rw [show (mm_I a1).toInt = 8 from hc8]; decide) (by rw [show (mm_I a1).toInt = 8 from hc8]; first | done | rfl) (by decide) ?_
          refine lv_aload_n (pc := 125) C.1 C.2.1 dX1_named_125 rfl (lv_at hl 0 rfl) ?_
          refine g_geti (pc := 126) C w h0 ff_X1_7 lk_X1_34 dX1_named_126 ?_
          exact g_iret (pc := 129) C w hr hk hw dX1_named_129
        have hw := hw.2 hc8
        by_cases hc9 : n32 a1 = 9
        · have hw := hw.1 hc9
          refine lv_tableIn (pc := 21) (tgt := 130) C.1 C.2.1 dX1_named_21 (by rw [show (mm_I a1).toInt = 9 from hc9]; decide) (by rw [show (mm_I a1).toInt = 9 from hc9]; decide) (by rw [show (mm_I a1).toInt = 9 from hc9]; first | done | rfl) (by decide) ?_
          refine lv_aload_n (pc := 130) C.1 C.2.1 dX1_named_130 rfl (lv_at hl 0 rfl) ?_
          refine g_getr (pc := 131) C w h0 ff_X1_4 lk_X1_24 dX1_named_131 ?_
          refine lv_iload_n (pc := 134) C.1 C.2.1 dX1_named_134 rfl (lv_at hl 2 rfl) ?_
          obtain ⟨hi, hw⟩ := hw
          refine g_iald (pc := 135) C w (ro_X1_4 h0) hi dX1_named_135 ?_
          exact g_iret (pc := 136) C w hr hk hw dX1_named_136
        have hw := hw.2 hc9
        refine lv_tableOut (pc := 21) (tgt := 137) C.1 C.2.1 dX1_named_21 (mo_0_9 hc0 hc1 hc2 hc3 hc4 hc5 hc6 hc7 hc8 hc9) (by decide) ?_
        refine lv_iconst (pc := 137) (v := mm_I 0) C.1 C.2.1 dX1_named_137 rfl ?_
        exact g_iret (pc := 138) C w hr hk hw dX1_named_138
      · have hw := hw.2 hc
        refine lv_iconst (pc := 18) (v := mm_I 0) C.1 C.2.1 dX1_named_18 rfl ?_
        exact g_iret (pc := 19) C w hr hk hw dX1_named_19
theorem lk_X2_15 : Cond.fieldLink RX2 15 "LastServed$Desk" "size" "I" ∈ mm_ws := (mt_1 230 rfl rfl)
theorem ff_X2_1 : mm_F 2 1 0 RX2 TX2 4 := ⟨rfl, by decide, fk_X2, rfl, rfl⟩
theorem fw_X2_1 : mm_Fw 2 1 TX2 4 .int := ⟨⟨tyX2, tyX2_ok⟩, nmX2, rfl, by decide +kernel⟩
theorem lk_X2_19 : Cond.fieldLink RX2 19 "LastServed$Desk" "stock" "I" ∈ mm_ws := (mt_1 233 rfl rfl)
theorem ff_X2_2 : mm_F 2 2 0 RX2 TX2 4 := ⟨rfl, by decide, fk_X2, rfl, rfl⟩
theorem fw_X2_2 : mm_Fw 2 2 TX2 4 .int := ⟨⟨tyX2, tyX2_ok⟩, nmX2, rfl, by decide +kernel⟩
theorem lk_X2_22 : Cond.fieldLink RX2 22 "LastServed$Desk" "busyTill" "I" ∈ mm_ws := (mt_1 236 rfl rfl)
theorem ff_X2_3 : mm_F 2 3 0 RX2 TX2 4 := ⟨rfl, by decide, fk_X2, rfl, rfl⟩
theorem fw_X2_3 : mm_Fw 2 3 TX2 4 .int := ⟨⟨tyX2, tyX2_ok⟩, nmX2, rfl, by decide +kernel⟩
def wp_X2_open (this : Nat) (a1 : Int) (s0 : mm_M) (post : mm_M → Prop) : Prop :=
  (∀ s_1 : mm_M, s_1 = mm_up s0 this 1 0 → (∀ s_2 : mm_M, s_2 = mm_up s_1 this 2 a1 → (∀ s_3 : mm_M, s_3 = mm_up s_2 this 3 0 → post s_3)))
set_option maxRecDepth 100000 in
set_option maxHeartbeats 4000000 in
theorem c_X2_open (l : Launch) (G : mm_G) (this : Nat) (a1 : Int) (h0 : mm_ok this 12 0) (s0 : mm_M) (post : mm_M → Prop) (hw : wp_X2_open this a1 s0 post) : Met l yX2_open (mm_wm yX2_open cX2_open 2 none) (mm_rm 1) (va_Pc [.ref (mm_ad G this), .int (mm_I a1)] (mm_pre G s0)) (mm_Qv G post) 0 0 (mm_A G) := by
  refine mm_met (own := RX2) (by decide) rfl (Nat.le_of_ble_eq_true rfl) ?_
  intro p e s m args below meth c C hr hk
  unfold wp_X2_open at hw
  intro H locs ls w hl
  have hl : lv_has ls 2 [(0, .ref (mm_ad G this)), (1, .int (mm_I a1))] := hl
  refine lv_aload_n (pc := 0) C.1 C.2.1 dX2_open_0 rfl (lv_at hl 0 rfl) ?_
  refine lv_iconst (pc := 1) (v := mm_I 0) C.1 C.2.1 dX2_open_1 rfl ?_
  refine g_puti (pc := 2) C w h0 ff_X2_1 fw_X2_1 lk_X2_15 dX2_open_2 (fun s_1 H locs es_1 w => ?_)
  have hw := hw s_1 es_1
  refine lv_aload_n (pc := 5) C.1 C.2.1 dX2_open_5 rfl (lv_at hl 0 rfl) ?_
  refine lv_iload_n (pc := 6) C.1 C.2.1 dX2_open_6 rfl (lv_at hl 1 rfl) ?_
  refine g_puti (pc := 7) C w h0 ff_X2_2 fw_X2_2 lk_X2_19 dX2_open_7 (fun s_2 H locs es_2 w => ?_)
  have hw := hw s_2 es_2
  refine lv_aload_n (pc := 10) C.1 C.2.1 dX2_open_10 rfl (lv_at hl 0 rfl) ?_
  refine lv_iconst (pc := 11) (v := mm_I 0) C.1 C.2.1 dX2_open_11 rfl ?_
  refine g_puti (pc := 12) C w h0 ff_X2_3 fw_X2_3 lk_X2_22 dX2_open_12 (fun s_3 H locs es_3 w => ?_)
  have hw := hw s_3 es_3
  exact g_vret (pc := 15) C w hr hk hw dX2_open_15
theorem lk_X2_9 : Cond.fieldLink RX2 9 "LastServed$Desk" "who" "[I" ∈ mm_ws := (mt_1 229 rfl rfl)
theorem ff_X2_0 : mm_F 2 0 1 RX2 TX2 4 := ⟨rfl, by decide, fk_X2, rfl, rfl⟩
theorem ro_X2_0 {i : Nat} (h : mm_ok i 12 0) : mm_ok (mm_rt i 0) 0 30 := by
  have q : ∀ i, i < mm_N → mm_kd i = 12 → mm_rt i 0 < mm_N ∧ mm_kd (mm_rt i 0) = 0 ∧ mm_ln (mm_rt i 0) = 30 := by decide +kernel
  exact q i h.1 h.2.1
theorem ml_X2_25 : Cond.methodLink RX2 25 arraycopyName ∈ mm_ws := (mt_5 184 rfl rfl)
def wp_X2_takeOver (this : Nat) (a1 : Nat) (s0 : mm_M) (post : mm_M → Prop) : Prop :=
  ((0 ≤ (0 : Int) ∧ 0 ≤ (0 : Int) ∧ 0 ≤ (30 : Int) ∧ (0 : Int) + 30 ≤ 30 ∧ (0 : Int) + 30 ≤ 30) ∧ (∀ s_1 : mm_M, s_1 = mm_cp s0 (mm_rt a1 0) 0 (mm_rt this 0) 0 30 → (∀ s_2 : mm_M, s_2 = mm_up s_1 this 1 (s_1 a1 1) → (∀ s_3 : mm_M, s_3 = mm_up s_2 this 2 (s_2 a1 2) → (∀ s_4 : mm_M, s_4 = mm_up s_3 this 3 (s_3 a1 3) → post s_4)))))
set_option maxRecDepth 100000 in
set_option maxHeartbeats 4000000 in
theorem c_X2_takeOver (l : Launch) (G : mm_G) (this : Nat) (a1 : Nat) (h0 : mm_ok this 12 0) (h1 : mm_ok a1 12 0) (s0 : mm_M) (post : mm_M → Prop) (hw : wp_X2_takeOver this a1 s0 post) : Met l yX2_takeOver (mm_wm yX2_takeOver cX2_takeOver 2 none) (mm_rm 2) (va_Pc [.ref (mm_ad G this), .ref (mm_ad G a1)] (mm_pre G s0)) (mm_Qv G post) 0 0 (mm_A G) := by
  refine mm_met (own := RX2) (by decide) rfl (Nat.le_of_ble_eq_true rfl) ?_
  intro p e s m args below meth c C hr hk
  unfold wp_X2_takeOver at hw
  intro H locs ls w hl
  have hl : lv_has ls 2 [(0, .ref (mm_ad G this)), (1, .ref (mm_ad G a1))] := hl
  refine lv_aload_n (pc := 0) C.1 C.2.1 dX2_takeOver_0 rfl (lv_at hl 1 rfl) ?_
  refine g_getr (pc := 1) C w h1 ff_X2_0 lk_X2_9 dX2_takeOver_1 ?_
  refine lv_iconst (pc := 4) (v := mm_I 0) C.1 C.2.1 dX2_takeOver_4 rfl ?_
  refine lv_aload_n (pc := 5) C.1 C.2.1 dX2_takeOver_5 rfl (lv_at hl 0 rfl) ?_
  refine g_getr (pc := 6) C w h0 ff_X2_0 lk_X2_9 dX2_takeOver_6 ?_
  refine lv_iconst (pc := 9) (v := mm_I 0) C.1 C.2.1 dX2_takeOver_9 rfl ?_
  refine lv_bipush (pc := 10) C.1 C.2.1 dX2_takeOver_10 mb_30 ?_
  obtain ⟨hi, hw⟩ := hw
  refine g_copy (pc := 12) C w hl.1 (ro_X2_0 h1) (ro_X2_0 h0) hi ml_X2_25 mv_copy ⟨Nat.le_of_ble_eq_true rfl, Nat.le_of_ble_eq_true rfl⟩ dX2_takeOver_12 (fun s_1 H locs es_1 w => ?_)
  have hw := hw s_1 es_1
  refine lv_aload_n (pc := 15) C.1 C.2.1 dX2_takeOver_15 rfl (lv_at hl 0 rfl) ?_
  refine lv_aload_n (pc := 16) C.1 C.2.1 dX2_takeOver_16 rfl (lv_at hl 1 rfl) ?_
  refine g_geti (pc := 17) C w h1 ff_X2_1 lk_X2_15 dX2_takeOver_17 ?_
  refine g_puti (pc := 20) C w h0 ff_X2_1 fw_X2_1 lk_X2_15 dX2_takeOver_20 (fun s_2 H locs es_2 w => ?_)
  have hw := hw s_2 es_2
  refine lv_aload_n (pc := 23) C.1 C.2.1 dX2_takeOver_23 rfl (lv_at hl 0 rfl) ?_
  refine lv_aload_n (pc := 24) C.1 C.2.1 dX2_takeOver_24 rfl (lv_at hl 1 rfl) ?_
  refine g_geti (pc := 25) C w h1 ff_X2_2 lk_X2_19 dX2_takeOver_25 ?_
  refine g_puti (pc := 28) C w h0 ff_X2_2 fw_X2_2 lk_X2_19 dX2_takeOver_28 (fun s_3 H locs es_3 w => ?_)
  have hw := hw s_3 es_3
  refine lv_aload_n (pc := 31) C.1 C.2.1 dX2_takeOver_31 rfl (lv_at hl 0 rfl) ?_
  refine lv_aload_n (pc := 32) C.1 C.2.1 dX2_takeOver_32 rfl (lv_at hl 1 rfl) ?_
  refine g_geti (pc := 33) C w h1 ff_X2_3 lk_X2_22 dX2_takeOver_33 ?_
  refine g_puti (pc := 36) C w h0 ff_X2_3 fw_X2_3 lk_X2_22 dX2_takeOver_36 (fun s_4 H locs es_4 w => ?_)
  have hw := hw s_4 es_4
  exact g_vret (pc := 39) C w hr hk hw dX2_takeOver_39
def wp_X2_append (this : Nat) (a1 : Int) (s0 : mm_M) (post : mm_M → Prop) : Prop :=
  ((n32 (s0 this 1) < 0 → post s0) ∧ (¬ n32 (s0 this 1) < 0 → ((30 ≤ n32 (s0 this 1) → post s0) ∧ (¬ 30 ≤ n32 (s0 this 1) → ((0 ≤ s0 this 1 ∧ s0 this 1 < 30) ∧ (∀ s_1 : mm_M, s_1 = mm_up s0 (mm_rt this 0) (s0 this 1) a1 → (∀ s_2 : mm_M, s_2 = mm_up s_1 this 1 ((s_1 this 1) + 1) → post s_2)))))))
set_option maxRecDepth 100000 in
set_option maxHeartbeats 4000000 in
theorem c_X2_append (l : Launch) (G : mm_G) (this : Nat) (a1 : Int) (h0 : mm_ok this 12 0) (s0 : mm_M) (post : mm_M → Prop) (hw : wp_X2_append this a1 s0 post) : Met l yX2_append (mm_wm yX2_append cX2_append 2 none) (mm_rm 1) (va_Pc [.ref (mm_ad G this), .int (mm_I a1)] (mm_pre G s0)) (mm_Qv G post) 0 0 (mm_A G) := by
  refine mm_met (own := RX2) (by decide) rfl (Nat.le_of_ble_eq_true rfl) ?_
  intro p e s m args below meth c C hr hk
  unfold wp_X2_append at hw
  intro H locs ls w hl
  have hl : lv_has ls 2 [(0, .ref (mm_ad G this)), (1, .int (mm_I a1))] := hl
  refine lv_aload_n (pc := 0) C.1 C.2.1 dX2_append_0 rfl (lv_at hl 0 rfl) ?_
  refine g_geti (pc := 1) C w h0 ff_X2_1 lk_X2_15 dX2_append_1 ?_
  refine g_if_lt (pc := 4) (tgt := 36) C rfl dX2_append_4 (by decide) (fun hc => ?_) (fun hc => ?_)
  · have hw := hw.1 hc
    exact g_vret (pc := 36) C w hr hk hw dX2_append_36
  · have hw := hw.2 hc
    refine lv_aload_n (pc := 7) C.1 C.2.1 dX2_append_7 rfl (lv_at hl 0 rfl) ?_
    refine g_geti (pc := 8) C w h0 ff_X2_1 lk_X2_15 dX2_append_8 ?_
    refine lv_bipush (pc := 11) C.1 C.2.1 dX2_append_11 mb_30 ?_
    refine g_icmp_ge (pc := 13) (tgt := 36) C rfl mn_30 dX2_append_13 (by decide) (fun hc => ?_) (fun hc => ?_)
    · have hw := hw.1 hc
      exact g_vret (pc := 36) C w hr hk hw dX2_append_36
    · have hw := hw.2 hc
      refine lv_aload_n (pc := 16) C.1 C.2.1 dX2_append_16 rfl (lv_at hl 0 rfl) ?_
      refine g_getr (pc := 17) C w h0 ff_X2_0 lk_X2_9 dX2_append_17 ?_
      refine lv_aload_n (pc := 20) C.1 C.2.1 dX2_append_20 rfl (lv_at hl 0 rfl) ?_
      refine g_geti (pc := 21) C w h0 ff_X2_1 lk_X2_15 dX2_append_21 ?_
      refine lv_iload_n (pc := 24) C.1 C.2.1 dX2_append_24 rfl (lv_at hl 1 rfl) ?_
      obtain ⟨hi, hw⟩ := hw
      refine g_iast (pc := 25) C w (ro_X2_0 h0) hi  dX2_append_25 (fun s_1 H locs es_1 w => ?_)
      have hw := hw s_1 es_1
      refine lv_aload_n (pc := 26) C.1 C.2.1 dX2_append_26 rfl (lv_at hl 0 rfl) ?_
      refine lv_dup (pc := 27) C.1 C.2.1 dX2_append_27 rfl ?_
      refine g_geti (pc := 28) C w h0 ff_X2_1 lk_X2_15 dX2_append_28 ?_
      refine lv_iconst (pc := 31) (v := mm_I 1) C.1 C.2.1 dX2_append_31 rfl ?_
      refine g_iadd (pc := 32) C dX2_append_32 ?_
      refine g_puti (pc := 33) C w h0 ff_X2_1 fw_X2_1 lk_X2_15 dX2_append_33 (fun s_2 H locs es_2 w => ?_)
      have hw := hw s_2 es_2
      exact g_vret (pc := 36) C w hr hk hw dX2_append_36
def wp_X2_at (this : Nat) (a1 : Int) (s0 : mm_M) (post : Int → mm_M → Prop) : Prop :=
  ((n32 a1 < 0 → post (-1) s0) ∧ (¬ n32 a1 < 0 → ((n32 (s0 this 1) ≤ n32 a1 → post (-1) s0) ∧ (¬ n32 (s0 this 1) ≤ n32 a1 → ((30 ≤ n32 a1 → post (-1) s0) ∧ (¬ 30 ≤ n32 a1 → ((0 ≤ a1 ∧ a1 < 30) ∧ post (s0 (mm_rt this 0) a1) s0)))))))
set_option maxRecDepth 100000 in
set_option maxHeartbeats 4000000 in
theorem c_X2_at (l : Launch) (G : mm_G) (this : Nat) (a1 : Int) (h0 : mm_ok this 12 0) (s0 : mm_M) (post : Int → mm_M → Prop) (hw : wp_X2_at this a1 s0 post) : Met l yX2_at (mm_wm yX2_at cX2_at 2 (some .int)) (mm_rm 1) (va_Pc [.ref (mm_ad G this), .int (mm_I a1)] (mm_pre G s0)) (mm_Qi G post) 0 0 (mm_A G) := by
  refine mm_met (own := RX2) (by decide) rfl (Nat.le_of_ble_eq_true rfl) ?_
  intro p e s m args below meth c C hr hk
  unfold wp_X2_at at hw
  intro H locs ls w hl
  have hl : lv_has ls 2 [(0, .ref (mm_ad G this)), (1, .int (mm_I a1))] := hl
  refine lv_iload_n (pc := 0) C.1 C.2.1 dX2_at_0 rfl (lv_at hl 1 rfl) ?_
  refine g_if_lt (pc := 1) (tgt := 27) C rfl dX2_at_1 (by decide) (fun hc => ?_) (fun hc => ?_)
  · have hw := hw.1 hc
    refine lv_iconst (pc := 27) (v := mm_I (-1)) C.1 C.2.1 dX2_at_27 rfl ?_
    exact g_iret (pc := 28) C w hr hk hw dX2_at_28
  · have hw := hw.2 hc
    refine lv_iload_n (pc := 4) C.1 C.2.1 dX2_at_4 rfl (lv_at hl 1 rfl) ?_
    refine lv_aload_n (pc := 5) C.1 C.2.1 dX2_at_5 rfl (lv_at hl 0 rfl) ?_
    refine g_geti (pc := 6) C w h0 ff_X2_1 lk_X2_15 dX2_at_6 ?_
    refine g_icmp_ge (pc := 9) (tgt := 27) C rfl rfl dX2_at_9 (by decide) (fun hc => ?_) (fun hc => ?_)
    · have hw := hw.1 hc
      refine lv_iconst (pc := 27) (v := mm_I (-1)) C.1 C.2.1 dX2_at_27 rfl ?_
      exact g_iret (pc := 28) C w hr hk hw dX2_at_28
    · have hw := hw.2 hc
      refine lv_iload_n (pc := 12) C.1 C.2.1 dX2_at_12 rfl (lv_at hl 1 rfl) ?_
      refine lv_bipush (pc := 13) C.1 C.2.1 dX2_at_13 mb_30 ?_
      refine g_icmp_ge (pc := 15) (tgt := 27) C rfl mn_30 dX2_at_15 (by decide) (fun hc => ?_) (fun hc => ?_)
      · have hw := hw.1 hc
        refine lv_iconst (pc := 27) (v := mm_I (-1)) C.1 C.2.1 dX2_at_27 rfl ?_
        exact g_iret (pc := 28) C w hr hk hw dX2_at_28
      · have hw := hw.2 hc
        refine lv_aload_n (pc := 18) C.1 C.2.1 dX2_at_18 rfl (lv_at hl 0 rfl) ?_
        refine g_getr (pc := 19) C w h0 ff_X2_0 lk_X2_9 dX2_at_19 ?_
        refine lv_iload_n (pc := 22) C.1 C.2.1 dX2_at_22 rfl (lv_at hl 1 rfl) ?_
        obtain ⟨hi, hw⟩ := hw
        refine g_iald (pc := 23) C w (ro_X2_0 h0) hi dX2_at_23 ?_
        refine lv_goto (pc := 24) (tgt := 28) C.1 C.2.1 dX2_at_24 (by decide) ?_
        exact g_iret (pc := 28) C w hr hk hw dX2_at_28
def wp_X2_placeOf (this : Nat) (a1 : Int) (s0 : mm_M) (post : Int → mm_M → Prop) : Prop :=
  ∀ (L2 : Int → mm_M → Prop), 
  (∀ (v2 : Int) (s1 : mm_M), ((n32 (s1 this 1) ≤ n32 v2 → post (-1) s1) ∧ (¬ n32 (s1 this 1) ≤ n32 v2 → ((30 ≤ n32 v2 → post (-1) s1) ∧ (¬ 30 ≤ n32 v2 → ((0 ≤ v2 ∧ v2 < 30) ∧ ((¬ n32 (s1 (mm_rt this 0) v2) = n32 a1 → (∀ v2_2 : Int, v2_2 = v2 + 1 → L2 v2_2 s1)) ∧ (n32 (s1 (mm_rt this 0) v2) = n32 a1 → post v2 s1))))))) → L2 v2 s1) →
  L2 0 s0
set_option maxRecDepth 100000 in
set_option maxHeartbeats 4000000 in
theorem c_X2_placeOf (l : Launch) (G : mm_G) (this : Nat) (a1 : Int) (h0 : mm_ok this 12 0) (s0 : mm_M) (post : Int → mm_M → Prop) (hw : wp_X2_placeOf this a1 s0 post) : Met l yX2_placeOf (mm_wm yX2_placeOf cX2_placeOf 3 (some .int)) (mm_rm 1) (va_Pc [.ref (mm_ad G this), .int (mm_I a1)] (mm_pre G s0)) (mm_Qi G post) 0 0 (mm_A G) := by
  refine mm_met (own := RX2) (by decide) rfl (Nat.le_of_ble_eq_true rfl) ?_
  intro p e s m args below meth c C hr hk
  unfold wp_X2_placeOf at hw
  have hw := hw (fun (v2 : Int) (u : mm_M) => mm_X p l e (mm_rm 1) s m args below meth c (MQ below (mm_Qi G post) args s 0 0 (mm_A G)) G (mm_A G) 3 2 [(0, .ref (mm_ad G this)), (1, .int (mm_I a1)), (2, .int (mm_I v2))] [] u)
  have hw := hw (by
    intro v2 s1 hw  H locs ls w hl
    refine lv_iload_n (pc := 2) C.1 C.2.1 dX2_placeOf_2 rfl (lv_at hl 2 rfl) ?_
    refine lv_aload_n (pc := 3) C.1 C.2.1 dX2_placeOf_3 rfl (lv_at hl 0 rfl) ?_
    refine g_geti (pc := 4) C w h0 ff_X2_1 lk_X2_15 dX2_placeOf_4 ?_
    refine g_icmp_ge (pc := 7) (tgt := 34) C rfl rfl dX2_placeOf_7 (by decide) (fun hc => ?_) (fun hc => ?_)
    · have hw := hw.1 hc
      refine lv_iconst (pc := 34) (v := mm_I (-1)) C.1 C.2.1 dX2_placeOf_34 rfl ?_
      exact g_iret (pc := 35) C w hr hk hw dX2_placeOf_35
    · have hw := hw.2 hc
      refine lv_iload_n (pc := 10) C.1 C.2.1 dX2_placeOf_10 rfl (lv_at hl 2 rfl) ?_
      refine lv_bipush (pc := 11) C.1 C.2.1 dX2_placeOf_11 mb_30 ?_
      refine g_icmp_ge (pc := 13) (tgt := 34) C rfl mn_30 dX2_placeOf_13 (by decide) (fun hc => ?_) (fun hc => ?_)
      · have hw := hw.1 hc
        refine lv_iconst (pc := 34) (v := mm_I (-1)) C.1 C.2.1 dX2_placeOf_34 rfl ?_
        exact g_iret (pc := 35) C w hr hk hw dX2_placeOf_35
      · have hw := hw.2 hc
        refine lv_aload_n (pc := 16) C.1 C.2.1 dX2_placeOf_16 rfl (lv_at hl 0 rfl) ?_
        refine g_getr (pc := 17) C w h0 ff_X2_0 lk_X2_9 dX2_placeOf_17 ?_
        refine lv_iload_n (pc := 20) C.1 C.2.1 dX2_placeOf_20 rfl (lv_at hl 2 rfl) ?_
        obtain ⟨hi, hw⟩ := hw
        refine g_iald (pc := 21) C w (ro_X2_0 h0) hi dX2_placeOf_21 ?_
        refine lv_iload_n (pc := 22) C.1 C.2.1 dX2_placeOf_22 rfl (lv_at hl 1 rfl) ?_
        refine g_icmp_ne (pc := 23) (tgt := 28) C rfl rfl dX2_placeOf_23 (by decide) (fun hc => ?_) (fun hc => ?_)
        · have hw := hw.1 hc
          refine g_iinc (pc := 28) (k := 2) C dX2_placeOf_28 hl rfl (by decide) (fun v2_2 ev2_2 ls hl => ?_)
          have hw := hw v2_2 ev2_2
          have hl : lv_has ls 3 [(2, .int (mm_I v2_2)), (0, .ref (mm_ad G this)), (1, .int (mm_I a1))] := hl
          refine lv_goto (pc := 31) (tgt := 2) C.1 C.2.1 dX2_placeOf_31 (by decide) ?_
          exact hw  _ _ _ w (lv_sub hl [1, 2, 0] rfl)
        · have hw := hw.2 hc
          refine lv_iload_n (pc := 26) C.1 C.2.1 dX2_placeOf_26 rfl (lv_at hl 2 rfl) ?_
          exact g_iret (pc := 27) C w hr hk hw dX2_placeOf_27)
  intro H locs ls w hl
  have hl : lv_has ls 3 [(0, .ref (mm_ad G this)), (1, .int (mm_I a1))] := hl
  refine lv_iconst (pc := 0) (v := mm_I 0) C.1 C.2.1 dX2_placeOf_0 rfl ?_
  refine lv_istore_n (pc := 1) (lv' := [(2, .int (mm_I 0)), (0, .ref (mm_ad G this)), (1, .int (mm_I a1))]) C.1 C.2.1 dX2_placeOf_1 rfl hl (by decide) rfl (fun ls hl => ?_)
  exact hw  _ _ _ w (lv_sub hl [1, 2, 0] rfl)
theorem cv_X2_placeOf : mm_V yX2_placeOf cX2_placeOf 3 (some .int) 1 := ⟨(mt_4 29 rfl rfl), (mt_4 27 rfl rfl), (mt_4 28 rfl rfl), (mt_1 9 rfl rfl), by decide, by decide, by decide +kernel⟩
theorem ml_X2_31 : Cond.methodLink RX2 31 yX2_placeOf ∈ mm_ws := (mt_4 26 rfl rfl)
theorem mn_m1 : n32 (-1) = (-1) := by decide
theorem mb_29 : (Int8.ofInt 29).toInt32 = mm_I 29 := by decide
theorem mn_29 : n32 29 = 29 := by decide
def wp_X2_remove (this : Nat) (a1 : Int) (s0 : mm_M) (post : mm_M → Prop) : Prop :=
  ∀ (L24 : Int → mm_M → Prop), 
  (∀ (v3 : Int) (s1 : mm_M), ((n32 (s1 this 1) ≤ n32 v3 → post s1) ∧ (¬ n32 (s1 this 1) ≤ n32 v3 → ((29 ≤ n32 v3 → post s1) ∧ (¬ 29 ≤ n32 v3 → ((0 ≤ v3 + 1 ∧ v3 + 1 < 30) ∧ ((0 ≤ v3 ∧ v3 < 30) ∧ (∀ s_6 : mm_M, s_6 = mm_up s1 (mm_rt this 0) v3 (s1 (mm_rt this 0) (v3 + 1)) → (∀ v3_7 : Int, v3_7 = v3 + 1 → L24 v3_7 s_6)))))))) → L24 v3 s1) →
  (wp_X2_placeOf this a1 s0 (fun r_2 s_1 => (∀ v2_3 : Int, v2_3 = r_2 → ((¬ n32 v2_3 = (-1) → (∀ s_4 : mm_M, s_4 = mm_up s_1 this 1 ((s_1 this 1) - 1) → (∀ v3_5 : Int, v3_5 = v2_3 → L24 v3_5 s_4))) ∧ (n32 v2_3 = (-1) → post s_1)))))
set_option maxRecDepth 100000 in
set_option maxHeartbeats 4000000 in
theorem c_X2_remove (l : Launch) (G : mm_G) (this : Nat) (a1 : Int) (h0 : mm_ok this 12 0) (s0 : mm_M) (post : mm_M → Prop) (hw : wp_X2_remove this a1 s0 post) : Met l yX2_remove (mm_wm yX2_remove cX2_remove 4 none) (mm_rm 2) (va_Pc [.ref (mm_ad G this), .int (mm_I a1)] (mm_pre G s0)) (mm_Qv G post) 0 0 (mm_A G) := by
  refine mm_met (own := RX2) (by decide) rfl (Nat.le_of_ble_eq_true rfl) ?_
  intro p e s m args below meth c C hr hk
  unfold wp_X2_remove at hw
  have hw := hw (fun (v3 : Int) (u : mm_M) => mm_X p l e (mm_rm 2) s m args below meth c (MQ below (mm_Qv G post) args s 0 0 (mm_A G)) G (mm_A G) 4 24 [(0, .ref (mm_ad G this)), (3, .int (mm_I v3))] [] u)
  have hw := hw (by
    intro v3 s1 hw  H locs ls w hl
    refine lv_iload_n (pc := 24) C.1 C.2.1 dX2_remove_24 rfl (lv_at hl 1 rfl) ?_
    refine lv_aload_n (pc := 25) C.1 C.2.1 dX2_remove_25 rfl (lv_at hl 0 rfl) ?_
    refine g_geti (pc := 26) C w h0 ff_X2_1 lk_X2_15 dX2_remove_26 ?_
    refine g_icmp_ge (pc := 29) (tgt := 58) C rfl rfl dX2_remove_29 (by decide) (fun hc => ?_) (fun hc => ?_)
    · have hw := hw.1 hc
      exact g_vret (pc := 58) C w hr hk hw dX2_remove_58
    · have hw := hw.2 hc
      refine lv_iload_n (pc := 32) C.1 C.2.1 dX2_remove_32 rfl (lv_at hl 1 rfl) ?_
      refine lv_bipush (pc := 33) C.1 C.2.1 dX2_remove_33 mb_29 ?_
      refine g_icmp_ge (pc := 35) (tgt := 58) C rfl mn_29 dX2_remove_35 (by decide) (fun hc => ?_) (fun hc => ?_)
      · have hw := hw.1 hc
        exact g_vret (pc := 58) C w hr hk hw dX2_remove_58
      · have hw := hw.2 hc
        refine lv_aload_n (pc := 38) C.1 C.2.1 dX2_remove_38 rfl (lv_at hl 0 rfl) ?_
        refine g_getr (pc := 39) C w h0 ff_X2_0 lk_X2_9 dX2_remove_39 ?_
        refine lv_iload_n (pc := 42) C.1 C.2.1 dX2_remove_42 rfl (lv_at hl 1 rfl) ?_
        refine lv_aload_n (pc := 43) C.1 C.2.1 dX2_remove_43 rfl (lv_at hl 0 rfl) ?_
        refine g_getr (pc := 44) C w h0 ff_X2_0 lk_X2_9 dX2_remove_44 ?_
        refine lv_iload_n (pc := 47) C.1 C.2.1 dX2_remove_47 rfl (lv_at hl 1 rfl) ?_
        refine lv_iconst (pc := 48) (v := mm_I 1) C.1 C.2.1 dX2_remove_48 rfl ?_
        refine g_iadd (pc := 49) C dX2_remove_49 ?_
        obtain ⟨hi, hw⟩ := hw
        refine g_iald (pc := 50) C w (ro_X2_0 h0) hi dX2_remove_50 ?_
        obtain ⟨hi, hw⟩ := hw
        refine g_iast (pc := 51) C w (ro_X2_0 h0) hi  dX2_remove_51 (fun s_6 H locs es_6 w => ?_)
        have hw := hw s_6 es_6
        refine g_iinc (pc := 52) (k := 1) C dX2_remove_52 hl rfl (by decide) (fun v3_7 ev3_7 ls hl => ?_)
        have hw := hw v3_7 ev3_7
        have hl : lv_has ls 4 [(3, .int (mm_I v3_7)), (0, .ref (mm_ad G this))] := hl
        refine lv_goto (pc := 55) (tgt := 24) C.1 C.2.1 dX2_remove_55 (by decide) ?_
        exact hw  _ _ _ w (lv_sub hl [1, 0] rfl))
  intro H locs ls w hl
  have hl : lv_has ls 4 [(0, .ref (mm_ad G this)), (1, .int (mm_I a1))] := hl
  refine lv_aload_n (pc := 0) C.1 C.2.1 dX2_remove_0 rfl (lv_at hl 0 rfl) ?_
  refine lv_iload_n (pc := 1) C.1 C.2.1 dX2_remove_1 rfl (lv_at hl 1 rfl) ?_
  refine g_calli (pc := 2) w (mm_runV (ci := 2) (q := (RX2, TX2, 4)) (As := [.int (mm_I a1)]) (rest := []) C w (c_X2_placeOf l G this a1 h0 s0 _ hw) h0 rfl rfl cv_X2_placeOf ml_X2_31 ⟨Nat.le_of_ble_eq_true rfl, Nat.le_of_ble_eq_true rfl⟩ ⟨Nat.le_of_ble_eq_true rfl, Nat.le_of_ble_eq_true rfl⟩ rfl hl.1 rfl (Nat.le_of_ble_eq_true rfl) dX2_remove_2) (fun r_2 s_1 H locs hw w => ?_)
  refine g_istore_n (pc := 5) C dX2_remove_5 rfl hl (by decide) (fun v2_3 ev2_3 ls hl => ?_)
  have hw := hw v2_3 ev2_3
  have hl : lv_has ls 4 [(2, .int (mm_I v2_3)), (0, .ref (mm_ad G this)), (1, .int (mm_I a1))] := hl
  refine lv_iload_n (pc := 6) C.1 C.2.1 dX2_remove_6 rfl (lv_at hl 0 rfl) ?_
  refine lv_iconst (pc := 7) (v := mm_I (-1)) C.1 C.2.1 dX2_remove_7 rfl ?_
  refine g_icmp_ne (pc := 8) (tgt := 12) C rfl mn_m1 dX2_remove_8 (by decide) (fun hc => ?_) (fun hc => ?_)
  · have hw := hw.1 hc
    refine lv_aload_n (pc := 12) C.1 C.2.1 dX2_remove_12 rfl (lv_at hl 1 rfl) ?_
    refine lv_dup (pc := 13) C.1 C.2.1 dX2_remove_13 rfl ?_
    refine g_geti (pc := 14) C w h0 ff_X2_1 lk_X2_15 dX2_remove_14 ?_
    refine lv_iconst (pc := 17) (v := mm_I 1) C.1 C.2.1 dX2_remove_17 rfl ?_
    refine g_isub (pc := 18) C dX2_remove_18 ?_
    refine g_puti (pc := 19) C w h0 ff_X2_1 fw_X2_1 lk_X2_15 dX2_remove_19 (fun s_4 H locs es_4 w => ?_)
    have hw := hw s_4 es_4
    refine lv_iload_n (pc := 22) C.1 C.2.1 dX2_remove_22 rfl (lv_at hl 0 rfl) ?_
    refine g_istore_n (pc := 23) C dX2_remove_23 rfl hl (by decide) (fun v3_5 ev3_5 ls hl => ?_)
    have hw := hw v3_5 ev3_5
    have hl : lv_has ls 4 [(3, .int (mm_I v3_5)), (2, .int (mm_I v2_3)), (0, .ref (mm_ad G this)), (1, .int (mm_I a1))] := hl
    exact hw  _ _ _ w (lv_sub hl [2, 0] rfl)
  · have hw := hw.2 hc
    exact g_vret (pc := 11) C w hr hk hw dX2_remove_11
theorem lk_X8_15 : Cond.fieldLink RX8 15 "LastServed$Text" "length" "I" ∈ mm_ws := (mt_1 69 rfl rfl)
theorem ff_X8_1 : mm_F 8 1 0 RX8 TX8 7 := ⟨rfl, by decide, fk_X8, rfl, rfl⟩
theorem ms_500 : (Int16.ofInt 500).toInt32 = mm_I 500 := by decide
theorem mn_500 : n32 500 = 500 := by decide
theorem lk_X8_9 : Cond.fieldLink RX8 9 "LastServed$Text" "bytes" "[I" ∈ mm_ws := (mt_1 67 rfl rfl)
theorem ff_X8_0 : mm_F 8 0 1 RX8 TX8 7 := ⟨rfl, by decide, fk_X8, rfl, rfl⟩
theorem ro_X8_0 {i : Nat} (h : mm_ok i 18 0) : mm_ok (mm_rt i 0) 0 500 := by
  have q : ∀ i, i < mm_N → mm_kd i = 18 → mm_rt i 0 < mm_N ∧ mm_kd (mm_rt i 0) = 0 ∧ mm_ln (mm_rt i 0) = 500 := by decide +kernel
  exact q i h.1 h.2.1
theorem mb_97 : (Int8.ofInt 97).toInt32 = mm_I 97 := by decide
theorem mn_97 : n32 97 = 97 := by decide
theorem mb_122 : (Int8.ofInt 122).toInt32 = mm_I 122 := by decide
theorem mn_122 : n32 122 = 122 := by decide
theorem mb_48 : (Int8.ofInt 48).toInt32 = mm_I 48 := by decide
theorem mn_48 : n32 48 = 48 := by decide
theorem mb_57 : (Int8.ofInt 57).toInt32 = mm_I 57 := by decide
theorem mn_57 : n32 57 = 57 := by decide
def wp_X8_kindAt (this : Nat) (a1 : Int) (s0 : mm_M) (post : Int → mm_M → Prop) : Prop :=
  ∀ (L42 : Int → mm_M → Prop), ∀ (L56 : Int → mm_M → Prop), 
  (∀ (v2 : Int) (s1 : mm_M), ((n32 v2 < 48 → L56 v2 s1) ∧ (¬ n32 v2 < 48 → ((57 < n32 v2 → L56 v2 s1) ∧ (¬ 57 < n32 v2 → post 2 s1)))) → L42 v2 s1) →
  (∀ (v2 : Int) (s1 : mm_M), ((n32 v2 = 10 → post 3 s1) ∧ (¬ n32 v2 = 10 → ((n32 v2 = 32 → post 3 s1) ∧ (¬ n32 v2 = 32 → ((n32 v2 = 40 → post v2 s1) ∧ (¬ n32 v2 = 40 → ((n32 v2 = 41 → post v2 s1) ∧ (¬ n32 v2 = 41 → ((n32 v2 = 42 → post v2 s1) ∧ (¬ n32 v2 = 42 → ((n32 v2 = 43 → post v2 s1) ∧ (¬ n32 v2 = 43 → ((n32 v2 = 45 → post v2 s1) ∧ (¬ n32 v2 = 45 → ((n32 v2 = 59 → post v2 s1) ∧ (¬ n32 v2 = 59 → ((n32 v2 = 60 → post v2 s1) ∧ (¬ n32 v2 = 60 → ((n32 v2 = 61 → post v2 s1) ∧ (¬ n32 v2 = 61 → post 4 s1)))))))))))))))))))) → L56 v2 s1) →
  ((n32 a1 < 0 → post 0 s0) ∧ (¬ n32 a1 < 0 → ((n32 (s0 this 1) ≤ n32 a1 → post 0 s0) ∧ (¬ n32 (s0 this 1) ≤ n32 a1 → ((n32 a1 < 500 → ((0 ≤ a1 ∧ a1 < 500) ∧ (∀ v2_1 : Int, v2_1 = s0 (mm_rt this 0) a1 → ((n32 v2_1 < 97 → L42 v2_1 s0) ∧ (¬ n32 v2_1 < 97 → ((122 < n32 v2_1 → L42 v2_1 s0) ∧ (¬ 122 < n32 v2_1 → post 1 s0))))))) ∧ (¬ n32 a1 < 500 → post 0 s0))))))
set_option maxRecDepth 100000 in
set_option maxHeartbeats 4000000 in
theorem c_X8_kindAt (l : Launch) (G : mm_G) (this : Nat) (a1 : Int) (h0 : mm_ok this 18 0) (s0 : mm_M) (post : Int → mm_M → Prop) (hw : wp_X8_kindAt this a1 s0 post) : Met l yX8_kindAt (mm_wm yX8_kindAt cX8_kindAt 3 (some .int)) (mm_rm 1) (va_Pc [.ref (mm_ad G this), .int (mm_I a1)] (mm_pre G s0)) (mm_Qi G post) 0 0 (mm_A G) := by
  refine mm_met (own := RX8) (by decide) rfl (Nat.le_of_ble_eq_true rfl) ?_
  intro p e s m args below meth c C hr hk
  unfold wp_X8_kindAt at hw
  have hw := hw (fun (v2 : Int) (u : mm_M) => mm_X p l e (mm_rm 1) s m args below meth c (MQ below (mm_Qi G post) args s 0 0 (mm_A G)) G (mm_A G) 3 42 [(2, .int (mm_I v2))] [] u)
  have hw := hw (fun (v2 : Int) (u : mm_M) => mm_X p l e (mm_rm 1) s m args below meth c (MQ below (mm_Qi G post) args s 0 0 (mm_A G)) G (mm_A G) 3 56 [(2, .int (mm_I v2))] [] u)
  have hw := hw (by
    intro v2 s1 hw  H locs ls w hl
    refine lv_iload_n (pc := 42) C.1 C.2.1 dX8_kindAt_42 rfl (lv_at hl 0 rfl) ?_
    refine lv_bipush (pc := 43) C.1 C.2.1 dX8_kindAt_43 mb_48 ?_
    refine g_icmp_lt (pc := 45) (tgt := 56) C rfl mn_48 dX8_kindAt_45 (by decide) (fun hc => ?_) (fun hc => ?_)
    · have hw := hw.1 hc
      exact hw  _ _ _ w (lv_sub hl [0] rfl)
    · have hw := hw.2 hc
      refine lv_iload_n (pc := 48) C.1 C.2.1 dX8_kindAt_48 rfl (lv_at hl 0 rfl) ?_
      refine lv_bipush (pc := 49) C.1 C.2.1 dX8_kindAt_49 mb_57 ?_
      refine g_icmp_gt (pc := 51) (tgt := 56) C rfl mn_57 dX8_kindAt_51 (by decide) (fun hc => ?_) (fun hc => ?_)
      · have hw := hw.1 hc
        exact hw  _ _ _ w (lv_sub hl [0] rfl)
      · have hw := hw.2 hc
        refine lv_iconst (pc := 54) (v := mm_I 2) C.1 C.2.1 dX8_kindAt_54 rfl ?_
        exact g_iret (pc := 55) C w hr hk hw dX8_kindAt_55)
  have hw := hw (by
    intro v2 s1 hw  H locs ls w hl
    refine lv_iload_n (pc := 56) C.1 C.2.1 dX8_kindAt_56 rfl (lv_at hl 0 rfl) ?_
    by_cases hc10 : n32 v2 = 10
    · have hw := hw.1 hc10
      refine lv_lookup (pc := 57) (tgt := 148) C.1 C.2.1 dX8_kindAt_57 (by decide) (by rw [show (mm_I v2).toInt = 10 from hc10]; first | done | rfl) (by decide) ?_
      refine lv_iconst (pc := 148) (v := mm_I 3) C.1 C.2.1 dX8_kindAt_148 rfl ?_
      exact g_iret (pc := 149) C w hr hk hw dX8_kindAt_149
    have hw := hw.2 hc10
    by_cases hc32 : n32 v2 = 32
    · have hw := hw.1 hc32
      refine lv_lookup (pc := 57) (tgt := 148) C.1 C.2.1 dX8_kindAt_57 (by decide) (by rw [show (mm_I v2).toInt = 32 from hc32]; first | done | rfl) (by decide) ?_
      refine lv_iconst (pc := 148) (v := mm_I 3) C.1 C.2.1 dX8_kindAt_148 rfl ?_
      exact g_iret (pc := 149) C w hr hk hw dX8_kindAt_149
    have hw := hw.2 hc32
    by_cases hc40 : n32 v2 = 40
    · have hw := hw.1 hc40
      refine lv_lookup (pc := 57) (tgt := 150) C.1 C.2.1 dX8_kindAt_57 (by decide) (by rw [show (mm_I v2).toInt = 40 from hc40]; first | done | rfl) (by decide) ?_
      refine lv_iload_n (pc := 150) C.1 C.2.1 dX8_kindAt_150 rfl (lv_at hl 0 rfl) ?_
      exact g_iret (pc := 151) C w hr hk hw dX8_kindAt_151
    have hw := hw.2 hc40
    by_cases hc41 : n32 v2 = 41
    · have hw := hw.1 hc41
      refine lv_lookup (pc := 57) (tgt := 150) C.1 C.2.1 dX8_kindAt_57 (by decide) (by rw [show (mm_I v2).toInt = 41 from hc41]; first | done | rfl) (by decide) ?_
      refine lv_iload_n (pc := 150) C.1 C.2.1 dX8_kindAt_150 rfl (lv_at hl 0 rfl) ?_
      exact g_iret (pc := 151) C w hr hk hw dX8_kindAt_151
    have hw := hw.2 hc41
    by_cases hc42 : n32 v2 = 42
    · have hw := hw.1 hc42
      refine lv_lookup (pc := 57) (tgt := 150) C.1 C.2.1 dX8_kindAt_57 (by decide) (by rw [show (mm_I v2).toInt = 42 from hc42]; first | done | rfl) (by decide) ?_
      refine lv_iload_n (pc := 150) C.1 C.2.1 dX8_kindAt_150 rfl (lv_at hl 0 rfl) ?_
      exact g_iret (pc := 151) C w hr hk hw dX8_kindAt_151
    have hw := hw.2 hc42
    by_cases hc43 : n32 v2 = 43
    · have hw := hw.1 hc43
      refine lv_lookup (pc := 57) (tgt := 150) C.1 C.2.1 dX8_kindAt_57 (by decide) (by rw [show (mm_I v2).toInt = 43 from hc43]; first | done | rfl) (by decide) ?_
      refine lv_iload_n (pc := 150) C.1 C.2.1 dX8_kindAt_150 rfl (lv_at hl 0 rfl) ?_
      exact g_iret (pc := 151) C w hr hk hw dX8_kindAt_151
    have hw := hw.2 hc43
    by_cases hc45 : n32 v2 = 45
    · have hw := hw.1 hc45
      refine lv_lookup (pc := 57) (tgt := 150) C.1 C.2.1 dX8_kindAt_57 (by decide) (by rw [show (mm_I v2).toInt = 45 from hc45]; first | done | rfl) (by decide) ?_
      refine lv_iload_n (pc := 150) C.1 C.2.1 dX8_kindAt_150 rfl (lv_at hl 0 rfl) ?_
      exact g_iret (pc := 151) C w hr hk hw dX8_kindAt_151
    have hw := hw.2 hc45
    by_cases hc59 : n32 v2 = 59
    · have hw := hw.1 hc59
      refine lv_lookup (pc := 57) (tgt := 150) C.1 C.2.1 dX8_kindAt_57 (by decide) (by rw [show (mm_I v2).toInt = 59 from hc59]; first | done | rfl) (by decide) ?_
      refine lv_iload_n (pc := 150) C.1 C.2.1 dX8_kindAt_150 rfl (lv_at hl 0 rfl) ?_
      exact g_iret (pc := 151) C w hr hk hw dX8_kindAt_151
    have hw := hw.2 hc59
    by_cases hc60 : n32 v2 = 60
    · have hw := hw.1 hc60
      refine lv_lookup (pc := 57) (tgt := 150) C.1 C.2.1 dX8_kindAt_57 (by decide) (by rw [show (mm_I v2).toInt = 60 from hc60]; first | done | rfl) (by decide) ?_
      refine lv_iload_n (pc := 150) C.1 C.2.1 dX8_kindAt_150 rfl (lv_at hl 0 rfl) ?_
      exact g_iret (pc := 151) C w hr hk hw dX8_kindAt_151
    have hw := hw.2 hc60
    by_cases hc61 : n32 v2 = 61
    · have hw := hw.1 hc61
      refine lv_lookup (pc := 57) (tgt := 150) C.1 C.2.1 dX8_kindAt_57 (by decide) (by rw [show (mm_I v2).toInt = 61 from hc61]; first | done | rfl) (by decide) ?_
      refine lv_iload_n (pc := 150) C.1 C.2.1 dX8_kindAt_150 rfl (lv_at hl 0 rfl) ?_
      exact g_iret (pc := 151) C w hr hk hw dX8_kindAt_151
    have hw := hw.2 hc61
    refine lv_lookup (pc := 57) (tgt := 152) C.1 C.2.1 dX8_kindAt_57 (by decide) (by show Op.lookupswitch.offset [(10, 91), (32, 91), (40, 93), (41, 93), (42, 93), (43, 93), (45, 93), (59, 93), (60, 93), (61, 93)] 95 (mm_I v2).toInt = 95; rw [Op.lookupswitch.offset_cons, if_neg (fun h => hc10 h.symm), Op.lookupswitch.offset_cons, if_neg (fun h => hc32 h.symm), Op.lookupswitch.offset_cons, if_neg (fun h => hc40 h.symm), Op.lookupswitch.offset_cons, if_neg (fun h => hc41 h.symm), Op.lookupswitch.offset_cons, if_neg (fun h => hc42 h.symm), Op.lookupswitch.offset_cons, if_neg (fun h => hc43 h.symm), Op.lookupswitch.offset_cons, if_neg (fun h => hc45 h.symm), Op.lookupswitch.offset_cons, if_neg (fun h => hc59 h.symm), Op.lookupswitch.offset_cons, if_neg (fun h => hc60 h.symm), Op.lookupswitch.offset_cons, if_neg (fun h => hc61 h.symm)]; first | done | rfl) (by decide) ?_
    refine lv_iconst (pc := 152) (v := mm_I 4) C.1 C.2.1 dX8_kindAt_152 rfl ?_
    exact g_iret (pc := 153) C w hr hk hw dX8_kindAt_153)
  intro H locs ls w hl
  have hl : lv_has ls 3 [(0, .ref (mm_ad G this)), (1, .int (mm_I a1))] := hl
  refine lv_iload_n (pc := 0) C.1 C.2.1 dX8_kindAt_0 rfl (lv_at hl 1 rfl) ?_
  refine g_if_lt (pc := 1) (tgt := 19) C rfl dX8_kindAt_1 (by decide) (fun hc => ?_) (fun hc => ?_)
  · have hw := hw.1 hc
    refine lv_iconst (pc := 19) (v := mm_I 0) C.1 C.2.1 dX8_kindAt_19 rfl ?_
    exact g_iret (pc := 20) C w hr hk hw dX8_kindAt_20
  · have hw := hw.2 hc
    refine lv_iload_n (pc := 4) C.1 C.2.1 dX8_kindAt_4 rfl (lv_at hl 1 rfl) ?_
    refine lv_aload_n (pc := 5) C.1 C.2.1 dX8_kindAt_5 rfl (lv_at hl 0 rfl) ?_
    refine g_geti (pc := 6) C w h0 ff_X8_1 lk_X8_15 dX8_kindAt_6 ?_
    refine g_icmp_ge (pc := 9) (tgt := 19) C rfl rfl dX8_kindAt_9 (by decide) (fun hc => ?_) (fun hc => ?_)
    · have hw := hw.1 hc
      refine lv_iconst (pc := 19) (v := mm_I 0) C.1 C.2.1 dX8_kindAt_19 rfl ?_
      exact g_iret (pc := 20) C w hr hk hw dX8_kindAt_20
    · have hw := hw.2 hc
      refine lv_iload_n (pc := 12) C.1 C.2.1 dX8_kindAt_12 rfl (lv_at hl 1 rfl) ?_
      refine lv_sipush (pc := 13) C.1 C.2.1 dX8_kindAt_13 ms_500 ?_
      refine g_icmp_lt (pc := 16) (tgt := 21) C rfl mn_500 dX8_kindAt_16 (by decide) (fun hc => ?_) (fun hc => ?_)
      · have hw := hw.1 hc
        refine lv_aload_n (pc := 21) C.1 C.2.1 dX8_kindAt_21 rfl (lv_at hl 0 rfl) ?_
        refine g_getr (pc := 22) C w h0 ff_X8_0 lk_X8_9 dX8_kindAt_22 ?_
        refine lv_iload_n (pc := 25) C.1 C.2.1 dX8_kindAt_25 rfl (lv_at hl 1 rfl) ?_
        obtain ⟨hi, hw⟩ := hw
        refine g_iald (pc := 26) C w (ro_X8_0 h0) hi dX8_kindAt_26 ?_
        refine g_istore_n (pc := 27) C dX8_kindAt_27 rfl hl (by decide) (fun v2_1 ev2_1 ls hl => ?_)
        have hw := hw v2_1 ev2_1
        have hl : lv_has ls 3 [(2, .int (mm_I v2_1)), (0, .ref (mm_ad G this)), (1, .int (mm_I a1))] := hl
        refine lv_iload_n (pc := 28) C.1 C.2.1 dX8_kindAt_28 rfl (lv_at hl 0 rfl) ?_
        refine lv_bipush (pc := 29) C.1 C.2.1 dX8_kindAt_29 mb_97 ?_
        refine g_icmp_lt (pc := 31) (tgt := 42) C rfl mn_97 dX8_kindAt_31 (by decide) (fun hc => ?_) (fun hc => ?_)
        · have hw := hw.1 hc
          exact hw  _ _ _ w (lv_sub hl [0] rfl)
        · have hw := hw.2 hc
          refine lv_iload_n (pc := 34) C.1 C.2.1 dX8_kindAt_34 rfl (lv_at hl 0 rfl) ?_
          refine lv_bipush (pc := 35) C.1 C.2.1 dX8_kindAt_35 mb_122 ?_
          refine g_icmp_gt (pc := 37) (tgt := 42) C rfl mn_122 dX8_kindAt_37 (by decide) (fun hc => ?_) (fun hc => ?_)
          · have hw := hw.1 hc
            exact hw  _ _ _ w (lv_sub hl [0] rfl)
          · have hw := hw.2 hc
            refine lv_iconst (pc := 40) (v := mm_I 1) C.1 C.2.1 dX8_kindAt_40 rfl ?_
            exact g_iret (pc := 41) C w hr hk hw dX8_kindAt_41
      · have hw := hw.2 hc
        refine lv_iconst (pc := 19) (v := mm_I 0) C.1 C.2.1 dX8_kindAt_19 rfl ?_
        exact g_iret (pc := 20) C w hr hk hw dX8_kindAt_20
