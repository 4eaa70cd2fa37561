theorem ml_X7_250 : Cond.methodLink RX7 250 Lib.Math.max.name ∈ mm_ws := (mt_4 187 rfl rfl)
def wp_X7_countServed (this : Nat) (a1 : Int) (a2 : Int) (s0 : mm_M) (post : mm_M → Prop) : Prop :=
  (wp_X7_raise this a1 1 1 s0 (fun s_1 => (wp_X7_raise this a1 3 a2 s_1 (fun s_3 => (wp_X7_raise this a1 4 (a2 * a2) s_3 (fun s_5 => (wp_X7_counted this a1 5 s_5 (fun r_8 s_7 => (wp_X7_raise this a1 5 (mm_max (a2 - r_8) 0) s_7 (fun s_9 => (wp_X9_ofSort (mm_rt this 0) a1 1 s_9 (fun r_12 s_11 => (wp_X7_raise this a1 6 r_12 s_11 (fun s_13 => post s_13))))))))))))))
set_option maxRecDepth 100000 in
set_option maxHeartbeats 4000000 in
theorem c_X7_countServed (l : Launch) (G : mm_G) (this : Nat) (a1 : Int) (a2 : Int) (h0 : mm_ok this 17 0) (s0 : mm_M) (post : mm_M → Prop) (hw : wp_X7_countServed this a1 a2 s0 post) : Met l yX7_countServed (mm_wm yX7_countServed cX7_countServed 3 none) (mm_rm 3) (va_Pc [.ref (mm_ad G this), .int (mm_I a1), .int (mm_I a2)] (mm_pre G s0)) (mm_Qv G post) 0 0 (mm_A G) := by
  refine mm_met (own := RX7) (by decide) rfl (Nat.le_of_ble_eq_true rfl) ?_
  intro p e s m args below meth c C hr hk
  unfold wp_X7_countServed at hw
  intro H locs ls w hl
  have hl : lv_has ls 3 [(0, .ref (mm_ad G this)), (1, .int (mm_I a1)), (2, .int (mm_I a2))] := hl
  refine lv_aload_n (pc := 0) C.1 C.2.1 dX7_countServed_0 rfl (lv_at hl 0 rfl) ?_
  refine lv_iload_n (pc := 1) C.1 C.2.1 dX7_countServed_1 rfl (lv_at hl 1 rfl) ?_
  refine lv_iconst (pc := 2) (v := mm_I 1) C.1 C.2.1 dX7_countServed_2 rfl ?_
  refine lv_iconst (pc := 3) (v := mm_I 1) C.1 C.2.1 dX7_countServed_3 rfl ?_
  refine g_callv (pc := 4) w (mm_runV (ci := 7) (q := (RX7, TX7, 9)) (As := [.int (mm_I a1), .int (mm_I 1), .int (mm_I 1)]) (rest := []) C w (c_X7_raise l G this a1 1 1 h0 s0 _ hw) h0 rfl rfl cv_X7_raise ml_X7_133 ⟨Nat.le_of_ble_eq_true rfl, Nat.le_of_ble_eq_true rfl⟩ ⟨Nat.le_of_ble_eq_true rfl, Nat.le_of_ble_eq_true rfl⟩ rfl hl.1 rfl (Nat.le_of_ble_eq_true rfl) dX7_countServed_4) (fun s_1 H locs hw w => ?_)
  refine lv_aload_n (pc := 7) C.1 C.2.1 dX7_countServed_7 rfl (lv_at hl 0 rfl) ?_
  refine lv_iload_n (pc := 8) C.1 C.2.1 dX7_countServed_8 rfl (lv_at hl 1 rfl) ?_
  refine lv_iconst (pc := 9) (v := mm_I 3) C.1 C.2.1 dX7_countServed_9 rfl ?_
  refine lv_iload_n (pc := 10) C.1 C.2.1 dX7_countServed_10 rfl (lv_at hl 2 rfl) ?_
  refine g_callv (pc := 11) w (mm_runV (ci := 7) (q := (RX7, TX7, 9)) (As := [.int (mm_I a1), .int (mm_I 3), .int (mm_I a2)]) (rest := []) C w (c_X7_raise l G this a1 3 a2 h0 s_1 _ hw) h0 rfl rfl cv_X7_raise ml_X7_133 ⟨Nat.le_of_ble_eq_true rfl, Nat.le_of_ble_eq_true rfl⟩ ⟨Nat.le_of_ble_eq_true rfl, Nat.le_of_ble_eq_true rfl⟩ rfl hl.1 rfl (Nat.le_of_ble_eq_true rfl) dX7_countServed_11) (fun s_3 H locs hw w => ?_)
  refine lv_aload_n (pc := 14) C.1 C.2.1 dX7_countServed_14 rfl (lv_at hl 0 rfl) ?_
  refine lv_iload_n (pc := 15) C.1 C.2.1 dX7_countServed_15 rfl (lv_at hl 1 rfl) ?_
  refine lv_iconst (pc := 16) (v := mm_I 4) C.1 C.2.1 dX7_countServed_16 rfl ?_
  refine lv_iload_n (pc := 17) C.1 C.2.1 dX7_countServed_17 rfl (lv_at hl 2 rfl) ?_
  refine lv_iload_n (pc := 18) C.1 C.2.1 dX7_countServed_18 rfl (lv_at hl 2 rfl) ?_
  refine g_imul (pc := 19) C dX7_countServed_19 ?_
  refine g_callv (pc := 20) w (mm_runV (ci := 7) (q := (RX7, TX7, 9)) (As := [.int (mm_I a1), .int (mm_I 4), .int (mm_I (a2 * a2))]) (rest := []) C w (c_X7_raise l G this a1 4 (a2 * a2) h0 s_3 _ hw) h0 rfl rfl cv_X7_raise ml_X7_133 ⟨Nat.le_of_ble_eq_true rfl, Nat.le_of_ble_eq_true rfl⟩ ⟨Nat.le_of_ble_eq_true rfl, Nat.le_of_ble_eq_true rfl⟩ rfl hl.1 rfl (Nat.le_of_ble_eq_true rfl) dX7_countServed_20) (fun s_5 H locs hw w => ?_)
  refine lv_aload_n (pc := 23) C.1 C.2.1 dX7_countServed_23 rfl (lv_at hl 0 rfl) ?_
  refine lv_iload_n (pc := 24) C.1 C.2.1 dX7_countServed_24 rfl (lv_at hl 1 rfl) ?_
  refine lv_iconst (pc := 25) (v := mm_I 5) C.1 C.2.1 dX7_countServed_25 rfl ?_
  refine lv_iload_n (pc := 26) C.1 C.2.1 dX7_countServed_26 rfl (lv_at hl 2 rfl) ?_
  refine lv_aload_n (pc := 27) C.1 C.2.1 dX7_countServed_27 rfl (lv_at hl 0 rfl) ?_
  refine lv_iload_n (pc := 28) C.1 C.2.1 dX7_countServed_28 rfl (lv_at hl 1 rfl) ?_
  refine lv_iconst (pc := 29) (v := mm_I 5) C.1 C.2.1 dX7_countServed_29 rfl ?_
  refine g_calli (pc := 30) w (mm_runV (ci := 7) (q := (RX7, TX7, 9)) (As := [.int (mm_I a1), .int (mm_I 5)]) (rest := [.int (mm_I a2), .int (mm_I 5), .int (mm_I a1), .ref (mm_ad G this)]) C w (c_X7_counted l G this a1 5 h0 s_5 _ hw) h0 rfl rfl cv_X7_counted ml_X7_115 ⟨Nat.le_of_ble_eq_true rfl, Nat.le_of_ble_eq_true rfl⟩ ⟨Nat.le_of_ble_eq_true rfl, Nat.le_of_ble_eq_true rfl⟩ rfl hl.1 rfl (Nat.le_of_ble_eq_true rfl) dX7_countServed_30) (fun r_8 s_7 H locs hw w => ?_)
  refine g_isub (pc := 33) C dX7_countServed_33 ?_
  refine lv_iconst (pc := 34) (v := mm_I 0) C.1 C.2.1 dX7_countServed_34 rfl ?_
  refine g_max (pc := 35) C hl.1 ml_X7_250 mv_max ⟨Nat.le_of_ble_eq_true rfl, Nat.le_of_ble_eq_true rfl⟩ ⟨Nat.le_of_ble_eq_true rfl, Nat.le_of_ble_eq_true rfl⟩ dX7_countServed_35 ?_
  refine g_callv (pc := 38) w (mm_runV (ci := 7) (q := (RX7, TX7, 9)) (As := [.int (mm_I a1), .int (mm_I 5), .int (mm_I (mm_max (a2 - r_8) 0))]) (rest := []) C w (c_X7_raise l G this a1 5 (mm_max (a2 - r_8) 0) h0 s_7 _ hw) h0 rfl rfl cv_X7_raise ml_X7_133 ⟨Nat.le_of_ble_eq_true rfl, Nat.le_of_ble_eq_true rfl⟩ ⟨Nat.le_of_ble_eq_true rfl, Nat.le_of_ble_eq_true rfl⟩ rfl hl.1 rfl (Nat.le_of_ble_eq_true rfl) dX7_countServed_38) (fun s_9 H locs hw w => ?_)
  refine lv_aload_n (pc := 41) C.1 C.2.1 dX7_countServed_41 rfl (lv_at hl 0 rfl) ?_
  refine lv_iload_n (pc := 42) C.1 C.2.1 dX7_countServed_42 rfl (lv_at hl 1 rfl) ?_
  refine lv_bipush (pc := 43) C.1 C.2.1 dX7_countServed_43 mb_6 ?_
  refine lv_aload_n (pc := 45) C.1 C.2.1 dX7_countServed_45 rfl (lv_at hl 0 rfl) ?_
  refine g_getr (pc := 46) C w h0 ff_X7_0 lk_X7_34 dX7_countServed_46 ?_
  refine lv_iload_n (pc := 49) C.1 C.2.1 dX7_countServed_49 rfl (lv_at hl 1 rfl) ?_
  refine lv_iconst (pc := 50) (v := mm_I 1) C.1 C.2.1 dX7_countServed_50 rfl ?_
  refine g_calli (pc := 51) w (mm_runV (ci := 9) (q := (RX9, TX9, 9)) (As := [.int (mm_I a1), .int (mm_I 1)]) (rest := [.int (mm_I 6), .int (mm_I a1), .ref (mm_ad G this)]) C w (c_X9_ofSort l G (mm_rt this 0) a1 1 (ro_X7_0 h0) s_9 _ hw) (ro_X7_0 h0) rfl rfl cv_X9_ofSort ml_X7_191 ⟨Nat.le_of_ble_eq_true rfl, Nat.le_of_ble_eq_true rfl⟩ ⟨Nat.le_of_ble_eq_true rfl, Nat.le_of_ble_eq_true rfl⟩ rfl hl.1 rfl (Nat.le_of_ble_eq_true rfl) dX7_countServed_51) (fun r_12 s_11 H locs hw w => ?_)
  refine g_callv (pc := 54) w (mm_runV (ci := 7) (q := (RX7, TX7, 9)) (As := [.int (mm_I a1), .int (mm_I 6), .int (mm_I r_12)]) (rest := []) C w (c_X7_raise l G this a1 6 r_12 h0 s_11 _ hw) h0 rfl rfl cv_X7_raise ml_X7_133 ⟨Nat.le_of_ble_eq_true rfl, Nat.le_of_ble_eq_true rfl⟩ ⟨Nat.le_of_ble_eq_true rfl, Nat.le_of_ble_eq_true rfl⟩ rfl hl.1 rfl (Nat.le_of_ble_eq_true rfl) dX7_countServed_54) (fun s_13 H locs hw w => ?_)
  exact g_vret (pc := 57) C w hr hk hw dX7_countServed_57
theorem lk_X7_235 : Cond.fieldLinkNest RX7 235 "LastServed$Desk" "busyTill" "I" "LastServed" ∈ mm_nest := by decide +kernel
theorem lk_X7_238 : Cond.fieldLinkNest RX7 238 "LastServed$Desk" "stock" "I" "LastServed" ∈ mm_nest := by decide +kernel
theorem cv_X7_placeOfNext : mm_V yX7_placeOfNext cX7_placeOfNext 5 (some .int) 2 := ⟨(mt_4 65 rfl rfl), (mt_4 63 rfl rfl), (mt_4 64 rfl rfl), (mt_1 6 rfl rfl), by decide, by decide, by decide +kernel⟩
theorem ml_X7_241 : Cond.methodLink RX7 241 yX7_placeOfNext ∈ mm_ws := (mt_4 176 rfl rfl)
theorem cv_X0_write : mm_V yX0_write cX0_write 7 none 5 := ⟨(mt_4 180 rfl rfl), (mt_4 178 rfl rfl), (mt_4 179 rfl rfl), (mt_1 7 rfl rfl), by decide, by decide, by decide +kernel⟩
theorem ml_X7_244 : Cond.methodLink RX7 244 yX0_write ∈ mm_ws := (mt_4 177 rfl rfl)
theorem cv_X7_countServed : mm_V yX7_countServed cX7_countServed 3 none 2 := ⟨(mt_4 186 rfl rfl), (mt_4 185 rfl rfl), (mp_2 15 rfl rfl), (mt_1 6 rfl rfl), by decide, by decide, by decide +kernel⟩
theorem ml_X7_247 : Cond.methodLink RX7 247 yX7_countServed ∈ mm_ws := (mt_4 183 rfl rfl)
def wp_X7_serve (this : Nat) (a1 : Int) (a2 : Nat) (s0 : mm_M) (post : mm_M → Prop) : Prop :=
  ∀ (L58 : Int → mm_M → Prop), 
  (∀ (q0 : Int) (s1 : mm_M), (∀ v4_8 : Int, v4_8 = q0 → (wp_X2_at a2 v4_8 s1 (fun r_10 s_9 => (∀ v5_11 : Int, v5_11 = r_10 → (wp_X7_whoIsThere this v5_11 s_9 (fun r_13 s_12 => (r_13 = none → post s_12) ∧ (∀ t_14 : Nat, r_13 = some t_14 → (wp_X0_write (mm_rt this 6) (s_12 this 7) a1 v5_11 (s_12 a2 1) v4_8 s_12 (fun s_15 => (wp_X2_remove a2 v5_11 s_15 (fun s_17 => (∀ s_19 : mm_M, s_19 = mm_up s_17 a2 2 ((s_17 a2 2) - 1) → (wp_X9_ofCounter (mm_rt this 0) a1 1 s_19 (fun r_21 s_20 => (∀ s_22 : mm_M, s_22 = mm_up s_20 a2 3 ((s_19 this 7) + r_21) → (∀ s_23 : mm_M, s_23 = mm_up s_22 t_14 0 (-1) → (wp_X7_countServed this (s_23 t_14 1) ((s_23 this 7) - (s_23 t_14 3)) s_23 (fun s_24 => post s_24)))))))))))))))))) → L58 q0 s1) →
  ((n32 (s0 this 7) < n32 (s0 a2 3) → post s0) ∧ (¬ n32 (s0 this 7) < n32 (s0 a2 3) → ((n32 (s0 a2 2) ≤ 0 → post s0) ∧ (¬ n32 (s0 a2 2) ≤ 0 → ((¬ n32 (s0 a2 1) = 0 → (wp_X9_ofCounter (mm_rt this 0) a1 0 s0 (fun r_2 s_1 => (∀ v3_3 : Int, v3_3 = r_2 → ((¬ n32 v3_3 = 3 → (wp_X7_placeOfNext this a2 v3_3 s_1 (fun r_5 s_4 => L58 r_5 s_4))) ∧ (n32 v3_3 = 3 → (wp_X7_drawLot this (s_1 a2 1) s_1 (fun r_7 s_6 => L58 r_7 s_6)))))))) ∧ (n32 (s0 a2 1) = 0 → post s0))))))
set_option maxRecDepth 100000 in
set_option maxHeartbeats 4000000 in
theorem c_X7_serve (l : Launch) (G : mm_G) (this : Nat) (a1 : Int) (a2 : Nat) (h0 : mm_ok this 17 0) (h2 : mm_ok a2 12 0) (s0 : mm_M) (post : mm_M → Prop) (hw : wp_X7_serve this a1 a2 s0 post) : Met l yX7_serve (mm_wm yX7_serve cX7_serve 7 none) (mm_rm 6) (va_Pc [.ref (mm_ad G this), .int (mm_I a1), .ref (mm_ad G a2)] (mm_pre G s0)) (mm_Qv G post) 0 0 (mm_A G) := by
  refine mm_met (own := RX7) (by decide) rfl (Nat.le_of_ble_eq_true rfl) ?_
  intro p e s m args below meth c C hr hk
  unfold wp_X7_serve at hw
  have hw := hw (fun (q0 : Int) (u : mm_M) => mm_X p l e (mm_rm 6) s m args below meth c (MQ below (mm_Qv G post) args s 0 0 (mm_A G)) G (mm_A G) 7 58 [(0, .ref (mm_ad G this)), (1, .int (mm_I a1)), (2, .ref (mm_ad G a2))] [.int (mm_I q0)] u)
  have hw := hw (by
    intro q0 s1 hw  H locs ls w hl
    refine g_istore (pc := 58) C dX7_serve_58 hl (by decide) (fun v4_8 ev4_8 ls hl => ?_)
    have hw := hw v4_8 ev4_8
    have hl : lv_has ls 7 [(4, .int (mm_I v4_8)), (0, .ref (mm_ad G this)), (1, .int (mm_I a1)), (2, .ref (mm_ad G a2))] := hl
    refine lv_aload_n (pc := 60) C.1 C.2.1 dX7_serve_60 rfl (lv_at hl 3 rfl) ?_
    refine lv_iload (pc := 61) C.1 C.2.1 dX7_serve_61 (lv_at hl 0 rfl) ?_
    refine g_calli (pc := 63) w (mm_runV (ci := 2) (q := (RX2, TX2, 4)) (As := [.int (mm_I v4_8)]) (rest := []) C w (c_X2_at l G a2 v4_8 h2 s1 _ hw) h2 rfl rfl cv_X2_at ml_X7_185 ⟨Nat.le_of_ble_eq_true rfl, Nat.le_of_ble_eq_true rfl⟩ ⟨Nat.le_of_ble_eq_true rfl, Nat.le_of_ble_eq_true rfl⟩ rfl hl.1 rfl (Nat.le_of_ble_eq_true rfl) dX7_serve_63) (fun r_10 s_9 H locs hw w => ?_)
    refine g_istore (pc := 66) C dX7_serve_66 hl (by decide) (fun v5_11 ev5_11 ls hl => ?_)
    have hw := hw v5_11 ev5_11
    have hl : lv_has ls 7 [(5, .int (mm_I v5_11)), (4, .int (mm_I v4_8)), (0, .ref (mm_ad G this)), (1, .int (mm_I a1)), (2, .ref (mm_ad G a2))] := hl
    refine lv_aload_n (pc := 68) C.1 C.2.1 dX7_serve_68 rfl (lv_at hl 2 rfl) ?_
    refine lv_iload (pc := 69) C.1 C.2.1 dX7_serve_69 (lv_at hl 0 rfl) ?_
    refine g_callq (pc := 71) w (mm_runV (ci := 7) (q := (RX7, TX7, 9)) (As := [.int (mm_I v5_11)]) (rest := []) C w (c_X7_whoIsThere l G this v5_11 h0 s_9 _ hw) h0 rfl rfl cv_X7_whoIsThere ml_X7_97 ⟨Nat.le_of_ble_eq_true rfl, Nat.le_of_ble_eq_true rfl⟩ ⟨Nat.le_of_ble_eq_true rfl, Nat.le_of_ble_eq_true rfl⟩ rfl hl.1 rfl (Nat.le_of_ble_eq_true rfl) dX7_serve_71) (fun s_12 H locs hw w => ?_) (fun t_14 s_12 H locs ht_14 hw w => ?_)
    · have hw := hw.1 rfl
      refine lv_astoreN (pc := 74) (lv' := [(6, .null), (5, .int (mm_I v5_11)), (4, .int (mm_I v4_8)), (0, .ref (mm_ad G this)), (1, .int (mm_I a1)), (2, .ref (mm_ad G a2))]) C.1 C.2.1 dX7_serve_74 hl (by decide) rfl (fun ls hl => ?_)
      refine lv_aloadN (pc := 76) C.1 C.2.1 dX7_serve_76 (lv_at hl 0 rfl) ?_
      refine lv_ifnonnullN (pc := 78) C.1 C.2.1 dX7_serve_78 ?_
      exact g_vret (pc := 81) C w hr hk hw dX7_serve_81
    · have hw := hw.2 t_14 rfl
      refine lv_astore (pc := 74) (lv' := [(6, .ref (mm_ad G t_14)), (5, .int (mm_I v5_11)), (4, .int (mm_I v4_8)), (0, .ref (mm_ad G this)), (1, .int (mm_I a1)), (2, .ref (mm_ad G a2))]) C.1 C.2.1 dX7_serve_74 hl (by decide) rfl (fun ls hl => ?_)
      refine lv_aload (pc := 76) C.1 C.2.1 dX7_serve_76 (lv_at hl 0 rfl) ?_
      refine lv_ifnonnull (pc := 78) (tgt := 82) C.1 C.2.1 dX7_serve_78 (by decide) ?_
      refine lv_aload_n (pc := 82) C.1 C.2.1 dX7_serve_82 rfl (lv_at hl 3 rfl) ?_
      refine g_getr (pc := 83) C w h0 ff_X7_6 lk_X7_30 dX7_serve_83 ?_
      refine lv_aload_n (pc := 86) C.1 C.2.1 dX7_serve_86 rfl (lv_at hl 3 rfl) ?_
      refine g_geti (pc := 87) C w h0 ff_X7_7 lk_X7_48 dX7_serve_87 ?_
      refine lv_iload_n (pc := 90) C.1 C.2.1 dX7_serve_90 rfl (lv_at hl 4 rfl) ?_
      refine lv_iload (pc := 91) C.1 C.2.1 dX7_serve_91 (lv_at hl 1 rfl) ?_
      refine lv_aload_n (pc := 93) C.1 C.2.1 dX7_serve_93 rfl (lv_at hl 5 rfl) ?_
      refine g_getiN (pc := 94) C w h2 ff_X2_1 lk_X7_172 dX7_serve_94 ?_
      refine lv_iload (pc := 97) C.1 C.2.1 dX7_serve_97 (lv_at hl 2 rfl) ?_
      refine g_callv (pc := 99) w (mm_runV (ci := 0) (q := (RX0, TX0, 2)) (As := [.int (mm_I (s_12 this 7)), .int (mm_I a1), .int (mm_I v5_11), .int (mm_I (s_12 a2 1)), .int (mm_I v4_8)]) (rest := []) C w (c_X0_write l G (mm_rt this 6) (s_12 this 7) a1 v5_11 (s_12 a2 1) v4_8 (ro_X7_6 h0) s_12 _ hw) (ro_X7_6 h0) rfl rfl cv_X0_write ml_X7_244 ⟨Nat.le_of_ble_eq_true rfl, Nat.le_of_ble_eq_true rfl⟩ ⟨Nat.le_of_ble_eq_true rfl, Nat.le_of_ble_eq_true rfl⟩ rfl hl.1 rfl (Nat.le_of_ble_eq_true rfl) dX7_serve_99) (fun s_15 H locs hw w => ?_)
      refine lv_aload_n (pc := 102) C.1 C.2.1 dX7_serve_102 rfl (lv_at hl 5 rfl) ?_
      refine lv_iload (pc := 103) C.1 C.2.1 dX7_serve_103 (lv_at hl 1 rfl) ?_
      refine g_callv (pc := 105) w (mm_runV (ci := 2) (q := (RX2, TX2, 4)) (As := [.int (mm_I v5_11)]) (rest := []) C w (c_X2_remove l G a2 v5_11 h2 s_15 _ hw) h2 rfl rfl cv_X2_remove ml_X7_155 ⟨Nat.le_of_ble_eq_true rfl, Nat.le_of_ble_eq_true rfl⟩ ⟨Nat.le_of_ble_eq_true rfl, Nat.le_of_ble_eq_true rfl⟩ rfl hl.1 rfl (Nat.le_of_ble_eq_true rfl) dX7_serve_105) (fun s_17 H locs hw w => ?_)
      refine lv_aload_n (pc := 108) C.1 C.2.1 dX7_serve_108 rfl (lv_at hl 5 rfl) ?_
      refine lv_dup (pc := 109) C.1 C.2.1 dX7_serve_109 rfl ?_
      refine g_getiN (pc := 110) C w h2 ff_X2_2 lk_X7_238 dX7_serve_110 ?_
      refine lv_iconst (pc := 113) (v := mm_I 1) C.1 C.2.1 dX7_serve_113 rfl ?_
      refine g_isub (pc := 114) C dX7_serve_114 ?_
      refine g_putiN (pc := 115) C w h2 ff_X2_2 fw_X2_2 lk_X7_238 dX7_serve_115 (fun s_19 H locs es_19 w => ?_)
      have hw := hw s_19 es_19
      refine lv_aload_n (pc := 118) C.1 C.2.1 dX7_serve_118 rfl (lv_at hl 5 rfl) ?_
      refine lv_aload_n (pc := 119) C.1 C.2.1 dX7_serve_119 rfl (lv_at hl 3 rfl) ?_
      refine g_geti (pc := 120) C w h0 ff_X7_7 lk_X7_48 dX7_serve_120 ?_
      refine lv_aload_n (pc := 123) C.1 C.2.1 dX7_serve_123 rfl (lv_at hl 3 rfl) ?_
      refine g_getr (pc := 124) C w h0 ff_X7_0 lk_X7_34 dX7_serve_124 ?_
      refine lv_iload_n (pc := 127) C.1 C.2.1 dX7_serve_127 rfl (lv_at hl 4 rfl) ?_
      refine lv_iconst (pc := 128) (v := mm_I 1) C.1 C.2.1 dX7_serve_128 rfl ?_
      refine g_calli (pc := 129) w (mm_runV (ci := 9) (q := (RX9, TX9, 9)) (As := [.int (mm_I a1), .int (mm_I 1)]) (rest := [.int (mm_I (s_19 this 7)), .ref (mm_ad G a2)]) C w (c_X9_ofCounter l G (mm_rt this 0) a1 1 (ro_X7_0 h0) s_19 _ hw) (ro_X7_0 h0) rfl rfl cv_X9_ofCounter ml_X7_67 ⟨Nat.le_of_ble_eq_true rfl, Nat.le_of_ble_eq_true rfl⟩ ⟨Nat.le_of_ble_eq_true rfl, Nat.le_of_ble_eq_true rfl⟩ rfl hl.1 rfl (Nat.le_of_ble_eq_true rfl) dX7_serve_129) (fun r_21 s_20 H locs hw w => ?_)
      refine g_iadd (pc := 132) C dX7_serve_132 ?_
      refine g_putiN (pc := 133) C w h2 ff_X2_3 fw_X2_3 lk_X7_235 dX7_serve_133 (fun s_22 H locs es_22 w => ?_)
      have hw := hw s_22 es_22
      refine lv_aload (pc := 136) C.1 C.2.1 dX7_serve_136 (lv_at hl 0 rfl) ?_
      refine lv_iconst (pc := 138) (v := mm_I (-1)) C.1 C.2.1 dX7_serve_138 rfl ?_
      refine g_putiN (pc := 139) C w ht_14 ff_X5_0 fw_X5_0 lk_X7_64 dX7_serve_139 (fun s_23 H locs es_23 w => ?_)
      have hw := hw s_23 es_23
      refine lv_aload_n (pc := 142) C.1 C.2.1 dX7_serve_142 rfl (lv_at hl 3 rfl) ?_
      refine lv_aload (pc := 143) C.1 C.2.1 dX7_serve_143 (lv_at hl 0 rfl) ?_
      refine g_getiN (pc := 145) C w ht_14 ff_X5_1 lk_X7_140 dX7_serve_145 ?_
      refine lv_aload_n (pc := 148) C.1 C.2.1 dX7_serve_148 rfl (lv_at hl 3 rfl) ?_
      refine g_geti (pc := 149) C w h0 ff_X7_7 lk_X7_48 dX7_serve_149 ?_
      refine lv_aload (pc := 152) C.1 C.2.1 dX7_serve_152 (lv_at hl 0 rfl) ?_
      refine g_getiN (pc := 154) C w ht_14 ff_X5_3 lk_X7_188 dX7_serve_154 ?_
      refine g_isub (pc := 157) C dX7_serve_157 ?_
      refine g_callv (pc := 158) w (mm_runV (ci := 7) (q := (RX7, TX7, 9)) (As := [.int (mm_I (s_23 t_14 1)), .int (mm_I ((s_23 this 7) - (s_23 t_14 3)))]) (rest := []) C w (c_X7_countServed l G this (s_23 t_14 1) ((s_23 this 7) - (s_23 t_14 3)) h0 s_23 _ hw) h0 rfl rfl cv_X7_countServed ml_X7_247 ⟨Nat.le_of_ble_eq_true rfl, Nat.le_of_ble_eq_true rfl⟩ ⟨Nat.le_of_ble_eq_true rfl, Nat.le_of_ble_eq_true rfl⟩ rfl hl.1 rfl (Nat.le_of_ble_eq_true rfl) dX7_serve_158) (fun s_24 H locs hw w => ?_)
      exact g_vret (pc := 161) C w hr hk hw dX7_serve_161)
  intro H locs ls w hl
  have hl : lv_has ls 7 [(0, .ref (mm_ad G this)), (1, .int (mm_I a1)), (2, .ref (mm_ad G a2))] := hl
  refine lv_aload_n (pc := 0) C.1 C.2.1 dX7_serve_0 rfl (lv_at hl 2 rfl) ?_
  refine g_getiN (pc := 1) C w h2 ff_X2_3 lk_X7_235 dX7_serve_1 ?_
  refine lv_aload_n (pc := 4) C.1 C.2.1 dX7_serve_4 rfl (lv_at hl 0 rfl) ?_
  refine g_geti (pc := 5) C w h0 ff_X7_7 lk_X7_48 dX7_serve_5 ?_
  refine g_icmp_gt (pc := 8) (tgt := 25) C rfl rfl dX7_serve_8 (by decide) (fun hc => ?_) (fun hc => ?_)
  · have hw := hw.1 hc
    exact g_vret (pc := 25) C w hr hk hw dX7_serve_25
  · have hw := hw.2 hc
    refine lv_aload_n (pc := 11) C.1 C.2.1 dX7_serve_11 rfl (lv_at hl 2 rfl) ?_
    refine g_getiN (pc := 12) C w h2 ff_X2_2 lk_X7_238 dX7_serve_12 ?_
    refine g_if_le (pc := 15) (tgt := 25) C rfl dX7_serve_15 (by decide) (fun hc => ?_) (fun hc => ?_)
    · have hw := hw.1 hc
      exact g_vret (pc := 25) C w hr hk hw dX7_serve_25
    · have hw := hw.2 hc
      refine lv_aload_n (pc := 18) C.1 C.2.1 dX7_serve_18 rfl (lv_at hl 2 rfl) ?_
      refine g_getiN (pc := 19) C w h2 ff_X2_1 lk_X7_172 dX7_serve_19 ?_
      refine g_if_ne (pc := 22) (tgt := 26) C rfl dX7_serve_22 (by decide) (fun hc => ?_) (fun hc => ?_)
      · have hw := hw.1 hc
        refine lv_aload_n (pc := 26) C.1 C.2.1 dX7_serve_26 rfl (lv_at hl 0 rfl) ?_
        refine g_getr (pc := 27) C w h0 ff_X7_0 lk_X7_34 dX7_serve_27 ?_
        refine lv_iload_n (pc := 30) C.1 C.2.1 dX7_serve_30 rfl (lv_at hl 1 rfl) ?_
        refine lv_iconst (pc := 31) (v := mm_I 0) C.1 C.2.1 dX7_serve_31 rfl ?_
        refine g_calli (pc := 32) w (mm_runV (ci := 9) (q := (RX9, TX9, 9)) (As := [.int (mm_I a1), .int (mm_I 0)]) (rest := []) C w (c_X9_ofCounter l G (mm_rt this 0) a1 0 (ro_X7_0 h0) s0 _ hw) (ro_X7_0 h0) rfl rfl cv_X9_ofCounter ml_X7_67 ⟨Nat.le_of_ble_eq_true rfl, Nat.le_of_ble_eq_true rfl⟩ ⟨Nat.le_of_ble_eq_true rfl, Nat.le_of_ble_eq_true rfl⟩ rfl hl.1 rfl (Nat.le_of_ble_eq_true rfl) dX7_serve_32) (fun r_2 s_1 H locs hw w => ?_)
        refine g_istore_n (pc := 35) C dX7_serve_35 rfl hl (by decide) (fun v3_3 ev3_3 ls hl => ?_)
        have hw := hw v3_3 ev3_3
        have hl : lv_has ls 7 [(3, .int (mm_I v3_3)), (0, .ref (mm_ad G this)), (1, .int (mm_I a1)), (2, .ref (mm_ad G a2))] := hl
        refine lv_iload_n (pc := 36) C.1 C.2.1 dX7_serve_36 rfl (lv_at hl 0 rfl) ?_
        refine lv_iconst (pc := 37) (v := mm_I 3) C.1 C.2.1 dX7_serve_37 rfl ?_
        refine g_icmp_ne (pc := 38) (tgt := 52) C rfl mn_3 dX7_serve_38 (by decide) (fun hc => ?_) (fun hc => ?_)
        · have hw := hw.1 hc
          refine lv_aload_n (pc := 52) C.1 C.2.1 dX7_serve_52 rfl (lv_at hl 1 rfl) ?_
          refine lv_aload_n (pc := 53) C.1 C.2.1 dX7_serve_53 rfl (lv_at hl 3 rfl) ?_
          refine lv_iload_n (pc := 54) C.1 C.2.1 dX7_serve_54 rfl (lv_at hl 0 rfl) ?_
          refine g_calli (pc := 55) w (mm_runV (ci := 7) (q := (RX7, TX7, 9)) (As := [.ref (mm_ad G a2), .int (mm_I v3_3)]) (rest := []) C w (c_X7_placeOfNext l G this a2 v3_3 h0 h2 s_1 _ hw) h0 rfl rfl cv_X7_placeOfNext ml_X7_241 ⟨Nat.le_of_ble_eq_true rfl, Nat.le_of_ble_eq_true rfl⟩ ⟨Nat.le_of_ble_eq_true rfl, Nat.le_of_ble_eq_true rfl⟩ rfl hl.1 rfl (Nat.le_of_ble_eq_true rfl) dX7_serve_55) (fun r_5 s_4 H locs hw w => ?_)
          exact hw  _ _ _ w (lv_sub hl [1, 2, 3] rfl)
        · have hw := hw.2 hc
          refine lv_aload_n (pc := 41) C.1 C.2.1 dX7_serve_41 rfl (lv_at hl 1 rfl) ?_
          refine lv_aload_n (pc := 42) C.1 C.2.1 dX7_serve_42 rfl (lv_at hl 3 rfl) ?_
          refine g_getiN (pc := 43) C w h2 ff_X2_1 lk_X7_172 dX7_serve_43 ?_
          refine g_calli (pc := 46) w (mm_runV (ci := 7) (q := (RX7, TX7, 9)) (As := [.int (mm_I (s_1 a2 1))]) (rest := []) C w (c_X7_drawLot l G this (s_1 a2 1) h0 s_1 _ hw) h0 rfl rfl cv_X7_drawLot ml_X7_220 ⟨Nat.le_of_ble_eq_true rfl, Nat.le_of_ble_eq_true rfl⟩ ⟨Nat.le_of_ble_eq_true rfl, Nat.le_of_ble_eq_true rfl⟩ rfl hl.1 rfl (Nat.le_of_ble_eq_true rfl) dX7_serve_46) (fun r_7 s_6 H locs hw w => ?_)
          refine lv_goto (pc := 49) (tgt := 58) C.1 C.2.1 dX7_serve_49 (by decide) ?_
          exact hw  _ _ _ w (lv_sub hl [1, 2, 3] rfl)
      · have hw := hw.2 hc
        exact g_vret (pc := 25) C w hr hk hw dX7_serve_25
theorem cv_X7_giveUp : mm_V yX7_giveUp cX7_giveUp 3 none 2 := ⟨(mt_4 41 rfl rfl), (mt_4 39 rfl rfl), (mt_4 40 rfl rfl), (mt_1 6 rfl rfl), by decide, by decide, by decide +kernel⟩
theorem ml_X7_255 : Cond.methodLink RX7 255 yX7_giveUp ∈ mm_ws := (mt_4 192 rfl rfl)
def wp_X7_someGiveUpAndOthersPay (this : Nat) (s0 : mm_M) (post : mm_M → Prop) : Prop :=
  ∀ (L2 : Int → mm_M → Prop), ∀ (L50 : Int → Nat → Int → mm_M → Prop), ∀ (L69 : Int → Nat → mm_M → Prop), ∀ (L90 : Int → Nat → Int → mm_M → Prop), 
  (∀ (v1 : Int) (s1 : mm_M), ((30 ≤ n32 v1 → post s1) ∧ (¬ 30 ≤ n32 v1 → (wp_X7_whoIsThere this v1 s1 (fun r_3 s_2 => (r_3 = none → (∀ v1_5 : Int, v1_5 = v1 + 1 → L2 v1_5 s_2)) ∧ (∀ t_4 : Nat, r_3 = some t_4 → (wp_X9_ofSort (mm_rt this 0) (s_2 t_4 1) 2 s_2 (fun r_7 s_6 => ((n32 ((s_2 this 7) - (s_2 t_4 3)) < n32 r_7 → L50 v1 t_4 0 s_6) ∧ (¬ n32 ((s_2 this 7) - (s_2 t_4 3)) < n32 r_7 → L50 v1 t_4 1 s_6))))))))) → L2 v1 s1) →
  (∀ (v1 : Int) (t2 : Nat) (q0 : Int) (s1 : mm_M), (∀ v3_8 : Int, v3_8 = q0 → ((¬ n32 v3_8 = 0 → L69 v1 t2 s1) ∧ (n32 v3_8 = 0 → (wp_X9_closing (mm_rt this 0) s1 (fun r_10 s_9 => ((n32 (s1 this 7) < n32 r_10 → ((¬ n32 (s_9 t2 0) = 0 → L90 v1 t2 4 s_9) ∧ (n32 (s_9 t2 0) = 0 → L90 v1 t2 3 s_9))) ∧ (¬ n32 (s1 this 7) < n32 r_10 → L69 v1 t2 s_9))))))) → L50 v1 t2 q0 s1) →
  (∀ (v1 : Int) (t2 : Nat) (s1 : mm_M), (wp_X7_giveUp this v1 t2 s1 (fun s_11 => (∀ v1_13 : Int, v1_13 = v1 + 1 → L2 v1_13 s_11))) → L69 v1 t2 s1) →
  (∀ (v1 : Int) (t2 : Nat) (q0 : Int) (s1 : mm_M), (∀ v4_14 : Int, v4_14 = q0 → (wp_X9_ofSort (mm_rt this 0) (s1 t2 1) v4_14 s1 (fun r_16 s_15 => (wp_X7_raise this (s1 t2 1) 6 (-r_16) s_15 (fun s_17 => (∀ v1_19 : Int, v1_19 = v1 + 1 → L2 v1_19 s_17)))))) → L90 v1 t2 q0 s1) →
  L2 0 s0
set_option maxRecDepth 100000 in
set_option maxHeartbeats 4000000 in
theorem c_X7_someGiveUpAndOthersPay (l : Launch) (G : mm_G) (this : Nat) (h0 : mm_ok this 17 0) (s0 : mm_M) (post : mm_M → Prop) (hw : wp_X7_someGiveUpAndOthersPay this s0 post) : Met l yX7_someGiveUpAndOthersPay (mm_wm yX7_someGiveUpAndOthersPay cX7_someGiveUpAndOthersPay 5 none) (mm_rm 5) (va_Pc [.ref (mm_ad G this)] (mm_pre G s0)) (mm_Qv G post) 0 0 (mm_A G) := by
  refine mm_met (own := RX7) (by decide) rfl (Nat.le_of_ble_eq_true rfl) ?_
  intro p e s m args below meth c C hr hk
  unfold wp_X7_someGiveUpAndOthersPay at hw
  have hw := hw (fun (v1 : Int) (u : mm_M) => mm_X p l e (mm_rm 5) s m args below meth c (MQ below (mm_Qv G post) args s 0 0 (mm_A G)) G (mm_A G) 5 2 [(0, .ref (mm_ad G this)), (1, .int (mm_I v1))] [] u)
  have hw := hw (fun (v1 : Int) (t2 : Nat) (q0 : Int) (u : mm_M) => mm_ok t2 15 0 → mm_X p l e (mm_rm 5) s m args below meth c (MQ below (mm_Qv G post) args s 0 0 (mm_A G)) G (mm_A G) 5 50 [(0, .ref (mm_ad G this)), (1, .int (mm_I v1)), (2, .ref (mm_ad G t2))] [.int (mm_I q0)] u)
  have hw := hw (fun (v1 : Int) (t2 : Nat) (u : mm_M) => mm_ok t2 15 0 → mm_X p l e (mm_rm 5) s m args below meth c (MQ below (mm_Qv G post) args s 0 0 (mm_A G)) G (mm_A G) 5 69 [(0, .ref (mm_ad G this)), (1, .int (mm_I v1)), (2, .ref (mm_ad G t2))] [] u)
  have hw := hw (fun (v1 : Int) (t2 : Nat) (q0 : Int) (u : mm_M) => mm_ok t2 15 0 → mm_X p l e (mm_rm 5) s m args below meth c (MQ below (mm_Qv G post) args s 0 0 (mm_A G)) G (mm_A G) 5 90 [(0, .ref (mm_ad G this)), (1, .int (mm_I v1)), (2, .ref (mm_ad G t2))] [.int (mm_I q0)] u)
  have hw := hw (by
    intro v1 s1 hw  H locs ls w hl
    refine lv_iload_n (pc := 2) C.1 C.2.1 dX7_someGiveUpAndOthersPay_2 rfl (lv_at hl 1 rfl) ?_
    refine lv_bipush (pc := 3) C.1 C.2.1 dX7_someGiveUpAndOthersPay_3 mb_30 ?_
    refine g_icmp_ge (pc := 5) (tgt := 122) C rfl mn_30 dX7_someGiveUpAndOthersPay_5 (by decide) (fun hc => ?_) (fun hc => ?_)
    · have hw := hw.1 hc
      exact g_vret (pc := 122) C w hr hk hw dX7_someGiveUpAndOthersPay_122
    · have hw := hw.2 hc
      refine lv_aload_n (pc := 8) C.1 C.2.1 dX7_someGiveUpAndOthersPay_8 rfl (lv_at hl 0 rfl) ?_
      refine lv_iload_n (pc := 9) C.1 C.2.1 dX7_someGiveUpAndOthersPay_9 rfl (lv_at hl 1 rfl) ?_
      refine g_callq (pc := 10) w (mm_runV (ci := 7) (q := (RX7, TX7, 9)) (As := [.int (mm_I v1)]) (rest := []) C w (c_X7_whoIsThere l G this v1 h0 s1 _ hw) h0 rfl rfl cv_X7_whoIsThere ml_X7_97 ⟨Nat.le_of_ble_eq_true rfl, Nat.le_of_ble_eq_true rfl⟩ ⟨Nat.le_of_ble_eq_true rfl, Nat.le_of_ble_eq_true rfl⟩ rfl hl.1 rfl (Nat.le_of_ble_eq_true rfl) dX7_someGiveUpAndOthersPay_10) (fun s_2 H locs hw w => ?_) (fun t_4 s_2 H locs ht_4 hw w => ?_)
      · have hw := hw.1 rfl
        refine lv_astore_nN (pc := 13) (lv' := [(2, .null), (0, .ref (mm_ad G this)), (1, .int (mm_I v1))]) C.1 C.2.1 dX7_someGiveUpAndOthersPay_13 rfl hl (by decide) rfl (fun ls hl => ?_)
        refine lv_aload_nN (pc := 14) C.1 C.2.1 dX7_someGiveUpAndOthersPay_14 rfl (lv_at hl 0 rfl) ?_
        refine lv_ifnonnullN (pc := 15) C.1 C.2.1 dX7_someGiveUpAndOthersPay_15 ?_
        refine lv_goto (pc := 18) (tgt := 116) C.1 C.2.1 dX7_someGiveUpAndOthersPay_18 (by decide) ?_
        refine g_iinc (pc := 116) (k := 2) C dX7_someGiveUpAndOthersPay_116 hl rfl (by decide) (fun v1_5 ev1_5 ls hl => ?_)
        have hw := hw v1_5 ev1_5
        have hl : lv_has ls 5 [(1, .int (mm_I v1_5)), (2, .null), (0, .ref (mm_ad G this))] := hl
        refine lv_goto (pc := 119) (tgt := 2) C.1 C.2.1 dX7_someGiveUpAndOthersPay_119 (by decide) ?_
        exact hw  _ _ _ w (lv_sub hl [2, 0] rfl)
      · have hw := hw.2 t_4 rfl
        refine lv_astore_n (pc := 13) (lv' := [(2, .ref (mm_ad G t_4)), (0, .ref (mm_ad G this)), (1, .int (mm_I v1))]) C.1 C.2.1 dX7_someGiveUpAndOthersPay_13 rfl hl (by decide) rfl (fun ls hl => ?_)
        refine lv_aload_n (pc := 14) C.1 C.2.1 dX7_someGiveUpAndOthersPay_14 rfl (lv_at hl 0 rfl) ?_
        refine lv_ifnonnull (pc := 15) (tgt := 21) C.1 C.2.1 dX7_someGiveUpAndOthersPay_15 (by decide) ?_
        refine lv_aload_n (pc := 21) C.1 C.2.1 dX7_someGiveUpAndOthersPay_21 rfl (lv_at hl 1 rfl) ?_
        refine g_geti (pc := 22) C w h0 ff_X7_7 lk_X7_48 dX7_someGiveUpAndOthersPay_22 ?_
        refine lv_aload_n (pc := 25) C.1 C.2.1 dX7_someGiveUpAndOthersPay_25 rfl (lv_at hl 0 rfl) ?_
        refine g_getiN (pc := 26) C w ht_4 ff_X5_3 lk_X7_188 dX7_someGiveUpAndOthersPay_26 ?_
        refine g_isub (pc := 29) C dX7_someGiveUpAndOthersPay_29 ?_
        refine lv_aload_n (pc := 30) C.1 C.2.1 dX7_someGiveUpAndOthersPay_30 rfl (lv_at hl 1 rfl) ?_
        refine g_getr (pc := 31) C w h0 ff_X7_0 lk_X7_34 dX7_someGiveUpAndOthersPay_31 ?_
        refine lv_aload_n (pc := 34) C.1 C.2.1 dX7_someGiveUpAndOthersPay_34 rfl (lv_at hl 0 rfl) ?_
        refine g_getiN (pc := 35) C w ht_4 ff_X5_1 lk_X7_140 dX7_someGiveUpAndOthersPay_35 ?_
        refine lv_iconst (pc := 38) (v := mm_I 2) C.1 C.2.1 dX7_someGiveUpAndOthersPay_38 rfl ?_
        refine g_calli (pc := 39) w (mm_runV (ci := 9) (q := (RX9, TX9, 9)) (As := [.int (mm_I (s_2 t_4 1)), .int (mm_I 2)]) (rest := [.int (mm_I ((s_2 this 7) - (s_2 t_4 3)))]) C w (c_X9_ofSort l G (mm_rt this 0) (s_2 t_4 1) 2 (ro_X7_0 h0) s_2 _ hw) (ro_X7_0 h0) rfl rfl cv_X9_ofSort ml_X7_191 ⟨Nat.le_of_ble_eq_true rfl, Nat.le_of_ble_eq_true rfl⟩ ⟨Nat.le_of_ble_eq_true rfl, Nat.le_of_ble_eq_true rfl⟩ rfl hl.1 rfl (Nat.le_of_ble_eq_true rfl) dX7_someGiveUpAndOthersPay_39) (fun r_7 s_6 H locs hw w => ?_)
        refine g_icmp_lt (pc := 42) (tgt := 49) C rfl rfl dX7_someGiveUpAndOthersPay_42 (by decide) (fun hc => ?_) (fun hc => ?_)
        · have hw := hw.1 hc
          refine lv_iconst (pc := 49) (v := mm_I 0) C.1 C.2.1 dX7_someGiveUpAndOthersPay_49 rfl ?_
          exact hw ht_4 _ _ _ w (lv_sub hl [1, 2, 0] rfl)
        · have hw := hw.2 hc
          refine lv_iconst (pc := 45) (v := mm_I 1) C.1 C.2.1 dX7_someGiveUpAndOthersPay_45 rfl ?_
          refine lv_goto (pc := 46) (tgt := 50) C.1 C.2.1 dX7_someGiveUpAndOthersPay_46 (by decide) ?_
          exact hw ht_4 _ _ _ w (lv_sub hl [1, 2, 0] rfl))
  have hw := hw (by
    intro v1 t2 q0 s1 hw ht2 H locs ls w hl
    refine g_istore_n (pc := 50) C dX7_someGiveUpAndOthersPay_50 rfl hl (by decide) (fun v3_8 ev3_8 ls hl => ?_)
    have hw := hw v3_8 ev3_8
    have hl : lv_has ls 5 [(3, .int (mm_I v3_8)), (0, .ref (mm_ad G this)), (1, .int (mm_I v1)), (2, .ref (mm_ad G t2))] := hl
    refine lv_iload_n (pc := 51) C.1 C.2.1 dX7_someGiveUpAndOthersPay_51 rfl (lv_at hl 0 rfl) ?_
    refine g_if_ne (pc := 52) (tgt := 69) C rfl dX7_someGiveUpAndOthersPay_52 (by decide) (fun hc => ?_) (fun hc => ?_)
    · have hw := hw.1 hc
      exact hw ht2 _ _ _ w (lv_sub hl [1, 2, 3] rfl)
    · have hw := hw.2 hc
      refine lv_aload_n (pc := 55) C.1 C.2.1 dX7_someGiveUpAndOthersPay_55 rfl (lv_at hl 1 rfl) ?_
      refine g_geti (pc := 56) C w h0 ff_X7_7 lk_X7_48 dX7_someGiveUpAndOthersPay_56 ?_
      refine lv_aload_n (pc := 59) C.1 C.2.1 dX7_someGiveUpAndOthersPay_59 rfl (lv_at hl 1 rfl) ?_
      refine g_getr (pc := 60) C w h0 ff_X7_0 lk_X7_34 dX7_someGiveUpAndOthersPay_60 ?_
      refine g_calli (pc := 63) w (mm_runV (ci := 9) (q := (RX9, TX9, 9)) (As := []) (rest := [.int (mm_I (s1 this 7))]) C w (c_X9_closing l G (mm_rt this 0) (ro_X7_0 h0) s1 _ hw) (ro_X7_0 h0) rfl rfl cv_X9_closing ml_X7_176 ⟨Nat.le_of_ble_eq_true rfl, Nat.le_of_ble_eq_true rfl⟩ ⟨Nat.le_of_ble_eq_true rfl, Nat.le_of_ble_eq_true rfl⟩ rfl hl.1 rfl (Nat.le_of_ble_eq_true rfl) dX7_someGiveUpAndOthersPay_63) (fun r_10 s_9 H locs hw w => ?_)
      refine g_icmp_lt (pc := 66) (tgt := 78) C rfl rfl dX7_someGiveUpAndOthersPay_66 (by decide) (fun hc => ?_) (fun hc => ?_)
      · have hw := hw.1 hc
        refine lv_aload_n (pc := 78) C.1 C.2.1 dX7_someGiveUpAndOthersPay_78 rfl (lv_at hl 3 rfl) ?_
        refine g_getiN (pc := 79) C w ht2 ff_X5_0 lk_X7_64 dX7_someGiveUpAndOthersPay_79 ?_
        refine g_if_ne (pc := 82) (tgt := 89) C rfl dX7_someGiveUpAndOthersPay_82 (by decide) (fun hc => ?_) (fun hc => ?_)
        · have hw := hw.1 hc
          refine lv_iconst (pc := 89) (v := mm_I 4) C.1 C.2.1 dX7_someGiveUpAndOthersPay_89 rfl ?_
          exact hw ht2 _ _ _ w (lv_sub hl [1, 2, 3] rfl)
        · have hw := hw.2 hc
          refine lv_iconst (pc := 85) (v := mm_I 3) C.1 C.2.1 dX7_someGiveUpAndOthersPay_85 rfl ?_
          refine lv_goto (pc := 86) (tgt := 90) C.1 C.2.1 dX7_someGiveUpAndOthersPay_86 (by decide) ?_
          exact hw ht2 _ _ _ w (lv_sub hl [1, 2, 3] rfl)
      · have hw := hw.2 hc
        exact hw ht2 _ _ _ w (lv_sub hl [1, 2, 3] rfl))
  have hw := hw (by
    intro v1 t2 s1 hw ht2 H locs ls w hl
    refine lv_aload_n (pc := 69) C.1 C.2.1 dX7_someGiveUpAndOthersPay_69 rfl (lv_at hl 0 rfl) ?_
    refine lv_iload_n (pc := 70) C.1 C.2.1 dX7_someGiveUpAndOthersPay_70 rfl (lv_at hl 1 rfl) ?_
    refine lv_aload_n (pc := 71) C.1 C.2.1 dX7_someGiveUpAndOthersPay_71 rfl (lv_at hl 2 rfl) ?_
    refine g_callv (pc := 72) w (mm_runV (ci := 7) (q := (RX7, TX7, 9)) (As := [.int (mm_I v1), .ref (mm_ad G t2)]) (rest := []) C w (c_X7_giveUp l G this v1 t2 h0 ht2 s1 _ hw) h0 rfl rfl cv_X7_giveUp ml_X7_255 ⟨Nat.le_of_ble_eq_true rfl, Nat.le_of_ble_eq_true rfl⟩ ⟨Nat.le_of_ble_eq_true rfl, Nat.le_of_ble_eq_true rfl⟩ rfl hl.1 rfl (Nat.le_of_ble_eq_true rfl) dX7_someGiveUpAndOthersPay_72) (fun s_11 H locs hw w => ?_)
    refine lv_goto (pc := 75) (tgt := 116) C.1 C.2.1 dX7_someGiveUpAndOthersPay_75 (by decide) ?_
    refine g_iinc (pc := 116) (k := 1) C dX7_someGiveUpAndOthersPay_116 hl rfl (by decide) (fun v1_13 ev1_13 ls hl => ?_)
    have hw := hw v1_13 ev1_13
    have hl : lv_has ls 5 [(1, .int (mm_I v1_13)), (0, .ref (mm_ad G this)), (2, .ref (mm_ad G t2))] := hl
    refine lv_goto (pc := 119) (tgt := 2) C.1 C.2.1 dX7_someGiveUpAndOthersPay_119 (by decide) ?_
    exact hw  _ _ _ w (lv_sub hl [1, 0] rfl))
  have hw := hw (by
    intro v1 t2 q0 s1 hw ht2 H locs ls w hl
    refine g_istore (pc := 90) C dX7_someGiveUpAndOthersPay_90 hl (by decide) (fun v4_14 ev4_14 ls hl => ?_)
    have hw := hw v4_14 ev4_14
    have hl : lv_has ls 5 [(4, .int (mm_I v4_14)), (0, .ref (mm_ad G this)), (1, .int (mm_I v1)), (2, .ref (mm_ad G t2))] := hl
    refine lv_aload_n (pc := 92) C.1 C.2.1 dX7_someGiveUpAndOthersPay_92 rfl (lv_at hl 1 rfl) ?_
    refine lv_aload_n (pc := 93) C.1 C.2.1 dX7_someGiveUpAndOthersPay_93 rfl (lv_at hl 3 rfl) ?_
    refine g_getiN (pc := 94) C w ht2 ff_X5_1 lk_X7_140 dX7_someGiveUpAndOthersPay_94 ?_
    refine lv_bipush (pc := 97) C.1 C.2.1 dX7_someGiveUpAndOthersPay_97 mb_6 ?_
    refine lv_aload_n (pc := 99) C.1 C.2.1 dX7_someGiveUpAndOthersPay_99 rfl (lv_at hl 1 rfl) ?_
    refine g_getr (pc := 100) C w h0 ff_X7_0 lk_X7_34 dX7_someGiveUpAndOthersPay_100 ?_
    refine lv_aload_n (pc := 103) C.1 C.2.1 dX7_someGiveUpAndOthersPay_103 rfl (lv_at hl 3 rfl) ?_
    refine g_getiN (pc := 104) C w ht2 ff_X5_1 lk_X7_140 dX7_someGiveUpAndOthersPay_104 ?_
    refine lv_iload (pc := 107) C.1 C.2.1 dX7_someGiveUpAndOthersPay_107 (lv_at hl 0 rfl) ?_
    refine g_calli (pc := 109) w (mm_runV (ci := 9) (q := (RX9, TX9, 9)) (As := [.int (mm_I (s1 t2 1)), .int (mm_I v4_14)]) (rest := [.int (mm_I 6), .int (mm_I (s1 t2 1)), .ref (mm_ad G this)]) C w (c_X9_ofSort l G (mm_rt this 0) (s1 t2 1) v4_14 (ro_X7_0 h0) s1 _ hw) (ro_X7_0 h0) rfl rfl cv_X9_ofSort ml_X7_191 ⟨Nat.le_of_ble_eq_true rfl, Nat.le_of_ble_eq_true rfl⟩ ⟨Nat.le_of_ble_eq_true rfl, Nat.le_of_ble_eq_true rfl⟩ rfl hl.1 rfl (Nat.le_of_ble_eq_true rfl) dX7_someGiveUpAndOthersPay_109) (fun r_16 s_15 H locs hw w => ?_)
    refine g_ineg (pc := 112) C dX7_someGiveUpAndOthersPay_112 ?_
    refine g_callv (pc := 113) w (mm_runV (ci := 7) (q := (RX7, TX7, 9)) (As := [.int (mm_I (s1 t2 1)), .int (mm_I 6), .int (mm_I (-r_16))]) (rest := []) C w (c_X7_raise l G this (s1 t2 1) 6 (-r_16) h0 s_15 _ hw) h0 rfl rfl cv_X7_raise ml_X7_133 ⟨Nat.le_of_ble_eq_true rfl, Nat.le_of_ble_eq_true rfl⟩ ⟨Nat.le_of_ble_eq_true rfl, Nat.le_of_ble_eq_true rfl⟩ rfl hl.1 rfl (Nat.le_of_ble_eq_true rfl) dX7_someGiveUpAndOthersPay_113) (fun s_17 H locs hw w => ?_)
    refine g_iinc (pc := 116) (k := 2) C dX7_someGiveUpAndOthersPay_116 hl rfl (by decide) (fun v1_19 ev1_19 ls hl => ?_)
    have hw := hw v1_19 ev1_19
    have hl : lv_has ls 5 [(1, .int (mm_I v1_19)), (4, .int (mm_I v4_14)), (0, .ref (mm_ad G this)), (2, .ref (mm_ad G t2))] := hl
    refine lv_goto (pc := 119) (tgt := 2) C.1 C.2.1 dX7_someGiveUpAndOthersPay_119 (by decide) ?_
    exact hw  _ _ _ w (lv_sub hl [2, 0] rfl))
  intro H locs ls w hl
  have hl : lv_has ls 5 [(0, .ref (mm_ad G this))] := hl
  refine lv_iconst (pc := 0) (v := mm_I 0) C.1 C.2.1 dX7_someGiveUpAndOthersPay_0 rfl ?_
  refine lv_istore_n (pc := 1) (lv' := [(1, .int (mm_I 0)), (0, .ref (mm_ad G this))]) C.1 C.2.1 dX7_someGiveUpAndOthersPay_1 rfl hl (by decide) rfl (fun ls hl => ?_)
  exact hw  _ _ _ w (lv_sub hl [1, 0] rfl)
theorem cv_X7_newOnesCome : mm_V yX7_newOnesCome cX7_newOnesCome 4 none 0 := ⟨(mt_4 147 rfl rfl), (mt_4 146 rfl rfl), (mp_2 8 rfl rfl), (mt_1 6 rfl rfl), by decide, by decide, by decide +kernel⟩
theorem ml_X7_201 : Cond.methodLink RX7 201 yX7_newOnesCome ∈ mm_ws := (mt_4 144 rfl rfl)
theorem cv_X7_thoseOutsideComeIn : mm_V yX7_thoseOutsideComeIn cX7_thoseOutsideComeIn 5 none 0 := ⟨(mt_4 166 rfl rfl), (mt_4 165 rfl rfl), (mp_2 12 rfl rfl), (mt_1 6 rfl rfl), by decide, by decide, by decide +kernel⟩
theorem ml_X7_204 : Cond.methodLink RX7 204 yX7_thoseOutsideComeIn ∈ mm_ws := (mt_4 163 rfl rfl)
theorem cv_X7_turnersGoOut : mm_V yX7_turnersGoOut cX7_turnersGoOut 4 none 0 := ⟨(mt_4 170 rfl rfl), (mt_4 169 rfl rfl), (mp_2 13 rfl rfl), (mt_1 6 rfl rfl), by decide, by decide, by decide +kernel⟩
theorem ml_X7_207 : Cond.methodLink RX7 207 yX7_turnersGoOut ∈ mm_ws := (mt_4 167 rfl rfl)
theorem cv_X7_someGiveUpAndOthersPay : mm_V yX7_someGiveUpAndOthersPay cX7_someGiveUpAndOthersPay 5 none 0 := ⟨(mt_4 191 rfl rfl), (mt_4 190 rfl rfl), (mp_3 0 rfl rfl), (mt_1 6 rfl rfl), by decide, by decide, by decide +kernel⟩
theorem ml_X7_214 : Cond.methodLink RX7 214 yX7_someGiveUpAndOthersPay ∈ mm_ws := (mt_4 188 rfl rfl)
theorem cv_X7_serve : mm_V yX7_serve cX7_serve 7 none 2 := ⟨(mt_4 175 rfl rfl), (mt_4 174 rfl rfl), (mp_2 14 rfl rfl), (mt_1 6 rfl rfl), by decide, by decide, by decide +kernel⟩
theorem ml_X7_210 : Cond.methodLink RX7 210 yX7_serve ∈ mm_ws := (mt_4 172 rfl rfl)
def wp_X7_passMinute (this : Nat) (s0 : mm_M) (post : mm_M → Prop) : Prop :=
  ∀ (L14 : Int → mm_M → Prop), 
  (∀ (v1 : Int) (s1 : mm_M), ((3 ≤ n32 v1 → (∀ s_8 : mm_M, s_8 = mm_up s1 this 7 ((s1 this 7) + 1) → (wp_X7_someGiveUpAndOthersPay this s_8 (fun s_9 => post s_9)))) ∧ (¬ 3 ≤ n32 v1 → (wp_X7_deskOf this v1 s1 (fun r_12 s_11 => (r_12 = none → (∀ v1_14 : Int, v1_14 = v1 + 1 → L14 v1_14 s_11)) ∧ (∀ t_13 : Nat, r_12 = some t_13 → (wp_X7_serve this v1 t_13 s_11 (fun s_15 => (∀ v1_17 : Int, v1_17 = v1 + 1 → L14 v1_17 s_15)))))))) → L14 v1 s1) →
  (wp_X7_newOnesCome this s0 (fun s_1 => (wp_X7_thoseOutsideComeIn this s_1 (fun s_3 => (wp_X7_turnersGoOut this s_3 (fun s_5 => L14 0 s_5))))))
set_option maxRecDepth 100000 in
set_option maxHeartbeats 4000000 in
theorem c_X7_passMinute (l : Launch) (G : mm_G) (this : Nat) (h0 : mm_ok this 17 0) (s0 : mm_M) (post : mm_M → Prop) (hw : wp_X7_passMinute this s0 post) : Met l yX7_passMinute (mm_wm yX7_passMinute cX7_passMinute 3 none) (mm_rm 7) (va_Pc [.ref (mm_ad G this)] (mm_pre G s0)) (mm_Qv G post) 0 0 (mm_A G) := by
  refine mm_met (own := RX7) (by decide) rfl (Nat.le_of_ble_eq_true rfl) ?_
  intro p e s m args below meth c C hr hk
  unfold wp_X7_passMinute at hw
  have hw := hw (fun (v1 : Int) (u : mm_M) => mm_X p l e (mm_rm 7) s m args below meth c (MQ below (mm_Qv G post) args s 0 0 (mm_A G)) G (mm_A G) 3 14 [(0, .ref (mm_ad G this)), (1, .int (mm_I v1))] [] u)
  have hw := hw (by
    intro v1 s1 hw  H locs ls w hl
    refine lv_iload_n (pc := 14) C.1 C.2.1 dX7_passMinute_14 rfl (lv_at hl 1 rfl) ?_
    refine lv_iconst (pc := 15) (v := mm_I 3) C.1 C.2.1 dX7_passMinute_15 rfl ?_
    refine g_icmp_ge (pc := 16) (tgt := 41) C rfl mn_3 dX7_passMinute_16 (by decide) (fun hc => ?_) (fun hc => ?_)
    · have hw := hw.1 hc
      refine lv_aload_n (pc := 41) C.1 C.2.1 dX7_passMinute_41 rfl (lv_at hl 0 rfl) ?_
      refine lv_dup (pc := 42) C.1 C.2.1 dX7_passMinute_42 rfl ?_
      refine g_geti (pc := 43) C w h0 ff_X7_7 lk_X7_48 dX7_passMinute_43 ?_
      refine lv_iconst (pc := 46) (v := mm_I 1) C.1 C.2.1 dX7_passMinute_46 rfl ?_
      refine g_iadd (pc := 47) C dX7_passMinute_47 ?_
      refine g_puti (pc := 48) C w h0 ff_X7_7 fw_X7_7 lk_X7_48 dX7_passMinute_48 (fun s_8 H locs es_8 w => ?_)
      have hw := hw s_8 es_8
      refine lv_aload_n (pc := 51) C.1 C.2.1 dX7_passMinute_51 rfl (lv_at hl 0 rfl) ?_
      refine g_callv (pc := 52) w (mm_runV (ci := 7) (q := (RX7, TX7, 9)) (As := []) (rest := []) C w (c_X7_someGiveUpAndOthersPay l G this h0 s_8 _ hw) h0 rfl rfl cv_X7_someGiveUpAndOthersPay ml_X7_214 ⟨Nat.le_of_ble_eq_true rfl, Nat.le_of_ble_eq_true rfl⟩ ⟨Nat.le_of_ble_eq_true rfl, Nat.le_of_ble_eq_true rfl⟩ rfl hl.1 rfl (Nat.le_of_ble_eq_true rfl) dX7_passMinute_52) (fun s_9 H locs hw w => ?_)
      exact g_vret (pc := 55) C w hr hk hw dX7_passMinute_55
    · have hw := hw.2 hc
      refine lv_aload_n (pc := 19) C.1 C.2.1 dX7_passMinute_19 rfl (lv_at hl 0 rfl) ?_
      refine lv_iload_n (pc := 20) C.1 C.2.1 dX7_passMinute_20 rfl (lv_at hl 1 rfl) ?_
      refine g_callq (pc := 21) w (mm_runV (ci := 7) (q := (RX7, TX7, 9)) (As := [.int (mm_I v1)]) (rest := []) C w (c_X7_deskOf l G this v1 h0 s1 _ hw) h0 rfl rfl cv_X7_deskOf ml_X7_104 ⟨Nat.le_of_ble_eq_true rfl, Nat.le_of_ble_eq_true rfl⟩ ⟨Nat.le_of_ble_eq_true rfl, Nat.le_of_ble_eq_true rfl⟩ rfl hl.1 rfl (Nat.le_of_ble_eq_true rfl) dX7_passMinute_21) (fun s_11 H locs hw w => ?_) (fun t_13 s_11 H locs ht_13 hw w => ?_)
      · have hw := hw.1 rfl
        refine lv_astore_nN (pc := 24) (lv' := [(2, .null), (0, .ref (mm_ad G this)), (1, .int (mm_I v1))]) C.1 C.2.1 dX7_passMinute_24 rfl hl (by decide) rfl (fun ls hl => ?_)
        refine lv_aload_nN (pc := 25) C.1 C.2.1 dX7_passMinute_25 rfl (lv_at hl 0 rfl) ?_
        refine lv_ifnullN (pc := 26) (tgt := 35) C.1 C.2.1 dX7_passMinute_26 (by decide) ?_
        refine g_iinc (pc := 35) (k := 2) C dX7_passMinute_35 hl rfl (by decide) (fun v1_14 ev1_14 ls hl => ?_)
        have hw := hw v1_14 ev1_14
        have hl : lv_has ls 3 [(1, .int (mm_I v1_14)), (2, .null), (0, .ref (mm_ad G this))] := hl
        refine lv_goto (pc := 38) (tgt := 14) C.1 C.2.1 dX7_passMinute_38 (by decide) ?_
        exact hw  _ _ _ w (lv_sub hl [2, 0] rfl)
      · have hw := hw.2 t_13 rfl
        refine lv_astore_n (pc := 24) (lv' := [(2, .ref (mm_ad G t_13)), (0, .ref (mm_ad G this)), (1, .int (mm_I v1))]) C.1 C.2.1 dX7_passMinute_24 rfl hl (by decide) rfl (fun ls hl => ?_)
        refine lv_aload_n (pc := 25) C.1 C.2.1 dX7_passMinute_25 rfl (lv_at hl 0 rfl) ?_
        refine lv_ifnull (pc := 26) C.1 C.2.1 dX7_passMinute_26 ?_
        refine lv_aload_n (pc := 29) C.1 C.2.1 dX7_passMinute_29 rfl (lv_at hl 1 rfl) ?_
        refine lv_iload_n (pc := 30) C.1 C.2.1 dX7_passMinute_30 rfl (lv_at hl 2 rfl) ?_
        refine lv_aload_n (pc := 31) C.1 C.2.1 dX7_passMinute_31 rfl (lv_at hl 0 rfl) ?_
        refine g_callv (pc := 32) w (mm_runV (ci := 7) (q := (RX7, TX7, 9)) (As := [.int (mm_I v1), .ref (mm_ad G t_13)]) (rest := []) C w (c_X7_serve l G this v1 t_13 h0 ht_13 s_11 _ hw) h0 rfl rfl cv_X7_serve ml_X7_210 ⟨Nat.le_of_ble_eq_true rfl, Nat.le_of_ble_eq_true rfl⟩ ⟨Nat.le_of_ble_eq_true rfl, Nat.le_of_ble_eq_true rfl⟩ rfl hl.1 rfl (Nat.le_of_ble_eq_true rfl) dX7_passMinute_32) (fun s_15 H locs hw w => ?_)
        refine g_iinc (pc := 35) (k := 2) C dX7_passMinute_35 hl rfl (by decide) (fun v1_17 ev1_17 ls hl => ?_)
        have hw := hw v1_17 ev1_17
        have hl : lv_has ls 3 [(1, .int (mm_I v1_17)), (2, .ref (mm_ad G t_13)), (0, .ref (mm_ad G this))] := hl
        refine lv_goto (pc := 38) (tgt := 14) C.1 C.2.1 dX7_passMinute_38 (by decide) ?_
        exact hw  _ _ _ w (lv_sub hl [2, 0] rfl))
  intro H locs ls w hl
  have hl : lv_has ls 3 [(0, .ref (mm_ad G this))] := hl
  refine lv_aload_n (pc := 0) C.1 C.2.1 dX7_passMinute_0 rfl (lv_at hl 0 rfl) ?_
  refine g_callv (pc := 1) w (mm_runV (ci := 7) (q := (RX7, TX7, 9)) (As := []) (rest := []) C w (c_X7_newOnesCome l G this h0 s0 _ hw) h0 rfl rfl cv_X7_newOnesCome ml_X7_201 ⟨Nat.le_of_ble_eq_true rfl, Nat.le_of_ble_eq_true rfl⟩ ⟨Nat.le_of_ble_eq_true rfl, Nat.le_of_ble_eq_true rfl⟩ rfl hl.1 rfl (Nat.le_of_ble_eq_true rfl) dX7_passMinute_1) (fun s_1 H locs hw w => ?_)
  refine lv_aload_n (pc := 4) C.1 C.2.1 dX7_passMinute_4 rfl (lv_at hl 0 rfl) ?_
  refine g_callv (pc := 5) w (mm_runV (ci := 7) (q := (RX7, TX7, 9)) (As := []) (rest := []) C w (c_X7_thoseOutsideComeIn l G this h0 s_1 _ hw) h0 rfl rfl cv_X7_thoseOutsideComeIn ml_X7_204 ⟨Nat.le_of_ble_eq_true rfl, Nat.le_of_ble_eq_true rfl⟩ ⟨Nat.le_of_ble_eq_true rfl, Nat.le_of_ble_eq_true rfl⟩ rfl hl.1 rfl (Nat.le_of_ble_eq_true rfl) dX7_passMinute_5) (fun s_3 H locs hw w => ?_)
  refine lv_aload_n (pc := 8) C.1 C.2.1 dX7_passMinute_8 rfl (lv_at hl 0 rfl) ?_
  refine g_callv (pc := 9) w (mm_runV (ci := 7) (q := (RX7, TX7, 9)) (As := []) (rest := []) C w (c_X7_turnersGoOut l G this h0 s_3 _ hw) h0 rfl rfl cv_X7_turnersGoOut ml_X7_207 ⟨Nat.le_of_ble_eq_true rfl, Nat.le_of_ble_eq_true rfl⟩ ⟨Nat.le_of_ble_eq_true rfl, Nat.le_of_ble_eq_true rfl⟩ rfl hl.1 rfl (Nat.le_of_ble_eq_true rfl) dX7_passMinute_9) (fun s_5 H locs hw w => ?_)
  refine lv_iconst (pc := 12) (v := mm_I 0) C.1 C.2.1 dX7_passMinute_12 rfl ?_
  refine lv_istore_n (pc := 13) (lv' := [(1, .int (mm_I 0)), (0, .ref (mm_ad G this))]) C.1 C.2.1 dX7_passMinute_13 rfl hl (by decide) rfl (fun ls hl => ?_)
  exact hw  _ _ _ w (lv_sub hl [1, 0] rfl)
theorem mb_24 : (Int8.ofInt 24).toInt32 = mm_I 24 := by decide
theorem ms_255 : (Int16.ofInt 255).toInt32 = mm_I 255 := by decide
theorem fw_X8_1 : mm_Fw 8 1 TX8 7 .int := ⟨⟨tyX8, tyX8_ok⟩, nmX8, rfl, by decide +kernel⟩
def wp_X8_append (this : Nat) (a1 : Int) (s0 : mm_M) (post : mm_M → Prop) : Prop :=
  ∀ (L3 : Int → mm_M → Prop), 
  (∀ (v2 : Int) (s1 : mm_M), ((n32 v2 < 0 → post s1) ∧ (¬ n32 v2 < 0 → ((500 ≤ n32 (s1 this 1) → post s1) ∧ (¬ 500 ≤ n32 (s1 this 1) → ((0 ≤ s1 this 1 ∧ s1 this 1 < 500) ∧ (∀ s_2 : mm_M, s_2 = mm_up s1 (mm_rt this 0) (s1 this 1) (mm_and (mm_ushr a1 v2) 255) → (∀ s_3 : mm_M, s_3 = mm_up s_2 this 1 ((s_2 this 1) + 1) → (∀ v2_4 : Int, v2_4 = v2 + (-8) → L3 v2_4 s_3)))))))) → L3 v2 s1) →
  L3 24 s0
set_option maxRecDepth 100000 in
set_option maxHeartbeats 4000000 in
theorem c_X8_append (l : Launch) (G : mm_G) (this : Nat) (a1 : Int) (h0 : mm_ok this 18 0) (s0 : mm_M) (post : mm_M → Prop) (hw : wp_X8_append this a1 s0 post) : Met l yX8_append (mm_wm yX8_append cX8_append 3 none) (mm_rm 1) (va_Pc [.ref (mm_ad G this), .int (mm_I a1)] (mm_pre G s0)) (mm_Qv G post) 0 0 (mm_A G) := by
  refine mm_met (own := RX8) (by decide) rfl (Nat.le_of_ble_eq_true rfl) ?_
  intro p e s m args below meth c C hr hk
  unfold wp_X8_append at hw
  have hw := hw (fun (v2 : Int) (u : mm_M) => mm_X p l e (mm_rm 1) s m args below meth c (MQ below (mm_Qv G post) args s 0 0 (mm_A G)) G (mm_A G) 3 3 [(0, .ref (mm_ad G this)), (1, .int (mm_I a1)), (2, .int (mm_I v2))] [] u)
  have hw := hw (by
    intro v2 s1 hw  H locs ls w hl
    refine lv_iload_n (pc := 3) C.1 C.2.1 dX8_append_3 rfl (lv_at hl 2 rfl) ?_
    refine g_if_lt (pc := 4) (tgt := 49) C rfl dX8_append_4 (by decide) (fun hc => ?_) (fun hc => ?_)
    · have hw := hw.1 hc
      exact g_vret (pc := 49) C w hr hk hw dX8_append_49
    · have hw := hw.2 hc
      refine lv_aload_n (pc := 7) C.1 C.2.1 dX8_append_7 rfl (lv_at hl 0 rfl) ?_
      refine g_geti (pc := 8) C w h0 ff_X8_1 lk_X8_15 dX8_append_8 ?_
      refine lv_sipush (pc := 11) C.1 C.2.1 dX8_append_11 ms_500 ?_
      refine g_icmp_ge (pc := 14) (tgt := 49) C rfl mn_500 dX8_append_14 (by decide) (fun hc => ?_) (fun hc => ?_)
      · have hw := hw.1 hc
        exact g_vret (pc := 49) C w hr hk hw dX8_append_49
      · have hw := hw.2 hc
        refine lv_aload_n (pc := 17) C.1 C.2.1 dX8_append_17 rfl (lv_at hl 0 rfl) ?_
        refine g_getr (pc := 18) C w h0 ff_X8_0 lk_X8_9 dX8_append_18 ?_
        refine lv_aload_n (pc := 21) C.1 C.2.1 dX8_append_21 rfl (lv_at hl 0 rfl) ?_
        refine g_geti (pc := 22) C w h0 ff_X8_1 lk_X8_15 dX8_append_22 ?_
        refine lv_iload_n (pc := 25) C.1 C.2.1 dX8_append_25 rfl (lv_at hl 1 rfl) ?_
        refine lv_iload_n (pc := 26) C.1 C.2.1 dX8_append_26 rfl (lv_at hl 2 rfl) ?_
        refine g_iushr (pc := 27) C dX8_append_27 ?_
        refine lv_sipush (pc := 28) C.1 C.2.1 dX8_append_28 ms_255 ?_
        refine g_iand (pc := 31) C dX8_append_31 ?_
        obtain ⟨hi, hw⟩ := hw
        refine g_iast (pc := 32) C w (ro_X8_0 h0) hi  dX8_append_32 (fun s_2 H locs es_2 w => ?_)
        have hw := hw s_2 es_2
        refine lv_aload_n (pc := 33) C.1 C.2.1 dX8_append_33 rfl (lv_at hl 0 rfl) ?_
        refine lv_dup (pc := 34) C.1 C.2.1 dX8_append_34 rfl ?_
        refine g_geti (pc := 35) C w h0 ff_X8_1 lk_X8_15 dX8_append_35 ?_
        refine lv_iconst (pc := 38) (v := mm_I 1) C.1 C.2.1 dX8_append_38 rfl ?_
        refine g_iadd (pc := 39) C dX8_append_39 ?_
        refine g_puti (pc := 40) C w h0 ff_X8_1 fw_X8_1 lk_X8_15 dX8_append_40 (fun s_3 H locs es_3 w => ?_)
        have hw := hw s_3 es_3
        refine g_iinc (pc := 43) (k := 2) C dX8_append_43 hl rfl (by decide) (fun v2_4 ev2_4 ls hl => ?_)
        have hw := hw v2_4 ev2_4
        have hl : lv_has ls 3 [(2, .int (mm_I v2_4)), (0, .ref (mm_ad G this)), (1, .int (mm_I a1))] := hl
        refine lv_goto (pc := 46) (tgt := 3) C.1 C.2.1 dX8_append_46 (by decide) ?_
        exact hw  _ _ _ w (lv_sub hl [1, 2, 0] rfl))
  intro H locs ls w hl
  have hl : lv_has ls 3 [(0, .ref (mm_ad G this)), (1, .int (mm_I a1))] := hl
  refine lv_bipush (pc := 0) C.1 C.2.1 dX8_append_0 mb_24 ?_
  refine lv_istore_n (pc := 2) (lv' := [(2, .int (mm_I 24)), (0, .ref (mm_ad G this)), (1, .int (mm_I a1))]) C.1 C.2.1 dX8_append_2 rfl hl (by decide) rfl (fun ls hl => ?_)
  exact hw  _ _ _ w (lv_sub hl [1, 2, 0] rfl)
def wp_X8_shorten (this : Nat) (a1 : Int) (s0 : mm_M) (post : Int → mm_M → Prop) : Prop :=
  ((n32 a1 < 0 → post 0 s0) ∧ (¬ n32 a1 < 0 → ((n32 a1 ≤ n32 (s0 this 1) → (∀ s_1 : mm_M, s_1 = mm_up s0 this 1 a1 → post 1 s_1)) ∧ (¬ n32 a1 ≤ n32 (s0 this 1) → post 0 s0))))
set_option maxRecDepth 100000 in
set_option maxHeartbeats 4000000 in
theorem c_X8_shorten (l : Launch) (G : mm_G) (this : Nat) (a1 : Int) (h0 : mm_ok this 18 0) (s0 : mm_M) (post : Int → mm_M → Prop) (hw : wp_X8_shorten this a1 s0 post) : Met l yX8_shorten (mm_wm yX8_shorten cX8_shorten 2 (some .boolean)) (mm_rm 1) (va_Pc [.ref (mm_ad G this), .int (mm_I a1)] (mm_pre G s0)) (mm_Qi G post) 0 0 (mm_A G) := by
  refine mm_met (own := RX8) (by decide) rfl (Nat.le_of_ble_eq_true rfl) ?_
  intro p e s m args below meth c C hr hk
  unfold wp_X8_shorten at hw
  intro H locs ls w hl
  have hl : lv_has ls 2 [(0, .ref (mm_ad G this)), (1, .int (mm_I a1))] := hl
  refine lv_iload_n (pc := 0) C.1 C.2.1 dX8_shorten_0 rfl (lv_at hl 1 rfl) ?_
  refine g_if_lt (pc := 1) (tgt := 12) C rfl dX8_shorten_1 (by decide) (fun hc => ?_) (fun hc => ?_)
  · have hw := hw.1 hc
    refine lv_iconst (pc := 12) (v := mm_I 0) C.1 C.2.1 dX8_shorten_12 rfl ?_
    exact g_zret (pc := 13) C w hr hk (by decide) hw dX8_shorten_13
  · have hw := hw.2 hc
    refine lv_iload_n (pc := 4) C.1 C.2.1 dX8_shorten_4 rfl (lv_at hl 1 rfl) ?_
    refine lv_aload_n (pc := 5) C.1 C.2.1 dX8_shorten_5 rfl (lv_at hl 0 rfl) ?_
    refine g_geti (pc := 6) C w h0 ff_X8_1 lk_X8_15 dX8_shorten_6 ?_
    refine g_icmp_le (pc := 9) (tgt := 14) C rfl rfl dX8_shorten_9 (by decide) (fun hc => ?_) (fun hc => ?_)
    · have hw := hw.1 hc
      refine lv_aload_n (pc := 14) C.1 C.2.1 dX8_shorten_14 rfl (lv_at hl 0 rfl) ?_
      refine lv_iload_n (pc := 15) C.1 C.2.1 dX8_shorten_15 rfl (lv_at hl 1 rfl) ?_
      refine g_puti (pc := 16) C w h0 ff_X8_1 fw_X8_1 lk_X8_15 dX8_shorten_16 (fun s_1 H locs es_1 w => ?_)
      have hw := hw s_1 es_1
      refine lv_iconst (pc := 19) (v := mm_I 1) C.1 C.2.1 dX8_shorten_19 rfl ?_
      exact g_zret (pc := 20) C w hr hk (by decide) hw dX8_shorten_20
    · have hw := hw.2 hc
      refine lv_iconst (pc := 12) (v := mm_I 0) C.1 C.2.1 dX8_shorten_12 rfl ?_
      exact g_zret (pc := 13) C w hr hk (by decide) hw dX8_shorten_13
def wp_X8_wordIsLike (this : Nat) (a1 : Int) (a2 : Int) (s0 : mm_M) (post : Int → mm_M → Prop) : Prop :=
  ∀ (L58 : Int → mm_M → Prop), 
  (∀ (v3 : Int) (s1 : mm_M), ((n32 (s1 this 2) ≤ n32 v3 → post 1 s1) ∧ (¬ n32 (s1 this 2) ≤ n32 v3 → ((0 ≤ v3 ∧ v3 < 500) ∧ ((0 ≤ (a1 + v3) - (s1 this 3) ∧ (a1 + v3) - (s1 this 3) < 500) ∧ ((n32 (s1 (mm_rt this 0) v3) = n32 (s1 (mm_rt this 0) ((a1 + v3) - (s1 this 3))) → (∀ v3_2 : Int, v3_2 = v3 + 1 → L58 v3_2 s1)) ∧ (¬ n32 (s1 (mm_rt this 0) v3) = n32 (s1 (mm_rt this 0) ((a1 + v3) - (s1 this 3))) → post 0 s1)))))) → L58 v3 s1) →
  ((¬ n32 (s0 this 4) = 1 → post 0 s0) ∧ (n32 (s0 this 4) = 1 → ((¬ n32 ((s0 this 2) - (s0 this 3)) = n32 (a2 - a1) → post 0 s0) ∧ (n32 ((s0 this 2) - (s0 this 3)) = n32 (a2 - a1) → ((n32 (s0 this 3) < 0 → post 0 s0) ∧ (¬ n32 (s0 this 3) < 0 → ((n32 a1 < 0 → post 0 s0) ∧ (¬ n32 a1 < 0 → ((500 < n32 (s0 this 2) → post 0 s0) ∧ (¬ 500 < n32 (s0 this 2) → ((n32 a2 ≤ 500 → (∀ v3_1 : Int, v3_1 = s0 this 3 → L58 v3_1 s0)) ∧ (¬ n32 a2 ≤ 500 → post 0 s0))))))))))))
set_option maxRecDepth 100000 in
set_option maxHeartbeats 4000000 in
theorem c_X8_wordIsLike (l : Launch) (G : mm_G) (this : Nat) (a1 : Int) (a2 : Int) (h0 : mm_ok this 18 0) (s0 : mm_M) (post : Int → mm_M → Prop) (hw : wp_X8_wordIsLike this a1 a2 s0 post) : Met l yX8_wordIsLike (mm_wm yX8_wordIsLike cX8_wordIsLike 4 (some .boolean)) (mm_rm 1) (va_Pc [.ref (mm_ad G this), .int (mm_I a1), .int (mm_I a2)] (mm_pre G s0)) (mm_Qi G post) 0 0 (mm_A G) := by
  refine mm_met (own := RX8) (by decide) rfl (Nat.le_of_ble_eq_true rfl) ?_
  intro p e s m args below meth c C hr hk
  unfold wp_X8_wordIsLike at hw
  have hw := hw (fun (v3 : Int) (u : mm_M) => mm_X p l e (mm_rm 1) s m args below meth c (MQ below (mm_Qi G post) args s 0 0 (mm_A G)) G (mm_A G) 4 58 [(0, .ref (mm_ad G this)), (1, .int (mm_I a1)), (3, .int (mm_I v3))] [] u)
  have hw := hw (by
    intro v3 s1 hw  H locs ls w hl
    refine lv_iload_n (pc := 58) C.1 C.2.1 dX8_wordIsLike_58 rfl (lv_at hl 2 rfl) ?_
    refine lv_aload_n (pc := 59) C.1 C.2.1 dX8_wordIsLike_59 rfl (lv_at hl 0 rfl) ?_
    refine g_geti (pc := 60) C w h0 ff_X8_2 lk_X8_19 dX8_wordIsLike_60 ?_
    refine g_icmp_ge (pc := 63) (tgt := 96) C rfl rfl dX8_wordIsLike_63 (by decide) (fun hc => ?_) (fun hc => ?_)
    · have hw := hw.1 hc
      refine lv_iconst (pc := 96) (v := mm_I 1) C.1 C.2.1 dX8_wordIsLike_96 rfl ?_
      exact g_zret (pc := 97) C w hr hk (by decide) hw dX8_wordIsLike_97
    · have hw := hw.2 hc
      refine lv_aload_n (pc := 66) C.1 C.2.1 dX8_wordIsLike_66 rfl (lv_at hl 0 rfl) ?_
      refine g_getr (pc := 67) C w h0 ff_X8_0 lk_X8_9 dX8_wordIsLike_67 ?_
      refine lv_iload_n (pc := 70) C.1 C.2.1 dX8_wordIsLike_70 rfl (lv_at hl 2 rfl) ?_
      obtain ⟨hi, hw⟩ := hw
      refine g_iald (pc := 71) C w (ro_X8_0 h0) hi dX8_wordIsLike_71 ?_
      refine lv_aload_n (pc := 72) C.1 C.2.1 dX8_wordIsLike_72 rfl (lv_at hl 0 rfl) ?_
      refine g_getr (pc := 73) C w h0 ff_X8_0 lk_X8_9 dX8_wordIsLike_73 ?_
      refine lv_iload_n (pc := 76) C.1 C.2.1 dX8_wordIsLike_76 rfl (lv_at hl 1 rfl) ?_
      refine lv_iload_n (pc := 77) C.1 C.2.1 dX8_wordIsLike_77 rfl (lv_at hl 2 rfl) ?_
      refine g_iadd (pc := 78) C dX8_wordIsLike_78 ?_
      refine lv_aload_n (pc := 79) C.1 C.2.1 dX8_wordIsLike_79 rfl (lv_at hl 0 rfl) ?_
      refine g_geti (pc := 80) C w h0 ff_X8_3 lk_X8_31 dX8_wordIsLike_80 ?_
      refine g_isub (pc := 83) C dX8_wordIsLike_83 ?_
      obtain ⟨hi, hw⟩ := hw
      refine g_iald (pc := 84) C w (ro_X8_0 h0) hi dX8_wordIsLike_84 ?_
      refine g_icmp_eq (pc := 85) (tgt := 90) C rfl rfl dX8_wordIsLike_85 (by decide) (fun hc => ?_) (fun hc => ?_)
      · have hw := hw.1 hc
        refine g_iinc (pc := 90) (k := 2) C dX8_wordIsLike_90 hl rfl (by decide) (fun v3_2 ev3_2 ls hl => ?_)
        have hw := hw v3_2 ev3_2
        have hl : lv_has ls 4 [(3, .int (mm_I v3_2)), (0, .ref (mm_ad G this)), (1, .int (mm_I a1))] := hl
        refine lv_goto (pc := 93) (tgt := 58) C.1 C.2.1 dX8_wordIsLike_93 (by decide) ?_
        exact hw  _ _ _ w (lv_sub hl [1, 2, 0] rfl)
      · have hw := hw.2 hc
        refine lv_iconst (pc := 88) (v := mm_I 0) C.1 C.2.1 dX8_wordIsLike_88 rfl ?_
        exact g_zret (pc := 89) C w hr hk (by decide) hw dX8_wordIsLike_89)
  intro H locs ls w hl
  have hl : lv_has ls 4 [(0, .ref (mm_ad G this)), (1, .int (mm_I a1)), (2, .int (mm_I a2))] := hl
  refine lv_aload_n (pc := 0) C.1 C.2.1 dX8_wordIsLike_0 rfl (lv_at hl 0 rfl) ?_
  refine g_geti (pc := 1) C w h0 ff_X8_4 lk_X8_28 dX8_wordIsLike_1 ?_
  refine lv_iconst (pc := 4) (v := mm_I 1) C.1 C.2.1 dX8_wordIsLike_4 rfl ?_
  refine g_icmp_ne (pc := 5) (tgt := 51) C rfl mn_1 dX8_wordIsLike_5 (by decide) (fun hc => ?_) (fun hc => ?_)
  · have hw := hw.1 hc
    refine lv_iconst (pc := 51) (v := mm_I 0) C.1 C.2.1 dX8_wordIsLike_51 rfl ?_
    exact g_zret (pc := 52) C w hr hk (by decide) hw dX8_wordIsLike_52
  · have hw := hw.2 hc
    refine lv_aload_n (pc := 8) C.1 C.2.1 dX8_wordIsLike_8 rfl (lv_at hl 0 rfl) ?_
    refine g_geti (pc := 9) C w h0 ff_X8_2 lk_X8_19 dX8_wordIsLike_9 ?_
    refine lv_aload_n (pc := 12) C.1 C.2.1 dX8_wordIsLike_12 rfl (lv_at hl 0 rfl) ?_
    refine g_geti (pc := 13) C w h0 ff_X8_3 lk_X8_31 dX8_wordIsLike_13 ?_
    refine g_isub (pc := 16) C dX8_wordIsLike_16 ?_
    refine lv_iload_n (pc := 17) C.1 C.2.1 dX8_wordIsLike_17 rfl (lv_at hl 2 rfl) ?_
    refine lv_iload_n (pc := 18) C.1 C.2.1 dX8_wordIsLike_18 rfl (lv_at hl 1 rfl) ?_
    refine g_isub (pc := 19) C dX8_wordIsLike_19 ?_
    refine g_icmp_ne (pc := 20) (tgt := 51) C rfl rfl dX8_wordIsLike_20 (by decide) (fun hc => ?_) (fun hc => ?_)
    · have hw := hw.1 hc
      refine lv_iconst (pc := 51) (v := mm_I 0) C.1 C.2.1 dX8_wordIsLike_51 rfl ?_
      exact g_zret (pc := 52) C w hr hk (by decide) hw dX8_wordIsLike_52
    · have hw := hw.2 hc
      refine lv_aload_n (pc := 23) C.1 C.2.1 dX8_wordIsLike_23 rfl (lv_at hl 0 rfl) ?_
      refine g_geti (pc := 24) C w h0 ff_X8_3 lk_X8_31 dX8_wordIsLike_24 ?_
      refine g_if_lt (pc := 27) (tgt := 51) C rfl dX8_wordIsLike_27 (by decide) (fun hc => ?_) (fun hc => ?_)
      · have hw := hw.1 hc
        refine lv_iconst (pc := 51) (v := mm_I 0) C.1 C.2.1 dX8_wordIsLike_51 rfl ?_
        exact g_zret (pc := 52) C w hr hk (by decide) hw dX8_wordIsLike_52
      · have hw := hw.2 hc
        refine lv_iload_n (pc := 30) C.1 C.2.1 dX8_wordIsLike_30 rfl (lv_at hl 1 rfl) ?_
        refine g_if_lt (pc := 31) (tgt := 51) C rfl dX8_wordIsLike_31 (by decide) (fun hc => ?_) (fun hc => ?_)
        · have hw := hw.1 hc
          refine lv_iconst (pc := 51) (v := mm_I 0) C.1 C.2.1 dX8_wordIsLike_51 rfl ?_
          exact g_zret (pc := 52) C w hr hk (by decide) hw dX8_wordIsLike_52
        · have hw := hw.2 hc
          refine lv_aload_n (pc := 34) C.1 C.2.1 dX8_wordIsLike_34 rfl (lv_at hl 0 rfl) ?_
          refine g_geti (pc := 35) C w h0 ff_X8_2 lk_X8_19 dX8_wordIsLike_35 ?_
          refine lv_sipush (pc := 38) C.1 C.2.1 dX8_wordIsLike_38 ms_500 ?_
          refine g_icmp_gt (pc := 41) (tgt := 51) C rfl mn_500 dX8_wordIsLike_41 (by decide) (fun hc => ?_) (fun hc => ?_)
          · have hw := hw.1 hc
            refine lv_iconst (pc := 51) (v := mm_I 0) C.1 C.2.1 dX8_wordIsLike_51 rfl ?_
            exact g_zret (pc := 52) C w hr hk (by decide) hw dX8_wordIsLike_52
          · have hw := hw.2 hc
            refine lv_iload_n (pc := 44) C.1 C.2.1 dX8_wordIsLike_44 rfl (lv_at hl 2 rfl) ?_
            refine lv_sipush (pc := 45) C.1 C.2.1 dX8_wordIsLike_45 ms_500 ?_
            refine g_icmp_le (pc := 48) (tgt := 53) C rfl mn_500 dX8_wordIsLike_48 (by decide) (fun hc => ?_) (fun hc => ?_)
            · have hw := hw.1 hc
              refine lv_aload_n (pc := 53) C.1 C.2.1 dX8_wordIsLike_53 rfl (lv_at hl 0 rfl) ?_
              refine g_geti (pc := 54) C w h0 ff_X8_3 lk_X8_31 dX8_wordIsLike_54 ?_
              refine g_istore_n (pc := 57) C dX8_wordIsLike_57 rfl hl (by decide) (fun v3_1 ev3_1 ls hl => ?_)
              have hw := hw v3_1 ev3_1
              have hl : lv_has ls 4 [(3, .int (mm_I v3_1)), (0, .ref (mm_ad G this)), (1, .int (mm_I a1)), (2, .int (mm_I a2))] := hl
              exact hw  _ _ _ w (lv_sub hl [1, 2, 0] rfl)
            · have hw := hw.2 hc
              refine lv_iconst (pc := 51) (v := mm_I 0) C.1 C.2.1 dX8_wordIsLike_51 rfl ?_
              exact g_zret (pc := 52) C w hr hk (by decide) hw dX8_wordIsLike_52
def wp_X8_takeNumber (this : Nat) (a1 : Int) (a2 : Int) (s0 : mm_M) (post : Int → mm_M → Prop) : Prop :=
  ∀ (L32 : mm_M → Prop), 
  (∀  (s1 : mm_M), (wp_X8_refuse this s1 (fun s_4 => post (-1) s_4)) → L32 s1) →
  ((¬ n32 (s0 this 6) = (-1) → L32 s0) ∧ (n32 (s0 this 6) = (-1) → ((¬ n32 (s0 this 4) = 2 → L32 s0) ∧ (n32 (s0 this 4) = 2 → ((n32 (s0 this 5) < n32 a1 → L32 s0) ∧ (¬ n32 (s0 this 5) < n32 a1 → ((n32 (s0 this 5) ≤ n32 a2 → (∀ v3_1 : Int, v3_1 = s0 this 5 → (wp_X8_advance this s0 (fun s_2 => post v3_1 s_2)))) ∧ (¬ n32 (s0 this 5) ≤ n32 a2 → L32 s0))))))))
set_option maxRecDepth 100000 in
set_option maxHeartbeats 4000000 in
theorem c_X8_takeNumber (l : Launch) (G : mm_G) (this : Nat) (a1 : Int) (a2 : Int) (h0 : mm_ok this 18 0) (s0 : mm_M) (post : Int → mm_M → Prop) (hw : wp_X8_takeNumber this a1 a2 s0 post) : Met l yX8_takeNumber (mm_wm yX8_takeNumber cX8_takeNumber 4 (some .int)) (mm_rm 4) (va_Pc [.ref (mm_ad G this), .int (mm_I a1), .int (mm_I a2)] (mm_pre G s0)) (mm_Qi G post) 0 0 (mm_A G) := by
  refine mm_met (own := RX8) (by decide) rfl (Nat.le_of_ble_eq_true rfl) ?_
  intro p e s m args below meth c C hr hk
  unfold wp_X8_takeNumber at hw
  have hw := hw (fun  (u : mm_M) => mm_X p l e (mm_rm 4) s m args below meth c (MQ below (mm_Qi G post) args s 0 0 (mm_A G)) G (mm_A G) 4 32 [(0, .ref (mm_ad G this))] [] u)
  have hw := hw (by
    intro  s1 hw  H locs ls w hl
    refine lv_aload_n (pc := 32) C.1 C.2.1 dX8_takeNumber_32 rfl (lv_at hl 0 rfl) ?_
    refine g_callv (pc := 33) w (mm_runV (ci := 8) (q := (RX8, TX8, 7)) (As := []) (rest := []) C w (c_X8_refuse l G this h0 s1 _ hw) h0 rfl rfl cv_X8_refuse ml_X8_57 ⟨Nat.le_of_ble_eq_true rfl, Nat.le_of_ble_eq_true rfl⟩ ⟨Nat.le_of_ble_eq_true rfl, Nat.le_of_ble_eq_true rfl⟩ rfl hl.1 rfl (Nat.le_of_ble_eq_true rfl) dX8_takeNumber_33) (fun s_4 H locs hw w => ?_)
    refine lv_iconst (pc := 36) (v := mm_I (-1)) C.1 C.2.1 dX8_takeNumber_36 rfl ?_
    exact g_iret (pc := 37) C w hr hk hw dX8_takeNumber_37)
  intro H locs ls w hl
  have hl : lv_has ls 4 [(0, .ref (mm_ad G this)), (1, .int (mm_I a1)), (2, .int (mm_I a2))] := hl
  refine lv_aload_n (pc := 0) C.1 C.2.1 dX8_takeNumber_0 rfl (lv_at hl 0 rfl) ?_
  refine g_geti (pc := 1) C w h0 ff_X8_6 lk_X8_22 dX8_takeNumber_1 ?_
  refine lv_iconst (pc := 4) (v := mm_I (-1)) C.1 C.2.1 dX8_takeNumber_4 rfl ?_
  refine g_icmp_ne (pc := 5) (tgt := 32) C rfl mn_m1 dX8_takeNumber_5 (by decide) (fun hc => ?_) (fun hc => ?_)
  · have hw := hw.1 hc
    exact hw  _ _ _ w (lv_sub hl [0] rfl)
  · have hw := hw.2 hc
    refine lv_aload_n (pc := 8) C.1 C.2.1 dX8_takeNumber_8 rfl (lv_at hl 0 rfl) ?_
    refine g_geti (pc := 9) C w h0 ff_X8_4 lk_X8_28 dX8_takeNumber_9 ?_
    refine lv_iconst (pc := 12) (v := mm_I 2) C.1 C.2.1 dX8_takeNumber_12 rfl ?_
    refine g_icmp_ne (pc := 13) (tgt := 32) C rfl mn_2 dX8_takeNumber_13 (by decide) (fun hc => ?_) (fun hc => ?_)
    · have hw := hw.1 hc
      exact hw  _ _ _ w (lv_sub hl [0] rfl)
    · have hw := hw.2 hc
      refine lv_aload_n (pc := 16) C.1 C.2.1 dX8_takeNumber_16 rfl (lv_at hl 0 rfl) ?_
      refine g_geti (pc := 17) C w h0 ff_X8_5 lk_X8_38 dX8_takeNumber_17 ?_
      refine lv_iload_n (pc := 20) C.1 C.2.1 dX8_takeNumber_20 rfl (lv_at hl 1 rfl) ?_
      refine g_icmp_lt (pc := 21) (tgt := 32) C rfl rfl dX8_takeNumber_21 (by decide) (fun hc => ?_) (fun hc => ?_)
      · have hw := hw.1 hc
        exact hw  _ _ _ w (lv_sub hl [0] rfl)
      · have hw := hw.2 hc
        refine lv_aload_n (pc := 24) C.1 C.2.1 dX8_takeNumber_24 rfl (lv_at hl 0 rfl) ?_
        refine g_geti (pc := 25) C w h0 ff_X8_5 lk_X8_38 dX8_takeNumber_25 ?_
        refine lv_iload_n (pc := 28) C.1 C.2.1 dX8_takeNumber_28 rfl (lv_at hl 2 rfl) ?_
        refine g_icmp_le (pc := 29) (tgt := 38) C rfl rfl dX8_takeNumber_29 (by decide) (fun hc => ?_) (fun hc => ?_)
        · have hw := hw.1 hc
          refine lv_aload_n (pc := 38) C.1 C.2.1 dX8_takeNumber_38 rfl (lv_at hl 0 rfl) ?_
          refine g_geti (pc := 39) C w h0 ff_X8_5 lk_X8_38 dX8_takeNumber_39 ?_
          refine g_istore_n (pc := 42) C dX8_takeNumber_42 rfl hl (by decide) (fun v3_1 ev3_1 ls hl => ?_)
          have hw := hw v3_1 ev3_1
          have hl : lv_has ls 4 [(3, .int (mm_I v3_1)), (0, .ref (mm_ad G this)), (1, .int (mm_I a1)), (2, .int (mm_I a2))] := hl
          refine lv_aload_n (pc := 43) C.1 C.2.1 dX8_takeNumber_43 rfl (lv_at hl 1 rfl) ?_
          refine g_callv (pc := 44) w (mm_runV (ci := 8) (q := (RX8, TX8, 7)) (As := []) (rest := []) C w (c_X8_advance l G this h0 s0 _ hw) h0 rfl rfl cv_X8_advance ml_X8_25 ⟨Nat.le_of_ble_eq_true rfl, Nat.le_of_ble_eq_true rfl⟩ ⟨Nat.le_of_ble_eq_true rfl, Nat.le_of_ble_eq_true rfl⟩ rfl hl.1 rfl (Nat.le_of_ble_eq_true rfl) dX8_takeNumber_44) (fun s_2 H locs hw w => ?_)
          refine lv_iload_n (pc := 47) C.1 C.2.1 dX8_takeNumber_47 rfl (lv_at hl 0 rfl) ?_
          exact g_iret (pc := 48) C w hr hk hw dX8_takeNumber_48
        · have hw := hw.2 hc
          exact hw  _ _ _ w (lv_sub hl [0] rfl)
def wp_X9_tellCounter (this : Nat) (a1 : Int) (a2 : Int) (s0 : mm_M) (post : mm_M → Prop) : Prop :=
  ((n32 (s0 this 4) < 0 → post s0) ∧ (¬ n32 (s0 this 4) < 0 → ((3 ≤ n32 (s0 this 4) → post s0) ∧ (¬ 3 ≤ n32 (s0 this 4) → ((0 ≤ ((s0 this 4) * 3) + a1 ∧ ((s0 this 4) * 3) + a1 < 9) ∧ (∀ s_1 : mm_M, s_1 = mm_up s0 (mm_rt this 0) (((s0 this 4) * 3) + a1) a2 → post s_1))))))
set_option maxRecDepth 100000 in
set_option maxHeartbeats 4000000 in
theorem c_X9_tellCounter (l : Launch) (G : mm_G) (this : Nat) (a1 : Int) (a2 : Int) (h0 : mm_ok this 19 0) (s0 : mm_M) (post : mm_M → Prop) (hw : wp_X9_tellCounter this a1 a2 s0 post) : Met l yX9_tellCounter (mm_wm yX9_tellCounter cX9_tellCounter 3 none) (mm_rm 1) (va_Pc [.ref (mm_ad G this), .int (mm_I a1), .int (mm_I a2)] (mm_pre G s0)) (mm_Qv G post) 0 0 (mm_A G) := by
  refine mm_met (own := RX9) (by decide) rfl (Nat.le_of_ble_eq_true rfl) ?_
  intro p e s m args below meth c C hr hk
  unfold wp_X9_tellCounter at hw
  intro H locs ls w hl
  have hl : lv_has ls 3 [(0, .ref (mm_ad G this)), (1, .int (mm_I a1)), (2, .int (mm_I a2))] := hl
  refine lv_aload_n (pc := 0) C.1 C.2.1 dX9_tellCounter_0 rfl (lv_at hl 0 rfl) ?_
  refine g_geti (pc := 1) C w h0 ff_X9_4 lk_X9_34 dX9_tellCounter_1 ?_
  refine g_if_lt (pc := 4) (tgt := 29) C rfl dX9_tellCounter_4 (by decide) (fun hc => ?_) (fun hc => ?_)
  · have hw := hw.1 hc
    exact g_vret (pc := 29) C w hr hk hw dX9_tellCounter_29
  · have hw := hw.2 hc
    refine lv_aload_n (pc := 7) C.1 C.2.1 dX9_tellCounter_7 rfl (lv_at hl 0 rfl) ?_
    refine g_geti (pc := 8) C w h0 ff_X9_4 lk_X9_34 dX9_tellCounter_8 ?_
    refine lv_iconst (pc := 11) (v := mm_I 3) C.1 C.2.1 dX9_tellCounter_11 rfl ?_
    refine g_icmp_ge (pc := 12) (tgt := 29) C rfl mn_3 dX9_tellCounter_12 (by decide) (fun hc => ?_) (fun hc => ?_)
    · have hw := hw.1 hc
      exact g_vret (pc := 29) C w hr hk hw dX9_tellCounter_29
    · have hw := hw.2 hc
      refine lv_aload_n (pc := 15) C.1 C.2.1 dX9_tellCounter_15 rfl (lv_at hl 0 rfl) ?_
      refine g_getr (pc := 16) C w h0 ff_X9_0 lk_X9_9 dX9_tellCounter_16 ?_
      refine lv_aload_n (pc := 19) C.1 C.2.1 dX9_tellCounter_19 rfl (lv_at hl 0 rfl) ?_
      refine g_geti (pc := 20) C w h0 ff_X9_4 lk_X9_34 dX9_tellCounter_20 ?_
      refine lv_iconst (pc := 23) (v := mm_I 3) C.1 C.2.1 dX9_tellCounter_23 rfl ?_
      refine g_imul (pc := 24) C dX9_tellCounter_24 ?_
      refine lv_iload_n (pc := 25) C.1 C.2.1 dX9_tellCounter_25 rfl (lv_at hl 1 rfl) ?_
      refine g_iadd (pc := 26) C dX9_tellCounter_26 ?_
      refine lv_iload_n (pc := 27) C.1 C.2.1 dX9_tellCounter_27 rfl (lv_at hl 2 rfl) ?_
      obtain ⟨hi, hw⟩ := hw
      refine g_iast (pc := 28) C w (ro_X9_0 h0) hi  dX9_tellCounter_28 (fun s_1 H locs es_1 w => ?_)
      have hw := hw s_1 es_1
      exact g_vret (pc := 29) C w hr hk hw dX9_tellCounter_29
theorem ml_X9_83 : Cond.methodLink RX9 83 yX8_advance ∈ mm_ws := (mt_3 19 rfl rfl)
theorem cv_X8_takeNumber : mm_V yX8_takeNumber cX8_takeNumber 4 (some .int) 2 := ⟨(mt_3 23 rfl rfl), (mt_3 21 rfl rfl), (mt_3 22 rfl rfl), (mt_1 3 rfl rfl), by decide, by decide, by decide +kernel⟩
theorem ml_X9_86 : Cond.methodLink RX9 86 yX8_takeNumber ∈ mm_ws := (mt_3 20 rfl rfl)
theorem cv_X9_tellCounter : mm_V yX9_tellCounter cX9_tellCounter 3 none 2 := ⟨(mt_3 31 rfl rfl), (mt_3 30 rfl rfl), (mp_1 5 rfl rfl), (mt_1 4 rfl rfl), by decide, by decide, by decide +kernel⟩
theorem ml_X9_94 : Cond.methodLink RX9 94 yX9_tellCounter ∈ mm_ws := (mt_3 28 rfl rfl)
theorem ml_X9_90 : Cond.methodLink RX9 90 yX8_takeSign ∈ mm_ws := (mt_3 32 rfl rfl)
theorem fw_X9_4 : mm_Fw 9 4 TX9 9 .int := ⟨⟨tyX9, tyX9_ok⟩, nmX9, rfl, by decide +kernel⟩
def wp_X9_readCounter (this : Nat) (a1 : Nat) (s0 : mm_M) (post : mm_M → Prop) : Prop :=
  (wp_X8_advance a1 s0 (fun s_1 => (wp_X8_takeNumber a1 0 8 s_1 (fun r_4 s_3 => (wp_X9_tellCounter this 0 r_4 s_3 (fun s_5 => (wp_X8_takeNumber a1 1 9 s_5 (fun r_8 s_7 => (wp_X9_tellCounter this 1 r_8 s_7 (fun s_9 => (wp_X8_takeNumber a1 0 99 s_9 (fun r_12 s_11 => (wp_X9_tellCounter this 2 r_12 s_11 (fun s_13 => (wp_X8_takeSign a1 59 s_13 (fun r_16 s_15 => ((n32 r_16 = 0 → post s_15) ∧ (¬ n32 r_16 = 0 → (∀ s_17 : mm_M, s_17 = mm_up s_15 this 4 ((s_15 this 4) + 1) → post s_17)))))))))))))))))))
set_option maxRecDepth 100000 in
set_option maxHeartbeats 4000000 in
theorem c_X9_readCounter (l : Launch) (G : mm_G) (this : Nat) (a1 : Nat) (h0 : mm_ok this 19 0) (h1 : mm_ok a1 18 0) (s0 : mm_M) (post : mm_M → Prop) (hw : wp_X9_readCounter this a1 s0 post) : Met l yX9_readCounter (mm_wm yX9_readCounter cX9_readCounter 2 none) (mm_rm 5) (va_Pc [.ref (mm_ad G this), .ref (mm_ad G a1)] (mm_pre G s0)) (mm_Qv G post) 0 0 (mm_A G) := by
  refine mm_met (own := RX9) (by decide) rfl (Nat.le_of_ble_eq_true rfl) ?_
  intro p e s m args below meth c C hr hk
  unfold wp_X9_readCounter at hw
  intro H locs ls w hl
  have hl : lv_has ls 2 [(0, .ref (mm_ad G this)), (1, .ref (mm_ad G a1))] := hl
  refine lv_aload_n (pc := 0) C.1 C.2.1 dX9_readCounter_0 rfl (lv_at hl 1 rfl) ?_
  refine g_callv (pc := 1) w (mm_runV (ci := 8) (q := (RX8, TX8, 7)) (As := []) (rest := []) C w (c_X8_advance l G a1 h1 s0 _ hw) h1 rfl rfl cv_X8_advance ml_X9_83 ⟨Nat.le_of_ble_eq_true rfl, Nat.le_of_ble_eq_true rfl⟩ ⟨Nat.le_of_ble_eq_true rfl, Nat.le_of_ble_eq_true rfl⟩ rfl hl.1 rfl (Nat.le_of_ble_eq_true rfl) dX9_readCounter_1) (fun s_1 H locs hw w => ?_)
  refine lv_aload_n (pc := 4) C.1 C.2.1 dX9_readCounter_4 rfl (lv_at hl 0 rfl) ?_
  refine lv_iconst (pc := 5) (v := mm_I 0) C.1 C.2.1 dX9_readCounter_5 rfl ?_
  refine lv_aload_n (pc := 6) C.1 C.2.1 dX9_readCounter_6 rfl (lv_at hl 1 rfl) ?_
  refine lv_iconst (pc := 7) (v := mm_I 0) C.1 C.2.1 dX9_readCounter_7 rfl ?_
  refine lv_bipush (pc := 8) C.1 C.2.1 dX9_readCounter_8 mb_8 ?_
  refine g_calli (pc := 10) w (mm_runV (ci := 8) (q := (RX8, TX8, 7)) (As := [.int (mm_I 0), .int (mm_I 8)]) (rest := [.int (mm_I 0), .ref (mm_ad G this)]) C w (c_X8_takeNumber l G a1 0 8 h1 s_1 _ hw) h1 rfl rfl cv_X8_takeNumber ml_X9_86 ⟨Nat.le_of_ble_eq_true rfl, Nat.le_of_ble_eq_true rfl⟩ ⟨Nat.le_of_ble_eq_true rfl, Nat.le_of_ble_eq_true rfl⟩ rfl hl.1 rfl (Nat.le_of_ble_eq_true rfl) dX9_readCounter_10) (fun r_4 s_3 H locs hw w => ?_)
  refine g_callv (pc := 13) w (mm_runV (ci := 9) (q := (RX9, TX9, 9)) (As := [.int (mm_I 0), .int (mm_I r_4)]) (rest := []) C w (c_X9_tellCounter l G this 0 r_4 h0 s_3 _ hw) h0 rfl rfl cv_X9_tellCounter ml_X9_94 ⟨Nat.le_of_ble_eq_true rfl, Nat.le_of_ble_eq_true rfl⟩ ⟨Nat.le_of_ble_eq_true rfl, Nat.le_of_ble_eq_true rfl⟩ rfl hl.1 rfl (Nat.le_of_ble_eq_true rfl) dX9_readCounter_13) (fun s_5 H locs hw w => ?_)
  refine lv_aload_n (pc := 16) C.1 C.2.1 dX9_readCounter_16 rfl (lv_at hl 0 rfl) ?_
  refine lv_iconst (pc := 17) (v := mm_I 1) C.1 C.2.1 dX9_readCounter_17 rfl ?_
  refine lv_aload_n (pc := 18) C.1 C.2.1 dX9_readCounter_18 rfl (lv_at hl 1 rfl) ?_
  refine lv_iconst (pc := 19) (v := mm_I 1) C.1 C.2.1 dX9_readCounter_19 rfl ?_
  refine lv_bipush (pc := 20) C.1 C.2.1 dX9_readCounter_20 mb_9 ?_
  refine g_calli (pc := 22) w (mm_runV (ci := 8) (q := (RX8, TX8, 7)) (As := [.int (mm_I 1), .int (mm_I 9)]) (rest := [.int (mm_I 1), .ref (mm_ad G this)]) C w (c_X8_takeNumber l G a1 1 9 h1 s_5 _ hw) h1 rfl rfl cv_X8_takeNumber ml_X9_86 ⟨Nat.le_of_ble_eq_true rfl, Nat.le_of_ble_eq_true rfl⟩ ⟨Nat.le_of_ble_eq_true rfl, Nat.le_of_ble_eq_true rfl⟩ rfl hl.1 rfl (Nat.le_of_ble_eq_true rfl) dX9_readCounter_22) (fun r_8 s_7 H locs hw w => ?_)
  refine g_callv (pc := 25) w (mm_runV (ci := 9) (q := (RX9, TX9, 9)) (As := [.int (mm_I 1), .int (mm_I r_8)]) (rest := []) C w (c_X9_tellCounter l G this 1 r_8 h0 s_7 _ hw) h0 rfl rfl cv_X9_tellCounter ml_X9_94 ⟨Nat.le_of_ble_eq_true rfl, Nat.le_of_ble_eq_true rfl⟩ ⟨Nat.le_of_ble_eq_true rfl, Nat.le_of_ble_eq_true rfl⟩ rfl hl.1 rfl (Nat.le_of_ble_eq_true rfl) dX9_readCounter_25) (fun s_9 H locs hw w => ?_)
  refine lv_aload_n (pc := 28) C.1 C.2.1 dX9_readCounter_28 rfl (lv_at hl 0 rfl) ?_
  refine lv_iconst (pc := 29) (v := mm_I 2) C.1 C.2.1 dX9_readCounter_29 rfl ?_
  refine lv_aload_n (pc := 30) C.1 C.2.1 dX9_readCounter_30 rfl (lv_at hl 1 rfl) ?_
  refine lv_iconst (pc := 31) (v := mm_I 0) C.1 C.2.1 dX9_readCounter_31 rfl ?_
  refine lv_bipush (pc := 32) C.1 C.2.1 dX9_readCounter_32 mb_99 ?_
  refine g_calli (pc := 34) w (mm_runV (ci := 8) (q := (RX8, TX8, 7)) (As := [.int (mm_I 0), .int (mm_I 99)]) (rest := [.int (mm_I 2), .ref (mm_ad G this)]) C w (c_X8_takeNumber l G a1 0 99 h1 s_9 _ hw) h1 rfl rfl cv_X8_takeNumber ml_X9_86 ⟨Nat.le_of_ble_eq_true rfl, Nat.le_of_ble_eq_true rfl⟩ ⟨Nat.le_of_ble_eq_true rfl, Nat.le_of_ble_eq_true rfl⟩ rfl hl.1 rfl (Nat.le_of_ble_eq_true rfl) dX9_readCounter_34) (fun r_12 s_11 H locs hw w => ?_)
  refine g_callv (pc := 37) w (mm_runV (ci := 9) (q := (RX9, TX9, 9)) (As := [.int (mm_I 2), .int (mm_I r_12)]) (rest := []) C w (c_X9_tellCounter l G this 2 r_12 h0 s_11 _ hw) h0 rfl rfl cv_X9_tellCounter ml_X9_94 ⟨Nat.le_of_ble_eq_true rfl, Nat.le_of_ble_eq_true rfl⟩ ⟨Nat.le_of_ble_eq_true rfl, Nat.le_of_ble_eq_true rfl⟩ rfl hl.1 rfl (Nat.le_of_ble_eq_true rfl) dX9_readCounter_37) (fun s_13 H locs hw w => ?_)
  refine lv_aload_n (pc := 40) C.1 C.2.1 dX9_readCounter_40 rfl (lv_at hl 1 rfl) ?_
  refine lv_bipush (pc := 41) C.1 C.2.1 dX9_readCounter_41 mb_59 ?_
  refine g_calli (pc := 43) w (mm_runV (ci := 8) (q := (RX8, TX8, 7)) (As := [.int (mm_I 59)]) (rest := []) C w (c_X8_takeSign l G a1 59 h1 s_13 _ hw) h1 rfl rfl cv_X8_takeSign ml_X9_90 ⟨Nat.le_of_ble_eq_true rfl, Nat.le_of_ble_eq_true rfl⟩ ⟨Nat.le_of_ble_eq_true rfl, Nat.le_of_ble_eq_true rfl⟩ rfl hl.1 rfl (Nat.le_of_ble_eq_true rfl) dX9_readCounter_43) (fun r_16 s_15 H locs hw w => ?_)
  refine g_if_eq (pc := 46) (tgt := 59) C rfl dX9_readCounter_46 (by decide) (fun hc => ?_) (fun hc => ?_)
  · have hw := hw.1 hc
    exact g_vret (pc := 59) C w hr hk hw dX9_readCounter_59
  · have hw := hw.2 hc
    refine lv_aload_n (pc := 49) C.1 C.2.1 dX9_readCounter_49 rfl (lv_at hl 0 rfl) ?_
    refine lv_dup (pc := 50) C.1 C.2.1 dX9_readCounter_50 rfl ?_
    refine g_geti (pc := 51) C w h0 ff_X9_4 lk_X9_34 dX9_readCounter_51 ?_
    refine lv_iconst (pc := 54) (v := mm_I 1) C.1 C.2.1 dX9_readCounter_54 rfl ?_
    refine g_iadd (pc := 55) C dX9_readCounter_55 ?_
    refine g_puti (pc := 56) C w h0 ff_X9_4 fw_X9_4 lk_X9_34 dX9_readCounter_56 (fun s_17 H locs es_17 w => ?_)
    have hw := hw s_17 es_17
    exact g_vret (pc := 59) C w hr hk hw dX9_readCounter_59
theorem ml_X9_61 : Cond.methodLink RX9 61 yX8_wordIs ∈ mm_ws := (mt_2 203 rfl rfl)
def wp_X9_isKept (a1 : Nat) (s0 : mm_M) (post : Int → mm_M → Prop) : Prop :=
  (wp_X8_wordIs a1 0 s0 (fun r_2 s_1 => ((¬ n32 r_2 = 0 → post 1 s_1) ∧ (n32 r_2 = 0 → (wp_X8_wordIs a1 1 s_1 (fun r_4 s_3 => ((¬ n32 r_4 = 0 → post 1 s_3) ∧ (n32 r_4 = 0 → (wp_X8_wordIs a1 2 s_3 (fun r_6 s_5 => ((¬ n32 r_6 = 0 → post 1 s_5) ∧ (n32 r_6 = 0 → (wp_X8_wordIs a1 3 s_5 (fun r_8 s_7 => ((¬ n32 r_8 = 0 → post 1 s_7) ∧ (n32 r_8 = 0 → (wp_X8_wordIs a1 4 s_7 (fun r_10 s_9 => ((n32 r_10 = 0 → post 0 s_9) ∧ (¬ n32 r_10 = 0 → post 1 s_9))))))))))))))))))))
set_option maxRecDepth 100000 in
set_option maxHeartbeats 4000000 in
theorem c_X9_isKept (l : Launch) (G : mm_G) (a1 : Nat) (h1 : mm_ok a1 18 0) (s0 : mm_M) (post : Int → mm_M → Prop) (hw : wp_X9_isKept a1 s0 post) : Met l yX9_isKept (mm_wm yX9_isKept cX9_isKept 1 (some .boolean)) (mm_rm 6) (va_Pc [.ref (mm_ad G a1)] (mm_pre G s0)) (mm_Qi G post) 0 0 (mm_A G) := by
  refine mm_met (own := RX9) (by decide) rfl (Nat.le_of_ble_eq_true rfl) ?_
  intro p e s m args below meth c C hr hk
  unfold wp_X9_isKept at hw
  intro H locs ls w hl
  have hl : lv_has ls 1 [(0, .ref (mm_ad G a1))] := hl
  refine lv_aload_n (pc := 0) C.1 C.2.1 dX9_isKept_0 rfl (lv_at hl 0 rfl) ?_
  refine va_ldcS (pc := 1) C.1 C.2.1 C.2.2.2.1 (w.2.2.2.1.2.2.2.2 0 (by decide)).1 dX9_isKept_1 ?_
  refine g_calli (pc := 3) w (mm_runV (ci := 8) (q := (RX8, TX8, 7)) (As := [.ref (G.2.2.2.1 0)]) (rest := []) C w (c_X8_wordIs l G a1 0 h1 (by decide) s0 _ hw) h1 rfl rfl cv_X8_wordIs ml_X9_61 ⟨Nat.le_of_ble_eq_true rfl, Nat.le_of_ble_eq_true rfl⟩ ⟨Nat.le_of_ble_eq_true rfl, Nat.le_of_ble_eq_true rfl⟩ rfl hl.1 rfl (Nat.le_of_ble_eq_true rfl) dX9_isKept_3) (fun r_2 s_1 H locs hw w => ?_)
  refine g_if_ne (pc := 6) (tgt := 45) C rfl dX9_isKept_6 (by decide) (fun hc => ?_) (fun hc => ?_)
  · have hw := hw.1 hc
    refine lv_iconst (pc := 45) (v := mm_I 1) C.1 C.2.1 dX9_isKept_45 rfl ?_
    refine lv_goto (pc := 46) (tgt := 50) C.1 C.2.1 dX9_isKept_46 (by decide) ?_
    exact g_zret (pc := 50) C w hr hk (by decide) hw dX9_isKept_50
  · have hw := hw.2 hc
    refine lv_aload_n (pc := 9) C.1 C.2.1 dX9_isKept_9 rfl (lv_at hl 0 rfl) ?_
    refine va_ldcS (pc := 10) C.1 C.2.1 C.2.2.2.1 (w.2.2.2.1.2.2.2.2 1 (by decide)).1 dX9_isKept_10 ?_
    refine g_calli (pc := 12) w (mm_runV (ci := 8) (q := (RX8, TX8, 7)) (As := [.ref (G.2.2.2.1 1)]) (rest := []) C w (c_X8_wordIs l G a1 1 h1 (by decide) s_1 _ hw) h1 rfl rfl cv_X8_wordIs ml_X9_61 ⟨Nat.le_of_ble_eq_true rfl, Nat.le_of_ble_eq_true rfl⟩ ⟨Nat.le_of_ble_eq_true rfl, Nat.le_of_ble_eq_true rfl⟩ rfl hl.1 rfl (Nat.le_of_ble_eq_true rfl) dX9_isKept_12) (fun r_4 s_3 H locs hw w => ?_)
    refine g_if_ne (pc := 15) (tgt := 45) C rfl dX9_isKept_15 (by decide) (fun hc => ?_) (fun hc => ?_)
    · have hw := hw.1 hc
      refine lv_iconst (pc := 45) (v := mm_I 1) C.1 C.2.1 dX9_isKept_45 rfl ?_
      refine lv_goto (pc := 46) (tgt := 50) C.1 C.2.1 dX9_isKept_46 (by decide) ?_
      exact g_zret (pc := 50) C w hr hk (by decide) hw dX9_isKept_50
    · have hw := hw.2 hc
      refine lv_aload_n (pc := 18) C.1 C.2.1 dX9_isKept_18 rfl (lv_at hl 0 rfl) ?_
      refine va_ldcS (pc := 19) C.1 C.2.1 C.2.2.2.1 (w.2.2.2.1.2.2.2.2 2 (by decide)).1 dX9_isKept_19 ?_
      refine g_calli (pc := 21) w (mm_runV (ci := 8) (q := (RX8, TX8, 7)) (As := [.ref (G.2.2.2.1 2)]) (rest := []) C w (c_X8_wordIs l G a1 2 h1 (by decide) s_3 _ hw) h1 rfl rfl cv_X8_wordIs ml_X9_61 ⟨Nat.le_of_ble_eq_true rfl, Nat.le_of_ble_eq_true rfl⟩ ⟨Nat.le_of_ble_eq_true rfl, Nat.le_of_ble_eq_true rfl⟩ rfl hl.1 rfl (Nat.le_of_ble_eq_true rfl) dX9_isKept_21) (fun r_6 s_5 H locs hw w => ?_)
      refine g_if_ne (pc := 24) (tgt := 45) C rfl dX9_isKept_24 (by decide) (fun hc => ?_) (fun hc => ?_)
      · have hw := hw.1 hc
        refine lv_iconst (pc := 45) (v := mm_I 1) C.1 C.2.1 dX9_isKept_45 rfl ?_
        refine lv_goto (pc := 46) (tgt := 50) C.1 C.2.1 dX9_isKept_46 (by decide) ?_
        exact g_zret (pc := 50) C w hr hk (by decide) hw dX9_isKept_50
      · have hw := hw.2 hc
        refine lv_aload_n (pc := 27) C.1 C.2.1 dX9_isKept_27 rfl (lv_at hl 0 rfl) ?_
        refine va_ldcS (pc := 28) C.1 C.2.1 C.2.2.2.1 (w.2.2.2.1.2.2.2.2 3 (by decide)).1 dX9_isKept_28 ?_
        refine g_calli (pc := 30) w (mm_runV (ci := 8) (q := (RX8, TX8, 7)) (As := [.ref (G.2.2.2.1 3)]) (rest := []) C w (c_X8_wordIs l G a1 3 h1 (by decide) s_5 _ hw) h1 rfl rfl cv_X8_wordIs ml_X9_61 ⟨Nat.le_of_ble_eq_true rfl, Nat.le_of_ble_eq_true rfl⟩ ⟨Nat.le_of_ble_eq_true rfl, Nat.le_of_ble_eq_true rfl⟩ rfl hl.1 rfl (Nat.le_of_ble_eq_true rfl) dX9_isKept_30) (fun r_8 s_7 H locs hw w => ?_)
        refine g_if_ne (pc := 33) (tgt := 45) C rfl dX9_isKept_33 (by decide) (fun hc => ?_) (fun hc => ?_)
        · have hw := hw.1 hc
          refine lv_iconst (pc := 45) (v := mm_I 1) C.1 C.2.1 dX9_isKept_45 rfl ?_
          refine lv_goto (pc := 46) (tgt := 50) C.1 C.2.1 dX9_isKept_46 (by decide) ?_
          exact g_zret (pc := 50) C w hr hk (by decide) hw dX9_isKept_50
        · have hw := hw.2 hc
          refine lv_aload_n (pc := 36) C.1 C.2.1 dX9_isKept_36 rfl (lv_at hl 0 rfl) ?_
          refine va_ldcS (pc := 37) C.1 C.2.1 C.2.2.2.1 (w.2.2.2.1.2.2.2.2 4 (by decide)).1 dX9_isKept_37 ?_
          refine g_calli (pc := 39) w (mm_runV (ci := 8) (q := (RX8, TX8, 7)) (As := [.ref (G.2.2.2.1 4)]) (rest := []) C w (c_X8_wordIs l G a1 4 h1 (by decide) s_7 _ hw) h1 rfl rfl cv_X8_wordIs ml_X9_61 ⟨Nat.le_of_ble_eq_true rfl, Nat.le_of_ble_eq_true rfl⟩ ⟨Nat.le_of_ble_eq_true rfl, Nat.le_of_ble_eq_true rfl⟩ rfl hl.1 rfl (Nat.le_of_ble_eq_true rfl) dX9_isKept_39) (fun r_10 s_9 H locs hw w => ?_)
          refine g_if_eq (pc := 42) (tgt := 49) C rfl dX9_isKept_42 (by decide) (fun hc => ?_) (fun hc => ?_)
          · have hw := hw.1 hc
            refine lv_iconst (pc := 49) (v := mm_I 0) C.1 C.2.1 dX9_isKept_49 rfl ?_
            exact g_zret (pc := 50) C w hr hk (by decide) hw dX9_isKept_50
          · have hw := hw.2 hc
            refine lv_iconst (pc := 45) (v := mm_I 1) C.1 C.2.1 dX9_isKept_45 rfl ?_
            refine lv_goto (pc := 46) (tgt := 50) C.1 C.2.1 dX9_isKept_46 (by decide) ?_
            exact g_zret (pc := 50) C w hr hk (by decide) hw dX9_isKept_50
theorem lk_X9_18 : Cond.fieldLink RX9 18 "LastServed$Town" "nameFrom" "[I" ∈ mm_ws := (mt_1 105 rfl rfl)
theorem ff_X9_2 : mm_F 9 2 1 RX9 TX9 9 := ⟨rfl, by decide, fk_X9, rfl, rfl⟩
theorem ro_X9_2 {i : Nat} (h : mm_ok i 19 0) : mm_ok (mm_rt i 2) 0 5 := by
  have q : ∀ i, i < mm_N → mm_kd i = 19 → mm_rt i 2 < mm_N ∧ mm_kd (mm_rt i 2) = 0 ∧ mm_ln (mm_rt i 2) = 5 := by decide +kernel
  exact q i h.1 h.2.1
theorem lk_X9_21 : Cond.fieldLink RX9 21 "LastServed$Town" "nameTill" "[I" ∈ mm_ws := (mt_1 106 rfl rfl)
theorem ff_X9_3 : mm_F 9 3 1 RX9 TX9 9 := ⟨rfl, by decide, fk_X9, rfl, rfl⟩
theorem ro_X9_3 {i : Nat} (h : mm_ok i 19 0) : mm_ok (mm_rt i 3) 0 5 := by
  have q : ∀ i, i < mm_N → mm_kd i = 19 → mm_rt i 3 < mm_N ∧ mm_kd (mm_rt i 3) = 0 ∧ mm_ln (mm_rt i 3) = 5 := by decide +kernel
  exact q i h.1 h.2.1
theorem cv_X8_wordIsLike : mm_V yX8_wordIsLike cX8_wordIsLike 4 (some .boolean) 2 := ⟨(mt_3 58 rfl rfl), (mt_3 56 rfl rfl), (mt_3 57 rfl rfl), (mt_1 3 rfl rfl), by decide, by decide, by decide +kernel⟩
theorem ml_X9_120 : Cond.methodLink RX9 120 yX8_wordIsLike ∈ mm_ws := (mt_3 55 rfl rfl)
def wp_X9_isTaken (this : Nat) (a1 : Nat) (s0 : mm_M) (post : Int → mm_M → Prop) : Prop :=
  ∀ (L2 : Int → mm_M → Prop), 
  (∀ (v2 : Int) (s1 : mm_M), ((n32 (s1 this 5) ≤ n32 v2 → post 0 s1) ∧ (¬ n32 (s1 this 5) ≤ n32 v2 → ((5 ≤ n32 v2 → post 0 s1) ∧ (¬ 5 ≤ n32 v2 → ((0 ≤ v2 ∧ v2 < 5) ∧ ((0 ≤ v2 ∧ v2 < 5) ∧ (wp_X8_wordIsLike a1 (s1 (mm_rt this 2) v2) (s1 (mm_rt this 3) v2) s1 (fun r_3 s_2 => ((n32 r_3 = 0 → (∀ v2_4 : Int, v2_4 = v2 + 1 → L2 v2_4 s_2)) ∧ (¬ n32 r_3 = 0 → post 1 s_2)))))))))) → L2 v2 s1) →
  L2 0 s0
set_option maxRecDepth 100000 in
set_option maxHeartbeats 4000000 in
theorem c_X9_isTaken (l : Launch) (G : mm_G) (this : Nat) (a1 : Nat) (h0 : mm_ok this 19 0) (h1 : mm_ok a1 18 0) (s0 : mm_M) (post : Int → mm_M → Prop) (hw : wp_X9_isTaken this a1 s0 post) : Met l yX9_isTaken (mm_wm yX9_isTaken cX9_isTaken 3 (some .boolean)) (mm_rm 2) (va_Pc [.ref (mm_ad G this), .ref (mm_ad G a1)] (mm_pre G s0)) (mm_Qi G post) 0 0 (mm_A G) := by
  refine mm_met (own := RX9) (by decide) rfl (Nat.le_of_ble_eq_true rfl) ?_
  intro p e s m args below meth c C hr hk
  unfold wp_X9_isTaken at hw
  have hw := hw (fun (v2 : Int) (u : mm_M) => mm_X p l e (mm_rm 2) s m args below meth c (MQ below (mm_Qi G post) args s 0 0 (mm_A G)) G (mm_A G) 3 2 [(0, .ref (mm_ad G this)), (1, .ref (mm_ad G a1)), (2, .int (mm_I v2))] [] u)
  have hw := hw (by
    intro v2 s1 hw  H locs ls w hl
    refine lv_iload_n (pc := 2) C.1 C.2.1 dX9_isTaken_2 rfl (lv_at hl 2 rfl) ?_
    refine lv_aload_n (pc := 3) C.1 C.2.1 dX9_isTaken_3 rfl (lv_at hl 0 rfl) ?_
    refine g_geti (pc := 4) C w h0 ff_X9_5 lk_X9_37 dX9_isTaken_4 ?_
    refine g_icmp_ge (pc := 7) (tgt := 42) C rfl rfl dX9_isTaken_7 (by decide) (fun hc => ?_) (fun hc => ?_)
    · have hw := hw.1 hc
      refine lv_iconst (pc := 42) (v := mm_I 0) C.1 C.2.1 dX9_isTaken_42 rfl ?_
      exact g_zret (pc := 43) C w hr hk (by decide) hw dX9_isTaken_43
    · have hw := hw.2 hc
      refine lv_iload_n (pc := 10) C.1 C.2.1 dX9_isTaken_10 rfl (lv_at hl 2 rfl) ?_
      refine lv_iconst (pc := 11) (v := mm_I 5) C.1 C.2.1 dX9_isTaken_11 rfl ?_
      refine g_icmp_ge (pc := 12) (tgt := 42) C rfl mn_5 dX9_isTaken_12 (by decide) (fun hc => ?_) (fun hc => ?_)
      · have hw := hw.1 hc
        refine lv_iconst (pc := 42) (v := mm_I 0) C.1 C.2.1 dX9_isTaken_42 rfl ?_
        exact g_zret (pc := 43) C w hr hk (by decide) hw dX9_isTaken_43
      · have hw := hw.2 hc
        refine lv_aload_n (pc := 15) C.1 C.2.1 dX9_isTaken_15 rfl (lv_at hl 1 rfl) ?_
        refine lv_aload_n (pc := 16) C.1 C.2.1 dX9_isTaken_16 rfl (lv_at hl 0 rfl) ?_
        refine g_getr (pc := 17) C w h0 ff_X9_2 lk_X9_18 dX9_isTaken_17 ?_
        refine lv_iload_n (pc := 20) C.1 C.2.1 dX9_isTaken_20 rfl (lv_at hl 2 rfl) ?_
        obtain ⟨hi, hw⟩ := hw
        refine g_iald (pc := 21) C w (ro_X9_2 h0) hi dX9_isTaken_21 ?_
        refine lv_aload_n (pc := 22) C.1 C.2.1 dX9_isTaken_22 rfl (lv_at hl 0 rfl) ?_
        refine g_getr (pc := 23) C w h0 ff_X9_3 lk_X9_21 dX9_isTaken_23 ?_
        refine lv_iload_n (pc := 26) C.1 C.2.1 dX9_isTaken_26 rfl (lv_at hl 2 rfl) ?_
        obtain ⟨hi, hw⟩ := hw
        refine g_iald (pc := 27) C w (ro_X9_3 h0) hi dX9_isTaken_27 ?_
        refine g_calli (pc := 28) w (mm_runV (ci := 8) (q := (RX8, TX8, 7)) (As := [.int (mm_I (s1 (mm_rt this 2) v2)), .int (mm_I (s1 (mm_rt this 3) v2))]) (rest := []) C w (c_X8_wordIsLike l G a1 (s1 (mm_rt this 2) v2) (s1 (mm_rt this 3) v2) h1 s1 _ hw) h1 rfl rfl cv_X8_wordIsLike ml_X9_120 ⟨Nat.le_of_ble_eq_true rfl, Nat.le_of_ble_eq_true rfl⟩ ⟨Nat.le_of_ble_eq_true rfl, Nat.le_of_ble_eq_true rfl⟩ rfl hl.1 rfl (Nat.le_of_ble_eq_true rfl) dX9_isTaken_28) (fun r_3 s_2 H locs hw w => ?_)
        refine g_if_eq (pc := 31) (tgt := 36) C rfl dX9_isTaken_31 (by decide) (fun hc => ?_) (fun hc => ?_)
        · have hw := hw.1 hc
          refine g_iinc (pc := 36) (k := 2) C dX9_isTaken_36 hl rfl (by decide) (fun v2_4 ev2_4 ls hl => ?_)
          have hw := hw v2_4 ev2_4
          have hl : lv_has ls 3 [(2, .int (mm_I v2_4)), (0, .ref (mm_ad G this)), (1, .ref (mm_ad G a1))] := hl
          refine lv_goto (pc := 39) (tgt := 2) C.1 C.2.1 dX9_isTaken_39 (by decide) ?_
          exact hw  _ _ _ w (lv_sub hl [1, 2, 0] rfl)
        · have hw := hw.2 hc
          refine lv_iconst (pc := 34) (v := mm_I 1) C.1 C.2.1 dX9_isTaken_34 rfl ?_
          exact g_zret (pc := 35) C w hr hk (by decide) hw dX9_isTaken_35)
  intro H locs ls w hl
  have hl : lv_has ls 3 [(0, .ref (mm_ad G this)), (1, .ref (mm_ad G a1))] := hl
  refine lv_iconst (pc := 0) (v := mm_I 0) C.1 C.2.1 dX9_isTaken_0 rfl ?_
  refine lv_istore_n (pc := 1) (lv' := [(2, .int (mm_I 0)), (0, .ref (mm_ad G this)), (1, .ref (mm_ad G a1))]) C.1 C.2.1 dX9_isTaken_1 rfl hl (by decide) rfl (fun ls hl => ?_)
  exact hw  _ _ _ w (lv_sub hl [1, 2, 0] rfl)
theorem lk_X9_104 : Cond.fieldLinkNest RX9 104 "LastServed$Text" "kind" "I" "LastServed" ∈ mm_nest := by decide +kernel
theorem lk_X9_107 : Cond.fieldLinkNest RX9 107 "LastServed$Text" "at" "I" "LastServed" ∈ mm_nest := by decide +kernel
theorem lk_X9_110 : Cond.fieldLinkNest RX9 110 "LastServed$Text" "start" "I" "LastServed" ∈ mm_nest := by decide +kernel
theorem cs_X9_isKept : mm_S yX9_isKept cX9_isKept 1 (some .boolean) 1 := ⟨(mt_3 47 rfl rfl), (mt_3 46 rfl rfl), (mt_1 4 rfl rfl), by decide, by decide, by decide +kernel⟩
theorem ml_X9_113 : Cond.methodLink RX9 113 yX9_isKept ∈ mm_ws := (mt_3 45 rfl rfl)
theorem cv_X9_isTaken : mm_V yX9_isTaken cX9_isTaken 3 (some .boolean) 1 := ⟨(mt_3 54 rfl rfl), (mt_3 53 rfl rfl), (mp_1 8 rfl rfl), (mt_1 4 rfl rfl), by decide, by decide, by decide +kernel⟩
theorem ml_X9_117 : Cond.methodLink RX9 117 yX9_isTaken ∈ mm_ws := (mt_3 51 rfl rfl)
theorem ml_X9_53 : Cond.methodLink RX9 53 yX8_refuse ∈ mm_ws := (mt_3 59 rfl rfl)
def wp_X9_readName (this : Nat) (a1 : Nat) (s0 : mm_M) (post : mm_M → Prop) : Prop :=
  ∀ (L27 : Int → mm_M → Prop), ∀ (L62 : mm_M → Prop), 
  (∀ (q0 : Int) (s1 : mm_M), (∀ v2_1 : Int, v2_1 = q0 → ((n32 v2_1 = 0 → L62 s1) ∧ (¬ n32 v2_1 = 0 → (wp_X9_isKept a1 s1 (fun r_3 s_2 => ((¬ n32 r_3 = 0 → L62 s_2) ∧ (n32 r_3 = 0 → (wp_X9_isTaken this a1 s_2 (fun r_5 s_4 => ((¬ n32 r_5 = 0 → L62 s_4) ∧ (n32 r_5 = 0 → ((n32 (s_4 this 5) < 0 → L62 s_4) ∧ (¬ n32 (s_4 this 5) < 0 → ((n32 (s_4 this 5) < 5 → ((0 ≤ s_4 this 5 ∧ s_4 this 5 < 5) ∧ (∀ s_6 : mm_M, s_6 = mm_up s_4 (mm_rt this 2) (s_4 this 5) (s_4 a1 3) → ((0 ≤ s_6 this 5 ∧ s_6 this 5 < 5) ∧ (∀ s_7 : mm_M, s_7 = mm_up s_6 (mm_rt this 3) (s_6 this 5) (s_6 a1 2) → (wp_X8_advance a1 s_7 (fun s_8 => post s_8))))))) ∧ (¬ n32 (s_4 this 5) < 5 → L62 s_4))))))))))))))) → L27 q0 s1) →
  (∀  (s1 : mm_M), (wp_X8_refuse a1 s1 (fun s_10 => post s_10)) → L62 s1) →
  ((¬ n32 (s0 a1 4) = 1 → L27 0 s0) ∧ (n32 (s0 a1 4) = 1 → ((8 < n32 ((s0 a1 2) - (s0 a1 3)) → L27 0 s0) ∧ (¬ 8 < n32 ((s0 a1 2) - (s0 a1 3)) → L27 1 s0))))
set_option maxRecDepth 100000 in
set_option maxHeartbeats 4000000 in
theorem c_X9_readName (l : Launch) (G : mm_G) (this : Nat) (a1 : Nat) (h0 : mm_ok this 19 0) (h1 : mm_ok a1 18 0) (s0 : mm_M) (post : mm_M → Prop) (hw : wp_X9_readName this a1 s0 post) : Met l yX9_readName (mm_wm yX9_readName cX9_readName 3 none) (mm_rm 7) (va_Pc [.ref (mm_ad G this), .ref (mm_ad G a1)] (mm_pre G s0)) (mm_Qv G post) 0 0 (mm_A G) := by
  refine mm_met (own := RX9) (by decide) rfl (Nat.le_of_ble_eq_true rfl) ?_
  intro p e s m args below meth c C hr hk
  unfold wp_X9_readName at hw
  have hw := hw (fun (q0 : Int) (u : mm_M) => mm_X p l e (mm_rm 7) s m args below meth c (MQ below (mm_Qv G post) args s 0 0 (mm_A G)) G (mm_A G) 3 27 [(0, .ref (mm_ad G this)), (1, .ref (mm_ad G a1))] [.int (mm_I q0)] u)
  have hw := hw (fun  (u : mm_M) => mm_X p l e (mm_rm 7) s m args below meth c (MQ below (mm_Qv G post) args s 0 0 (mm_A G)) G (mm_A G) 3 62 [(1, .ref (mm_ad G a1))] [] u)
  have hw := hw (by
    intro q0 s1 hw  H locs ls w hl
    refine g_istore_n (pc := 27) C dX9_readName_27 rfl hl (by decide) (fun v2_1 ev2_1 ls hl => ?_)
    have hw := hw v2_1 ev2_1
    have hl : lv_has ls 3 [(2, .int (mm_I v2_1)), (0, .ref (mm_ad G this)), (1, .ref (mm_ad G a1))] := hl
    refine lv_iload_n (pc := 28) C.1 C.2.1 dX9_readName_28 rfl (lv_at hl 0 rfl) ?_
    refine g_if_eq (pc := 29) (tgt := 62) C rfl dX9_readName_29 (by decide) (fun hc => ?_) (fun hc => ?_)
    · have hw := hw.1 hc
      exact hw  _ _ _ w (lv_sub hl [2] rfl)
    · have hw := hw.2 hc
      refine lv_aload_n (pc := 32) C.1 C.2.1 dX9_readName_32 rfl (lv_at hl 2 rfl) ?_
      refine g_calli (pc := 33) w (mm_runS (As := [.ref (mm_ad G a1)]) (rest := []) C w (c_X9_isKept l G a1 h1 s1 _ hw) cs_X9_isKept ml_X9_113 ⟨Nat.le_of_ble_eq_true rfl, Nat.le_of_ble_eq_true rfl⟩ ⟨Nat.le_of_ble_eq_true rfl, Nat.le_of_ble_eq_true rfl⟩ rfl hl.1 rfl (Nat.le_of_ble_eq_true rfl) dX9_readName_33) (fun r_3 s_2 H locs hw w => ?_)
      refine g_if_ne (pc := 36) (tgt := 62) C rfl dX9_readName_36 (by decide) (fun hc => ?_) (fun hc => ?_)
      · have hw := hw.1 hc
        exact hw  _ _ _ w (lv_sub hl [2] rfl)
      · have hw := hw.2 hc
        refine lv_aload_n (pc := 39) C.1 C.2.1 dX9_readName_39 rfl (lv_at hl 1 rfl) ?_
        refine lv_aload_n (pc := 40) C.1 C.2.1 dX9_readName_40 rfl (lv_at hl 2 rfl) ?_
        refine g_calli (pc := 41) w (mm_runV (ci := 9) (q := (RX9, TX9, 9)) (As := [.ref (mm_ad G a1)]) (rest := []) C w (c_X9_isTaken l G this a1 h0 h1 s_2 _ hw) h0 rfl rfl cv_X9_isTaken ml_X9_117 ⟨Nat.le_of_ble_eq_true rfl, Nat.le_of_ble_eq_true rfl⟩ ⟨Nat.le_of_ble_eq_true rfl, Nat.le_of_ble_eq_true rfl⟩ rfl hl.1 rfl (Nat.le_of_ble_eq_true rfl) dX9_readName_41) (fun r_5 s_4 H locs hw w => ?_)
        refine g_if_ne (pc := 44) (tgt := 62) C rfl dX9_readName_44 (by decide) (fun hc => ?_) (fun hc => ?_)
        · have hw := hw.1 hc
          exact hw  _ _ _ w (lv_sub hl [2] rfl)
        · have hw := hw.2 hc
          refine lv_aload_n (pc := 47) C.1 C.2.1 dX9_readName_47 rfl (lv_at hl 1 rfl) ?_
          refine g_geti (pc := 48) C w h0 ff_X9_5 lk_X9_37 dX9_readName_48 ?_
          refine g_if_lt (pc := 51) (tgt := 62) C rfl dX9_readName_51 (by decide) (fun hc => ?_) (fun hc => ?_)
          · have hw := hw.1 hc
            exact hw  _ _ _ w (lv_sub hl [2] rfl)
          · have hw := hw.2 hc
            refine lv_aload_n (pc := 54) C.1 C.2.1 dX9_readName_54 rfl (lv_at hl 1 rfl) ?_
            refine g_geti (pc := 55) C w h0 ff_X9_5 lk_X9_37 dX9_readName_55 ?_
            refine lv_iconst (pc := 58) (v := mm_I 5) C.1 C.2.1 dX9_readName_58 rfl ?_
            refine g_icmp_lt (pc := 59) (tgt := 67) C rfl mn_5 dX9_readName_59 (by decide) (fun hc => ?_) (fun hc => ?_)
            · have hw := hw.1 hc
              refine lv_aload_n (pc := 67) C.1 C.2.1 dX9_readName_67 rfl (lv_at hl 1 rfl) ?_
              refine g_getr (pc := 68) C w h0 ff_X9_2 lk_X9_18 dX9_readName_68 ?_
              refine lv_aload_n (pc := 71) C.1 C.2.1 dX9_readName_71 rfl (lv_at hl 1 rfl) ?_
              refine g_geti (pc := 72) C w h0 ff_X9_5 lk_X9_37 dX9_readName_72 ?_
              refine lv_aload_n (pc := 75) C.1 C.2.1 dX9_readName_75 rfl (lv_at hl 2 rfl) ?_
              refine g_getiN (pc := 76) C w h1 ff_X8_3 lk_X9_110 dX9_readName_76 ?_
              obtain ⟨hi, hw⟩ := hw
              refine g_iast (pc := 79) C w (ro_X9_2 h0) hi  dX9_readName_79 (fun s_6 H locs es_6 w => ?_)
              have hw := hw s_6 es_6
              refine lv_aload_n (pc := 80) C.1 C.2.1 dX9_readName_80 rfl (lv_at hl 1 rfl) ?_
              refine g_getr (pc := 81) C w h0 ff_X9_3 lk_X9_21 dX9_readName_81 ?_
              refine lv_aload_n (pc := 84) C.1 C.2.1 dX9_readName_84 rfl (lv_at hl 1 rfl) ?_
              refine g_geti (pc := 85) C w h0 ff_X9_5 lk_X9_37 dX9_readName_85 ?_
              refine lv_aload_n (pc := 88) C.1 C.2.1 dX9_readName_88 rfl (lv_at hl 2 rfl) ?_
              refine g_getiN (pc := 89) C w h1 ff_X8_2 lk_X9_107 dX9_readName_89 ?_
              obtain ⟨hi, hw⟩ := hw
              refine g_iast (pc := 92) C w (ro_X9_3 h0) hi  dX9_readName_92 (fun s_7 H locs es_7 w => ?_)
              have hw := hw s_7 es_7
              refine lv_aload_n (pc := 93) C.1 C.2.1 dX9_readName_93 rfl (lv_at hl 2 rfl) ?_
              refine g_callv (pc := 94) w (mm_runV (ci := 8) (q := (RX8, TX8, 7)) (As := []) (rest := []) C w (c_X8_advance l G a1 h1 s_7 _ hw) h1 rfl rfl cv_X8_advance ml_X9_83 ⟨Nat.le_of_ble_eq_true rfl, Nat.le_of_ble_eq_true rfl⟩ ⟨Nat.le_of_ble_eq_true rfl, Nat.le_of_ble_eq_true rfl⟩ rfl hl.1 rfl (Nat.le_of_ble_eq_true rfl) dX9_readName_94) (fun s_8 H locs hw w => ?_)
              exact g_vret (pc := 97) C w hr hk hw dX9_readName_97
            · have hw := hw.2 hc
              exact hw  _ _ _ w (lv_sub hl [2] rfl))
  have hw := hw (by
    intro  s1 hw  H locs ls w hl
    refine lv_aload_n (pc := 62) C.1 C.2.1 dX9_readName_62 rfl (lv_at hl 0 rfl) ?_
    refine g_callv (pc := 63) w (mm_runV (ci := 8) (q := (RX8, TX8, 7)) (As := []) (rest := []) C w (c_X8_refuse l G a1 h1 s1 _ hw) h1 rfl rfl cv_X8_refuse ml_X9_53 ⟨Nat.le_of_ble_eq_true rfl, Nat.le_of_ble_eq_true rfl⟩ ⟨Nat.le_of_ble_eq_true rfl, Nat.le_of_ble_eq_true rfl⟩ rfl hl.1 rfl (Nat.le_of_ble_eq_true rfl) dX9_readName_63) (fun s_10 H locs hw w => ?_)
    exact g_vret (pc := 66) C w hr hk hw dX9_readName_66)
  intro H locs ls w hl
  have hl : lv_has ls 3 [(0, .ref (mm_ad G this)), (1, .ref (mm_ad G a1))] := hl
  refine lv_aload_n (pc := 0) C.1 C.2.1 dX9_readName_0 rfl (lv_at hl 1 rfl) ?_
  refine g_getiN (pc := 1) C w h1 ff_X8_4 lk_X9_104 dX9_readName_1 ?_
  refine lv_iconst (pc := 4) (v := mm_I 1) C.1 C.2.1 dX9_readName_4 rfl ?_
  refine g_icmp_ne (pc := 5) (tgt := 26) C rfl mn_1 dX9_readName_5 (by decide) (fun hc => ?_) (fun hc => ?_)
  · have hw := hw.1 hc
    refine lv_iconst (pc := 26) (v := mm_I 0) C.1 C.2.1 dX9_readName_26 rfl ?_
    exact hw  _ _ _ w (lv_sub hl [0, 1] rfl)
  · have hw := hw.2 hc
    refine lv_aload_n (pc := 8) C.1 C.2.1 dX9_readName_8 rfl (lv_at hl 1 rfl) ?_
    refine g_getiN (pc := 9) C w h1 ff_X8_2 lk_X9_107 dX9_readName_9 ?_
    refine lv_aload_n (pc := 12) C.1 C.2.1 dX9_readName_12 rfl (lv_at hl 1 rfl) ?_
    refine g_getiN (pc := 13) C w h1 ff_X8_3 lk_X9_110 dX9_readName_13 ?_
    refine g_isub (pc := 16) C dX9_readName_16 ?_
    refine lv_bipush (pc := 17) C.1 C.2.1 dX9_readName_17 mb_8 ?_
    refine g_icmp_gt (pc := 19) (tgt := 26) C rfl mn_8 dX9_readName_19 (by decide) (fun hc => ?_) (fun hc => ?_)
    · have hw := hw.1 hc
      refine lv_iconst (pc := 26) (v := mm_I 0) C.1 C.2.1 dX9_readName_26 rfl ?_
      exact hw  _ _ _ w (lv_sub hl [0, 1] rfl)
    · have hw := hw.2 hc
      refine lv_iconst (pc := 22) (v := mm_I 1) C.1 C.2.1 dX9_readName_22 rfl ?_
      refine lv_goto (pc := 23) (tgt := 27) C.1 C.2.1 dX9_readName_23 (by decide) ?_
      exact hw  _ _ _ w (lv_sub hl [0, 1] rfl)
