theorem cv_X11_entersAt : mm_V yX11_entersAt cX11_entersAt 3 none 1 := ⟨(mt_7 112 rfl rfl), (mt_7 111 rfl rfl), (mp_5 6 rfl rfl), (mt_1 12 rfl rfl), by decide, by decide, by decide +kernel⟩
theorem ml_X11_350 : Cond.methodLink RX11 350 yX11_entersAt ∈ mm_ws := (mt_7 109 rfl rfl)
def wp_X11_arrives (this : Nat) (a1 : Int) (a2 : Int) (a3 : Int) (a4 : Int) (s0 : mm_M) (post : mm_M → Prop) : Prop :=
  (wp_X11_sets this a1 0 a2 s0 (fun s_1 => (wp_X11_sets this a1 1 a3 s_1 (fun s_3 => (wp_X11_sets this a1 3 (s_3 this 28) s_3 (fun s_5 => (wp_X11_sets this a1 4 (-1) s_5 (fun s_7 => (wp_X11_sets this a1 5 0 s_7 (fun s_9 => (wp_X11_sets this a1 6 (-1) s_9 (fun s_11 => (wp_X11_sets this a1 2 2 s_11 (fun s_13 => (wp_X11_tells this a2 0 1 s_13 (fun s_15 => ((n32 a4 = 0 → post s_15) ∧ (¬ n32 a4 = 0 → (wp_X11_entersAt this a1 s_15 (fun s_17 => post s_17))))))))))))))))))))
set_option maxRecDepth 100000 in
set_option maxHeartbeats 4000000 in
theorem c_X11_arrives (l : Launch) (G : mm_G) (this : Nat) (a1 : Int) (a2 : Int) (a3 : Int) (a4 : Int) (h0 : mm_ok this 21 0) (s0 : mm_M) (post : mm_M → Prop) (hw : wp_X11_arrives this a1 a2 a3 a4 s0 post) : Met l yX11_arrives (mm_wm yX11_arrives cX11_arrives 5 none) (mm_rm 3) (va_Pc [.ref (mm_ad G this), .int (mm_I a1), .int (mm_I a2), .int (mm_I a3), .int (mm_I a4)] (mm_pre G s0)) (mm_Qv G post) 0 0 (mm_A G) := by
  refine mm_met (own := RX11) (by decide) rfl (Nat.le_of_ble_eq_true rfl) ?_
  intro p e s m args below meth c C hr hk
  unfold wp_X11_arrives at hw
  intro H locs ls w hl
  have hl : lv_has ls 5 [(0, .ref (mm_ad G this)), (1, .int (mm_I a1)), (2, .int (mm_I a2)), (3, .int (mm_I a3)), (4, .int (mm_I a4))] := hl
  refine lv_aload_n (pc := 0) C.1 C.2.1 dX11_arrives_0 rfl (lv_at hl 0 rfl) ?_
  refine lv_iload_n (pc := 1) C.1 C.2.1 dX11_arrives_1 rfl (lv_at hl 1 rfl) ?_
  refine lv_iconst (pc := 2) (v := mm_I 0) C.1 C.2.1 dX11_arrives_2 rfl ?_
  refine lv_iload_n (pc := 3) C.1 C.2.1 dX11_arrives_3 rfl (lv_at hl 2 rfl) ?_
  refine g_callv (pc := 4) w (mm_runV (ci := 11) (q := (RX11, TX11, 65)) (As := [.int (mm_I a1), .int (mm_I 0), .int (mm_I a2)]) (rest := []) C w (c_X11_sets l G this a1 0 a2 h0 s0 _ hw) h0 rfl rfl cv_X11_sets ml_X11_343 ⟨Nat.le_of_ble_eq_true rfl, Nat.le_of_ble_eq_true rfl⟩ ⟨Nat.le_of_ble_eq_true rfl, Nat.le_of_ble_eq_true rfl⟩ rfl hl.1 rfl (Nat.le_of_ble_eq_true rfl) dX11_arrives_4) (fun s_1 H locs hw w => ?_)
  refine lv_aload_n (pc := 7) C.1 C.2.1 dX11_arrives_7 rfl (lv_at hl 0 rfl) ?_
  refine lv_iload_n (pc := 8) C.1 C.2.1 dX11_arrives_8 rfl (lv_at hl 1 rfl) ?_
  refine lv_iconst (pc := 9) (v := mm_I 1) C.1 C.2.1 dX11_arrives_9 rfl ?_
  refine lv_iload_n (pc := 10) C.1 C.2.1 dX11_arrives_10 rfl (lv_at hl 3 rfl) ?_
  refine g_callv (pc := 11) w (mm_runV (ci := 11) (q := (RX11, TX11, 65)) (As := [.int (mm_I a1), .int (mm_I 1), .int (mm_I a3)]) (rest := []) C w (c_X11_sets l G this a1 1 a3 h0 s_1 _ hw) h0 rfl rfl cv_X11_sets ml_X11_343 ⟨Nat.le_of_ble_eq_true rfl, Nat.le_of_ble_eq_true rfl⟩ ⟨Nat.le_of_ble_eq_true rfl, Nat.le_of_ble_eq_true rfl⟩ rfl hl.1 rfl (Nat.le_of_ble_eq_true rfl) dX11_arrives_11) (fun s_3 H locs hw w => ?_)
  refine lv_aload_n (pc := 14) C.1 C.2.1 dX11_arrives_14 rfl (lv_at hl 0 rfl) ?_
  refine lv_iload_n (pc := 15) C.1 C.2.1 dX11_arrives_15 rfl (lv_at hl 1 rfl) ?_
  refine lv_iconst (pc := 16) (v := mm_I 3) C.1 C.2.1 dX11_arrives_16 rfl ?_
  refine lv_aload_n (pc := 17) C.1 C.2.1 dX11_arrives_17 rfl (lv_at hl 0 rfl) ?_
  refine g_geti (pc := 18) C w h0 ff_X11_28 lk_X11_301 dX11_arrives_18 ?_
  refine g_callv (pc := 21) w (mm_runV (ci := 11) (q := (RX11, TX11, 65)) (As := [.int (mm_I a1), .int (mm_I 3), .int (mm_I (s_3 this 28))]) (rest := []) C w (c_X11_sets l G this a1 3 (s_3 this 28) h0 s_3 _ hw) h0 rfl rfl cv_X11_sets ml_X11_343 ⟨Nat.le_of_ble_eq_true rfl, Nat.le_of_ble_eq_true rfl⟩ ⟨Nat.le_of_ble_eq_true rfl, Nat.le_of_ble_eq_true rfl⟩ rfl hl.1 rfl (Nat.le_of_ble_eq_true rfl) dX11_arrives_21) (fun s_5 H locs hw w => ?_)
  refine lv_aload_n (pc := 24) C.1 C.2.1 dX11_arrives_24 rfl (lv_at hl 0 rfl) ?_
  refine lv_iload_n (pc := 25) C.1 C.2.1 dX11_arrives_25 rfl (lv_at hl 1 rfl) ?_
  refine lv_iconst (pc := 26) (v := mm_I 4) C.1 C.2.1 dX11_arrives_26 rfl ?_
  refine lv_iconst (pc := 27) (v := mm_I (-1)) C.1 C.2.1 dX11_arrives_27 rfl ?_
  refine g_callv (pc := 28) w (mm_runV (ci := 11) (q := (RX11, TX11, 65)) (As := [.int (mm_I a1), .int (mm_I 4), .int (mm_I (-1))]) (rest := []) C w (c_X11_sets l G this a1 4 (-1) h0 s_5 _ hw) h0 rfl rfl cv_X11_sets ml_X11_343 ⟨Nat.le_of_ble_eq_true rfl, Nat.le_of_ble_eq_true rfl⟩ ⟨Nat.le_of_ble_eq_true rfl, Nat.le_of_ble_eq_true rfl⟩ rfl hl.1 rfl (Nat.le_of_ble_eq_true rfl) dX11_arrives_28) (fun s_7 H locs hw w => ?_)
  refine lv_aload_n (pc := 31) C.1 C.2.1 dX11_arrives_31 rfl (lv_at hl 0 rfl) ?_
  refine lv_iload_n (pc := 32) C.1 C.2.1 dX11_arrives_32 rfl (lv_at hl 1 rfl) ?_
  refine lv_iconst (pc := 33) (v := mm_I 5) C.1 C.2.1 dX11_arrives_33 rfl ?_
  refine lv_iconst (pc := 34) (v := mm_I 0) C.1 C.2.1 dX11_arrives_34 rfl ?_
  refine g_callv (pc := 35) w (mm_runV (ci := 11) (q := (RX11, TX11, 65)) (As := [.int (mm_I a1), .int (mm_I 5), .int (mm_I 0)]) (rest := []) C w (c_X11_sets l G this a1 5 0 h0 s_7 _ hw) h0 rfl rfl cv_X11_sets ml_X11_343 ⟨Nat.le_of_ble_eq_true rfl, Nat.le_of_ble_eq_true rfl⟩ ⟨Nat.le_of_ble_eq_true rfl, Nat.le_of_ble_eq_true rfl⟩ rfl hl.1 rfl (Nat.le_of_ble_eq_true rfl) dX11_arrives_35) (fun s_9 H locs hw w => ?_)
  refine lv_aload_n (pc := 38) C.1 C.2.1 dX11_arrives_38 rfl (lv_at hl 0 rfl) ?_
  refine lv_iload_n (pc := 39) C.1 C.2.1 dX11_arrives_39 rfl (lv_at hl 1 rfl) ?_
  refine lv_bipush (pc := 40) C.1 C.2.1 dX11_arrives_40 mb_6 ?_
  refine lv_iconst (pc := 42) (v := mm_I (-1)) C.1 C.2.1 dX11_arrives_42 rfl ?_
  refine g_callv (pc := 43) w (mm_runV (ci := 11) (q := (RX11, TX11, 65)) (As := [.int (mm_I a1), .int (mm_I 6), .int (mm_I (-1))]) (rest := []) C w (c_X11_sets l G this a1 6 (-1) h0 s_9 _ hw) h0 rfl rfl cv_X11_sets ml_X11_343 ⟨Nat.le_of_ble_eq_true rfl, Nat.le_of_ble_eq_true rfl⟩ ⟨Nat.le_of_ble_eq_true rfl, Nat.le_of_ble_eq_true rfl⟩ rfl hl.1 rfl (Nat.le_of_ble_eq_true rfl) dX11_arrives_43) (fun s_11 H locs hw w => ?_)
  refine lv_aload_n (pc := 46) C.1 C.2.1 dX11_arrives_46 rfl (lv_at hl 0 rfl) ?_
  refine lv_iload_n (pc := 47) C.1 C.2.1 dX11_arrives_47 rfl (lv_at hl 1 rfl) ?_
  refine lv_iconst (pc := 48) (v := mm_I 2) C.1 C.2.1 dX11_arrives_48 rfl ?_
  refine lv_iconst (pc := 49) (v := mm_I 2) C.1 C.2.1 dX11_arrives_49 rfl ?_
  refine g_callv (pc := 50) w (mm_runV (ci := 11) (q := (RX11, TX11, 65)) (As := [.int (mm_I a1), .int (mm_I 2), .int (mm_I 2)]) (rest := []) C w (c_X11_sets l G this a1 2 2 h0 s_11 _ hw) h0 rfl rfl cv_X11_sets ml_X11_343 ⟨Nat.le_of_ble_eq_true rfl, Nat.le_of_ble_eq_true rfl⟩ ⟨Nat.le_of_ble_eq_true rfl, Nat.le_of_ble_eq_true rfl⟩ rfl hl.1 rfl (Nat.le_of_ble_eq_true rfl) dX11_arrives_50) (fun s_13 H locs hw w => ?_)
  refine lv_aload_n (pc := 53) C.1 C.2.1 dX11_arrives_53 rfl (lv_at hl 0 rfl) ?_
  refine lv_iload_n (pc := 54) C.1 C.2.1 dX11_arrives_54 rfl (lv_at hl 2 rfl) ?_
  refine lv_iconst (pc := 55) (v := mm_I 0) C.1 C.2.1 dX11_arrives_55 rfl ?_
  refine lv_iconst (pc := 56) (v := mm_I 1) C.1 C.2.1 dX11_arrives_56 rfl ?_
  refine g_callv (pc := 57) w (mm_runV (ci := 11) (q := (RX11, TX11, 65)) (As := [.int (mm_I a2), .int (mm_I 0), .int (mm_I 1)]) (rest := []) C w (c_X11_tells l G this a2 0 1 h0 s_13 _ hw) h0 rfl rfl cv_X11_tells ml_X11_347 ⟨Nat.le_of_ble_eq_true rfl, Nat.le_of_ble_eq_true rfl⟩ ⟨Nat.le_of_ble_eq_true rfl, Nat.le_of_ble_eq_true rfl⟩ rfl hl.1 rfl (Nat.le_of_ble_eq_true rfl) dX11_arrives_57) (fun s_15 H locs hw w => ?_)
  refine lv_iload (pc := 60) C.1 C.2.1 dX11_arrives_60 (lv_at hl 4 rfl) ?_
  refine g_if_eq (pc := 62) (tgt := 70) C rfl dX11_arrives_62 (by decide) (fun hc => ?_) (fun hc => ?_)
  · have hw := hw.1 hc
    exact g_vret (pc := 70) C w hr hk hw dX11_arrives_70
  · have hw := hw.2 hc
    refine lv_aload_n (pc := 65) C.1 C.2.1 dX11_arrives_65 rfl (lv_at hl 0 rfl) ?_
    refine lv_iload_n (pc := 66) C.1 C.2.1 dX11_arrives_66 rfl (lv_at hl 1 rfl) ?_
    refine g_callv (pc := 67) w (mm_runV (ci := 11) (q := (RX11, TX11, 65)) (As := [.int (mm_I a1)]) (rest := []) C w (c_X11_entersAt l G this a1 h0 s_15 _ hw) h0 rfl rfl cv_X11_entersAt ml_X11_350 ⟨Nat.le_of_ble_eq_true rfl, Nat.le_of_ble_eq_true rfl⟩ ⟨Nat.le_of_ble_eq_true rfl, Nat.le_of_ble_eq_true rfl⟩ rfl hl.1 rfl (Nat.le_of_ble_eq_true rfl) dX11_arrives_67) (fun s_17 H locs hw w => ?_)
    exact g_vret (pc := 70) C w hr hk hw dX11_arrives_70
def wp_X11_placeOf (this : Nat) (a1 : Int) (s0 : mm_M) (post : Int → mm_M → Prop) : Prop :=
  ∀ (L9 : Int → Int → mm_M → Prop), 
  (∀ (v2 : Int) (v3 : Int) (s1 : mm_M), ((0 ≤ (30 * v2) + v3 ∧ (30 * v2) + v3 < 90) ∧ ((n32 (s1 (mm_rt this 32) ((30 * v2) + v3)) = n32 a1 → post v3 s1) ∧ (¬ n32 (s1 (mm_rt this 32) ((30 * v2) + v3)) = n32 a1 → (∀ v3_5 : Int, v3_5 = v3 + 1 → L9 v2 v3_5 s1)))) → L9 v2 v3 s1) →
  (wp_X11_of this a1 1 s0 (fun r_2 s_1 => (∀ v2_3 : Int, v2_3 = r_2 → L9 v2_3 0 s_1)))
set_option maxRecDepth 100000 in
set_option maxHeartbeats 4000000 in
theorem c_X11_placeOf (l : Launch) (G : mm_G) (this : Nat) (a1 : Int) (h0 : mm_ok this 21 0) (s0 : mm_M) (post : Int → mm_M → Prop) (hw : wp_X11_placeOf this a1 s0 post) : Met l yX11_placeOf (mm_wm yX11_placeOf cX11_placeOf 4 (some .int)) (mm_rm 2) (va_Pc [.ref (mm_ad G this), .int (mm_I a1)] (mm_pre G s0)) (mm_Qi G post) 0 0 (mm_A G) := by
  refine mm_met (own := RX11) (by decide) rfl (Nat.le_of_ble_eq_true rfl) ?_
  intro p e s m args below meth c C hr hk
  unfold wp_X11_placeOf at hw
  have hw := hw (fun (v2 : Int) (v3 : Int) (u : mm_M) => mm_X p l e (mm_rm 2) s m args below meth c (MQ below (mm_Qi G post) args s 0 0 (mm_A G)) G (mm_A G) 4 9 [(0, .ref (mm_ad G this)), (1, .int (mm_I a1)), (2, .int (mm_I v2)), (3, .int (mm_I v3))] [] u)
  have hw := hw (by
    intro v2 v3 s1 hw  H locs ls w hl
    refine lv_aload_n (pc := 9) C.1 C.2.1 dX11_placeOf_9 rfl (lv_at hl 0 rfl) ?_
    refine g_getr (pc := 10) C w h0 ff_X11_32 lk_X11_61 dX11_placeOf_10 ?_
    refine lv_bipush (pc := 13) C.1 C.2.1 dX11_placeOf_13 mb_30 ?_
    refine lv_iload_n (pc := 15) C.1 C.2.1 dX11_placeOf_15 rfl (lv_at hl 2 rfl) ?_
    refine g_imul (pc := 16) C dX11_placeOf_16 ?_
    refine lv_iload_n (pc := 17) C.1 C.2.1 dX11_placeOf_17 rfl (lv_at hl 3 rfl) ?_
    refine g_iadd (pc := 18) C dX11_placeOf_18 ?_
    obtain ⟨hi, hw⟩ := hw
    refine g_iald (pc := 19) C w (ro_X11_32 h0) hi dX11_placeOf_19 ?_
    refine lv_iload_n (pc := 20) C.1 C.2.1 dX11_placeOf_20 rfl (lv_at hl 1 rfl) ?_
    refine g_icmp_eq (pc := 21) (tgt := 30) C rfl rfl dX11_placeOf_21 (by decide) (fun hc => ?_) (fun hc => ?_)
    · have hw := hw.1 hc
      refine lv_iload_n (pc := 30) C.1 C.2.1 dX11_placeOf_30 rfl (lv_at hl 3 rfl) ?_
      exact g_iret (pc := 31) C w hr hk hw dX11_placeOf_31
    · have hw := hw.2 hc
      refine g_iinc (pc := 24) (k := 3) C dX11_placeOf_24 hl rfl (by decide) (fun v3_5 ev3_5 ls hl => ?_)
      have hw := hw v3_5 ev3_5
      have hl : lv_has ls 4 [(3, .int (mm_I v3_5)), (0, .ref (mm_ad G this)), (1, .int (mm_I a1)), (2, .int (mm_I v2))] := hl
      refine lv_goto (pc := 27) (tgt := 9) C.1 C.2.1 dX11_placeOf_27 (by decide) ?_
      exact hw  _ _ _ w (lv_sub hl [1, 2, 3, 0] rfl))
  intro H locs ls w hl
  have hl : lv_has ls 4 [(0, .ref (mm_ad G this)), (1, .int (mm_I a1))] := hl
  refine lv_aload_n (pc := 0) C.1 C.2.1 dX11_placeOf_0 rfl (lv_at hl 0 rfl) ?_
  refine lv_iload_n (pc := 1) C.1 C.2.1 dX11_placeOf_1 rfl (lv_at hl 1 rfl) ?_
  refine lv_iconst (pc := 2) (v := mm_I 1) C.1 C.2.1 dX11_placeOf_2 rfl ?_
  refine g_calli (pc := 3) w (mm_runV (ci := 11) (q := (RX11, TX11, 65)) (As := [.int (mm_I a1), .int (mm_I 1)]) (rest := []) C w (c_X11_of l G this a1 1 h0 s0 _ hw) h0 rfl rfl cv_X11_of ml_X11_317 ⟨Nat.le_of_ble_eq_true rfl, Nat.le_of_ble_eq_true rfl⟩ ⟨Nat.le_of_ble_eq_true rfl, Nat.le_of_ble_eq_true rfl⟩ rfl hl.1 rfl (Nat.le_of_ble_eq_true rfl) dX11_placeOf_3) (fun r_2 s_1 H locs hw w => ?_)
  refine g_istore_n (pc := 6) C dX11_placeOf_6 rfl hl (by decide) (fun v2_3 ev2_3 ls hl => ?_)
  have hw := hw v2_3 ev2_3
  have hl : lv_has ls 4 [(2, .int (mm_I v2_3)), (0, .ref (mm_ad G this)), (1, .int (mm_I a1))] := hl
  refine lv_iconst (pc := 7) (v := mm_I 0) C.1 C.2.1 dX11_placeOf_7 rfl ?_
  refine lv_istore_n (pc := 8) (lv' := [(3, .int (mm_I 0)), (2, .int (mm_I v2_3)), (0, .ref (mm_ad G this)), (1, .int (mm_I a1))]) C.1 C.2.1 dX11_placeOf_8 rfl hl (by decide) rfl (fun ls hl => ?_)
  exact hw  _ _ _ w (lv_sub hl [2, 3, 1, 0] rfl)
theorem cv_X11_placeOf : mm_V yX11_placeOf cX11_placeOf 4 (some .int) 1 := ⟨(mt_7 132 rfl rfl), (mt_7 131 rfl rfl), (mp_5 10 rfl rfl), (mt_1 12 rfl rfl), by decide, by decide, by decide +kernel⟩
theorem ml_X11_353 : Cond.methodLink RX11 353 yX11_placeOf ∈ mm_ws := (mt_7 129 rfl rfl)
def wp_X11_leavesRow (this : Nat) (a1 : Int) (s0 : mm_M) (post : mm_M → Prop) : Prop :=
  ∀ (L23 : Int → Int → mm_M → Prop), 
  (∀ (v2 : Int) (v3 : Int) (s1 : mm_M), ((0 ≤ v2 ∧ v2 < 3) ∧ ((n32 (s1 (mm_rt this 31) v2) ≤ n32 v3 → post s1) ∧ (¬ n32 (s1 (mm_rt this 31) v2) ≤ n32 v3 → ((0 ≤ ((30 * v2) + v3) + 1 ∧ ((30 * v2) + v3) + 1 < 90) ∧ ((0 ≤ (30 * v2) + v3 ∧ (30 * v2) + v3 < 90) ∧ (∀ s_8 : mm_M, s_8 = mm_up s1 (mm_rt this 32) ((30 * v2) + v3) (s1 (mm_rt this 32) (((30 * v2) + v3) + 1)) → (∀ v3_9 : Int, v3_9 = v3 + 1 → L23 v2 v3_9 s_8))))))) → L23 v2 v3 s1) →
  (wp_X11_of this a1 1 s0 (fun r_2 s_1 => (∀ v2_3 : Int, v2_3 = r_2 → ((0 ≤ v2_3 ∧ v2_3 < 3) ∧ ((0 ≤ v2_3 ∧ v2_3 < 3) ∧ (∀ s_4 : mm_M, s_4 = mm_up s_1 (mm_rt this 31) v2_3 ((s_1 (mm_rt this 31) v2_3) - 1) → (wp_X11_placeOf this a1 s_4 (fun r_6 s_5 => (∀ v3_7 : Int, v3_7 = r_6 → L23 v2_3 v3_7 s_5)))))))))
set_option maxRecDepth 100000 in
set_option maxHeartbeats 4000000 in
theorem c_X11_leavesRow (l : Launch) (G : mm_G) (this : Nat) (a1 : Int) (h0 : mm_ok this 21 0) (s0 : mm_M) (post : mm_M → Prop) (hw : wp_X11_leavesRow this a1 s0 post) : Met l yX11_leavesRow (mm_wm yX11_leavesRow cX11_leavesRow 4 none) (mm_rm 3) (va_Pc [.ref (mm_ad G this), .int (mm_I a1)] (mm_pre G s0)) (mm_Qv G post) 0 0 (mm_A G) := by
  refine mm_met (own := RX11) (by decide) rfl (Nat.le_of_ble_eq_true rfl) ?_
  intro p e s m args below meth c C hr hk
  unfold wp_X11_leavesRow at hw
  have hw := hw (fun (v2 : Int) (v3 : Int) (u : mm_M) => mm_X p l e (mm_rm 3) s m args below meth c (MQ below (mm_Qv G post) args s 0 0 (mm_A G)) G (mm_A G) 4 23 [(0, .ref (mm_ad G this)), (2, .int (mm_I v2)), (3, .int (mm_I v3))] [] u)
  have hw := hw (by
    intro v2 v3 s1 hw  H locs ls w hl
    refine lv_iload_n (pc := 23) C.1 C.2.1 dX11_leavesRow_23 rfl (lv_at hl 2 rfl) ?_
    refine lv_aload_n (pc := 24) C.1 C.2.1 dX11_leavesRow_24 rfl (lv_at hl 0 rfl) ?_
    refine g_getr (pc := 25) C w h0 ff_X11_31 lk_X11_58 dX11_leavesRow_25 ?_
    refine lv_iload_n (pc := 28) C.1 C.2.1 dX11_leavesRow_28 rfl (lv_at hl 1 rfl) ?_
    obtain ⟨hi, hw⟩ := hw
    refine g_iald (pc := 29) C w (ro_X11_31 h0) hi dX11_leavesRow_29 ?_
    refine g_icmp_ge (pc := 30) (tgt := 63) C rfl rfl dX11_leavesRow_30 (by decide) (fun hc => ?_) (fun hc => ?_)
    · have hw := hw.1 hc
      exact g_vret (pc := 63) C w hr hk hw dX11_leavesRow_63
    · have hw := hw.2 hc
      refine lv_aload_n (pc := 33) C.1 C.2.1 dX11_leavesRow_33 rfl (lv_at hl 0 rfl) ?_
      refine g_getr (pc := 34) C w h0 ff_X11_32 lk_X11_61 dX11_leavesRow_34 ?_
      refine lv_bipush (pc := 37) C.1 C.2.1 dX11_leavesRow_37 mb_30 ?_
      refine lv_iload_n (pc := 39) C.1 C.2.1 dX11_leavesRow_39 rfl (lv_at hl 1 rfl) ?_
      refine g_imul (pc := 40) C dX11_leavesRow_40 ?_
      refine lv_iload_n (pc := 41) C.1 C.2.1 dX11_leavesRow_41 rfl (lv_at hl 2 rfl) ?_
      refine g_iadd (pc := 42) C dX11_leavesRow_42 ?_
      refine lv_aload_n (pc := 43) C.1 C.2.1 dX11_leavesRow_43 rfl (lv_at hl 0 rfl) ?_
      refine g_getr (pc := 44) C w h0 ff_X11_32 lk_X11_61 dX11_leavesRow_44 ?_
      refine lv_bipush (pc := 47) C.1 C.2.1 dX11_leavesRow_47 mb_30 ?_
      refine lv_iload_n (pc := 49) C.1 C.2.1 dX11_leavesRow_49 rfl (lv_at hl 1 rfl) ?_
      refine g_imul (pc := 50) C dX11_leavesRow_50 ?_
      refine lv_iload_n (pc := 51) C.1 C.2.1 dX11_leavesRow_51 rfl (lv_at hl 2 rfl) ?_
      refine g_iadd (pc := 52) C dX11_leavesRow_52 ?_
      refine lv_iconst (pc := 53) (v := mm_I 1) C.1 C.2.1 dX11_leavesRow_53 rfl ?_
      refine g_iadd (pc := 54) C dX11_leavesRow_54 ?_
      obtain ⟨hi, hw⟩ := hw
      refine g_iald (pc := 55) C w (ro_X11_32 h0) hi dX11_leavesRow_55 ?_
      obtain ⟨hi, hw⟩ := hw
      refine g_iast (pc := 56) C w (ro_X11_32 h0) hi  dX11_leavesRow_56 (fun s_8 H locs es_8 w => ?_)
      have hw := hw s_8 es_8
      refine g_iinc (pc := 57) (k := 2) C dX11_leavesRow_57 hl rfl (by decide) (fun v3_9 ev3_9 ls hl => ?_)
      have hw := hw v3_9 ev3_9
      have hl : lv_has ls 4 [(3, .int (mm_I v3_9)), (0, .ref (mm_ad G this)), (2, .int (mm_I v2))] := hl
      refine lv_goto (pc := 60) (tgt := 23) C.1 C.2.1 dX11_leavesRow_60 (by decide) ?_
      exact hw  _ _ _ w (lv_sub hl [1, 2, 0] rfl))
  intro H locs ls w hl
  have hl : lv_has ls 4 [(0, .ref (mm_ad G this)), (1, .int (mm_I a1))] := hl
  refine lv_aload_n (pc := 0) C.1 C.2.1 dX11_leavesRow_0 rfl (lv_at hl 0 rfl) ?_
  refine lv_iload_n (pc := 1) C.1 C.2.1 dX11_leavesRow_1 rfl (lv_at hl 1 rfl) ?_
  refine lv_iconst (pc := 2) (v := mm_I 1) C.1 C.2.1 dX11_leavesRow_2 rfl ?_
  refine g_calli (pc := 3) w (mm_runV (ci := 11) (q := (RX11, TX11, 65)) (As := [.int (mm_I a1), .int (mm_I 1)]) (rest := []) C w (c_X11_of l G this a1 1 h0 s0 _ hw) h0 rfl rfl cv_X11_of ml_X11_317 ⟨Nat.le_of_ble_eq_true rfl, Nat.le_of_ble_eq_true rfl⟩ ⟨Nat.le_of_ble_eq_true rfl, Nat.le_of_ble_eq_true rfl⟩ rfl hl.1 rfl (Nat.le_of_ble_eq_true rfl) dX11_leavesRow_3) (fun r_2 s_1 H locs hw w => ?_)
  refine g_istore_n (pc := 6) C dX11_leavesRow_6 rfl hl (by decide) (fun v2_3 ev2_3 ls hl => ?_)
  have hw := hw v2_3 ev2_3
  have hl : lv_has ls 4 [(2, .int (mm_I v2_3)), (0, .ref (mm_ad G this)), (1, .int (mm_I a1))] := hl
  refine lv_aload_n (pc := 7) C.1 C.2.1 dX11_leavesRow_7 rfl (lv_at hl 1 rfl) ?_
  refine g_getr (pc := 8) C w h0 ff_X11_31 lk_X11_58 dX11_leavesRow_8 ?_
  refine lv_iload_n (pc := 11) C.1 C.2.1 dX11_leavesRow_11 rfl (lv_at hl 0 rfl) ?_
  refine lv_dup2_11 (pc := 12) C.1 C.2.1 dX11_leavesRow_12 rfl rfl ?_
  obtain ⟨hi, hw⟩ := hw
  refine g_iald (pc := 13) C w (ro_X11_31 h0) hi dX11_leavesRow_13 ?_
  refine lv_iconst (pc := 14) (v := mm_I 1) C.1 C.2.1 dX11_leavesRow_14 rfl ?_
  refine g_isub (pc := 15) C dX11_leavesRow_15 ?_
  obtain ⟨hi, hw⟩ := hw
  refine g_iast (pc := 16) C w (ro_X11_31 h0) hi  dX11_leavesRow_16 (fun s_4 H locs es_4 w => ?_)
  have hw := hw s_4 es_4
  refine lv_aload_n (pc := 17) C.1 C.2.1 dX11_leavesRow_17 rfl (lv_at hl 1 rfl) ?_
  refine lv_iload_n (pc := 18) C.1 C.2.1 dX11_leavesRow_18 rfl (lv_at hl 2 rfl) ?_
  refine g_calli (pc := 19) w (mm_runV (ci := 11) (q := (RX11, TX11, 65)) (As := [.int (mm_I a1)]) (rest := []) C w (c_X11_placeOf l G this a1 h0 s_4 _ hw) h0 rfl rfl cv_X11_placeOf ml_X11_353 ⟨Nat.le_of_ble_eq_true rfl, Nat.le_of_ble_eq_true rfl⟩ ⟨Nat.le_of_ble_eq_true rfl, Nat.le_of_ble_eq_true rfl⟩ rfl hl.1 rfl (Nat.le_of_ble_eq_true rfl) dX11_leavesRow_19) (fun r_6 s_5 H locs hw w => ?_)
  refine g_istore_n (pc := 22) C dX11_leavesRow_22 rfl hl (by decide) (fun v3_7 ev3_7 ls hl => ?_)
  have hw := hw v3_7 ev3_7
  have hl : lv_has ls 4 [(3, .int (mm_I v3_7)), (2, .int (mm_I v2_3)), (0, .ref (mm_ad G this)), (1, .int (mm_I a1))] := hl
  exact hw  _ _ _ w (lv_sub hl [2, 1, 0] rfl)
theorem cv_X11_leavesRow : mm_V yX11_leavesRow cX11_leavesRow 4 none 1 := ⟨(mt_7 128 rfl rfl), (mt_7 127 rfl rfl), (mp_5 9 rfl rfl), (mt_1 12 rfl rfl), by decide, by decide, by decide +kernel⟩
theorem ml_X11_356 : Cond.methodLink RX11 356 yX11_leavesRow ∈ mm_ws := (mt_7 125 rfl rfl)
def wp_X11_turns (this : Nat) (a1 : Int) (s0 : mm_M) (post : mm_M → Prop) : Prop :=
  (wp_X11_leavesRow this a1 s0 (fun s_1 => (wp_X11_of this a1 5 s_1 (fun r_4 s_3 => (wp_X11_sets this a1 5 (r_4 + 1) s_3 (fun s_5 => (wp_X11_sets this a1 2 1 s_5 (fun s_7 => (wp_X11_sets this a1 6 ((s_7 this 28) + (s_7 this 18)) s_7 (fun s_9 => ((¬ n32 (s_9 this 18) = 0 → post s_9) ∧ (n32 (s_9 this 18) = 0 → (wp_X11_entersAt this a1 s_9 (fun s_11 => post s_11))))))))))))))
set_option maxRecDepth 100000 in
set_option maxHeartbeats 4000000 in
theorem c_X11_turns (l : Launch) (G : mm_G) (this : Nat) (a1 : Int) (h0 : mm_ok this 21 0) (s0 : mm_M) (post : mm_M → Prop) (hw : wp_X11_turns this a1 s0 post) : Met l yX11_turns (mm_wm yX11_turns cX11_turns 2 none) (mm_rm 4) (va_Pc [.ref (mm_ad G this), .int (mm_I a1)] (mm_pre G s0)) (mm_Qv G post) 0 0 (mm_A G) := by
  refine mm_met (own := RX11) (by decide) rfl (Nat.le_of_ble_eq_true rfl) ?_
  intro p e s m args below meth c C hr hk
  unfold wp_X11_turns at hw
  intro H locs ls w hl
  have hl : lv_has ls 2 [(0, .ref (mm_ad G this)), (1, .int (mm_I a1))] := hl
  refine lv_aload_n (pc := 0) C.1 C.2.1 dX11_turns_0 rfl (lv_at hl 0 rfl) ?_
  refine lv_iload_n (pc := 1) C.1 C.2.1 dX11_turns_1 rfl (lv_at hl 1 rfl) ?_
  refine g_callv (pc := 2) w (mm_runV (ci := 11) (q := (RX11, TX11, 65)) (As := [.int (mm_I a1)]) (rest := []) C w (c_X11_leavesRow l G this a1 h0 s0 _ hw) h0 rfl rfl cv_X11_leavesRow ml_X11_356 ⟨Nat.le_of_ble_eq_true rfl, Nat.le_of_ble_eq_true rfl⟩ ⟨Nat.le_of_ble_eq_true rfl, Nat.le_of_ble_eq_true rfl⟩ rfl hl.1 rfl (Nat.le_of_ble_eq_true rfl) dX11_turns_2) (fun s_1 H locs hw w => ?_)
  refine lv_aload_n (pc := 5) C.1 C.2.1 dX11_turns_5 rfl (lv_at hl 0 rfl) ?_
  refine lv_iload_n (pc := 6) C.1 C.2.1 dX11_turns_6 rfl (lv_at hl 1 rfl) ?_
  refine lv_iconst (pc := 7) (v := mm_I 5) C.1 C.2.1 dX11_turns_7 rfl ?_
  refine lv_aload_n (pc := 8) C.1 C.2.1 dX11_turns_8 rfl (lv_at hl 0 rfl) ?_
  refine lv_iload_n (pc := 9) C.1 C.2.1 dX11_turns_9 rfl (lv_at hl 1 rfl) ?_
  refine lv_iconst (pc := 10) (v := mm_I 5) C.1 C.2.1 dX11_turns_10 rfl ?_
  refine g_calli (pc := 11) w (mm_runV (ci := 11) (q := (RX11, TX11, 65)) (As := [.int (mm_I a1), .int (mm_I 5)]) (rest := [.int (mm_I 5), .int (mm_I a1), .ref (mm_ad G this)]) C w (c_X11_of l G this a1 5 h0 s_1 _ hw) h0 rfl rfl cv_X11_of ml_X11_317 ⟨Nat.le_of_ble_eq_true rfl, Nat.le_of_ble_eq_true rfl⟩ ⟨Nat.le_of_ble_eq_true rfl, Nat.le_of_ble_eq_true rfl⟩ rfl hl.1 rfl (Nat.le_of_ble_eq_true rfl) dX11_turns_11) (fun r_4 s_3 H locs hw w => ?_)
  refine lv_iconst (pc := 14) (v := mm_I 1) C.1 C.2.1 dX11_turns_14 rfl ?_
  refine g_iadd (pc := 15) C dX11_turns_15 ?_
  refine g_callv (pc := 16) w (mm_runV (ci := 11) (q := (RX11, TX11, 65)) (As := [.int (mm_I a1), .int (mm_I 5), .int (mm_I (r_4 + 1))]) (rest := []) C w (c_X11_sets l G this a1 5 (r_4 + 1) h0 s_3 _ hw) h0 rfl rfl cv_X11_sets ml_X11_343 ⟨Nat.le_of_ble_eq_true rfl, Nat.le_of_ble_eq_true rfl⟩ ⟨Nat.le_of_ble_eq_true rfl, Nat.le_of_ble_eq_true rfl⟩ rfl hl.1 rfl (Nat.le_of_ble_eq_true rfl) dX11_turns_16) (fun s_5 H locs hw w => ?_)
  refine lv_aload_n (pc := 19) C.1 C.2.1 dX11_turns_19 rfl (lv_at hl 0 rfl) ?_
  refine lv_iload_n (pc := 20) C.1 C.2.1 dX11_turns_20 rfl (lv_at hl 1 rfl) ?_
  refine lv_iconst (pc := 21) (v := mm_I 2) C.1 C.2.1 dX11_turns_21 rfl ?_
  refine lv_iconst (pc := 22) (v := mm_I 1) C.1 C.2.1 dX11_turns_22 rfl ?_
  refine g_callv (pc := 23) w (mm_runV (ci := 11) (q := (RX11, TX11, 65)) (As := [.int (mm_I a1), .int (mm_I 2), .int (mm_I 1)]) (rest := []) C w (c_X11_sets l G this a1 2 1 h0 s_5 _ hw) h0 rfl rfl cv_X11_sets ml_X11_343 ⟨Nat.le_of_ble_eq_true rfl, Nat.le_of_ble_eq_true rfl⟩ ⟨Nat.le_of_ble_eq_true rfl, Nat.le_of_ble_eq_true rfl⟩ rfl hl.1 rfl (Nat.le_of_ble_eq_true rfl) dX11_turns_23) (fun s_7 H locs hw w => ?_)
  refine lv_aload_n (pc := 26) C.1 C.2.1 dX11_turns_26 rfl (lv_at hl 0 rfl) ?_
  refine lv_iload_n (pc := 27) C.1 C.2.1 dX11_turns_27 rfl (lv_at hl 1 rfl) ?_
  refine lv_bipush (pc := 28) C.1 C.2.1 dX11_turns_28 mb_6 ?_
  refine lv_aload_n (pc := 30) C.1 C.2.1 dX11_turns_30 rfl (lv_at hl 0 rfl) ?_
  refine g_geti (pc := 31) C w h0 ff_X11_28 lk_X11_301 dX11_turns_31 ?_
  refine lv_aload_n (pc := 34) C.1 C.2.1 dX11_turns_34 rfl (lv_at hl 0 rfl) ?_
  refine g_geti (pc := 35) C w h0 ff_X11_18 lk_X11_299 dX11_turns_35 ?_
  refine g_iadd (pc := 38) C dX11_turns_38 ?_
  refine g_callv (pc := 39) w (mm_runV (ci := 11) (q := (RX11, TX11, 65)) (As := [.int (mm_I a1), .int (mm_I 6), .int (mm_I ((s_7 this 28) + (s_7 this 18)))]) (rest := []) C w (c_X11_sets l G this a1 6 ((s_7 this 28) + (s_7 this 18)) h0 s_7 _ hw) h0 rfl rfl cv_X11_sets ml_X11_343 ⟨Nat.le_of_ble_eq_true rfl, Nat.le_of_ble_eq_true rfl⟩ ⟨Nat.le_of_ble_eq_true rfl, Nat.le_of_ble_eq_true rfl⟩ rfl hl.1 rfl (Nat.le_of_ble_eq_true rfl) dX11_turns_39) (fun s_9 H locs hw w => ?_)
  refine lv_aload_n (pc := 42) C.1 C.2.1 dX11_turns_42 rfl (lv_at hl 0 rfl) ?_
  refine g_geti (pc := 43) C w h0 ff_X11_18 lk_X11_299 dX11_turns_43 ?_
  refine g_if_ne (pc := 46) (tgt := 54) C rfl dX11_turns_46 (by decide) (fun hc => ?_) (fun hc => ?_)
  · have hw := hw.1 hc
    exact g_vret (pc := 54) C w hr hk hw dX11_turns_54
  · have hw := hw.2 hc
    refine lv_aload_n (pc := 49) C.1 C.2.1 dX11_turns_49 rfl (lv_at hl 0 rfl) ?_
    refine lv_iload_n (pc := 50) C.1 C.2.1 dX11_turns_50 rfl (lv_at hl 1 rfl) ?_
    refine g_callv (pc := 51) w (mm_runV (ci := 11) (q := (RX11, TX11, 65)) (As := [.int (mm_I a1)]) (rest := []) C w (c_X11_entersAt l G this a1 h0 s_9 _ hw) h0 rfl rfl cv_X11_entersAt ml_X11_350 ⟨Nat.le_of_ble_eq_true rfl, Nat.le_of_ble_eq_true rfl⟩ ⟨Nat.le_of_ble_eq_true rfl, Nat.le_of_ble_eq_true rfl⟩ rfl hl.1 rfl (Nat.le_of_ble_eq_true rfl) dX11_turns_51) (fun s_11 H locs hw w => ?_)
    exact g_vret (pc := 54) C w hr hk hw dX11_turns_54
def wp_X11_givesUp (this : Nat) (a1 : Int) (s0 : mm_M) (post : mm_M → Prop) : Prop :=
  ∀ (L14 : mm_M → Prop), 
  (∀  (s1 : mm_M), (wp_X11_of this a1 0 s1 (fun r_6 s_5 => (wp_X11_tells this r_6 2 1 s_5 (fun s_7 => (wp_X11_sets this a1 2 (-1) s_7 (fun s_9 => post s_9)))))) → L14 s1) →
  (wp_X11_of this a1 2 s0 (fun r_2 s_1 => ((¬ n32 r_2 = 0 → L14 s_1) ∧ (n32 r_2 = 0 → (wp_X11_leavesRow this a1 s_1 (fun s_3 => L14 s_3))))))
set_option maxRecDepth 100000 in
set_option maxHeartbeats 4000000 in
theorem c_X11_givesUp (l : Launch) (G : mm_G) (this : Nat) (a1 : Int) (h0 : mm_ok this 21 0) (s0 : mm_M) (post : mm_M → Prop) (hw : wp_X11_givesUp this a1 s0 post) : Met l yX11_givesUp (mm_wm yX11_givesUp cX11_givesUp 2 none) (mm_rm 4) (va_Pc [.ref (mm_ad G this), .int (mm_I a1)] (mm_pre G s0)) (mm_Qv G post) 0 0 (mm_A G) := by
  refine mm_met (own := RX11) (by decide) rfl (Nat.le_of_ble_eq_true rfl) ?_
  intro p e s m args below meth c C hr hk
  unfold wp_X11_givesUp at hw
  have hw := hw (fun  (u : mm_M) => mm_X p l e (mm_rm 4) s m args below meth c (MQ below (mm_Qv G post) args s 0 0 (mm_A G)) G (mm_A G) 2 14 [(0, .ref (mm_ad G this)), (1, .int (mm_I a1))] [] u)
  have hw := hw (by
    intro  s1 hw  H locs ls w hl
    refine lv_aload_n (pc := 14) C.1 C.2.1 dX11_givesUp_14 rfl (lv_at hl 0 rfl) ?_
    refine lv_aload_n (pc := 15) C.1 C.2.1 dX11_givesUp_15 rfl (lv_at hl 0 rfl) ?_
    refine lv_iload_n (pc := 16) C.1 C.2.1 dX11_givesUp_16 rfl (lv_at hl 1 rfl) ?_
    refine lv_iconst (pc := 17) (v := mm_I 0) C.1 C.2.1 dX11_givesUp_17 rfl ?_
    refine g_calli (pc := 18) w (mm_runV (ci := 11) (q := (RX11, TX11, 65)) (As := [.int (mm_I a1), .int (mm_I 0)]) (rest := [.ref (mm_ad G this)]) C w (c_X11_of l G this a1 0 h0 s1 _ hw) h0 rfl rfl cv_X11_of ml_X11_317 ⟨Nat.le_of_ble_eq_true rfl, Nat.le_of_ble_eq_true rfl⟩ ⟨Nat.le_of_ble_eq_true rfl, Nat.le_of_ble_eq_true rfl⟩ rfl hl.1 rfl (Nat.le_of_ble_eq_true rfl) dX11_givesUp_18) (fun r_6 s_5 H locs hw w => ?_)
    refine lv_iconst (pc := 21) (v := mm_I 2) C.1 C.2.1 dX11_givesUp_21 rfl ?_
    refine lv_iconst (pc := 22) (v := mm_I 1) C.1 C.2.1 dX11_givesUp_22 rfl ?_
    refine g_callv (pc := 23) w (mm_runV (ci := 11) (q := (RX11, TX11, 65)) (As := [.int (mm_I r_6), .int (mm_I 2), .int (mm_I 1)]) (rest := []) C w (c_X11_tells l G this r_6 2 1 h0 s_5 _ hw) h0 rfl rfl cv_X11_tells ml_X11_347 ⟨Nat.le_of_ble_eq_true rfl, Nat.le_of_ble_eq_true rfl⟩ ⟨Nat.le_of_ble_eq_true rfl, Nat.le_of_ble_eq_true rfl⟩ rfl hl.1 rfl (Nat.le_of_ble_eq_true rfl) dX11_givesUp_23) (fun s_7 H locs hw w => ?_)
    refine lv_aload_n (pc := 26) C.1 C.2.1 dX11_givesUp_26 rfl (lv_at hl 0 rfl) ?_
    refine lv_iload_n (pc := 27) C.1 C.2.1 dX11_givesUp_27 rfl (lv_at hl 1 rfl) ?_
    refine lv_iconst (pc := 28) (v := mm_I 2) C.1 C.2.1 dX11_givesUp_28 rfl ?_
    refine lv_iconst (pc := 29) (v := mm_I (-1)) C.1 C.2.1 dX11_givesUp_29 rfl ?_
    refine g_callv (pc := 30) w (mm_runV (ci := 11) (q := (RX11, TX11, 65)) (As := [.int (mm_I a1), .int (mm_I 2), .int (mm_I (-1))]) (rest := []) C w (c_X11_sets l G this a1 2 (-1) h0 s_7 _ hw) h0 rfl rfl cv_X11_sets ml_X11_343 ⟨Nat.le_of_ble_eq_true rfl, Nat.le_of_ble_eq_true rfl⟩ ⟨Nat.le_of_ble_eq_true rfl, Nat.le_of_ble_eq_true rfl⟩ rfl hl.1 rfl (Nat.le_of_ble_eq_true rfl) dX11_givesUp_30) (fun s_9 H locs hw w => ?_)
    exact g_vret (pc := 33) C w hr hk hw dX11_givesUp_33)
  intro H locs ls w hl
  have hl : lv_has ls 2 [(0, .ref (mm_ad G this)), (1, .int (mm_I a1))] := hl
  refine lv_aload_n (pc := 0) C.1 C.2.1 dX11_givesUp_0 rfl (lv_at hl 0 rfl) ?_
  refine lv_iload_n (pc := 1) C.1 C.2.1 dX11_givesUp_1 rfl (lv_at hl 1 rfl) ?_
  refine lv_iconst (pc := 2) (v := mm_I 2) C.1 C.2.1 dX11_givesUp_2 rfl ?_
  refine g_calli (pc := 3) w (mm_runV (ci := 11) (q := (RX11, TX11, 65)) (As := [.int (mm_I a1), .int (mm_I 2)]) (rest := []) C w (c_X11_of l G this a1 2 h0 s0 _ hw) h0 rfl rfl cv_X11_of ml_X11_317 ⟨Nat.le_of_ble_eq_true rfl, Nat.le_of_ble_eq_true rfl⟩ ⟨Nat.le_of_ble_eq_true rfl, Nat.le_of_ble_eq_true rfl⟩ rfl hl.1 rfl (Nat.le_of_ble_eq_true rfl) dX11_givesUp_3) (fun r_2 s_1 H locs hw w => ?_)
  refine g_if_ne (pc := 6) (tgt := 14) C rfl dX11_givesUp_6 (by decide) (fun hc => ?_) (fun hc => ?_)
  · have hw := hw.1 hc
    exact hw  _ _ _ w (lv_sub hl [0, 1] rfl)
  · have hw := hw.2 hc
    refine lv_aload_n (pc := 9) C.1 C.2.1 dX11_givesUp_9 rfl (lv_at hl 0 rfl) ?_
    refine lv_iload_n (pc := 10) C.1 C.2.1 dX11_givesUp_10 rfl (lv_at hl 1 rfl) ?_
    refine g_callv (pc := 11) w (mm_runV (ci := 11) (q := (RX11, TX11, 65)) (As := [.int (mm_I a1)]) (rest := []) C w (c_X11_leavesRow l G this a1 h0 s_1 _ hw) h0 rfl rfl cv_X11_leavesRow ml_X11_356 ⟨Nat.le_of_ble_eq_true rfl, Nat.le_of_ble_eq_true rfl⟩ ⟨Nat.le_of_ble_eq_true rfl, Nat.le_of_ble_eq_true rfl⟩ rfl hl.1 rfl (Nat.le_of_ble_eq_true rfl) dX11_givesUp_11) (fun s_3 H locs hw w => ?_)
    exact hw  _ _ _ w (lv_sub hl [0, 1] rfl)
theorem cv_X11_free : mm_V yX11_free cX11_free 2 (some .int) 0 := ⟨(mt_7 92 rfl rfl), (mt_7 91 rfl rfl), (mp_5 1 rfl rfl), (mt_1 12 rfl rfl), by decide, by decide, by decide +kernel⟩
theorem ml_X11_359 : Cond.methodLink RX11 359 yX11_free ∈ mm_ws := (mt_7 89 rfl rfl)
theorem cv_X11_arrives : mm_V yX11_arrives cX11_arrives 5 none 4 := ⟨(mt_7 100 rfl rfl), (mt_7 99 rfl rfl), (mp_5 3 rfl rfl), (mt_1 12 rfl rfl), by decide, by decide, by decide +kernel⟩
theorem ml_X11_362 : Cond.methodLink RX11 362 yX11_arrives ∈ mm_ws := (mt_7 97 rfl rfl)
def wp_X11_come (this : Nat) (a1 : Int) (a2 : Int) (s0 : mm_M) (post : Int → mm_M → Prop) : Prop :=
  (wp_X11_isSort this a1 s0 (fun r_2 s_1 => ((n32 r_2 = 0 → post (-1) s_1) ∧ (¬ n32 r_2 = 0 → (wp_X11_isCounter this a2 s_1 (fun r_4 s_3 => ((n32 r_4 = 0 → post (-1) s_3) ∧ (¬ n32 r_4 = 0 → ((n32 (s_3 this 16) ≤ n32 (s_3 this 28) → post (-1) s_3) ∧ (¬ n32 (s_3 this 16) ≤ n32 (s_3 this 28) → (wp_X11_free this s_3 (fun r_6 s_5 => ((¬ n32 r_6 = (-1) → (wp_X11_free this s_5 (fun r_8 s_7 => (∀ v3_9 : Int, v3_9 = r_8 → (wp_X11_arrives this v3_9 a1 a2 1 s_7 (fun s_10 => post v3_9 s_10)))))) ∧ (n32 r_6 = (-1) → post (-1) s_5))))))))))))))
set_option maxRecDepth 100000 in
set_option maxHeartbeats 4000000 in
theorem c_X11_come (l : Launch) (G : mm_G) (this : Nat) (a1 : Int) (a2 : Int) (h0 : mm_ok this 21 0) (s0 : mm_M) (post : Int → mm_M → Prop) (hw : wp_X11_come this a1 a2 s0 post) : Met l yX11_come (mm_wm yX11_come cX11_come 4 (some .int)) (mm_rm 4) (va_Pc [.ref (mm_ad G this), .int (mm_I a1), .int (mm_I a2)] (mm_pre G s0)) (mm_Qi G post) 0 0 (mm_A G) := by
  refine mm_met (own := RX11) (by decide) rfl (Nat.le_of_ble_eq_true rfl) ?_
  intro p e s m args below meth c C hr hk
  unfold wp_X11_come at hw
  intro H locs ls w hl
  have hl : lv_has ls 4 [(0, .ref (mm_ad G this)), (1, .int (mm_I a1)), (2, .int (mm_I a2))] := hl
  refine lv_aload_n (pc := 0) C.1 C.2.1 dX11_come_0 rfl (lv_at hl 0 rfl) ?_
  refine lv_iload_n (pc := 1) C.1 C.2.1 dX11_come_1 rfl (lv_at hl 1 rfl) ?_
  refine g_calli (pc := 2) w (mm_runV (ci := 11) (q := (RX11, TX11, 65)) (As := [.int (mm_I a1)]) (rest := []) C w (c_X11_isSort l G this a1 h0 s0 _ hw) h0 rfl rfl cv_X11_isSort ml_X11_324 ⟨Nat.le_of_ble_eq_true rfl, Nat.le_of_ble_eq_true rfl⟩ ⟨Nat.le_of_ble_eq_true rfl, Nat.le_of_ble_eq_true rfl⟩ rfl hl.1 rfl (Nat.le_of_ble_eq_true rfl) dX11_come_2) (fun r_2 s_1 H locs hw w => ?_)
  refine g_if_eq (pc := 5) (tgt := 35) C rfl dX11_come_5 (by decide) (fun hc => ?_) (fun hc => ?_)
  · have hw := hw.1 hc
    refine lv_iconst (pc := 35) (v := mm_I (-1)) C.1 C.2.1 dX11_come_35 rfl ?_
    exact g_iret (pc := 36) C w hr hk hw dX11_come_36
  · have hw := hw.2 hc
    refine lv_aload_n (pc := 8) C.1 C.2.1 dX11_come_8 rfl (lv_at hl 0 rfl) ?_
    refine lv_iload_n (pc := 9) C.1 C.2.1 dX11_come_9 rfl (lv_at hl 2 rfl) ?_
    refine g_calli (pc := 10) w (mm_runV (ci := 11) (q := (RX11, TX11, 65)) (As := [.int (mm_I a2)]) (rest := []) C w (c_X11_isCounter l G this a2 h0 s_1 _ hw) h0 rfl rfl cv_X11_isCounter ml_X11_321 ⟨Nat.le_of_ble_eq_true rfl, Nat.le_of_ble_eq_true rfl⟩ ⟨Nat.le_of_ble_eq_true rfl, Nat.le_of_ble_eq_true rfl⟩ rfl hl.1 rfl (Nat.le_of_ble_eq_true rfl) dX11_come_10) (fun r_4 s_3 H locs hw w => ?_)
    refine g_if_eq (pc := 13) (tgt := 35) C rfl dX11_come_13 (by decide) (fun hc => ?_) (fun hc => ?_)
    · have hw := hw.1 hc
      refine lv_iconst (pc := 35) (v := mm_I (-1)) C.1 C.2.1 dX11_come_35 rfl ?_
      exact g_iret (pc := 36) C w hr hk hw dX11_come_36
    · have hw := hw.2 hc
      refine lv_aload_n (pc := 16) C.1 C.2.1 dX11_come_16 rfl (lv_at hl 0 rfl) ?_
      refine g_geti (pc := 17) C w h0 ff_X11_28 lk_X11_301 dX11_come_17 ?_
      refine lv_aload_n (pc := 20) C.1 C.2.1 dX11_come_20 rfl (lv_at hl 0 rfl) ?_
      refine g_geti (pc := 21) C w h0 ff_X11_16 lk_X11_294 dX11_come_21 ?_
      refine g_icmp_ge (pc := 24) (tgt := 35) C rfl rfl dX11_come_24 (by decide) (fun hc => ?_) (fun hc => ?_)
      · have hw := hw.1 hc
        refine lv_iconst (pc := 35) (v := mm_I (-1)) C.1 C.2.1 dX11_come_35 rfl ?_
        exact g_iret (pc := 36) C w hr hk hw dX11_come_36
      · have hw := hw.2 hc
        refine lv_aload_n (pc := 27) C.1 C.2.1 dX11_come_27 rfl (lv_at hl 0 rfl) ?_
        refine g_calli (pc := 28) w (mm_runV (ci := 11) (q := (RX11, TX11, 65)) (As := []) (rest := []) C w (c_X11_free l G this h0 s_3 _ hw) h0 rfl rfl cv_X11_free ml_X11_359 ⟨Nat.le_of_ble_eq_true rfl, Nat.le_of_ble_eq_true rfl⟩ ⟨Nat.le_of_ble_eq_true rfl, Nat.le_of_ble_eq_true rfl⟩ rfl hl.1 rfl (Nat.le_of_ble_eq_true rfl) dX11_come_28) (fun r_6 s_5 H locs hw w => ?_)
        refine lv_iconst (pc := 31) (v := mm_I (-1)) C.1 C.2.1 dX11_come_31 rfl ?_
        refine g_icmp_ne (pc := 32) (tgt := 37) C rfl mn_m1 dX11_come_32 (by decide) (fun hc => ?_) (fun hc => ?_)
        · have hw := hw.1 hc
          refine lv_aload_n (pc := 37) C.1 C.2.1 dX11_come_37 rfl (lv_at hl 0 rfl) ?_
          refine g_calli (pc := 38) w (mm_runV (ci := 11) (q := (RX11, TX11, 65)) (As := []) (rest := []) C w (c_X11_free l G this h0 s_5 _ hw) h0 rfl rfl cv_X11_free ml_X11_359 ⟨Nat.le_of_ble_eq_true rfl, Nat.le_of_ble_eq_true rfl⟩ ⟨Nat.le_of_ble_eq_true rfl, Nat.le_of_ble_eq_true rfl⟩ rfl hl.1 rfl (Nat.le_of_ble_eq_true rfl) dX11_come_38) (fun r_8 s_7 H locs hw w => ?_)
          refine g_istore_n (pc := 41) C dX11_come_41 rfl hl (by decide) (fun v3_9 ev3_9 ls hl => ?_)
          have hw := hw v3_9 ev3_9
          have hl : lv_has ls 4 [(3, .int (mm_I v3_9)), (0, .ref (mm_ad G this)), (1, .int (mm_I a1)), (2, .int (mm_I a2))] := hl
          refine lv_aload_n (pc := 42) C.1 C.2.1 dX11_come_42 rfl (lv_at hl 1 rfl) ?_
          refine lv_iload_n (pc := 43) C.1 C.2.1 dX11_come_43 rfl (lv_at hl 0 rfl) ?_
          refine lv_iload_n (pc := 44) C.1 C.2.1 dX11_come_44 rfl (lv_at hl 2 rfl) ?_
          refine lv_iload_n (pc := 45) C.1 C.2.1 dX11_come_45 rfl (lv_at hl 3 rfl) ?_
          refine lv_iconst (pc := 46) (v := mm_I 1) C.1 C.2.1 dX11_come_46 rfl ?_
          refine g_callv (pc := 47) w (mm_runV (ci := 11) (q := (RX11, TX11, 65)) (As := [.int (mm_I v3_9), .int (mm_I a1), .int (mm_I a2), .int (mm_I 1)]) (rest := []) C w (c_X11_arrives l G this v3_9 a1 a2 1 h0 s_7 _ hw) h0 rfl rfl cv_X11_arrives ml_X11_362 ⟨Nat.le_of_ble_eq_true rfl, Nat.le_of_ble_eq_true rfl⟩ ⟨Nat.le_of_ble_eq_true rfl, Nat.le_of_ble_eq_true rfl⟩ rfl hl.1 rfl (Nat.le_of_ble_eq_true rfl) dX11_come_47) (fun s_10 H locs hw w => ?_)
          refine lv_iload_n (pc := 50) C.1 C.2.1 dX11_come_50 rfl (lv_at hl 0 rfl) ?_
          exact g_iret (pc := 51) C w hr hk hw dX11_come_51
        · have hw := hw.2 hc
          refine lv_iconst (pc := 35) (v := mm_I (-1)) C.1 C.2.1 dX11_come_35 rfl ?_
          exact g_iret (pc := 36) C w hr hk hw dX11_come_36
theorem cv_X11_isHere : mm_V yX11_isHere cX11_isHere 2 (some .boolean) 1 := ⟨(mt_7 120 rfl rfl), (mt_7 119 rfl rfl), (mp_5 7 rfl rfl), (mt_1 12 rfl rfl), by decide, by decide, by decide +kernel⟩
theorem ml_X11_366 : Cond.methodLink RX11 366 yX11_isHere ∈ mm_ws := (mt_7 117 rfl rfl)
theorem cv_X11_turns : mm_V yX11_turns cX11_turns 2 none 1 := ⟨(mt_7 124 rfl rfl), (mt_7 123 rfl rfl), (mp_5 8 rfl rfl), (mt_1 12 rfl rfl), by decide, by decide, by decide +kernel⟩
theorem ml_X11_369 : Cond.methodLink RX11 369 yX11_turns ∈ mm_ws := (mt_7 121 rfl rfl)
def wp_X11_turn (this : Nat) (a1 : Int) (s0 : mm_M) (post : Int → mm_M → Prop) : Prop :=
  (wp_X11_isHere this a1 s0 (fun r_2 s_1 => ((n32 r_2 = 0 → post 0 s_1) ∧ (¬ n32 r_2 = 0 → (wp_X11_of this a1 2 s_1 (fun r_4 s_3 => ((n32 r_4 = 0 → (wp_X11_turns this a1 s_3 (fun s_5 => post 1 s_5))) ∧ (¬ n32 r_4 = 0 → post 0 s_3))))))))
set_option maxRecDepth 100000 in
set_option maxHeartbeats 4000000 in
theorem c_X11_turn (l : Launch) (G : mm_G) (this : Nat) (a1 : Int) (h0 : mm_ok this 21 0) (s0 : mm_M) (post : Int → mm_M → Prop) (hw : wp_X11_turn this a1 s0 post) : Met l yX11_turn (mm_wm yX11_turn cX11_turn 2 (some .boolean)) (mm_rm 5) (va_Pc [.ref (mm_ad G this), .int (mm_I a1)] (mm_pre G s0)) (mm_Qi G post) 0 0 (mm_A G) := by
  refine mm_met (own := RX11) (by decide) rfl (Nat.le_of_ble_eq_true rfl) ?_
  intro p e s m args below meth c C hr hk
  unfold wp_X11_turn at hw
  intro H locs ls w hl
  have hl : lv_has ls 2 [(0, .ref (mm_ad G this)), (1, .int (mm_I a1))] := hl
  refine lv_aload_n (pc := 0) C.1 C.2.1 dX11_turn_0 rfl (lv_at hl 0 rfl) ?_
  refine lv_iload_n (pc := 1) C.1 C.2.1 dX11_turn_1 rfl (lv_at hl 1 rfl) ?_
  refine g_calli (pc := 2) w (mm_runV (ci := 11) (q := (RX11, TX11, 65)) (As := [.int (mm_I a1)]) (rest := []) C w (c_X11_isHere l G this a1 h0 s0 _ hw) h0 rfl rfl cv_X11_isHere ml_X11_366 ⟨Nat.le_of_ble_eq_true rfl, Nat.le_of_ble_eq_true rfl⟩ ⟨Nat.le_of_ble_eq_true rfl, Nat.le_of_ble_eq_true rfl⟩ rfl hl.1 rfl (Nat.le_of_ble_eq_true rfl) dX11_turn_2) (fun r_2 s_1 H locs hw w => ?_)
  refine g_if_eq (pc := 5) (tgt := 17) C rfl dX11_turn_5 (by decide) (fun hc => ?_) (fun hc => ?_)
  · have hw := hw.1 hc
    refine lv_iconst (pc := 17) (v := mm_I 0) C.1 C.2.1 dX11_turn_17 rfl ?_
    exact g_zret (pc := 18) C w hr hk (by decide) hw dX11_turn_18
  · have hw := hw.2 hc
    refine lv_aload_n (pc := 8) C.1 C.2.1 dX11_turn_8 rfl (lv_at hl 0 rfl) ?_
    refine lv_iload_n (pc := 9) C.1 C.2.1 dX11_turn_9 rfl (lv_at hl 1 rfl) ?_
    refine lv_iconst (pc := 10) (v := mm_I 2) C.1 C.2.1 dX11_turn_10 rfl ?_
    refine g_calli (pc := 11) w (mm_runV (ci := 11) (q := (RX11, TX11, 65)) (As := [.int (mm_I a1), .int (mm_I 2)]) (rest := []) C w (c_X11_of l G this a1 2 h0 s_1 _ hw) h0 rfl rfl cv_X11_of ml_X11_317 ⟨Nat.le_of_ble_eq_true rfl, Nat.le_of_ble_eq_true rfl⟩ ⟨Nat.le_of_ble_eq_true rfl, Nat.le_of_ble_eq_true rfl⟩ rfl hl.1 rfl (Nat.le_of_ble_eq_true rfl) dX11_turn_11) (fun r_4 s_3 H locs hw w => ?_)
    refine g_if_eq (pc := 14) (tgt := 19) C rfl dX11_turn_14 (by decide) (fun hc => ?_) (fun hc => ?_)
    · have hw := hw.1 hc
      refine lv_aload_n (pc := 19) C.1 C.2.1 dX11_turn_19 rfl (lv_at hl 0 rfl) ?_
      refine lv_iload_n (pc := 20) C.1 C.2.1 dX11_turn_20 rfl (lv_at hl 1 rfl) ?_
      refine g_callv (pc := 21) w (mm_runV (ci := 11) (q := (RX11, TX11, 65)) (As := [.int (mm_I a1)]) (rest := []) C w (c_X11_turns l G this a1 h0 s_3 _ hw) h0 rfl rfl cv_X11_turns ml_X11_369 ⟨Nat.le_of_ble_eq_true rfl, Nat.le_of_ble_eq_true rfl⟩ ⟨Nat.le_of_ble_eq_true rfl, Nat.le_of_ble_eq_true rfl⟩ rfl hl.1 rfl (Nat.le_of_ble_eq_true rfl) dX11_turn_21) (fun s_5 H locs hw w => ?_)
      refine lv_iconst (pc := 24) (v := mm_I 1) C.1 C.2.1 dX11_turn_24 rfl ?_
      exact g_zret (pc := 25) C w hr hk (by decide) hw dX11_turn_25
    · have hw := hw.2 hc
      refine lv_iconst (pc := 17) (v := mm_I 0) C.1 C.2.1 dX11_turn_17 rfl ?_
      exact g_zret (pc := 18) C w hr hk (by decide) hw dX11_turn_18
theorem cv_X11_givesUp : mm_V yX11_givesUp cX11_givesUp 2 none 1 := ⟨(mt_7 140 rfl rfl), (mt_7 139 rfl rfl), (mp_5 11 rfl rfl), (mt_1 12 rfl rfl), by decide, by decide, by decide +kernel⟩
theorem ml_X11_371 : Cond.methodLink RX11 371 yX11_givesUp ∈ mm_ws := (mt_7 137 rfl rfl)
def wp_X11_leave (this : Nat) (a1 : Int) (s0 : mm_M) (post : Int → mm_M → Prop) : Prop :=
  (wp_X11_isHere this a1 s0 (fun r_2 s_1 => ((¬ n32 r_2 = 0 → (wp_X11_givesUp this a1 s_1 (fun s_3 => post 1 s_3))) ∧ (n32 r_2 = 0 → post 0 s_1))))
set_option maxRecDepth 100000 in
set_option maxHeartbeats 4000000 in
theorem c_X11_leave (l : Launch) (G : mm_G) (this : Nat) (a1 : Int) (h0 : mm_ok this 21 0) (s0 : mm_M) (post : Int → mm_M → Prop) (hw : wp_X11_leave this a1 s0 post) : Met l yX11_leave (mm_wm yX11_leave cX11_leave 2 (some .boolean)) (mm_rm 5) (va_Pc [.ref (mm_ad G this), .int (mm_I a1)] (mm_pre G s0)) (mm_Qi G post) 0 0 (mm_A G) := by
  refine mm_met (own := RX11) (by decide) rfl (Nat.le_of_ble_eq_true rfl) ?_
  intro p e s m args below meth c C hr hk
  unfold wp_X11_leave at hw
  intro H locs ls w hl
  have hl : lv_has ls 2 [(0, .ref (mm_ad G this)), (1, .int (mm_I a1))] := hl
  refine lv_aload_n (pc := 0) C.1 C.2.1 dX11_leave_0 rfl (lv_at hl 0 rfl) ?_
  refine lv_iload_n (pc := 1) C.1 C.2.1 dX11_leave_1 rfl (lv_at hl 1 rfl) ?_
  refine g_calli (pc := 2) w (mm_runV (ci := 11) (q := (RX11, TX11, 65)) (As := [.int (mm_I a1)]) (rest := []) C w (c_X11_isHere l G this a1 h0 s0 _ hw) h0 rfl rfl cv_X11_isHere ml_X11_366 ⟨Nat.le_of_ble_eq_true rfl, Nat.le_of_ble_eq_true rfl⟩ ⟨Nat.le_of_ble_eq_true rfl, Nat.le_of_ble_eq_true rfl⟩ rfl hl.1 rfl (Nat.le_of_ble_eq_true rfl) dX11_leave_2) (fun r_2 s_1 H locs hw w => ?_)
  refine g_if_ne (pc := 5) (tgt := 10) C rfl dX11_leave_5 (by decide) (fun hc => ?_) (fun hc => ?_)
  · have hw := hw.1 hc
    refine lv_aload_n (pc := 10) C.1 C.2.1 dX11_leave_10 rfl (lv_at hl 0 rfl) ?_
    refine lv_iload_n (pc := 11) C.1 C.2.1 dX11_leave_11 rfl (lv_at hl 1 rfl) ?_
    refine g_callv (pc := 12) w (mm_runV (ci := 11) (q := (RX11, TX11, 65)) (As := [.int (mm_I a1)]) (rest := []) C w (c_X11_givesUp l G this a1 h0 s_1 _ hw) h0 rfl rfl cv_X11_givesUp ml_X11_371 ⟨Nat.le_of_ble_eq_true rfl, Nat.le_of_ble_eq_true rfl⟩ ⟨Nat.le_of_ble_eq_true rfl, Nat.le_of_ble_eq_true rfl⟩ rfl hl.1 rfl (Nat.le_of_ble_eq_true rfl) dX11_leave_12) (fun s_3 H locs hw w => ?_)
    refine lv_iconst (pc := 15) (v := mm_I 1) C.1 C.2.1 dX11_leave_15 rfl ?_
    exact g_zret (pc := 16) C w hr hk (by decide) hw dX11_leave_16
  · have hw := hw.2 hc
    refine lv_iconst (pc := 8) (v := mm_I 0) C.1 C.2.1 dX11_leave_8 rfl ?_
    exact g_zret (pc := 9) C w hr hk (by decide) hw dX11_leave_9
def wp_X11_person (this : Nat) (a1 : Int) (a2 : Int) (s0 : mm_M) (post : Int → mm_M → Prop) : Prop :=
  (wp_X11_isHere this a1 s0 (fun r_2 s_1 => ((¬ n32 r_2 = 0 → ((n32 a2 = 0 → (wp_X11_of this a1 0 s_1 (fun r_4 s_3 => post r_4 s_3))) ∧ (¬ n32 a2 = 0 → ((n32 a2 = 1 → (wp_X11_of this a1 1 s_1 (fun r_6 s_5 => post r_6 s_5))) ∧ (¬ n32 a2 = 1 → ((n32 a2 = 2 → (wp_X11_of this a1 2 s_1 (fun r_8 s_7 => post r_8 s_7))) ∧ (¬ n32 a2 = 2 → ((n32 a2 = 3 → (wp_X11_of this a1 3 s_1 (fun r_10 s_9 => post r_10 s_9))) ∧ (¬ n32 a2 = 3 → ((n32 a2 = 4 → (wp_X11_of this a1 4 s_1 (fun r_12 s_11 => post r_12 s_11))) ∧ (¬ n32 a2 = 4 → ((n32 a2 = 5 → (wp_X11_of this a1 5 s_1 (fun r_14 s_13 => post r_14 s_13))) ∧ (¬ n32 a2 = 5 → ((n32 a2 = 6 → (wp_X11_of this a1 2 s_1 (fun r_16 s_15 => ((¬ n32 r_16 = 0 → post (-1) s_15) ∧ (n32 r_16 = 0 → (wp_X11_placeOf this a1 s_15 (fun r_18 s_17 => post r_18 s_17))))))) ∧ (¬ n32 a2 = 6 → ((n32 a2 = 7 → (wp_X11_of this a1 6 s_1 (fun r_20 s_19 => post r_20 s_19))) ∧ (¬ n32 a2 = 7 → post (-1) s_1))))))))))))))))) ∧ (n32 r_2 = 0 → post (-1) s_1))))
set_option maxRecDepth 100000 in
set_option maxHeartbeats 4000000 in
theorem c_X11_person (l : Launch) (G : mm_G) (this : Nat) (a1 : Int) (a2 : Int) (h0 : mm_ok this 21 0) (s0 : mm_M) (post : Int → mm_M → Prop) (hw : wp_X11_person this a1 a2 s0 post) : Met l yX11_person (mm_wm yX11_person cX11_person 3 (some .int)) (mm_rm 3) (va_Pc [.ref (mm_ad G this), .int (mm_I a1), .int (mm_I a2)] (mm_pre G s0)) (mm_Qi G post) 0 0 (mm_A G) := by
  refine mm_met (own := RX11) (by decide) rfl (Nat.le_of_ble_eq_true rfl) ?_
  intro p e s m args below meth c C hr hk
  unfold wp_X11_person at hw
  intro H locs ls w hl
  have hl : lv_has ls 3 [(0, .ref (mm_ad G this)), (1, .int (mm_I a1)), (2, .int (mm_I a2))] := hl
  refine lv_aload_n (pc := 0) C.1 C.2.1 dX11_person_0 rfl (lv_at hl 0 rfl) ?_
  refine lv_iload_n (pc := 1) C.1 C.2.1 dX11_person_1 rfl (lv_at hl 1 rfl) ?_
  refine g_calli (pc := 2) w (mm_runV (ci := 11) (q := (RX11, TX11, 65)) (As := [.int (mm_I a1)]) (rest := []) C w (c_X11_isHere l G this a1 h0 s0 _ hw) h0 rfl rfl cv_X11_isHere ml_X11_366 ⟨Nat.le_of_ble_eq_true rfl, Nat.le_of_ble_eq_true rfl⟩ ⟨Nat.le_of_ble_eq_true rfl, Nat.le_of_ble_eq_true rfl⟩ rfl hl.1 rfl (Nat.le_of_ble_eq_true rfl) dX11_person_2) (fun r_2 s_1 H locs hw w => ?_)
  refine g_if_ne (pc := 5) (tgt := 10) C rfl dX11_person_5 (by decide) (fun hc => ?_) (fun hc => ?_)
  · have hw := hw.1 hc
    refine lv_iload_n (pc := 10) C.1 C.2.1 dX11_person_10 rfl (lv_at hl 2 rfl) ?_
    by_cases hc0 : n32 a2 = 0
    · have hw := hw.1 hc0
      refine lv_tableIn (pc := 11) (tgt := 56) C.1 C.2.1 dX11_person_11 (by rw [show (mm_I a2).toInt = 0 from hc0]; decide) (by rw [show (mm_I a2).toInt = 0 from hc0]; decide) (by rw [show (mm_I a2).toInt = 0 from hc0]; first | done | rfl) (by decide) ?_
      refine lv_aload_n (pc := 56) C.1 C.2.1 dX11_person_56 rfl (lv_at hl 0 rfl) ?_
      refine lv_iload_n (pc := 57) C.1 C.2.1 dX11_person_57 rfl (lv_at hl 1 rfl) ?_
      refine lv_iconst (pc := 58) (v := mm_I 0) C.1 C.2.1 dX11_person_58 rfl ?_
      refine g_calli (pc := 59) w (mm_runV (ci := 11) (q := (RX11, TX11, 65)) (As := [.int (mm_I a1), .int (mm_I 0)]) (rest := []) C w (c_X11_of l G this a1 0 h0 s_1 _ hw) h0 rfl rfl cv_X11_of ml_X11_317 ⟨Nat.le_of_ble_eq_true rfl, Nat.le_of_ble_eq_true rfl⟩ ⟨Nat.le_of_ble_eq_true rfl, Nat.le_of_ble_eq_true rfl⟩ rfl hl.1 rfl (Nat.le_of_ble_eq_true rfl) dX11_person_59) (fun r_4 s_3 H locs hw w => ?_)
      exact g_iret (pc := 62) C w hr hk hw dX11_person_62
    have hw := hw.2 hc0
    by_cases hc1 : n32 a2 = 1
    · have hw := hw.1 hc1
      refine lv_tableIn (pc := 11) (tgt := 63) C.1 C.2.1 dX11_person_11 (by rw [show (mm_I a2).toInt = 1 from hc1]; decide) (by rw [show (mm_I a2).toInt = 1 from hc1]; decide) (by rw [show (mm_I a2).toInt = 1 from hc1]; first | done | rfl) (by decide) ?_
      refine lv_aload_n (pc := 63) C.1 C.2.1 dX11_person_63 rfl (lv_at hl 0 rfl) ?_
      refine lv_iload_n (pc := 64) C.1 C.2.1 dX11_person_64 rfl (lv_at hl 1 rfl) ?_
      refine lv_iconst (pc := 65) (v := mm_I 1) C.1 C.2.1 dX11_person_65 rfl ?_
      refine g_calli (pc := 66) w (mm_runV (ci := 11) (q := (RX11, TX11, 65)) (As := [.int (mm_I a1), .int (mm_I 1)]) (rest := []) C w (c_X11_of l G this a1 1 h0 s_1 _ hw) h0 rfl rfl cv_X11_of ml_X11_317 ⟨Nat.le_of_ble_eq_true rfl, Nat.le_of_ble_eq_true rfl⟩ ⟨Nat.le_of_ble_eq_true rfl, Nat.le_of_ble_eq_true rfl⟩ rfl hl.1 rfl (Nat.le_of_ble_eq_true rfl) dX11_person_66) (fun r_6 s_5 H locs hw w => ?_)
      exact g_iret (pc := 69) C w hr hk hw dX11_person_69
    have hw := hw.2 hc1
    by_cases hc2 : n32 a2 = 2
    · have hw := hw.1 hc2
      refine lv_tableIn (pc := 11) (tgt := 70) C.1 C.2.1 dX11_person_11 (by rw [show (mm_I a2).toInt = 2 from hc2]; decide) (by rw [show (mm_I a2).toInt = 2 from hc2]; decide) (by rw [show (mm_I a2).toInt = 2 from hc2]; first | done | rfl) (by decide) ?_
      refine lv_aload_n (pc := 70) C.1 C.2.1 dX11_person_70 rfl (lv_at hl 0 rfl) ?_
      refine lv_iload_n (pc := 71) C.1 C.2.1 dX11_person_71 rfl (lv_at hl 1 rfl) ?_
      refine lv_iconst (pc := 72) (v := mm_I 2) C.1 C.2.1 dX11_person_72 rfl ?_
      refine g_calli (pc := 73) w (mm_runV (ci := 11) (q := (RX11, TX11, 65)) (As := [.int (mm_I a1), .int (mm_I 2)]) (rest := []) C w (c_X11_of l G this a1 2 h0 s_1 _ hw) h0 rfl rfl cv_X11_of ml_X11_317 ⟨Nat.le_of_ble_eq_true rfl, Nat.le_of_ble_eq_true rfl⟩ ⟨Nat.le_of_ble_eq_true rfl, Nat.le_of_ble_eq_true rfl⟩ rfl hl.1 rfl (Nat.le_of_ble_eq_true rfl) dX11_person_73) (fun r_8 s_7 H locs hw w => ?_)
      exact g_iret (pc := 76) C w hr hk hw dX11_person_76
    have hw := hw.2 hc2
    by_cases hc3 : n32 a2 = 3
    · have hw := hw.1 hc3
      refine lv_tableIn (pc := 11) (tgt := 77) C.1 C.2.1 dX11_person_11 (by rw [show (mm_I a2).toInt = 3 from hc3]; decide) (by rw [show (mm_I a2).toInt = 3 from hc3]; decide) (by rw [show (mm_I a2).toInt = 3 from hc3]; first | done | rfl) (by decide) ?_
      refine lv_aload_n (pc := 77) C.1 C.2.1 dX11_person_77 rfl (lv_at hl 0 rfl) ?_
      refine lv_iload_n (pc := 78) C.1 C.2.1 dX11_person_78 rfl (lv_at hl 1 rfl) ?_
      refine lv_iconst (pc := 79) (v := mm_I 3) C.1 C.2.1 dX11_person_79 rfl ?_
      refine g_calli (pc := 80) w (mm_runV (ci := 11) (q := (RX11, TX11, 65)) (As := [.int (mm_I a1), .int (mm_I 3)]) (rest := []) C w (c_X11_of l G this a1 3 h0 s_1 _ hw) h0 rfl rfl cv_X11_of ml_X11_317 ⟨Nat.le_of_ble_eq_true rfl, Nat.le_of_ble_eq_true rfl⟩ ⟨Nat.le_of_ble_eq_true rfl, Nat.le_of_ble_eq_true rfl⟩ rfl hl.1 rfl (Nat.le_of_ble_eq_true rfl) dX11_person_80) (fun r_10 s_9 H locs hw w => ?_)
      exact g_iret (pc := 83) C w hr hk hw dX11_person_83
    have hw := hw.2 hc3
    by_cases hc4 : n32 a2 = 4
    · have hw := hw.1 hc4
      refine lv_tableIn (pc := 11) (tgt := 84) C.1 C.2.1 dX11_person_11 (by rw [show (mm_I a2).toInt = 4 from hc4]; decide) (by rw [show (mm_I a2).toInt = 4 from hc4]; decide) (by rw [show (mm_I a2).toInt = 4 from hc4]; first | done | rfl) (by decide) ?_
      refine lv_aload_n (pc := 84) C.1 C.2.1 dX11_person_84 rfl (lv_at hl 0 rfl) ?_
      refine lv_iload_n (pc := 85) C.1 C.2.1 dX11_person_85 rfl (lv_at hl 1 rfl) ?_
      refine lv_iconst (pc := 86) (v := mm_I 4) C.1 C.2.1 dX11_person_86 rfl ?_
      refine g_calli (pc := 87) w (mm_runV (ci := 11) (q := (RX11, TX11, 65)) (As := [.int (mm_I a1), .int (mm_I 4)]) (rest := []) C w (c_X11_of l G this a1 4 h0 s_1 _ hw) h0 rfl rfl cv_X11_of ml_X11_317 ⟨Nat.le_of_ble_eq_true rfl, Nat.le_of_ble_eq_true rfl⟩ ⟨Nat.le_of_ble_eq_true rfl, Nat.le_of_ble_eq_true rfl⟩ rfl hl.1 rfl (Nat.le_of_ble_eq_true rfl) dX11_person_87) (fun r_12 s_11 H locs hw w => ?_)
      exact g_iret (pc := 90) C w hr hk hw dX11_person_90
    have hw := hw.2 hc4
    by_cases hc5 : n32 a2 = 5
    · have hw := hw.1 hc5
      refine lv_tableIn (pc := 11) (tgt := 91) C.1 C.2.1 dX11_person_11 (by rw [show (mm_I a2).toInt = 5 from hc5]; decide) (by rw [show (mm_I a2).toInt = 5 from hc5]; decide) (by rw [show (mm_I a2).toInt = 5 from hc5]; first | done | rfl) (by decide) ?_
      refine lv_aload_n (pc := 91) C.1 C.2.1 dX11_person_91 rfl (lv_at hl 0 rfl) ?_
      refine lv_iload_n (pc := 92) C.1 C.2.1 dX11_person_92 rfl (lv_at hl 1 rfl) ?_
      refine lv_iconst (pc := 93) (v := mm_I 5) C.1 C.2.1 dX11_person_93 rfl ?_
      refine g_calli (pc := 94) w (mm_runV (ci := 11) (q := (RX11, TX11, 65)) (As := [.int (mm_I a1), .int (mm_I 5)]) (rest := []) C w (c_X11_of l G this a1 5 h0 s_1 _ hw) h0 rfl rfl cv_X11_of ml_X11_317 ⟨Nat.le_of_ble_eq_true rfl, Nat.le_of_ble_eq_true rfl⟩ ⟨Nat.le_of_ble_eq_true rfl, Nat.le_of_ble_eq_true rfl⟩ rfl hl.1 rfl (Nat.le_of_ble_eq_true rfl) dX11_person_94) (fun r_14 s_13 H locs hw w => ?_)
      exact g_iret (pc := 97) C w hr hk hw dX11_person_97
    have hw := hw.2 hc5
    by_cases hc6 : n32 a2 = 6
    · have hw := hw.1 hc6
      refine lv_tableIn (pc := 11) (tgt := 98) C.1 C.2.1 dX11_person_11 (by rw [show (mm_I a2).toInt = 6 from hc6]; decide) (by rw [show (mm_I a2).toInt = 6 from hc6]; decide) (by rw [show (mm_I a2).toInt = 6 from hc6]; first | done | rfl) (by decide) ?_
      refine lv_aload_n (pc := 98) C.1 C.2.1 dX11_person_98 rfl (lv_at hl 0 rfl) ?_
      refine lv_iload_n (pc := 99) C.1 C.2.1 dX11_person_99 rfl (lv_at hl 1 rfl) ?_
      refine lv_iconst (pc := 100) (v := mm_I 2) C.1 C.2.1 dX11_person_100 rfl ?_
      refine g_calli (pc := 101) w (mm_runV (ci := 11) (q := (RX11, TX11, 65)) (As := [.int (mm_I a1), .int (mm_I 2)]) (rest := []) C w (c_X11_of l G this a1 2 h0 s_1 _ hw) h0 rfl rfl cv_X11_of ml_X11_317 ⟨Nat.le_of_ble_eq_true rfl, Nat.le_of_ble_eq_true rfl⟩ ⟨Nat.le_of_ble_eq_true rfl, Nat.le_of_ble_eq_true rfl⟩ rfl hl.1 rfl (Nat.le_of_ble_eq_true rfl) dX11_person_101) (fun r_16 s_15 H locs hw w => ?_)
      refine g_if_ne (pc := 104) (tgt := 115) C rfl dX11_person_104 (by decide) (fun hc => ?_) (fun hc => ?_)
      · have hw := hw.1 hc
        refine lv_iconst (pc := 115) (v := mm_I (-1)) C.1 C.2.1 dX11_person_115 rfl ?_
        exact g_iret (pc := 116) C w hr hk hw dX11_person_116
      · have hw := hw.2 hc
        refine lv_aload_n (pc := 107) C.1 C.2.1 dX11_person_107 rfl (lv_at hl 0 rfl) ?_
        refine lv_iload_n (pc := 108) C.1 C.2.1 dX11_person_108 rfl (lv_at hl 1 rfl) ?_
        refine g_calli (pc := 109) w (mm_runV (ci := 11) (q := (RX11, TX11, 65)) (As := [.int (mm_I a1)]) (rest := []) C w (c_X11_placeOf l G this a1 h0 s_15 _ hw) h0 rfl rfl cv_X11_placeOf ml_X11_353 ⟨Nat.le_of_ble_eq_true rfl, Nat.le_of_ble_eq_true rfl⟩ ⟨Nat.le_of_ble_eq_true rfl, Nat.le_of_ble_eq_true rfl⟩ rfl hl.1 rfl (Nat.le_of_ble_eq_true rfl) dX11_person_109) (fun r_18 s_17 H locs hw w => ?_)
        refine lv_goto (pc := 112) (tgt := 116) C.1 C.2.1 dX11_person_112 (by decide) ?_
        exact g_iret (pc := 116) C w hr hk hw dX11_person_116
    have hw := hw.2 hc6
    by_cases hc7 : n32 a2 = 7
    · have hw := hw.1 hc7
      refine lv_tableIn (pc := 11) (tgt := 117) C.1 C.2.1 dX11_person_11 (by rw [show (mm_I a2).toInt = 7 from hc7]; decide) (by rw [show (mm_I a2).toInt = 7 from hc7]; decide) (by rw [show (mm_I a2).toInt = 7 from hc7]; first | done | rfl) (by decide) ?_
      refine lv_aload_n (pc := 117) C.1 C.2.1 dX11_person_117 rfl (lv_at hl 0 rfl) ?_
      refine lv_iload_n (pc := 118) C.1 C.2.1 dX11_person_118 rfl (lv_at hl 1 rfl) ?_
      refine lv_bipush (pc := 119) C.1 C.2.1 dX11_person_119 mb_6 ?_
      refine g_calli (pc := 121) w (mm_runV (ci := 11) (q := (RX11, TX11, 65)) (As := [.int (mm_I a1), .int (mm_I 6)]) (rest := []) C w (c_X11_of l G this a1 6 h0 s_1 _ hw) h0 rfl rfl cv_X11_of ml_X11_317 ⟨Nat.le_of_ble_eq_true rfl, Nat.le_of_ble_eq_true rfl⟩ ⟨Nat.le_of_ble_eq_true rfl, Nat.le_of_ble_eq_true rfl⟩ rfl hl.1 rfl (Nat.le_of_ble_eq_true rfl) dX11_person_121) (fun r_20 s_19 H locs hw w => ?_)
      exact g_iret (pc := 124) C w hr hk hw dX11_person_124
    have hw := hw.2 hc7
    refine lv_tableOut (pc := 11) (tgt := 125) C.1 C.2.1 dX11_person_11 (mo_0_7 hc0 hc1 hc2 hc3 hc4 hc5 hc6 hc7) (by decide) ?_
    refine lv_iconst (pc := 125) (v := mm_I (-1)) C.1 C.2.1 dX11_person_125 rfl ?_
    exact g_iret (pc := 126) C w hr hk hw dX11_person_126
  · have hw := hw.2 hc
    refine lv_iconst (pc := 8) (v := mm_I (-1)) C.1 C.2.1 dX11_person_8 rfl ?_
    exact g_iret (pc := 9) C w hr hk hw dX11_person_9
theorem cv_X11_says : mm_V yX11_says cX11_says 9 (some .int) 1 := ⟨(mt_7 164 rfl rfl), (mt_7 163 rfl rfl), (mp_5 15 rfl rfl), (mt_1 12 rfl rfl), by decide, by decide, by decide +kernel⟩
theorem ml_X11_374 : Cond.methodLink RX11 374 yX11_says ∈ mm_ws := (mt_7 161 rfl rfl)
theorem cv_X11_isNext : mm_V yX11_isNext cX11_isNext 4 (some .boolean) 3 := ⟨(mt_7 173 rfl rfl), (mt_7 172 rfl rfl), (mp_6 0 rfl rfl), (mt_1 12 rfl rfl), by decide, by decide, by decide +kernel⟩
theorem ml_X11_377 : Cond.methodLink RX11 377 yX11_isNext ∈ mm_ws := (mt_7 170 rfl rfl)
def wp_X11_placeTold (this : Nat) (a1 : Int) (a2 : Int) (s0 : mm_M) (post : Int → mm_M → Prop) : Prop :=
  ∀ (L8 : Int → Int → Int → mm_M → Prop), 
  (∀ (v3 : Int) (v4 : Int) (v5 : Int) (s1 : mm_M), ((0 ≤ a1 ∧ a1 < 3) ∧ ((n32 (s1 (mm_rt this 31) a1) ≤ n32 v5 → post v3 s1) ∧ (¬ n32 (s1 (mm_rt this 31) a1) ≤ n32 v5 → ((0 ≤ (30 * a1) + v5 ∧ (30 * a1) + v5 < 90) ∧ (∀ v6_4 : Int, v6_4 = s1 (mm_rt this 32) ((30 * a1) + v5) → (wp_X11_of this v6_4 4 s1 (fun r_6 s_5 => (∀ s_7 : mm_M, s_7 = mm_up s_5 (mm_rt this 48) 0 r_6 → (wp_X11_of this v6_4 3 s_7 (fun r_9 s_8 => (∀ s_10 : mm_M, s_10 = mm_up s_8 (mm_rt this 48) 1 ((s_7 this 28) - r_9) → (wp_X11_of this v6_4 0 s_10 (fun r_12 s_11 => (∀ s_13 : mm_M, s_13 = mm_up s_11 (mm_rt this 48) 2 r_12 → (wp_X11_of this v6_4 0 s_13 (fun r_15 s_14 => (wp_X11_sortHas this r_15 1 s_14 (fun r_17 s_16 => (∀ s_18 : mm_M, s_18 = mm_up s_16 (mm_rt this 48) 3 r_17 → (∀ s_19 : mm_M, s_19 = mm_up s_18 (mm_rt this 48) 4 v5 → ((0 ≤ a1 ∧ a1 < 3) ∧ (∀ s_20 : mm_M, s_20 = mm_up s_19 (mm_rt this 48) 5 (((s_19 (mm_rt this 31) a1) - 1) - v5) → ((0 ≤ a1 ∧ a1 < 3) ∧ (∀ s_21 : mm_M, s_21 = mm_up s_20 (mm_rt this 48) 6 (s_20 (mm_rt this 31) a1) → (∀ s_22 : mm_M, s_22 = mm_up s_21 (mm_rt this 48) 7 (s_21 this 28) → (∀ s_23 : mm_M, s_23 = mm_up s_22 (mm_rt this 48) 8 ((s_22 this 16) - (s_22 this 28)) → (wp_X11_of this v6_4 5 s_23 (fun r_25 s_24 => (∀ s_26 : mm_M, s_26 = mm_up s_24 (mm_rt this 48) 9 r_25 → (wp_X11_says this a2 s_26 (fun r_28 s_27 => (∀ v7_29 : Int, v7_29 = r_28 → ((n32 v5 ≤ 0 → (∀ v3_30 : Int, v3_30 = v5 → (∀ v4_31 : Int, v4_31 = v7_29 → (∀ v5_32 : Int, v5_32 = v5 + 1 → L8 v3_30 v4_31 v5_32 s_27)))) ∧ (¬ n32 v5 ≤ 0 → (wp_X11_isNext this a2 v7_29 v4 s_27 (fun r_34 s_33 => ((¬ n32 r_34 = 0 → (∀ v3_35 : Int, v3_35 = v5 → (∀ v4_36 : Int, v4_36 = v7_29 → (∀ v5_37 : Int, v5_37 = v5 + 1 → L8 v3_35 v4_36 v5_37 s_33)))) ∧ (n32 r_34 = 0 → (∀ v5_38 : Int, v5_38 = v5 + 1 → L8 v3 v4 v5_38 s_33))))))))))))))))))))))))))))))))))))))) → L8 v3 v4 v5 s1) →
  L8 0 0 0 s0
set_option maxRecDepth 100000 in
set_option maxHeartbeats 4000000 in
theorem c_X11_placeTold (l : Launch) (G : mm_G) (this : Nat) (a1 : Int) (a2 : Int) (h0 : mm_ok this 21 0) (s0 : mm_M) (post : Int → mm_M → Prop) (hw : wp_X11_placeTold this a1 a2 s0 post) : Met l yX11_placeTold (mm_wm yX11_placeTold cX11_placeTold 8 (some .int)) (mm_rm 3) (va_Pc [.ref (mm_ad G this), .int (mm_I a1), .int (mm_I a2)] (mm_pre G s0)) (mm_Qi G post) 0 0 (mm_A G) := by
  refine mm_met (own := RX11) (by decide) rfl (Nat.le_of_ble_eq_true rfl) ?_
  intro p e s m args below meth c C hr hk
  unfold wp_X11_placeTold at hw
  have hw := hw (fun (v3 : Int) (v4 : Int) (v5 : Int) (u : mm_M) => mm_X p l e (mm_rm 3) s m args below meth c (MQ below (mm_Qi G post) args s 0 0 (mm_A G)) G (mm_A G) 8 8 [(0, .ref (mm_ad G this)), (1, .int (mm_I a1)), (2, .int (mm_I a2)), (3, .int (mm_I v3)), (4, .int (mm_I v4)), (5, .int (mm_I v5))] [] u)
  have hw := hw (by
    intro v3 v4 v5 s1 hw  H locs ls w hl
    refine lv_iload (pc := 8) C.1 C.2.1 dX11_placeTold_8 (lv_at hl 5 rfl) ?_
    refine lv_aload_n (pc := 10) C.1 C.2.1 dX11_placeTold_10 rfl (lv_at hl 0 rfl) ?_
    refine g_getr (pc := 11) C w h0 ff_X11_31 lk_X11_58 dX11_placeTold_11 ?_
    refine lv_iload_n (pc := 14) C.1 C.2.1 dX11_placeTold_14 rfl (lv_at hl 1 rfl) ?_
    obtain ⟨hi, hw⟩ := hw
    refine g_iald (pc := 15) C w (ro_X11_31 h0) hi dX11_placeTold_15 ?_
    refine g_icmp_ge (pc := 16) (tgt := 214) C rfl rfl dX11_placeTold_16 (by decide) (fun hc => ?_) (fun hc => ?_)
    · have hw := hw.1 hc
      refine lv_iload_n (pc := 214) C.1 C.2.1 dX11_placeTold_214 rfl (lv_at hl 3 rfl) ?_
      exact g_iret (pc := 215) C w hr hk hw dX11_placeTold_215
    · have hw := hw.2 hc
      refine lv_aload_n (pc := 19) C.1 C.2.1 dX11_placeTold_19 rfl (lv_at hl 0 rfl) ?_
      refine g_getr (pc := 20) C w h0 ff_X11_32 lk_X11_61 dX11_placeTold_20 ?_
      refine lv_bipush (pc := 23) C.1 C.2.1 dX11_placeTold_23 mb_30 ?_
      refine lv_iload_n (pc := 25) C.1 C.2.1 dX11_placeTold_25 rfl (lv_at hl 1 rfl) ?_
      refine g_imul (pc := 26) C dX11_placeTold_26 ?_
      refine lv_iload (pc := 27) C.1 C.2.1 dX11_placeTold_27 (lv_at hl 5 rfl) ?_
      refine g_iadd (pc := 29) C dX11_placeTold_29 ?_
      obtain ⟨hi, hw⟩ := hw
      refine g_iald (pc := 30) C w (ro_X11_32 h0) hi dX11_placeTold_30 ?_
      refine g_istore (pc := 31) C dX11_placeTold_31 hl (by decide) (fun v6_4 ev6_4 ls hl => ?_)
      have hw := hw v6_4 ev6_4
      have hl : lv_has ls 8 [(6, .int (mm_I v6_4)), (0, .ref (mm_ad G this)), (1, .int (mm_I a1)), (2, .int (mm_I a2)), (3, .int (mm_I v3)), (4, .int (mm_I v4)), (5, .int (mm_I v5))] := hl
      refine lv_aload_n (pc := 33) C.1 C.2.1 dX11_placeTold_33 rfl (lv_at hl 1 rfl) ?_
      refine g_getr (pc := 34) C w h0 ff_X11_48 lk_X11_94 dX11_placeTold_34 ?_
      refine lv_iconst (pc := 37) (v := mm_I 0) C.1 C.2.1 dX11_placeTold_37 rfl ?_
      refine lv_aload_n (pc := 38) C.1 C.2.1 dX11_placeTold_38 rfl (lv_at hl 1 rfl) ?_
      refine lv_iload (pc := 39) C.1 C.2.1 dX11_placeTold_39 (lv_at hl 0 rfl) ?_
      refine lv_iconst (pc := 41) (v := mm_I 4) C.1 C.2.1 dX11_placeTold_41 rfl ?_
      refine g_calli (pc := 42) w (mm_runV (ci := 11) (q := (RX11, TX11, 65)) (As := [.int (mm_I v6_4), .int (mm_I 4)]) (rest := [.int (mm_I 0), .ref (mm_ad G (mm_rt this 48))]) C w (c_X11_of l G this v6_4 4 h0 s1 _ hw) h0 rfl rfl cv_X11_of ml_X11_317 ⟨Nat.le_of_ble_eq_true rfl, Nat.le_of_ble_eq_true rfl⟩ ⟨Nat.le_of_ble_eq_true rfl, Nat.le_of_ble_eq_true rfl⟩ rfl hl.1 rfl (Nat.le_of_ble_eq_true rfl) dX11_placeTold_42) (fun r_6 s_5 H locs hw w => ?_)
      refine g_iast (pc := 45) C w (ro_X11_48 h0) ⟨by decide, by decide⟩  dX11_placeTold_45 (fun s_7 H locs es_7 w => ?_)
      have hw := hw s_7 es_7
      refine lv_aload_n (pc := 46) C.1 C.2.1 dX11_placeTold_46 rfl (lv_at hl 1 rfl) ?_
      refine g_getr (pc := 47) C w h0 ff_X11_48 lk_X11_94 dX11_placeTold_47 ?_
      refine lv_iconst (pc := 50) (v := mm_I 1) C.1 C.2.1 dX11_placeTold_50 rfl ?_
      refine lv_aload_n (pc := 51) C.1 C.2.1 dX11_placeTold_51 rfl (lv_at hl 1 rfl) ?_
      refine g_geti (pc := 52) C w h0 ff_X11_28 lk_X11_301 dX11_placeTold_52 ?_
      refine lv_aload_n (pc := 55) C.1 C.2.1 dX11_placeTold_55 rfl (lv_at hl 1 rfl) ?_
      refine lv_iload (pc := 56) C.1 C.2.1 dX11_placeTold_56 (lv_at hl 0 rfl) ?_
      refine lv_iconst (pc := 58) (v := mm_I 3) C.1 C.2.1 dX11_placeTold_58 rfl ?_
      refine g_calli (pc := 59) w (mm_runV (ci := 11) (q := (RX11, TX11, 65)) (As := [.int (mm_I v6_4), .int (mm_I 3)]) (rest := [.int (mm_I (s_7 this 28)), .int (mm_I 1), .ref (mm_ad G (mm_rt this 48))]) C w (c_X11_of l G this v6_4 3 h0 s_7 _ hw) h0 rfl rfl cv_X11_of ml_X11_317 ⟨Nat.le_of_ble_eq_true rfl, Nat.le_of_ble_eq_true rfl⟩ ⟨Nat.le_of_ble_eq_true rfl, Nat.le_of_ble_eq_true rfl⟩ rfl hl.1 rfl (Nat.le_of_ble_eq_true rfl) dX11_placeTold_59) (fun r_9 s_8 H locs hw w => ?_)
      refine g_isub (pc := 62) C dX11_placeTold_62 ?_
      refine g_iast (pc := 63) C w (ro_X11_48 h0) ⟨by decide, by decide⟩  dX11_placeTold_63 (fun s_10 H locs es_10 w => ?_)
      have hw := hw s_10 es_10
      refine lv_aload_n (pc := 64) C.1 C.2.1 dX11_placeTold_64 rfl (lv_at hl 1 rfl) ?_
      refine g_getr (pc := 65) C w h0 ff_X11_48 lk_X11_94 dX11_placeTold_65 ?_
      refine lv_iconst (pc := 68) (v := mm_I 2) C.1 C.2.1 dX11_placeTold_68 rfl ?_
      refine lv_aload_n (pc := 69) C.1 C.2.1 dX11_placeTold_69 rfl (lv_at hl 1 rfl) ?_
      refine lv_iload (pc := 70) C.1 C.2.1 dX11_placeTold_70 (lv_at hl 0 rfl) ?_
      refine lv_iconst (pc := 72) (v := mm_I 0) C.1 C.2.1 dX11_placeTold_72 rfl ?_
      refine g_calli (pc := 73) w (mm_runV (ci := 11) (q := (RX11, TX11, 65)) (As := [.int (mm_I v6_4), .int (mm_I 0)]) (rest := [.int (mm_I 2), .ref (mm_ad G (mm_rt this 48))]) C w (c_X11_of l G this v6_4 0 h0 s_10 _ hw) h0 rfl rfl cv_X11_of ml_X11_317 ⟨Nat.le_of_ble_eq_true rfl, Nat.le_of_ble_eq_true rfl⟩ ⟨Nat.le_of_ble_eq_true rfl, Nat.le_of_ble_eq_true rfl⟩ rfl hl.1 rfl (Nat.le_of_ble_eq_true rfl) dX11_placeTold_73) (fun r_12 s_11 H locs hw w => ?_)
      refine g_iast (pc := 76) C w (ro_X11_48 h0) ⟨by decide, by decide⟩  dX11_placeTold_76 (fun s_13 H locs es_13 w => ?_)
      have hw := hw s_13 es_13
      refine lv_aload_n (pc := 77) C.1 C.2.1 dX11_placeTold_77 rfl (lv_at hl 1 rfl) ?_
      refine g_getr (pc := 78) C w h0 ff_X11_48 lk_X11_94 dX11_placeTold_78 ?_
      refine lv_iconst (pc := 81) (v := mm_I 3) C.1 C.2.1 dX11_placeTold_81 rfl ?_
      refine lv_aload_n (pc := 82) C.1 C.2.1 dX11_placeTold_82 rfl (lv_at hl 1 rfl) ?_
      refine lv_aload_n (pc := 83) C.1 C.2.1 dX11_placeTold_83 rfl (lv_at hl 1 rfl) ?_
      refine lv_iload (pc := 84) C.1 C.2.1 dX11_placeTold_84 (lv_at hl 0 rfl) ?_
      refine lv_iconst (pc := 86) (v := mm_I 0) C.1 C.2.1 dX11_placeTold_86 rfl ?_
      refine g_calli (pc := 87) w (mm_runV (ci := 11) (q := (RX11, TX11, 65)) (As := [.int (mm_I v6_4), .int (mm_I 0)]) (rest := [.ref (mm_ad G this), .int (mm_I 3), .ref (mm_ad G (mm_rt this 48))]) C w (c_X11_of l G this v6_4 0 h0 s_13 _ hw) h0 rfl rfl cv_X11_of ml_X11_317 ⟨Nat.le_of_ble_eq_true rfl, Nat.le_of_ble_eq_true rfl⟩ ⟨Nat.le_of_ble_eq_true rfl, Nat.le_of_ble_eq_true rfl⟩ rfl hl.1 rfl (Nat.le_of_ble_eq_true rfl) dX11_placeTold_87) (fun r_15 s_14 H locs hw w => ?_)
      refine lv_iconst (pc := 90) (v := mm_I 1) C.1 C.2.1 dX11_placeTold_90 rfl ?_
      refine g_calli (pc := 91) w (mm_runV (ci := 11) (q := (RX11, TX11, 65)) (As := [.int (mm_I r_15), .int (mm_I 1)]) (rest := [.int (mm_I 3), .ref (mm_ad G (mm_rt this 48))]) C w (c_X11_sortHas l G this r_15 1 h0 s_14 _ hw) h0 rfl rfl cv_X11_sortHas ml_X11_327 ⟨Nat.le_of_ble_eq_true rfl, Nat.le_of_ble_eq_true rfl⟩ ⟨Nat.le_of_ble_eq_true rfl, Nat.le_of_ble_eq_true rfl⟩ rfl hl.1 rfl (Nat.le_of_ble_eq_true rfl) dX11_placeTold_91) (fun r_17 s_16 H locs hw w => ?_)
      refine g_iast (pc := 94) C w (ro_X11_48 h0) ⟨by decide, by decide⟩  dX11_placeTold_94 (fun s_18 H locs es_18 w => ?_)
      have hw := hw s_18 es_18
      refine lv_aload_n (pc := 95) C.1 C.2.1 dX11_placeTold_95 rfl (lv_at hl 1 rfl) ?_
      refine g_getr (pc := 96) C w h0 ff_X11_48 lk_X11_94 dX11_placeTold_96 ?_
      refine lv_iconst (pc := 99) (v := mm_I 4) C.1 C.2.1 dX11_placeTold_99 rfl ?_
      refine lv_iload (pc := 100) C.1 C.2.1 dX11_placeTold_100 (lv_at hl 6 rfl) ?_
      refine g_iast (pc := 102) C w (ro_X11_48 h0) ⟨by decide, by decide⟩  dX11_placeTold_102 (fun s_19 H locs es_19 w => ?_)
      have hw := hw s_19 es_19
      refine lv_aload_n (pc := 103) C.1 C.2.1 dX11_placeTold_103 rfl (lv_at hl 1 rfl) ?_
      refine g_getr (pc := 104) C w h0 ff_X11_48 lk_X11_94 dX11_placeTold_104 ?_
      refine lv_iconst (pc := 107) (v := mm_I 5) C.1 C.2.1 dX11_placeTold_107 rfl ?_
      refine lv_aload_n (pc := 108) C.1 C.2.1 dX11_placeTold_108 rfl (lv_at hl 1 rfl) ?_
      refine g_getr (pc := 109) C w h0 ff_X11_31 lk_X11_58 dX11_placeTold_109 ?_
      refine lv_iload_n (pc := 112) C.1 C.2.1 dX11_placeTold_112 rfl (lv_at hl 2 rfl) ?_
      obtain ⟨hi, hw⟩ := hw
      refine g_iald (pc := 113) C w (ro_X11_31 h0) hi dX11_placeTold_113 ?_
      refine lv_iconst (pc := 114) (v := mm_I 1) C.1 C.2.1 dX11_placeTold_114 rfl ?_
      refine g_isub (pc := 115) C dX11_placeTold_115 ?_
      refine lv_iload (pc := 116) C.1 C.2.1 dX11_placeTold_116 (lv_at hl 6 rfl) ?_
      refine g_isub (pc := 118) C dX11_placeTold_118 ?_
      refine g_iast (pc := 119) C w (ro_X11_48 h0) ⟨by decide, by decide⟩  dX11_placeTold_119 (fun s_20 H locs es_20 w => ?_)
      have hw := hw s_20 es_20
      refine lv_aload_n (pc := 120) C.1 C.2.1 dX11_placeTold_120 rfl (lv_at hl 1 rfl) ?_
      refine g_getr (pc := 121) C w h0 ff_X11_48 lk_X11_94 dX11_placeTold_121 ?_
      refine lv_bipush (pc := 124) C.1 C.2.1 dX11_placeTold_124 mb_6 ?_
      refine lv_aload_n (pc := 126) C.1 C.2.1 dX11_placeTold_126 rfl (lv_at hl 1 rfl) ?_
      refine g_getr (pc := 127) C w h0 ff_X11_31 lk_X11_58 dX11_placeTold_127 ?_
      refine lv_iload_n (pc := 130) C.1 C.2.1 dX11_placeTold_130 rfl (lv_at hl 2 rfl) ?_
      obtain ⟨hi, hw⟩ := hw
      refine g_iald (pc := 131) C w (ro_X11_31 h0) hi dX11_placeTold_131 ?_
      refine g_iast (pc := 132) C w (ro_X11_48 h0) ⟨by decide, by decide⟩  dX11_placeTold_132 (fun s_21 H locs es_21 w => ?_)
      have hw := hw s_21 es_21
      refine lv_aload_n (pc := 133) C.1 C.2.1 dX11_placeTold_133 rfl (lv_at hl 1 rfl) ?_
      refine g_getr (pc := 134) C w h0 ff_X11_48 lk_X11_94 dX11_placeTold_134 ?_
      refine lv_bipush (pc := 137) C.1 C.2.1 dX11_placeTold_137 mb_7 ?_
      refine lv_aload_n (pc := 139) C.1 C.2.1 dX11_placeTold_139 rfl (lv_at hl 1 rfl) ?_
      refine g_geti (pc := 140) C w h0 ff_X11_28 lk_X11_301 dX11_placeTold_140 ?_
      refine g_iast (pc := 143) C w (ro_X11_48 h0) ⟨by decide, by decide⟩  dX11_placeTold_143 (fun s_22 H locs es_22 w => ?_)
      have hw := hw s_22 es_22
      refine lv_aload_n (pc := 144) C.1 C.2.1 dX11_placeTold_144 rfl (lv_at hl 1 rfl) ?_
      refine g_getr (pc := 145) C w h0 ff_X11_48 lk_X11_94 dX11_placeTold_145 ?_
      refine lv_bipush (pc := 148) C.1 C.2.1 dX11_placeTold_148 mb_8 ?_
      refine lv_aload_n (pc := 150) C.1 C.2.1 dX11_placeTold_150 rfl (lv_at hl 1 rfl) ?_
      refine g_geti (pc := 151) C w h0 ff_X11_16 lk_X11_294 dX11_placeTold_151 ?_
      refine lv_aload_n (pc := 154) C.1 C.2.1 dX11_placeTold_154 rfl (lv_at hl 1 rfl) ?_
      refine g_geti (pc := 155) C w h0 ff_X11_28 lk_X11_301 dX11_placeTold_155 ?_
      refine g_isub (pc := 158) C dX11_placeTold_158 ?_
      refine g_iast (pc := 159) C w (ro_X11_48 h0) ⟨by decide, by decide⟩  dX11_placeTold_159 (fun s_23 H locs es_23 w => ?_)
      have hw := hw s_23 es_23
      refine lv_aload_n (pc := 160) C.1 C.2.1 dX11_placeTold_160 rfl (lv_at hl 1 rfl) ?_
      refine g_getr (pc := 161) C w h0 ff_X11_48 lk_X11_94 dX11_placeTold_161 ?_
      refine lv_bipush (pc := 164) C.1 C.2.1 dX11_placeTold_164 mb_9 ?_
      refine lv_aload_n (pc := 166) C.1 C.2.1 dX11_placeTold_166 rfl (lv_at hl 1 rfl) ?_
      refine lv_iload (pc := 167) C.1 C.2.1 dX11_placeTold_167 (lv_at hl 0 rfl) ?_
      refine lv_iconst (pc := 169) (v := mm_I 5) C.1 C.2.1 dX11_placeTold_169 rfl ?_
      refine g_calli (pc := 170) w (mm_runV (ci := 11) (q := (RX11, TX11, 65)) (As := [.int (mm_I v6_4), .int (mm_I 5)]) (rest := [.int (mm_I 9), .ref (mm_ad G (mm_rt this 48))]) C w (c_X11_of l G this v6_4 5 h0 s_23 _ hw) h0 rfl rfl cv_X11_of ml_X11_317 ⟨Nat.le_of_ble_eq_true rfl, Nat.le_of_ble_eq_true rfl⟩ ⟨Nat.le_of_ble_eq_true rfl, Nat.le_of_ble_eq_true rfl⟩ rfl hl.1 rfl (Nat.le_of_ble_eq_true rfl) dX11_placeTold_170) (fun r_25 s_24 H locs hw w => ?_)
      refine g_iast (pc := 173) C w (ro_X11_48 h0) ⟨by decide, by decide⟩  dX11_placeTold_173 (fun s_26 H locs es_26 w => ?_)
      have hw := hw s_26 es_26
      refine lv_aload_n (pc := 174) C.1 C.2.1 dX11_placeTold_174 rfl (lv_at hl 1 rfl) ?_
      refine lv_iload_n (pc := 175) C.1 C.2.1 dX11_placeTold_175 rfl (lv_at hl 3 rfl) ?_
      refine g_calli (pc := 176) w (mm_runV (ci := 11) (q := (RX11, TX11, 65)) (As := [.int (mm_I a2)]) (rest := []) C w (c_X11_says l G this a2 h0 s_26 _ hw) h0 rfl rfl cv_X11_says ml_X11_374 ⟨Nat.le_of_ble_eq_true rfl, Nat.le_of_ble_eq_true rfl⟩ ⟨Nat.le_of_ble_eq_true rfl, Nat.le_of_ble_eq_true rfl⟩ rfl hl.1 rfl (Nat.le_of_ble_eq_true rfl) dX11_placeTold_176) (fun r_28 s_27 H locs hw w => ?_)
      refine g_istore (pc := 179) C dX11_placeTold_179 hl (by decide) (fun v7_29 ev7_29 ls hl => ?_)
      have hw := hw v7_29 ev7_29
      have hl : lv_has ls 8 [(7, .int (mm_I v7_29)), (6, .int (mm_I v6_4)), (0, .ref (mm_ad G this)), (1, .int (mm_I a1)), (2, .int (mm_I a2)), (3, .int (mm_I v3)), (4, .int (mm_I v4)), (5, .int (mm_I v5))] := hl
      refine lv_iload (pc := 181) C.1 C.2.1 dX11_placeTold_181 (lv_at hl 7 rfl) ?_
      refine g_if_le (pc := 183) (tgt := 201) C rfl dX11_placeTold_183 (by decide) (fun hc => ?_) (fun hc => ?_)
      · have hw := hw.1 hc
        refine lv_iload (pc := 201) C.1 C.2.1 dX11_placeTold_201 (lv_at hl 7 rfl) ?_
        refine g_istore_n (pc := 203) C dX11_placeTold_203 rfl hl (by decide) (fun v3_30 ev3_30 ls hl => ?_)
        have hw := hw v3_30 ev3_30
        have hl : lv_has ls 8 [(3, .int (mm_I v3_30)), (7, .int (mm_I v7_29)), (6, .int (mm_I v6_4)), (0, .ref (mm_ad G this)), (1, .int (mm_I a1)), (2, .int (mm_I a2)), (4, .int (mm_I v4)), (5, .int (mm_I v5))] := hl
        refine lv_iload (pc := 204) C.1 C.2.1 dX11_placeTold_204 (lv_at hl 1 rfl) ?_
        refine g_istore (pc := 206) C dX11_placeTold_206 hl (by decide) (fun v4_31 ev4_31 ls hl => ?_)
        have hw := hw v4_31 ev4_31
        have hl : lv_has ls 8 [(4, .int (mm_I v4_31)), (3, .int (mm_I v3_30)), (7, .int (mm_I v7_29)), (6, .int (mm_I v6_4)), (0, .ref (mm_ad G this)), (1, .int (mm_I a1)), (2, .int (mm_I a2)), (5, .int (mm_I v5))] := hl
        refine g_iinc (pc := 208) (k := 7) C dX11_placeTold_208 hl rfl (by decide) (fun v5_32 ev5_32 ls hl => ?_)
        have hw := hw v5_32 ev5_32
        have hl : lv_has ls 8 [(5, .int (mm_I v5_32)), (4, .int (mm_I v4_31)), (3, .int (mm_I v3_30)), (7, .int (mm_I v7_29)), (6, .int (mm_I v6_4)), (0, .ref (mm_ad G this)), (1, .int (mm_I a1)), (2, .int (mm_I a2))] := hl
        refine lv_goto (pc := 211) (tgt := 8) C.1 C.2.1 dX11_placeTold_211 (by decide) ?_
        exact hw  _ _ _ w (lv_sub hl [5, 6, 7, 2, 1, 0] rfl)
      · have hw := hw.2 hc
        refine lv_aload_n (pc := 186) C.1 C.2.1 dX11_placeTold_186 rfl (lv_at hl 2 rfl) ?_
        refine lv_iload_n (pc := 187) C.1 C.2.1 dX11_placeTold_187 rfl (lv_at hl 4 rfl) ?_
        refine lv_iload (pc := 188) C.1 C.2.1 dX11_placeTold_188 (lv_at hl 0 rfl) ?_
        refine lv_iload (pc := 190) C.1 C.2.1 dX11_placeTold_190 (lv_at hl 6 rfl) ?_
        refine g_calli (pc := 192) w (mm_runV (ci := 11) (q := (RX11, TX11, 65)) (As := [.int (mm_I a2), .int (mm_I v7_29), .int (mm_I v4)]) (rest := []) C w (c_X11_isNext l G this a2 v7_29 v4 h0 s_27 _ hw) h0 rfl rfl cv_X11_isNext ml_X11_377 ⟨Nat.le_of_ble_eq_true rfl, Nat.le_of_ble_eq_true rfl⟩ ⟨Nat.le_of_ble_eq_true rfl, Nat.le_of_ble_eq_true rfl⟩ rfl hl.1 rfl (Nat.le_of_ble_eq_true rfl) dX11_placeTold_192) (fun r_34 s_33 H locs hw w => ?_)
        refine g_if_ne (pc := 195) (tgt := 201) C rfl dX11_placeTold_195 (by decide) (fun hc => ?_) (fun hc => ?_)
        · have hw := hw.1 hc
          refine lv_iload (pc := 201) C.1 C.2.1 dX11_placeTold_201 (lv_at hl 7 rfl) ?_
          refine g_istore_n (pc := 203) C dX11_placeTold_203 rfl hl (by decide) (fun v3_35 ev3_35 ls hl => ?_)
          have hw := hw v3_35 ev3_35
          have hl : lv_has ls 8 [(3, .int (mm_I v3_35)), (7, .int (mm_I v7_29)), (6, .int (mm_I v6_4)), (0, .ref (mm_ad G this)), (1, .int (mm_I a1)), (2, .int (mm_I a2)), (4, .int (mm_I v4)), (5, .int (mm_I v5))] := hl
          refine lv_iload (pc := 204) C.1 C.2.1 dX11_placeTold_204 (lv_at hl 1 rfl) ?_
          refine g_istore (pc := 206) C dX11_placeTold_206 hl (by decide) (fun v4_36 ev4_36 ls hl => ?_)
          have hw := hw v4_36 ev4_36
          have hl : lv_has ls 8 [(4, .int (mm_I v4_36)), (3, .int (mm_I v3_35)), (7, .int (mm_I v7_29)), (6, .int (mm_I v6_4)), (0, .ref (mm_ad G this)), (1, .int (mm_I a1)), (2, .int (mm_I a2)), (5, .int (mm_I v5))] := hl
          refine g_iinc (pc := 208) (k := 7) C dX11_placeTold_208 hl rfl (by decide) (fun v5_37 ev5_37 ls hl => ?_)
          have hw := hw v5_37 ev5_37
          have hl : lv_has ls 8 [(5, .int (mm_I v5_37)), (4, .int (mm_I v4_36)), (3, .int (mm_I v3_35)), (7, .int (mm_I v7_29)), (6, .int (mm_I v6_4)), (0, .ref (mm_ad G this)), (1, .int (mm_I a1)), (2, .int (mm_I a2))] := hl
          refine lv_goto (pc := 211) (tgt := 8) C.1 C.2.1 dX11_placeTold_211 (by decide) ?_
          exact hw  _ _ _ w (lv_sub hl [5, 6, 7, 2, 1, 0] rfl)
        · have hw := hw.2 hc
          refine lv_goto (pc := 198) (tgt := 208) C.1 C.2.1 dX11_placeTold_198 (by decide) ?_
          refine g_iinc (pc := 208) (k := 7) C dX11_placeTold_208 hl rfl (by decide) (fun v5_38 ev5_38 ls hl => ?_)
          have hw := hw v5_38 ev5_38
          have hl : lv_has ls 8 [(5, .int (mm_I v5_38)), (7, .int (mm_I v7_29)), (6, .int (mm_I v6_4)), (0, .ref (mm_ad G this)), (1, .int (mm_I a1)), (2, .int (mm_I a2)), (3, .int (mm_I v3)), (4, .int (mm_I v4))] := hl
          refine lv_goto (pc := 211) (tgt := 8) C.1 C.2.1 dX11_placeTold_211 (by decide) ?_
          exact hw  _ _ _ w (lv_sub hl [3, 4, 5, 6, 7, 0] rfl))
  intro H locs ls w hl
  have hl : lv_has ls 8 [(0, .ref (mm_ad G this)), (1, .int (mm_I a1)), (2, .int (mm_I a2))] := hl
  refine lv_iconst (pc := 0) (v := mm_I 0) C.1 C.2.1 dX11_placeTold_0 rfl ?_
  refine lv_istore_n (pc := 1) (lv' := [(3, .int (mm_I 0)), (0, .ref (mm_ad G this)), (1, .int (mm_I a1)), (2, .int (mm_I a2))]) C.1 C.2.1 dX11_placeTold_1 rfl hl (by decide) rfl (fun ls hl => ?_)
  refine lv_iconst (pc := 2) (v := mm_I 0) C.1 C.2.1 dX11_placeTold_2 rfl ?_
  refine lv_istore (pc := 3) (lv' := [(4, .int (mm_I 0)), (3, .int (mm_I 0)), (0, .ref (mm_ad G this)), (1, .int (mm_I a1)), (2, .int (mm_I a2))]) C.1 C.2.1 dX11_placeTold_3 hl (by decide) rfl (fun ls hl => ?_)
  refine lv_iconst (pc := 5) (v := mm_I 0) C.1 C.2.1 dX11_placeTold_5 rfl ?_
  refine lv_istore (pc := 6) (lv' := [(5, .int (mm_I 0)), (4, .int (mm_I 0)), (3, .int (mm_I 0)), (0, .ref (mm_ad G this)), (1, .int (mm_I a1)), (2, .int (mm_I a2))]) C.1 C.2.1 dX11_placeTold_6 hl (by decide) rfl (fun ls hl => ?_)
  exact hw  _ _ _ w (lv_sub hl [3, 4, 5, 2, 1, 0] rfl)
theorem cv_X11_isTold : mm_V yX11_isTold cX11_isTold 2 (some .boolean) 1 := ⟨(mt_7 156 rfl rfl), (mt_7 155 rfl rfl), (mp_5 13 rfl rfl), (mt_1 12 rfl rfl), by decide, by decide, by decide +kernel⟩
theorem ml_X11_380 : Cond.methodLink RX11 380 yX11_isTold ∈ mm_ws := (mt_7 153 rfl rfl)
theorem cs_X11_placeBy : mm_S yX11_placeBy cX11_placeBy 2 (some .int) 2 := ⟨(mt_7 176 rfl rfl), (mt_7 175 rfl rfl), (mt_1 12 rfl rfl), by decide, by decide, by decide +kernel⟩
theorem ml_X11_386 : Cond.methodLink RX11 386 yX11_placeBy ∈ mm_ws := (mt_7 174 rfl rfl)
theorem cv_X11_placeTold : mm_V yX11_placeTold cX11_placeTold 8 (some .int) 2 := ⟨(mt_7 160 rfl rfl), (mt_7 159 rfl rfl), (mp_5 14 rfl rfl), (mt_1 12 rfl rfl), by decide, by decide, by decide +kernel⟩
theorem ml_X11_383 : Cond.methodLink RX11 383 yX11_placeTold ∈ mm_ws := (mt_7 157 rfl rfl)
def wp_X11_placeNext (this : Nat) (a1 : Int) (a2 : Int) (s0 : mm_M) (post : Int → mm_M → Prop) : Prop :=
  (wp_X11_isTold this a2 s0 (fun r_2 s_1 => ((n32 r_2 = 0 → ((0 ≤ a1 ∧ a1 < 3) ∧ (wp_X11_placeBy a2 (s_1 (mm_rt this 31) a1) s_1 (fun r_4 s_3 => post r_4 s_3)))) ∧ (¬ n32 r_2 = 0 → (wp_X11_placeTold this a1 (a2 - 4) s_1 (fun r_6 s_5 => post r_6 s_5))))))
set_option maxRecDepth 100000 in
set_option maxHeartbeats 4000000 in
theorem c_X11_placeNext (l : Launch) (G : mm_G) (this : Nat) (a1 : Int) (a2 : Int) (h0 : mm_ok this 21 0) (s0 : mm_M) (post : Int → mm_M → Prop) (hw : wp_X11_placeNext this a1 a2 s0 post) : Met l yX11_placeNext (mm_wm yX11_placeNext cX11_placeNext 3 (some .int)) (mm_rm 4) (va_Pc [.ref (mm_ad G this), .int (mm_I a1), .int (mm_I a2)] (mm_pre G s0)) (mm_Qi G post) 0 0 (mm_A G) := by
  refine mm_met (own := RX11) (by decide) rfl (Nat.le_of_ble_eq_true rfl) ?_
  intro p e s m args below meth c C hr hk
  unfold wp_X11_placeNext at hw
  intro H locs ls w hl
  have hl : lv_has ls 3 [(0, .ref (mm_ad G this)), (1, .int (mm_I a1)), (2, .int (mm_I a2))] := hl
  refine lv_aload_n (pc := 0) C.1 C.2.1 dX11_placeNext_0 rfl (lv_at hl 0 rfl) ?_
  refine lv_iload_n (pc := 1) C.1 C.2.1 dX11_placeNext_1 rfl (lv_at hl 2 rfl) ?_
  refine g_calli (pc := 2) w (mm_runV (ci := 11) (q := (RX11, TX11, 65)) (As := [.int (mm_I a2)]) (rest := []) C w (c_X11_isTold l G this a2 h0 s0 _ hw) h0 rfl rfl cv_X11_isTold ml_X11_380 ⟨Nat.le_of_ble_eq_true rfl, Nat.le_of_ble_eq_true rfl⟩ ⟨Nat.le_of_ble_eq_true rfl, Nat.le_of_ble_eq_true rfl⟩ rfl hl.1 rfl (Nat.le_of_ble_eq_true rfl) dX11_placeNext_2) (fun r_2 s_1 H locs hw w => ?_)
  refine g_if_eq (pc := 5) (tgt := 19) C rfl dX11_placeNext_5 (by decide) (fun hc => ?_) (fun hc => ?_)
  · have hw := hw.1 hc
    refine lv_iload_n (pc := 19) C.1 C.2.1 dX11_placeNext_19 rfl (lv_at hl 2 rfl) ?_
    refine lv_aload_n (pc := 20) C.1 C.2.1 dX11_placeNext_20 rfl (lv_at hl 0 rfl) ?_
    refine g_getr (pc := 21) C w h0 ff_X11_31 lk_X11_58 dX11_placeNext_21 ?_
    refine lv_iload_n (pc := 24) C.1 C.2.1 dX11_placeNext_24 rfl (lv_at hl 1 rfl) ?_
    obtain ⟨hi, hw⟩ := hw
    refine g_iald (pc := 25) C w (ro_X11_31 h0) hi dX11_placeNext_25 ?_
    refine g_calli (pc := 26) w (mm_runS (As := [.int (mm_I a2), .int (mm_I (s_1 (mm_rt this 31) a1))]) (rest := []) C w (c_X11_placeBy l G a2 (s_1 (mm_rt this 31) a1)  s_1 _ hw) cs_X11_placeBy ml_X11_386 ⟨Nat.le_of_ble_eq_true rfl, Nat.le_of_ble_eq_true rfl⟩ ⟨Nat.le_of_ble_eq_true rfl, Nat.le_of_ble_eq_true rfl⟩ rfl hl.1 rfl (Nat.le_of_ble_eq_true rfl) dX11_placeNext_26) (fun r_4 s_3 H locs hw w => ?_)
    exact g_iret (pc := 29) C w hr hk hw dX11_placeNext_29
  · have hw := hw.2 hc
    refine lv_aload_n (pc := 8) C.1 C.2.1 dX11_placeNext_8 rfl (lv_at hl 0 rfl) ?_
    refine lv_iload_n (pc := 9) C.1 C.2.1 dX11_placeNext_9 rfl (lv_at hl 1 rfl) ?_
    refine lv_iload_n (pc := 10) C.1 C.2.1 dX11_placeNext_10 rfl (lv_at hl 2 rfl) ?_
    refine lv_iconst (pc := 11) (v := mm_I 4) C.1 C.2.1 dX11_placeNext_11 rfl ?_
    refine g_isub (pc := 12) C dX11_placeNext_12 ?_
    refine g_calli (pc := 13) w (mm_runV (ci := 11) (q := (RX11, TX11, 65)) (As := [.int (mm_I a1), .int (mm_I (a2 - 4))]) (rest := []) C w (c_X11_placeTold l G this a1 (a2 - 4) h0 s_1 _ hw) h0 rfl rfl cv_X11_placeTold ml_X11_383 ⟨Nat.le_of_ble_eq_true rfl, Nat.le_of_ble_eq_true rfl⟩ ⟨Nat.le_of_ble_eq_true rfl, Nat.le_of_ble_eq_true rfl⟩ rfl hl.1 rfl (Nat.le_of_ble_eq_true rfl) dX11_placeNext_13) (fun r_6 s_5 H locs hw w => ?_)
    refine lv_goto (pc := 16) (tgt := 29) C.1 C.2.1 dX11_placeNext_16 (by decide) ?_
    exact g_iret (pc := 29) C w hr hk hw dX11_placeNext_29
theorem cv_X11_placeNext : mm_V yX11_placeNext cX11_placeNext 3 (some .int) 2 := ⟨(mt_7 152 rfl rfl), (mt_7 151 rfl rfl), (mp_5 12 rfl rfl), (mt_1 12 rfl rfl), by decide, by decide, by decide +kernel⟩
theorem ml_X11_389 : Cond.methodLink RX11 389 yX11_placeNext ∈ mm_ws := (mt_7 149 rfl rfl)
def wp_X11_next (this : Nat) (a1 : Int) (a2 : Int) (s0 : mm_M) (post : Int → mm_M → Prop) : Prop :=
  (wp_X11_isCounter this a1 s0 (fun r_2 s_1 => ((n32 r_2 = 0 → post (-1) s_1) ∧ (¬ n32 r_2 = 0 → (wp_X11_in a2 0 8 s_1 (fun r_4 s_3 => ((n32 r_4 = 0 → post (-1) s_3) ∧ (¬ n32 r_4 = 0 → ((n32 a2 = 3 → post (-1) s_3) ∧ (¬ n32 a2 = 3 → ((0 ≤ a1 ∧ a1 < 3) ∧ ((¬ n32 (s_3 (mm_rt this 31) a1) = 0 → (wp_X11_placeNext this a1 a2 s_3 (fun r_6 s_5 => ((0 ≤ (30 * a1) + r_6 ∧ (30 * a1) + r_6 < 90) ∧ post (s_5 (mm_rt this 32) ((30 * a1) + r_6)) s_5)))) ∧ (n32 (s_3 (mm_rt this 31) a1) = 0 → post (-1) s_3)))))))))))))
set_option maxRecDepth 100000 in
set_option maxHeartbeats 4000000 in
theorem c_X11_next (l : Launch) (G : mm_G) (this : Nat) (a1 : Int) (a2 : Int) (h0 : mm_ok this 21 0) (s0 : mm_M) (post : Int → mm_M → Prop) (hw : wp_X11_next this a1 a2 s0 post) : Met l yX11_next (mm_wm yX11_next cX11_next 3 (some .int)) (mm_rm 5) (va_Pc [.ref (mm_ad G this), .int (mm_I a1), .int (mm_I a2)] (mm_pre G s0)) (mm_Qi G post) 0 0 (mm_A G) := by
  refine mm_met (own := RX11) (by decide) rfl (Nat.le_of_ble_eq_true rfl) ?_
  intro p e s m args below meth c C hr hk
  unfold wp_X11_next at hw
  intro H locs ls w hl
  have hl : lv_has ls 3 [(0, .ref (mm_ad G this)), (1, .int (mm_I a1)), (2, .int (mm_I a2))] := hl
  refine lv_aload_n (pc := 0) C.1 C.2.1 dX11_next_0 rfl (lv_at hl 0 rfl) ?_
  refine lv_iload_n (pc := 1) C.1 C.2.1 dX11_next_1 rfl (lv_at hl 1 rfl) ?_
  refine g_calli (pc := 2) w (mm_runV (ci := 11) (q := (RX11, TX11, 65)) (As := [.int (mm_I a1)]) (rest := []) C w (c_X11_isCounter l G this a1 h0 s0 _ hw) h0 rfl rfl cv_X11_isCounter ml_X11_321 ⟨Nat.le_of_ble_eq_true rfl, Nat.le_of_ble_eq_true rfl⟩ ⟨Nat.le_of_ble_eq_true rfl, Nat.le_of_ble_eq_true rfl⟩ rfl hl.1 rfl (Nat.le_of_ble_eq_true rfl) dX11_next_2) (fun r_2 s_1 H locs hw w => ?_)
  refine g_if_eq (pc := 5) (tgt := 32) C rfl dX11_next_5 (by decide) (fun hc => ?_) (fun hc => ?_)
  · have hw := hw.1 hc
    refine lv_iconst (pc := 32) (v := mm_I (-1)) C.1 C.2.1 dX11_next_32 rfl ?_
    exact g_iret (pc := 33) C w hr hk hw dX11_next_33
  · have hw := hw.2 hc
    refine lv_iload_n (pc := 8) C.1 C.2.1 dX11_next_8 rfl (lv_at hl 2 rfl) ?_
    refine lv_iconst (pc := 9) (v := mm_I 0) C.1 C.2.1 dX11_next_9 rfl ?_
    refine lv_bipush (pc := 10) C.1 C.2.1 dX11_next_10 mb_8 ?_
    refine g_calli (pc := 12) w (mm_runS (As := [.int (mm_I a2), .int (mm_I 0), .int (mm_I 8)]) (rest := []) C w (c_X11_in l G a2 0 8  s_1 _ hw) cs_X11_in ml_X11_122 ⟨Nat.le_of_ble_eq_true rfl, Nat.le_of_ble_eq_true rfl⟩ ⟨Nat.le_of_ble_eq_true rfl, Nat.le_of_ble_eq_true rfl⟩ rfl hl.1 rfl (Nat.le_of_ble_eq_true rfl) dX11_next_12) (fun r_4 s_3 H locs hw w => ?_)
    refine g_if_eq (pc := 15) (tgt := 32) C rfl dX11_next_15 (by decide) (fun hc => ?_) (fun hc => ?_)
    · have hw := hw.1 hc
      refine lv_iconst (pc := 32) (v := mm_I (-1)) C.1 C.2.1 dX11_next_32 rfl ?_
      exact g_iret (pc := 33) C w hr hk hw dX11_next_33
    · have hw := hw.2 hc
      refine lv_iload_n (pc := 18) C.1 C.2.1 dX11_next_18 rfl (lv_at hl 2 rfl) ?_
      refine lv_iconst (pc := 19) (v := mm_I 3) C.1 C.2.1 dX11_next_19 rfl ?_
      refine g_icmp_eq (pc := 20) (tgt := 32) C rfl mn_3 dX11_next_20 (by decide) (fun hc => ?_) (fun hc => ?_)
      · have hw := hw.1 hc
        refine lv_iconst (pc := 32) (v := mm_I (-1)) C.1 C.2.1 dX11_next_32 rfl ?_
        exact g_iret (pc := 33) C w hr hk hw dX11_next_33
      · have hw := hw.2 hc
        refine lv_aload_n (pc := 23) C.1 C.2.1 dX11_next_23 rfl (lv_at hl 0 rfl) ?_
        refine g_getr (pc := 24) C w h0 ff_X11_31 lk_X11_58 dX11_next_24 ?_
        refine lv_iload_n (pc := 27) C.1 C.2.1 dX11_next_27 rfl (lv_at hl 1 rfl) ?_
        obtain ⟨hi, hw⟩ := hw
        refine g_iald (pc := 28) C w (ro_X11_31 h0) hi dX11_next_28 ?_
        refine g_if_ne (pc := 29) (tgt := 34) C rfl dX11_next_29 (by decide) (fun hc => ?_) (fun hc => ?_)
        · have hw := hw.1 hc
          refine lv_aload_n (pc := 34) C.1 C.2.1 dX11_next_34 rfl (lv_at hl 0 rfl) ?_
          refine g_getr (pc := 35) C w h0 ff_X11_32 lk_X11_61 dX11_next_35 ?_
          refine lv_bipush (pc := 38) C.1 C.2.1 dX11_next_38 mb_30 ?_
          refine lv_iload_n (pc := 40) C.1 C.2.1 dX11_next_40 rfl (lv_at hl 1 rfl) ?_
          refine g_imul (pc := 41) C dX11_next_41 ?_
          refine lv_aload_n (pc := 42) C.1 C.2.1 dX11_next_42 rfl (lv_at hl 0 rfl) ?_
          refine lv_iload_n (pc := 43) C.1 C.2.1 dX11_next_43 rfl (lv_at hl 1 rfl) ?_
          refine lv_iload_n (pc := 44) C.1 C.2.1 dX11_next_44 rfl (lv_at hl 2 rfl) ?_
          refine g_calli (pc := 45) w (mm_runV (ci := 11) (q := (RX11, TX11, 65)) (As := [.int (mm_I a1), .int (mm_I a2)]) (rest := [.int (mm_I (30 * a1)), .ref (mm_ad G (mm_rt this 32))]) C w (c_X11_placeNext l G this a1 a2 h0 s_3 _ hw) h0 rfl rfl cv_X11_placeNext ml_X11_389 ⟨Nat.le_of_ble_eq_true rfl, Nat.le_of_ble_eq_true rfl⟩ ⟨Nat.le_of_ble_eq_true rfl, Nat.le_of_ble_eq_true rfl⟩ rfl hl.1 rfl (Nat.le_of_ble_eq_true rfl) dX11_next_45) (fun r_6 s_5 H locs hw w => ?_)
          refine g_iadd (pc := 48) C dX11_next_48 ?_
          obtain ⟨hi, hw⟩ := hw
          refine g_iald (pc := 49) C w (ro_X11_32 h0) hi dX11_next_49 ?_
          exact g_iret (pc := 50) C w hr hk hw dX11_next_50
        · have hw := hw.2 hc
          refine lv_iconst (pc := 32) (v := mm_I (-1)) C.1 C.2.1 dX11_next_32 rfl ?_
          exact g_iret (pc := 33) C w hr hk hw dX11_next_33
def wp_X11_inside (this : Nat) (a1 : Int) (a2 : Int) (s0 : mm_M) (post : Int → mm_M → Prop) : Prop :=
  (wp_X11_isCounter this a1 s0 (fun r_2 s_1 => ((n32 r_2 = 0 → post (-1) s_1) ∧ (¬ n32 r_2 = 0 → ((0 ≤ a1 ∧ a1 < 3) ∧ (wp_X11_in a2 0 ((s_1 (mm_rt this 31) a1) - 1) s_1 (fun r_4 s_3 => ((n32 r_4 = 0 → post (-1) s_3) ∧ (¬ n32 r_4 = 0 → ((0 ≤ (30 * a1) + a2 ∧ (30 * a1) + a2 < 90) ∧ post (s_3 (mm_rt this 32) ((30 * a1) + a2)) s_3))))))))))
set_option maxRecDepth 100000 in
set_option maxHeartbeats 4000000 in
theorem c_X11_inside (l : Launch) (G : mm_G) (this : Nat) (a1 : Int) (a2 : Int) (h0 : mm_ok this 21 0) (s0 : mm_M) (post : Int → mm_M → Prop) (hw : wp_X11_inside this a1 a2 s0 post) : Met l yX11_inside (mm_wm yX11_inside cX11_inside 3 (some .int)) (mm_rm 3) (va_Pc [.ref (mm_ad G this), .int (mm_I a1), .int (mm_I a2)] (mm_pre G s0)) (mm_Qi G post) 0 0 (mm_A G) := by
  refine mm_met (own := RX11) (by decide) rfl (Nat.le_of_ble_eq_true rfl) ?_
  intro p e s m args below meth c C hr hk
  unfold wp_X11_inside at hw
  intro H locs ls w hl
  have hl : lv_has ls 3 [(0, .ref (mm_ad G this)), (1, .int (mm_I a1)), (2, .int (mm_I a2))] := hl
  refine lv_aload_n (pc := 0) C.1 C.2.1 dX11_inside_0 rfl (lv_at hl 0 rfl) ?_
  refine lv_iload_n (pc := 1) C.1 C.2.1 dX11_inside_1 rfl (lv_at hl 1 rfl) ?_
  refine g_calli (pc := 2) w (mm_runV (ci := 11) (q := (RX11, TX11, 65)) (As := [.int (mm_I a1)]) (rest := []) C w (c_X11_isCounter l G this a1 h0 s0 _ hw) h0 rfl rfl cv_X11_isCounter ml_X11_321 ⟨Nat.le_of_ble_eq_true rfl, Nat.le_of_ble_eq_true rfl⟩ ⟨Nat.le_of_ble_eq_true rfl, Nat.le_of_ble_eq_true rfl⟩ rfl hl.1 rfl (Nat.le_of_ble_eq_true rfl) dX11_inside_2) (fun r_2 s_1 H locs hw w => ?_)
  refine g_if_eq (pc := 5) (tgt := 38) C rfl dX11_inside_5 (by decide) (fun hc => ?_) (fun hc => ?_)
  · have hw := hw.1 hc
    refine lv_iconst (pc := 38) (v := mm_I (-1)) C.1 C.2.1 dX11_inside_38 rfl ?_
    exact g_iret (pc := 39) C w hr hk hw dX11_inside_39
  · have hw := hw.2 hc
    refine lv_iload_n (pc := 8) C.1 C.2.1 dX11_inside_8 rfl (lv_at hl 2 rfl) ?_
    refine lv_iconst (pc := 9) (v := mm_I 0) C.1 C.2.1 dX11_inside_9 rfl ?_
    refine lv_aload_n (pc := 10) C.1 C.2.1 dX11_inside_10 rfl (lv_at hl 0 rfl) ?_
    refine g_getr (pc := 11) C w h0 ff_X11_31 lk_X11_58 dX11_inside_11 ?_
    refine lv_iload_n (pc := 14) C.1 C.2.1 dX11_inside_14 rfl (lv_at hl 1 rfl) ?_
    obtain ⟨hi, hw⟩ := hw
    refine g_iald (pc := 15) C w (ro_X11_31 h0) hi dX11_inside_15 ?_
    refine lv_iconst (pc := 16) (v := mm_I 1) C.1 C.2.1 dX11_inside_16 rfl ?_
    refine g_isub (pc := 17) C dX11_inside_17 ?_
    refine g_calli (pc := 18) w (mm_runS (As := [.int (mm_I a2), .int (mm_I 0), .int (mm_I ((s_1 (mm_rt this 31) a1) - 1))]) (rest := []) C w (c_X11_in l G a2 0 ((s_1 (mm_rt this 31) a1) - 1)  s_1 _ hw) cs_X11_in ml_X11_122 ⟨Nat.le_of_ble_eq_true rfl, Nat.le_of_ble_eq_true rfl⟩ ⟨Nat.le_of_ble_eq_true rfl, Nat.le_of_ble_eq_true rfl⟩ rfl hl.1 rfl (Nat.le_of_ble_eq_true rfl) dX11_inside_18) (fun r_4 s_3 H locs hw w => ?_)
    refine g_if_eq (pc := 21) (tgt := 38) C rfl dX11_inside_21 (by decide) (fun hc => ?_) (fun hc => ?_)
    · have hw := hw.1 hc
      refine lv_iconst (pc := 38) (v := mm_I (-1)) C.1 C.2.1 dX11_inside_38 rfl ?_
      exact g_iret (pc := 39) C w hr hk hw dX11_inside_39
    · have hw := hw.2 hc
      refine lv_aload_n (pc := 24) C.1 C.2.1 dX11_inside_24 rfl (lv_at hl 0 rfl) ?_
      refine g_getr (pc := 25) C w h0 ff_X11_32 lk_X11_61 dX11_inside_25 ?_
      refine lv_bipush (pc := 28) C.1 C.2.1 dX11_inside_28 mb_30 ?_
      refine lv_iload_n (pc := 30) C.1 C.2.1 dX11_inside_30 rfl (lv_at hl 1 rfl) ?_
      refine g_imul (pc := 31) C dX11_inside_31 ?_
      refine lv_iload_n (pc := 32) C.1 C.2.1 dX11_inside_32 rfl (lv_at hl 2 rfl) ?_
      refine g_iadd (pc := 33) C dX11_inside_33 ?_
      obtain ⟨hi, hw⟩ := hw
      refine g_iald (pc := 34) C w (ro_X11_32 h0) hi dX11_inside_34 ?_
      refine lv_goto (pc := 35) (tgt := 39) C.1 C.2.1 dX11_inside_35 (by decide) ?_
      exact g_iret (pc := 39) C w hr hk hw dX11_inside_39
theorem cv_X11_draws : mm_V yX11_draws cX11_draws 2 (some .int) 1 := ⟨(mt_7 196 rfl rfl), (mt_7 195 rfl rfl), (mp_6 3 rfl rfl), (mt_1 12 rfl rfl), by decide, by decide, by decide +kernel⟩
theorem ml_X11_392 : Cond.methodLink RX11 392 yX11_draws ∈ mm_ws := (mt_7 193 rfl rfl)
def wp_X11_somebodyComes (this : Nat) (a1 : Int) (s0 : mm_M) (post : mm_M → Prop) : Prop :=
  ∀ (L32 : Int → Int → Int → mm_M → Prop), ∀ (L94 : Int → Int → Int → Int → mm_M → Prop), 
  (∀ (v2 : Int) (v3 : Int) (v4 : Int) (s1 : mm_M), ((n32 (s1 this 12) ≤ n32 v4 → (wp_X11_sortHas this a1 5 s1 (fun r_11 s_10 => ((n32 r_11 < 2 → L94 1 v3 a1 v2 s_10) ∧ (¬ n32 r_11 < 2 → ((0 ≤ v3 ∧ v3 < 3) ∧ ((¬ n32 (s_10 (mm_rt this 31) v3) = 0 → L94 0 v3 a1 v2 s_10) ∧ (n32 (s_10 (mm_rt this 31) v3) = 0 → L94 1 v3 a1 v2 s_10)))))))) ∧ (¬ n32 (s1 this 12) ≤ n32 v4 → ((0 ≤ v4 ∧ v4 < 3) ∧ ((0 ≤ v3 ∧ v3 < 3) ∧ ((n32 (s1 (mm_rt this 31) v3) ≤ n32 (s1 (mm_rt this 31) v4) → (∀ v4_12 : Int, v4_12 = v4 + 1 → L32 v2 v3 v4_12 s1)) ∧ (¬ n32 (s1 (mm_rt this 31) v3) ≤ n32 (s1 (mm_rt this 31) v4) → (∀ v3_13 : Int, v3_13 = v4 → (∀ v4_14 : Int, v4_14 = v4 + 1 → L32 v2 v3_13 v4_14 s1)))))))) → L32 v2 v3 v4 s1) →
  (∀ (q0 : Int) (q1 : Int) (q2 : Int) (q3 : Int) (s1 : mm_M), (wp_X11_arrives this q3 q2 q1 q0 s1 (fun s_15 => post s_15)) → L94 q0 q1 q2 q3 s1) →
  (wp_X11_draws this 16 s0 (fun r_2 s_1 => (wp_X11_sortHas this a1 0 s_1 (fun r_4 s_3 => ((n32 r_2 < n32 r_4 → (wp_X11_free this s_3 (fun r_6 s_5 => (∀ v2_7 : Int, v2_7 = r_6 → ((¬ n32 v2_7 = (-1) → L32 v2_7 0 1 s_5) ∧ (n32 v2_7 = (-1) → post s_5)))))) ∧ (¬ n32 r_2 < n32 r_4 → post s_3))))))
set_option maxRecDepth 100000 in
set_option maxHeartbeats 4000000 in
theorem c_X11_somebodyComes (l : Launch) (G : mm_G) (this : Nat) (a1 : Int) (h0 : mm_ok this 21 0) (s0 : mm_M) (post : mm_M → Prop) (hw : wp_X11_somebodyComes this a1 s0 post) : Met l yX11_somebodyComes (mm_wm yX11_somebodyComes cX11_somebodyComes 5 none) (mm_rm 4) (va_Pc [.ref (mm_ad G this), .int (mm_I a1)] (mm_pre G s0)) (mm_Qv G post) 0 0 (mm_A G) := by
  refine mm_met (own := RX11) (by decide) rfl (Nat.le_of_ble_eq_true rfl) ?_
  intro p e s m args below meth c C hr hk
  unfold wp_X11_somebodyComes at hw
  have hw := hw (fun (v2 : Int) (v3 : Int) (v4 : Int) (u : mm_M) => mm_X p l e (mm_rm 4) s m args below meth c (MQ below (mm_Qv G post) args s 0 0 (mm_A G)) G (mm_A G) 5 32 [(0, .ref (mm_ad G this)), (1, .int (mm_I a1)), (2, .int (mm_I v2)), (3, .int (mm_I v3)), (4, .int (mm_I v4))] [] u)
  have hw := hw (fun (q0 : Int) (q1 : Int) (q2 : Int) (q3 : Int) (u : mm_M) => mm_X p l e (mm_rm 4) s m args below meth c (MQ below (mm_Qv G post) args s 0 0 (mm_A G)) G (mm_A G) 5 94 [] [.int (mm_I q0), .int (mm_I q1), .int (mm_I q2), .int (mm_I q3), .ref (mm_ad G this)] u)
  have hw := hw (by
    intro v2 v3 v4 s1 hw  H locs ls w hl
    refine lv_iload (pc := 32) C.1 C.2.1 dX11_somebodyComes_32 (lv_at hl 4 rfl) ?_
    refine lv_aload_n (pc := 34) C.1 C.2.1 dX11_somebodyComes_34 rfl (lv_at hl 0 rfl) ?_
    refine g_geti (pc := 35) C w h0 ff_X11_12 lk_X11_288 dX11_somebodyComes_35 ?_
    refine g_icmp_ge (pc := 38) (tgt := 66) C rfl rfl dX11_somebodyComes_38 (by decide) (fun hc => ?_) (fun hc => ?_)
    · have hw := hw.1 hc
      refine lv_aload_n (pc := 66) C.1 C.2.1 dX11_somebodyComes_66 rfl (lv_at hl 0 rfl) ?_
      refine lv_iload_n (pc := 67) C.1 C.2.1 dX11_somebodyComes_67 rfl (lv_at hl 2 rfl) ?_
      refine lv_iload_n (pc := 68) C.1 C.2.1 dX11_somebodyComes_68 rfl (lv_at hl 1 rfl) ?_
      refine lv_iload_n (pc := 69) C.1 C.2.1 dX11_somebodyComes_69 rfl (lv_at hl 3 rfl) ?_
      refine lv_aload_n (pc := 70) C.1 C.2.1 dX11_somebodyComes_70 rfl (lv_at hl 0 rfl) ?_
      refine lv_iload_n (pc := 71) C.1 C.2.1 dX11_somebodyComes_71 rfl (lv_at hl 1 rfl) ?_
      refine lv_iconst (pc := 72) (v := mm_I 5) C.1 C.2.1 dX11_somebodyComes_72 rfl ?_
      refine g_calli (pc := 73) w (mm_runV (ci := 11) (q := (RX11, TX11, 65)) (As := [.int (mm_I a1), .int (mm_I 5)]) (rest := [.int (mm_I v3), .int (mm_I a1), .int (mm_I v2), .ref (mm_ad G this)]) C w (c_X11_sortHas l G this a1 5 h0 s1 _ hw) h0 rfl rfl cv_X11_sortHas ml_X11_327 ⟨Nat.le_of_ble_eq_true rfl, Nat.le_of_ble_eq_true rfl⟩ ⟨Nat.le_of_ble_eq_true rfl, Nat.le_of_ble_eq_true rfl⟩ rfl hl.1 rfl (Nat.le_of_ble_eq_true rfl) dX11_somebodyComes_73) (fun r_11 s_10 H locs hw w => ?_)
      refine lv_iconst (pc := 76) (v := mm_I 2) C.1 C.2.1 dX11_somebodyComes_76 rfl ?_
      refine g_icmp_lt (pc := 77) (tgt := 89) C rfl mn_2 dX11_somebodyComes_77 (by decide) (fun hc => ?_) (fun hc => ?_)
      · have hw := hw.1 hc
        refine lv_iconst (pc := 89) (v := mm_I 1) C.1 C.2.1 dX11_somebodyComes_89 rfl ?_
        refine lv_goto (pc := 90) (tgt := 94) C.1 C.2.1 dX11_somebodyComes_90 (by decide) ?_
        exact hw  _ _ _ w (lv_sub hl [] rfl)
      · have hw := hw.2 hc
        refine lv_aload_n (pc := 80) C.1 C.2.1 dX11_somebodyComes_80 rfl (lv_at hl 0 rfl) ?_
        refine g_getr (pc := 81) C w h0 ff_X11_31 lk_X11_58 dX11_somebodyComes_81 ?_
        refine lv_iload_n (pc := 84) C.1 C.2.1 dX11_somebodyComes_84 rfl (lv_at hl 3 rfl) ?_
        obtain ⟨hi, hw⟩ := hw
        refine g_iald (pc := 85) C w (ro_X11_31 h0) hi dX11_somebodyComes_85 ?_
        refine g_if_ne (pc := 86) (tgt := 93) C rfl dX11_somebodyComes_86 (by decide) (fun hc => ?_) (fun hc => ?_)
        · have hw := hw.1 hc
          refine lv_iconst (pc := 93) (v := mm_I 0) C.1 C.2.1 dX11_somebodyComes_93 rfl ?_
          exact hw  _ _ _ w (lv_sub hl [] rfl)
        · have hw := hw.2 hc
          refine lv_iconst (pc := 89) (v := mm_I 1) C.1 C.2.1 dX11_somebodyComes_89 rfl ?_
          refine lv_goto (pc := 90) (tgt := 94) C.1 C.2.1 dX11_somebodyComes_90 (by decide) ?_
          exact hw  _ _ _ w (lv_sub hl [] rfl)
    · have hw := hw.2 hc
      refine lv_aload_n (pc := 41) C.1 C.2.1 dX11_somebodyComes_41 rfl (lv_at hl 0 rfl) ?_
      refine g_getr (pc := 42) C w h0 ff_X11_31 lk_X11_58 dX11_somebodyComes_42 ?_
      refine lv_iload (pc := 45) C.1 C.2.1 dX11_somebodyComes_45 (lv_at hl 4 rfl) ?_
      obtain ⟨hi, hw⟩ := hw
      refine g_iald (pc := 47) C w (ro_X11_31 h0) hi dX11_somebodyComes_47 ?_
      refine lv_aload_n (pc := 48) C.1 C.2.1 dX11_somebodyComes_48 rfl (lv_at hl 0 rfl) ?_
      refine g_getr (pc := 49) C w h0 ff_X11_31 lk_X11_58 dX11_somebodyComes_49 ?_
      refine lv_iload_n (pc := 52) C.1 C.2.1 dX11_somebodyComes_52 rfl (lv_at hl 3 rfl) ?_
      obtain ⟨hi, hw⟩ := hw
      refine g_iald (pc := 53) C w (ro_X11_31 h0) hi dX11_somebodyComes_53 ?_
      refine g_icmp_ge (pc := 54) (tgt := 60) C rfl rfl dX11_somebodyComes_54 (by decide) (fun hc => ?_) (fun hc => ?_)
      · have hw := hw.1 hc
        refine g_iinc (pc := 60) (k := 4) C dX11_somebodyComes_60 hl rfl (by decide) (fun v4_12 ev4_12 ls hl => ?_)
        have hw := hw v4_12 ev4_12
        have hl : lv_has ls 5 [(4, .int (mm_I v4_12)), (0, .ref (mm_ad G this)), (1, .int (mm_I a1)), (2, .int (mm_I v2)), (3, .int (mm_I v3))] := hl
        refine lv_goto (pc := 63) (tgt := 32) C.1 C.2.1 dX11_somebodyComes_63 (by decide) ?_
        exact hw  _ _ _ w (lv_sub hl [1, 2, 3, 4, 0] rfl)
      · have hw := hw.2 hc
        refine lv_iload (pc := 57) C.1 C.2.1 dX11_somebodyComes_57 (lv_at hl 4 rfl) ?_
        refine g_istore_n (pc := 59) C dX11_somebodyComes_59 rfl hl (by decide) (fun v3_13 ev3_13 ls hl => ?_)
        have hw := hw v3_13 ev3_13
        have hl : lv_has ls 5 [(3, .int (mm_I v3_13)), (0, .ref (mm_ad G this)), (1, .int (mm_I a1)), (2, .int (mm_I v2)), (4, .int (mm_I v4))] := hl
        refine g_iinc (pc := 60) (k := 4) C dX11_somebodyComes_60 hl rfl (by decide) (fun v4_14 ev4_14 ls hl => ?_)
        have hw := hw v4_14 ev4_14
        have hl : lv_has ls 5 [(4, .int (mm_I v4_14)), (3, .int (mm_I v3_13)), (0, .ref (mm_ad G this)), (1, .int (mm_I a1)), (2, .int (mm_I v2))] := hl
        refine lv_goto (pc := 63) (tgt := 32) C.1 C.2.1 dX11_somebodyComes_63 (by decide) ?_
        exact hw  _ _ _ w (lv_sub hl [2, 3, 4, 1, 0] rfl))
  have hw := hw (by
    intro q0 q1 q2 q3 s1 hw  H locs ls w hl
    refine g_callv (pc := 94) w (mm_runV (ci := 11) (q := (RX11, TX11, 65)) (As := [.int (mm_I q3), .int (mm_I q2), .int (mm_I q1), .int (mm_I q0)]) (rest := []) C w (c_X11_arrives l G this q3 q2 q1 q0 h0 s1 _ hw) h0 rfl rfl cv_X11_arrives ml_X11_362 ⟨Nat.le_of_ble_eq_true rfl, Nat.le_of_ble_eq_true rfl⟩ ⟨Nat.le_of_ble_eq_true rfl, Nat.le_of_ble_eq_true rfl⟩ rfl hl.1 rfl (Nat.le_of_ble_eq_true rfl) dX11_somebodyComes_94) (fun s_15 H locs hw w => ?_)
    exact g_vret (pc := 97) C w hr hk hw dX11_somebodyComes_97)
  intro H locs ls w hl
  have hl : lv_has ls 5 [(0, .ref (mm_ad G this)), (1, .int (mm_I a1))] := hl
  refine lv_aload_n (pc := 0) C.1 C.2.1 dX11_somebodyComes_0 rfl (lv_at hl 0 rfl) ?_
  refine lv_bipush (pc := 1) C.1 C.2.1 dX11_somebodyComes_1 mb_16 ?_
  refine g_calli (pc := 3) w (mm_runV (ci := 11) (q := (RX11, TX11, 65)) (As := [.int (mm_I 16)]) (rest := []) C w (c_X11_draws l G this 16 h0 s0 _ hw) h0 rfl rfl cv_X11_draws ml_X11_392 ⟨Nat.le_of_ble_eq_true rfl, Nat.le_of_ble_eq_true rfl⟩ ⟨Nat.le_of_ble_eq_true rfl, Nat.le_of_ble_eq_true rfl⟩ rfl hl.1 rfl (Nat.le_of_ble_eq_true rfl) dX11_somebodyComes_3) (fun r_2 s_1 H locs hw w => ?_)
  refine lv_aload_n (pc := 6) C.1 C.2.1 dX11_somebodyComes_6 rfl (lv_at hl 0 rfl) ?_
  refine lv_iload_n (pc := 7) C.1 C.2.1 dX11_somebodyComes_7 rfl (lv_at hl 1 rfl) ?_
  refine lv_iconst (pc := 8) (v := mm_I 0) C.1 C.2.1 dX11_somebodyComes_8 rfl ?_
  refine g_calli (pc := 9) w (mm_runV (ci := 11) (q := (RX11, TX11, 65)) (As := [.int (mm_I a1), .int (mm_I 0)]) (rest := [.int (mm_I r_2)]) C w (c_X11_sortHas l G this a1 0 h0 s_1 _ hw) h0 rfl rfl cv_X11_sortHas ml_X11_327 ⟨Nat.le_of_ble_eq_true rfl, Nat.le_of_ble_eq_true rfl⟩ ⟨Nat.le_of_ble_eq_true rfl, Nat.le_of_ble_eq_true rfl⟩ rfl hl.1 rfl (Nat.le_of_ble_eq_true rfl) dX11_somebodyComes_9) (fun r_4 s_3 H locs hw w => ?_)
  refine g_icmp_lt (pc := 12) (tgt := 16) C rfl rfl dX11_somebodyComes_12 (by decide) (fun hc => ?_) (fun hc => ?_)
  · have hw := hw.1 hc
    refine lv_aload_n (pc := 16) C.1 C.2.1 dX11_somebodyComes_16 rfl (lv_at hl 0 rfl) ?_
    refine g_calli (pc := 17) w (mm_runV (ci := 11) (q := (RX11, TX11, 65)) (As := []) (rest := []) C w (c_X11_free l G this h0 s_3 _ hw) h0 rfl rfl cv_X11_free ml_X11_359 ⟨Nat.le_of_ble_eq_true rfl, Nat.le_of_ble_eq_true rfl⟩ ⟨Nat.le_of_ble_eq_true rfl, Nat.le_of_ble_eq_true rfl⟩ rfl hl.1 rfl (Nat.le_of_ble_eq_true rfl) dX11_somebodyComes_17) (fun r_6 s_5 H locs hw w => ?_)
    refine g_istore_n (pc := 20) C dX11_somebodyComes_20 rfl hl (by decide) (fun v2_7 ev2_7 ls hl => ?_)
    have hw := hw v2_7 ev2_7
    have hl : lv_has ls 5 [(2, .int (mm_I v2_7)), (0, .ref (mm_ad G this)), (1, .int (mm_I a1))] := hl
    refine lv_iload_n (pc := 21) C.1 C.2.1 dX11_somebodyComes_21 rfl (lv_at hl 0 rfl) ?_
    refine lv_iconst (pc := 22) (v := mm_I (-1)) C.1 C.2.1 dX11_somebodyComes_22 rfl ?_
    refine g_icmp_ne (pc := 23) (tgt := 27) C rfl mn_m1 dX11_somebodyComes_23 (by decide) (fun hc => ?_) (fun hc => ?_)
    · have hw := hw.1 hc
      refine lv_iconst (pc := 27) (v := mm_I 0) C.1 C.2.1 dX11_somebodyComes_27 rfl ?_
      refine lv_istore_n (pc := 28) (lv' := [(3, .int (mm_I 0)), (2, .int (mm_I v2_7)), (0, .ref (mm_ad G this)), (1, .int (mm_I a1))]) C.1 C.2.1 dX11_somebodyComes_28 rfl hl (by decide) rfl (fun ls hl => ?_)
      refine lv_iconst (pc := 29) (v := mm_I 1) C.1 C.2.1 dX11_somebodyComes_29 rfl ?_
      refine lv_istore (pc := 30) (lv' := [(4, .int (mm_I 1)), (3, .int (mm_I 0)), (2, .int (mm_I v2_7)), (0, .ref (mm_ad G this)), (1, .int (mm_I a1))]) C.1 C.2.1 dX11_somebodyComes_30 hl (by decide) rfl (fun ls hl => ?_)
      exact hw  _ _ _ w (lv_sub hl [3, 4, 2, 1, 0] rfl)
    · have hw := hw.2 hc
      exact g_vret (pc := 26) C w hr hk hw dX11_somebodyComes_26
  · have hw := hw.2 hc
    exact g_vret (pc := 15) C w hr hk hw dX11_somebodyComes_15
