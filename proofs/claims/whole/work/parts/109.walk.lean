theorem ml_X10_156 : Cond.methodLink RX10 156 yX7_whoIsThere ∈ mm_ws := (mt_4 13 rfl rfl)
theorem lk_X10_160 : Cond.fieldLinkNest RX10 160 "LastServed$Person" "state" "I" "LastServed" ∈ mm_nest := by decide +kernel
theorem ml_X10_165 : Cond.methodLink RX10 165 yX7_goOut ∈ mm_ws := (mt_4 14 rfl rfl)
def wp_X10_turn (this : Nat) (a1 : Int) (s0 : mm_M) (post : Int → mm_M → Prop) : Prop :=
  (wp_X7_whoIsThere (mm_rt this 5) a1 s0 (fun r_2 s_1 => (r_2 = none → post 0 s_1) ∧ (∀ t_3 : Nat, r_2 = some t_3 → ((n32 (s_1 t_3 0) = 0 → (wp_X7_goOut (mm_rt this 5) a1 t_3 s_1 (fun s_4 => post 1 s_4))) ∧ (¬ n32 (s_1 t_3 0) = 0 → post 0 s_1)))))
set_option maxRecDepth 100000 in
set_option maxHeartbeats 4000000 in
theorem c_X10_turn (l : Launch) (G : mm_G) (this : Nat) (a1 : Int) (h0 : mm_ok this 20 0) (s0 : mm_M) (post : Int → mm_M → Prop) (hw : wp_X10_turn this a1 s0 post) : Met l yX10_turn (mm_wm yX10_turn cX10_turn 3 (some .boolean)) (mm_rm 5) (va_Pc [.ref (mm_ad G this), .int (mm_I a1)] (mm_pre G s0)) (mm_Qi G post) 0 0 (mm_A G) := by
  refine mm_met (own := RX10) (by decide) rfl (Nat.le_of_ble_eq_true rfl) ?_
  intro p e s m args below meth c C hr hk
  unfold wp_X10_turn at hw
  intro H locs ls w hl
  have hl : lv_has ls 3 [(0, .ref (mm_ad G this)), (1, .int (mm_I a1))] := hl
  refine lv_aload_n (pc := 0) C.1 C.2.1 dX10_turn_0 rfl (lv_at hl 0 rfl) ?_
  refine g_getr (pc := 1) C w h0 ff_X10_5 lk_X10_44 dX10_turn_1 ?_
  refine lv_iload_n (pc := 4) C.1 C.2.1 dX10_turn_4 rfl (lv_at hl 1 rfl) ?_
  refine g_callq (pc := 5) w (mm_runV (ci := 7) (q := (RX7, TX7, 9)) (As := [.int (mm_I a1)]) (rest := []) C w (c_X7_whoIsThere l G (mm_rt this 5) a1 (ro_X10_5 h0) s0 _ hw) (ro_X10_5 h0) rfl rfl cv_X7_whoIsThere ml_X10_156 ⟨Nat.le_of_ble_eq_true rfl, Nat.le_of_ble_eq_true rfl⟩ ⟨Nat.le_of_ble_eq_true rfl, Nat.le_of_ble_eq_true rfl⟩ rfl hl.1 rfl (Nat.le_of_ble_eq_true rfl) dX10_turn_5) (fun s_1 H locs hw w => ?_) (fun t_3 s_1 H locs ht_3 hw w => ?_)
  · have hw := hw.1 rfl
    refine lv_astore_nN (pc := 8) (lv' := [(2, .null), (0, .ref (mm_ad G this)), (1, .int (mm_I a1))]) C.1 C.2.1 dX10_turn_8 rfl hl (by decide) rfl (fun ls hl => ?_)
    refine lv_aload_nN (pc := 9) C.1 C.2.1 dX10_turn_9 rfl (lv_at hl 0 rfl) ?_
    refine lv_ifnullN (pc := 10) (tgt := 20) C.1 C.2.1 dX10_turn_10 (by decide) ?_
    refine lv_iconst (pc := 20) (v := mm_I 0) C.1 C.2.1 dX10_turn_20 rfl ?_
    exact g_zret (pc := 21) C w hr hk (by decide) hw dX10_turn_21
  · have hw := hw.2 t_3 rfl
    refine lv_astore_n (pc := 8) (lv' := [(2, .ref (mm_ad G t_3)), (0, .ref (mm_ad G this)), (1, .int (mm_I a1))]) C.1 C.2.1 dX10_turn_8 rfl hl (by decide) rfl (fun ls hl => ?_)
    refine lv_aload_n (pc := 9) C.1 C.2.1 dX10_turn_9 rfl (lv_at hl 0 rfl) ?_
    refine lv_ifnull (pc := 10) C.1 C.2.1 dX10_turn_10 ?_
    refine lv_aload_n (pc := 13) C.1 C.2.1 dX10_turn_13 rfl (lv_at hl 0 rfl) ?_
    refine g_getiN (pc := 14) C w ht_3 ff_X5_0 lk_X10_160 dX10_turn_14 ?_
    refine g_if_eq (pc := 17) (tgt := 22) C rfl dX10_turn_17 (by decide) (fun hc => ?_) (fun hc => ?_)
    · have hw := hw.1 hc
      refine lv_aload_n (pc := 22) C.1 C.2.1 dX10_turn_22 rfl (lv_at hl 1 rfl) ?_
      refine g_getr (pc := 23) C w h0 ff_X10_5 lk_X10_44 dX10_turn_23 ?_
      refine lv_iload_n (pc := 26) C.1 C.2.1 dX10_turn_26 rfl (lv_at hl 2 rfl) ?_
      refine lv_aload_n (pc := 27) C.1 C.2.1 dX10_turn_27 rfl (lv_at hl 0 rfl) ?_
      refine g_callv (pc := 28) w (mm_runV (ci := 7) (q := (RX7, TX7, 9)) (As := [.int (mm_I a1), .ref (mm_ad G t_3)]) (rest := []) C w (c_X7_goOut l G (mm_rt this 5) a1 t_3 (ro_X10_5 h0) ht_3 s_1 _ hw) (ro_X10_5 h0) rfl rfl cv_X7_goOut ml_X10_165 ⟨Nat.le_of_ble_eq_true rfl, Nat.le_of_ble_eq_true rfl⟩ ⟨Nat.le_of_ble_eq_true rfl, Nat.le_of_ble_eq_true rfl⟩ rfl hl.1 rfl (Nat.le_of_ble_eq_true rfl) dX10_turn_28) (fun s_4 H locs hw w => ?_)
      refine lv_iconst (pc := 31) (v := mm_I 1) C.1 C.2.1 dX10_turn_31 rfl ?_
      exact g_zret (pc := 32) C w hr hk (by decide) hw dX10_turn_32
    · have hw := hw.2 hc
      refine lv_iconst (pc := 20) (v := mm_I 0) C.1 C.2.1 dX10_turn_20 rfl ?_
      exact g_zret (pc := 21) C w hr hk (by decide) hw dX10_turn_21
theorem ml_X10_169 : Cond.methodLink RX10 169 yX7_giveUp ∈ mm_ws := (mt_4 38 rfl rfl)
def wp_X10_leave (this : Nat) (a1 : Int) (s0 : mm_M) (post : Int → mm_M → Prop) : Prop :=
  (wp_X7_whoIsThere (mm_rt this 5) a1 s0 (fun r_2 s_1 => (r_2 = none → post 0 s_1) ∧ (∀ t_3 : Nat, r_2 = some t_3 → (wp_X7_giveUp (mm_rt this 5) a1 t_3 s_1 (fun s_4 => post 1 s_4)))))
set_option maxRecDepth 100000 in
set_option maxHeartbeats 4000000 in
theorem c_X10_leave (l : Launch) (G : mm_G) (this : Nat) (a1 : Int) (h0 : mm_ok this 20 0) (s0 : mm_M) (post : Int → mm_M → Prop) (hw : wp_X10_leave this a1 s0 post) : Met l yX10_leave (mm_wm yX10_leave cX10_leave 3 (some .boolean)) (mm_rm 5) (va_Pc [.ref (mm_ad G this), .int (mm_I a1)] (mm_pre G s0)) (mm_Qi G post) 0 0 (mm_A G) := by
  refine mm_met (own := RX10) (by decide) rfl (Nat.le_of_ble_eq_true rfl) ?_
  intro p e s m args below meth c C hr hk
  unfold wp_X10_leave at hw
  intro H locs ls w hl
  have hl : lv_has ls 3 [(0, .ref (mm_ad G this)), (1, .int (mm_I a1))] := hl
  refine lv_aload_n (pc := 0) C.1 C.2.1 dX10_leave_0 rfl (lv_at hl 0 rfl) ?_
  refine g_getr (pc := 1) C w h0 ff_X10_5 lk_X10_44 dX10_leave_1 ?_
  refine lv_iload_n (pc := 4) C.1 C.2.1 dX10_leave_4 rfl (lv_at hl 1 rfl) ?_
  refine g_callq (pc := 5) w (mm_runV (ci := 7) (q := (RX7, TX7, 9)) (As := [.int (mm_I a1)]) (rest := []) C w (c_X7_whoIsThere l G (mm_rt this 5) a1 (ro_X10_5 h0) s0 _ hw) (ro_X10_5 h0) rfl rfl cv_X7_whoIsThere ml_X10_156 ⟨Nat.le_of_ble_eq_true rfl, Nat.le_of_ble_eq_true rfl⟩ ⟨Nat.le_of_ble_eq_true rfl, Nat.le_of_ble_eq_true rfl⟩ rfl hl.1 rfl (Nat.le_of_ble_eq_true rfl) dX10_leave_5) (fun s_1 H locs hw w => ?_) (fun t_3 s_1 H locs ht_3 hw w => ?_)
  · have hw := hw.1 rfl
    refine lv_astore_nN (pc := 8) (lv' := [(2, .null), (0, .ref (mm_ad G this)), (1, .int (mm_I a1))]) C.1 C.2.1 dX10_leave_8 rfl hl (by decide) rfl (fun ls hl => ?_)
    refine lv_aload_nN (pc := 9) C.1 C.2.1 dX10_leave_9 rfl (lv_at hl 0 rfl) ?_
    refine lv_ifnonnullN (pc := 10) C.1 C.2.1 dX10_leave_10 ?_
    refine lv_iconst (pc := 13) (v := mm_I 0) C.1 C.2.1 dX10_leave_13 rfl ?_
    exact g_zret (pc := 14) C w hr hk (by decide) hw dX10_leave_14
  · have hw := hw.2 t_3 rfl
    refine lv_astore_n (pc := 8) (lv' := [(2, .ref (mm_ad G t_3)), (0, .ref (mm_ad G this)), (1, .int (mm_I a1))]) C.1 C.2.1 dX10_leave_8 rfl hl (by decide) rfl (fun ls hl => ?_)
    refine lv_aload_n (pc := 9) C.1 C.2.1 dX10_leave_9 rfl (lv_at hl 0 rfl) ?_
    refine lv_ifnonnull (pc := 10) (tgt := 15) C.1 C.2.1 dX10_leave_10 (by decide) ?_
    refine lv_aload_n (pc := 15) C.1 C.2.1 dX10_leave_15 rfl (lv_at hl 1 rfl) ?_
    refine g_getr (pc := 16) C w h0 ff_X10_5 lk_X10_44 dX10_leave_16 ?_
    refine lv_iload_n (pc := 19) C.1 C.2.1 dX10_leave_19 rfl (lv_at hl 2 rfl) ?_
    refine lv_aload_n (pc := 20) C.1 C.2.1 dX10_leave_20 rfl (lv_at hl 0 rfl) ?_
    refine g_callv (pc := 21) w (mm_runV (ci := 7) (q := (RX7, TX7, 9)) (As := [.int (mm_I a1), .ref (mm_ad G t_3)]) (rest := []) C w (c_X7_giveUp l G (mm_rt this 5) a1 t_3 (ro_X10_5 h0) ht_3 s_1 _ hw) (ro_X10_5 h0) rfl rfl cv_X7_giveUp ml_X10_169 ⟨Nat.le_of_ble_eq_true rfl, Nat.le_of_ble_eq_true rfl⟩ ⟨Nat.le_of_ble_eq_true rfl, Nat.le_of_ble_eq_true rfl⟩ rfl hl.1 rfl (Nat.le_of_ble_eq_true rfl) dX10_leave_21) (fun s_4 H locs hw w => ?_)
    refine lv_iconst (pc := 24) (v := mm_I 1) C.1 C.2.1 dX10_leave_24 rfl ?_
    exact g_zret (pc := 25) C w hr hk (by decide) hw dX10_leave_25
theorem cv_X5_fact : mm_V yX5_fact cX5_fact 2 (some .int) 1 := ⟨(mt_4 54 rfl rfl), (mt_4 52 rfl rfl), (mt_4 53 rfl rfl), (mt_1 8 rfl rfl), by decide, by decide, by decide +kernel⟩
theorem ml_X10_176 : Cond.methodLink RX10 176 yX5_fact ∈ mm_ws := (mt_4 51 rfl rfl)
theorem cv_X7_placeOf : mm_V yX7_placeOf cX7_placeOf 4 (some .int) 2 := ⟨(mt_4 49 rfl rfl), (mt_4 47 rfl rfl), (mt_4 48 rfl rfl), (mt_1 6 rfl rfl), by decide, by decide, by decide +kernel⟩
theorem ml_X10_172 : Cond.methodLink RX10 172 yX7_placeOf ∈ mm_ws := (mt_4 46 rfl rfl)
def wp_X10_person (this : Nat) (a1 : Int) (a2 : Int) (s0 : mm_M) (post : Int → mm_M → Prop) : Prop :=
  (wp_X7_whoIsThere (mm_rt this 5) a1 s0 (fun r_2 s_1 => (r_2 = none → post (-1) s_1) ∧ (∀ t_3 : Nat, r_2 = some t_3 → ((¬ n32 a2 = 6 → (wp_X5_fact t_3 a2 s_1 (fun r_5 s_4 => post r_5 s_4))) ∧ (n32 a2 = 6 → (wp_X7_placeOf (mm_rt this 5) a1 t_3 s_1 (fun r_7 s_6 => post r_7 s_6)))))))
set_option maxRecDepth 100000 in
set_option maxHeartbeats 4000000 in
theorem c_X10_person (l : Launch) (G : mm_G) (this : Nat) (a1 : Int) (a2 : Int) (h0 : mm_ok this 20 0) (s0 : mm_M) (post : Int → mm_M → Prop) (hw : wp_X10_person this a1 a2 s0 post) : Met l yX10_person (mm_wm yX10_person cX10_person 4 (some .int)) (mm_rm 4) (va_Pc [.ref (mm_ad G this), .int (mm_I a1), .int (mm_I a2)] (mm_pre G s0)) (mm_Qi G post) 0 0 (mm_A G) := by
  refine mm_met (own := RX10) (by decide) rfl (Nat.le_of_ble_eq_true rfl) ?_
  intro p e s m args below meth c C hr hk
  unfold wp_X10_person at hw
  intro H locs ls w hl
  have hl : lv_has ls 4 [(0, .ref (mm_ad G this)), (1, .int (mm_I a1)), (2, .int (mm_I a2))] := hl
  refine lv_aload_n (pc := 0) C.1 C.2.1 dX10_person_0 rfl (lv_at hl 0 rfl) ?_
  refine g_getr (pc := 1) C w h0 ff_X10_5 lk_X10_44 dX10_person_1 ?_
  refine lv_iload_n (pc := 4) C.1 C.2.1 dX10_person_4 rfl (lv_at hl 1 rfl) ?_
  refine g_callq (pc := 5) w (mm_runV (ci := 7) (q := (RX7, TX7, 9)) (As := [.int (mm_I a1)]) (rest := []) C w (c_X7_whoIsThere l G (mm_rt this 5) a1 (ro_X10_5 h0) s0 _ hw) (ro_X10_5 h0) rfl rfl cv_X7_whoIsThere ml_X10_156 ⟨Nat.le_of_ble_eq_true rfl, Nat.le_of_ble_eq_true rfl⟩ ⟨Nat.le_of_ble_eq_true rfl, Nat.le_of_ble_eq_true rfl⟩ rfl hl.1 rfl (Nat.le_of_ble_eq_true rfl) dX10_person_5) (fun s_1 H locs hw w => ?_) (fun t_3 s_1 H locs ht_3 hw w => ?_)
  · have hw := hw.1 rfl
    refine lv_astore_nN (pc := 8) (lv' := [(3, .null), (0, .ref (mm_ad G this)), (1, .int (mm_I a1)), (2, .int (mm_I a2))]) C.1 C.2.1 dX10_person_8 rfl hl (by decide) rfl (fun ls hl => ?_)
    refine lv_aload_nN (pc := 9) C.1 C.2.1 dX10_person_9 rfl (lv_at hl 0 rfl) ?_
    refine lv_ifnonnullN (pc := 10) C.1 C.2.1 dX10_person_10 ?_
    refine lv_iconst (pc := 13) (v := mm_I (-1)) C.1 C.2.1 dX10_person_13 rfl ?_
    exact g_iret (pc := 14) C w hr hk hw dX10_person_14
  · have hw := hw.2 t_3 rfl
    refine lv_astore_n (pc := 8) (lv' := [(3, .ref (mm_ad G t_3)), (0, .ref (mm_ad G this)), (1, .int (mm_I a1)), (2, .int (mm_I a2))]) C.1 C.2.1 dX10_person_8 rfl hl (by decide) rfl (fun ls hl => ?_)
    refine lv_aload_n (pc := 9) C.1 C.2.1 dX10_person_9 rfl (lv_at hl 0 rfl) ?_
    refine lv_ifnonnull (pc := 10) (tgt := 15) C.1 C.2.1 dX10_person_10 (by decide) ?_
    refine lv_iload_n (pc := 15) C.1 C.2.1 dX10_person_15 rfl (lv_at hl 3 rfl) ?_
    refine lv_bipush (pc := 16) C.1 C.2.1 dX10_person_16 mb_6 ?_
    refine g_icmp_ne (pc := 18) (tgt := 33) C rfl mn_6 dX10_person_18 (by decide) (fun hc => ?_) (fun hc => ?_)
    · have hw := hw.1 hc
      refine lv_aload_n (pc := 33) C.1 C.2.1 dX10_person_33 rfl (lv_at hl 0 rfl) ?_
      refine lv_iload_n (pc := 34) C.1 C.2.1 dX10_person_34 rfl (lv_at hl 3 rfl) ?_
      refine g_calli (pc := 35) w (mm_runV (ci := 5) (q := (RX5, TX5, 7)) (As := [.int (mm_I a2)]) (rest := []) C w (c_X5_fact l G t_3 a2 ht_3 s_1 _ hw) ht_3 rfl rfl cv_X5_fact ml_X10_176 ⟨Nat.le_of_ble_eq_true rfl, Nat.le_of_ble_eq_true rfl⟩ ⟨Nat.le_of_ble_eq_true rfl, Nat.le_of_ble_eq_true rfl⟩ rfl hl.1 rfl (Nat.le_of_ble_eq_true rfl) dX10_person_35) (fun r_5 s_4 H locs hw w => ?_)
      exact g_iret (pc := 38) C w hr hk hw dX10_person_38
    · have hw := hw.2 hc
      refine lv_aload_n (pc := 21) C.1 C.2.1 dX10_person_21 rfl (lv_at hl 1 rfl) ?_
      refine g_getr (pc := 22) C w h0 ff_X10_5 lk_X10_44 dX10_person_22 ?_
      refine lv_iload_n (pc := 25) C.1 C.2.1 dX10_person_25 rfl (lv_at hl 2 rfl) ?_
      refine lv_aload_n (pc := 26) C.1 C.2.1 dX10_person_26 rfl (lv_at hl 0 rfl) ?_
      refine g_calli (pc := 27) w (mm_runV (ci := 7) (q := (RX7, TX7, 9)) (As := [.int (mm_I a1), .ref (mm_ad G t_3)]) (rest := []) C w (c_X7_placeOf l G (mm_rt this 5) a1 t_3 (ro_X10_5 h0) ht_3 s_1 _ hw) (ro_X10_5 h0) rfl rfl cv_X7_placeOf ml_X10_172 ⟨Nat.le_of_ble_eq_true rfl, Nat.le_of_ble_eq_true rfl⟩ ⟨Nat.le_of_ble_eq_true rfl, Nat.le_of_ble_eq_true rfl⟩ rfl hl.1 rfl (Nat.le_of_ble_eq_true rfl) dX10_person_27) (fun r_7 s_6 H locs hw w => ?_)
      refine lv_goto (pc := 30) (tgt := 38) C.1 C.2.1 dX10_person_30 (by decide) ?_
      exact g_iret (pc := 38) C w hr hk hw dX10_person_38
def wp_X10_isSettledLaw (a1 : Int) (s0 : mm_M) (post : Int → mm_M → Prop) : Prop :=
  ((n32 a1 < 0 → post 0 s0) ∧ (¬ n32 a1 < 0 → ((8 < n32 a1 → post 0 s0) ∧ (¬ 8 < n32 a1 → ((n32 a1 = 3 → post 0 s0) ∧ (¬ n32 a1 = 3 → post 1 s0))))))
set_option maxRecDepth 100000 in
set_option maxHeartbeats 4000000 in
theorem c_X10_isSettledLaw (l : Launch) (G : mm_G) (a1 : Int)  (s0 : mm_M) (post : Int → mm_M → Prop) (hw : wp_X10_isSettledLaw a1 s0 post) : Met l yX10_isSettledLaw (mm_wm yX10_isSettledLaw cX10_isSettledLaw 1 (some .boolean)) (mm_rm 1) (va_Pc [.int (mm_I a1)] (mm_pre G s0)) (mm_Qi G post) 0 0 (mm_A G) := by
  refine mm_met (own := RX10) (by decide) rfl (Nat.le_of_ble_eq_true rfl) ?_
  intro p e s m args below meth c C hr hk
  unfold wp_X10_isSettledLaw at hw
  intro H locs ls w hl
  have hl : lv_has ls 1 [(0, .int (mm_I a1))] := hl
  refine lv_iload_n (pc := 0) C.1 C.2.1 dX10_isSettledLaw_0 rfl (lv_at hl 0 rfl) ?_
  refine g_if_lt (pc := 1) (tgt := 19) C rfl dX10_isSettledLaw_1 (by decide) (fun hc => ?_) (fun hc => ?_)
  · have hw := hw.1 hc
    refine lv_iconst (pc := 19) (v := mm_I 0) C.1 C.2.1 dX10_isSettledLaw_19 rfl ?_
    exact g_zret (pc := 20) C w hr hk (by decide) hw dX10_isSettledLaw_20
  · have hw := hw.2 hc
    refine lv_iload_n (pc := 4) C.1 C.2.1 dX10_isSettledLaw_4 rfl (lv_at hl 0 rfl) ?_
    refine lv_bipush (pc := 5) C.1 C.2.1 dX10_isSettledLaw_5 mb_8 ?_
    refine g_icmp_gt (pc := 7) (tgt := 19) C rfl mn_8 dX10_isSettledLaw_7 (by decide) (fun hc => ?_) (fun hc => ?_)
    · have hw := hw.1 hc
      refine lv_iconst (pc := 19) (v := mm_I 0) C.1 C.2.1 dX10_isSettledLaw_19 rfl ?_
      exact g_zret (pc := 20) C w hr hk (by decide) hw dX10_isSettledLaw_20
    · have hw := hw.2 hc
      refine lv_iload_n (pc := 10) C.1 C.2.1 dX10_isSettledLaw_10 rfl (lv_at hl 0 rfl) ?_
      refine lv_iconst (pc := 11) (v := mm_I 3) C.1 C.2.1 dX10_isSettledLaw_11 rfl ?_
      refine g_icmp_eq (pc := 12) (tgt := 19) C rfl mn_3 dX10_isSettledLaw_12 (by decide) (fun hc => ?_) (fun hc => ?_)
      · have hw := hw.1 hc
        refine lv_iconst (pc := 19) (v := mm_I 0) C.1 C.2.1 dX10_isSettledLaw_19 rfl ?_
        exact g_zret (pc := 20) C w hr hk (by decide) hw dX10_isSettledLaw_20
      · have hw := hw.2 hc
        refine lv_iconst (pc := 15) (v := mm_I 1) C.1 C.2.1 dX10_isSettledLaw_15 rfl ?_
        refine lv_goto (pc := 16) (tgt := 20) C.1 C.2.1 dX10_isSettledLaw_16 (by decide) ?_
        exact g_zret (pc := 20) C w hr hk (by decide) hw dX10_isSettledLaw_20
theorem cs_X10_isSettledLaw : mm_S yX10_isSettledLaw cX10_isSettledLaw 1 (some .boolean) 1 := ⟨(mt_4 61 rfl rfl), (mt_4 60 rfl rfl), (mt_1 1 rfl rfl), by decide, by decide, by decide +kernel⟩
theorem ml_X10_179 : Cond.methodLink RX10 179 yX10_isSettledLaw ∈ mm_ws := (mt_4 59 rfl rfl)
theorem ml_X10_182 : Cond.methodLink RX10 182 yX7_placeOfNext ∈ mm_ws := (mt_4 62 rfl rfl)
theorem ml_X10_186 : Cond.methodLink RX10 186 yX2_at ∈ mm_ws := (mt_4 127 rfl rfl)
def wp_X10_next (this : Nat) (a1 : Int) (a2 : Int) (s0 : mm_M) (post : Int → mm_M → Prop) : Prop :=
  (wp_X7_deskOf (mm_rt this 5) a1 s0 (fun r_2 s_1 => (r_2 = none → post (-1) s_1) ∧ (∀ t_3 : Nat, r_2 = some t_3 → (wp_X10_isSettledLaw a2 s_1 (fun r_5 s_4 => ((¬ n32 r_5 = 0 → (wp_X7_placeOfNext (mm_rt this 5) t_3 a2 s_4 (fun r_7 s_6 => (wp_X2_at t_3 r_7 s_6 (fun r_9 s_8 => post r_9 s_8))))) ∧ (n32 r_5 = 0 → post (-1) s_4)))))))
set_option maxRecDepth 100000 in
set_option maxHeartbeats 4000000 in
theorem c_X10_next (l : Launch) (G : mm_G) (this : Nat) (a1 : Int) (a2 : Int) (h0 : mm_ok this 20 0) (s0 : mm_M) (post : Int → mm_M → Prop) (hw : wp_X10_next this a1 a2 s0 post) : Met l yX10_next (mm_wm yX10_next cX10_next 4 (some .int)) (mm_rm 6) (va_Pc [.ref (mm_ad G this), .int (mm_I a1), .int (mm_I a2)] (mm_pre G s0)) (mm_Qi G post) 0 0 (mm_A G) := by
  refine mm_met (own := RX10) (by decide) rfl (Nat.le_of_ble_eq_true rfl) ?_
  intro p e s m args below meth c C hr hk
  unfold wp_X10_next at hw
  intro H locs ls w hl
  have hl : lv_has ls 4 [(0, .ref (mm_ad G this)), (1, .int (mm_I a1)), (2, .int (mm_I a2))] := hl
  refine lv_aload_n (pc := 0) C.1 C.2.1 dX10_next_0 rfl (lv_at hl 0 rfl) ?_
  refine g_getr (pc := 1) C w h0 ff_X10_5 lk_X10_44 dX10_next_1 ?_
  refine lv_iload_n (pc := 4) C.1 C.2.1 dX10_next_4 rfl (lv_at hl 1 rfl) ?_
  refine g_callq (pc := 5) w (mm_runV (ci := 7) (q := (RX7, TX7, 9)) (As := [.int (mm_I a1)]) (rest := []) C w (c_X7_deskOf l G (mm_rt this 5) a1 (ro_X10_5 h0) s0 _ hw) (ro_X10_5 h0) rfl rfl cv_X7_deskOf ml_X10_106 ⟨Nat.le_of_ble_eq_true rfl, Nat.le_of_ble_eq_true rfl⟩ ⟨Nat.le_of_ble_eq_true rfl, Nat.le_of_ble_eq_true rfl⟩ rfl hl.1 rfl (Nat.le_of_ble_eq_true rfl) dX10_next_5) (fun s_1 H locs hw w => ?_) (fun t_3 s_1 H locs ht_3 hw w => ?_)
  · have hw := hw.1 rfl
    refine lv_astore_nN (pc := 8) (lv' := [(3, .null), (0, .ref (mm_ad G this)), (1, .int (mm_I a1)), (2, .int (mm_I a2))]) C.1 C.2.1 dX10_next_8 rfl hl (by decide) rfl (fun ls hl => ?_)
    refine lv_aload_nN (pc := 9) C.1 C.2.1 dX10_next_9 rfl (lv_at hl 0 rfl) ?_
    refine lv_ifnullN (pc := 10) (tgt := 20) C.1 C.2.1 dX10_next_10 (by decide) ?_
    refine lv_iconst (pc := 20) (v := mm_I (-1)) C.1 C.2.1 dX10_next_20 rfl ?_
    exact g_iret (pc := 21) C w hr hk hw dX10_next_21
  · have hw := hw.2 t_3 rfl
    refine lv_astore_n (pc := 8) (lv' := [(3, .ref (mm_ad G t_3)), (0, .ref (mm_ad G this)), (1, .int (mm_I a1)), (2, .int (mm_I a2))]) C.1 C.2.1 dX10_next_8 rfl hl (by decide) rfl (fun ls hl => ?_)
    refine lv_aload_n (pc := 9) C.1 C.2.1 dX10_next_9 rfl (lv_at hl 0 rfl) ?_
    refine lv_ifnull (pc := 10) C.1 C.2.1 dX10_next_10 ?_
    refine lv_iload_n (pc := 13) C.1 C.2.1 dX10_next_13 rfl (lv_at hl 3 rfl) ?_
    refine g_calli (pc := 14) w (mm_runS (As := [.int (mm_I a2)]) (rest := []) C w (c_X10_isSettledLaw l G a2  s_1 _ hw) cs_X10_isSettledLaw ml_X10_179 ⟨Nat.le_of_ble_eq_true rfl, Nat.le_of_ble_eq_true rfl⟩ ⟨Nat.le_of_ble_eq_true rfl, Nat.le_of_ble_eq_true rfl⟩ rfl hl.1 rfl (Nat.le_of_ble_eq_true rfl) dX10_next_14) (fun r_5 s_4 H locs hw w => ?_)
    refine g_if_ne (pc := 17) (tgt := 22) C rfl dX10_next_17 (by decide) (fun hc => ?_) (fun hc => ?_)
    · have hw := hw.1 hc
      refine lv_aload_n (pc := 22) C.1 C.2.1 dX10_next_22 rfl (lv_at hl 0 rfl) ?_
      refine lv_aload_n (pc := 23) C.1 C.2.1 dX10_next_23 rfl (lv_at hl 1 rfl) ?_
      refine g_getr (pc := 24) C w h0 ff_X10_5 lk_X10_44 dX10_next_24 ?_
      refine lv_aload_n (pc := 27) C.1 C.2.1 dX10_next_27 rfl (lv_at hl 0 rfl) ?_
      refine lv_iload_n (pc := 28) C.1 C.2.1 dX10_next_28 rfl (lv_at hl 3 rfl) ?_
      refine g_calli (pc := 29) w (mm_runV (ci := 7) (q := (RX7, TX7, 9)) (As := [.ref (mm_ad G t_3), .int (mm_I a2)]) (rest := [.ref (mm_ad G t_3)]) C w (c_X7_placeOfNext l G (mm_rt this 5) t_3 a2 (ro_X10_5 h0) ht_3 s_4 _ hw) (ro_X10_5 h0) rfl rfl cv_X7_placeOfNext ml_X10_182 ⟨Nat.le_of_ble_eq_true rfl, Nat.le_of_ble_eq_true rfl⟩ ⟨Nat.le_of_ble_eq_true rfl, Nat.le_of_ble_eq_true rfl⟩ rfl hl.1 rfl (Nat.le_of_ble_eq_true rfl) dX10_next_29) (fun r_7 s_6 H locs hw w => ?_)
      refine g_calli (pc := 32) w (mm_runV (ci := 2) (q := (RX2, TX2, 4)) (As := [.int (mm_I r_7)]) (rest := []) C w (c_X2_at l G t_3 r_7 ht_3 s_6 _ hw) ht_3 rfl rfl cv_X2_at ml_X10_186 ⟨Nat.le_of_ble_eq_true rfl, Nat.le_of_ble_eq_true rfl⟩ ⟨Nat.le_of_ble_eq_true rfl, Nat.le_of_ble_eq_true rfl⟩ rfl hl.1 rfl (Nat.le_of_ble_eq_true rfl) dX10_next_32) (fun r_9 s_8 H locs hw w => ?_)
      exact g_iret (pc := 35) C w hr hk hw dX10_next_35
    · have hw := hw.2 hc
      refine lv_iconst (pc := 20) (v := mm_I (-1)) C.1 C.2.1 dX10_next_20 rfl ?_
      exact g_iret (pc := 21) C w hr hk hw dX10_next_21
def wp_X10_inside (this : Nat) (a1 : Int) (a2 : Int) (s0 : mm_M) (post : Int → mm_M → Prop) : Prop :=
  (wp_X7_deskOf (mm_rt this 5) a1 s0 (fun r_2 s_1 => (r_2 = none → post (-1) s_1) ∧ (∀ t_3 : Nat, r_2 = some t_3 → (wp_X2_at t_3 a2 s_1 (fun r_5 s_4 => post r_5 s_4)))))
set_option maxRecDepth 100000 in
set_option maxHeartbeats 4000000 in
theorem c_X10_inside (l : Launch) (G : mm_G) (this : Nat) (a1 : Int) (a2 : Int) (h0 : mm_ok this 20 0) (s0 : mm_M) (post : Int → mm_M → Prop) (hw : wp_X10_inside this a1 a2 s0 post) : Met l yX10_inside (mm_wm yX10_inside cX10_inside 4 (some .int)) (mm_rm 3) (va_Pc [.ref (mm_ad G this), .int (mm_I a1), .int (mm_I a2)] (mm_pre G s0)) (mm_Qi G post) 0 0 (mm_A G) := by
  refine mm_met (own := RX10) (by decide) rfl (Nat.le_of_ble_eq_true rfl) ?_
  intro p e s m args below meth c C hr hk
  unfold wp_X10_inside at hw
  intro H locs ls w hl
  have hl : lv_has ls 4 [(0, .ref (mm_ad G this)), (1, .int (mm_I a1)), (2, .int (mm_I a2))] := hl
  refine lv_aload_n (pc := 0) C.1 C.2.1 dX10_inside_0 rfl (lv_at hl 0 rfl) ?_
  refine g_getr (pc := 1) C w h0 ff_X10_5 lk_X10_44 dX10_inside_1 ?_
  refine lv_iload_n (pc := 4) C.1 C.2.1 dX10_inside_4 rfl (lv_at hl 1 rfl) ?_
  refine g_callq (pc := 5) w (mm_runV (ci := 7) (q := (RX7, TX7, 9)) (As := [.int (mm_I a1)]) (rest := []) C w (c_X7_deskOf l G (mm_rt this 5) a1 (ro_X10_5 h0) s0 _ hw) (ro_X10_5 h0) rfl rfl cv_X7_deskOf ml_X10_106 ⟨Nat.le_of_ble_eq_true rfl, Nat.le_of_ble_eq_true rfl⟩ ⟨Nat.le_of_ble_eq_true rfl, Nat.le_of_ble_eq_true rfl⟩ rfl hl.1 rfl (Nat.le_of_ble_eq_true rfl) dX10_inside_5) (fun s_1 H locs hw w => ?_) (fun t_3 s_1 H locs ht_3 hw w => ?_)
  · have hw := hw.1 rfl
    refine lv_astore_nN (pc := 8) (lv' := [(3, .null), (0, .ref (mm_ad G this)), (1, .int (mm_I a1)), (2, .int (mm_I a2))]) C.1 C.2.1 dX10_inside_8 rfl hl (by decide) rfl (fun ls hl => ?_)
    refine lv_aload_nN (pc := 9) C.1 C.2.1 dX10_inside_9 rfl (lv_at hl 0 rfl) ?_
    refine lv_ifnonnullN (pc := 10) C.1 C.2.1 dX10_inside_10 ?_
    refine lv_iconst (pc := 13) (v := mm_I (-1)) C.1 C.2.1 dX10_inside_13 rfl ?_
    refine lv_goto (pc := 14) (tgt := 22) C.1 C.2.1 dX10_inside_14 (by decide) ?_
    exact g_iret (pc := 22) C w hr hk hw dX10_inside_22
  · have hw := hw.2 t_3 rfl
    refine lv_astore_n (pc := 8) (lv' := [(3, .ref (mm_ad G t_3)), (0, .ref (mm_ad G this)), (1, .int (mm_I a1)), (2, .int (mm_I a2))]) C.1 C.2.1 dX10_inside_8 rfl hl (by decide) rfl (fun ls hl => ?_)
    refine lv_aload_n (pc := 9) C.1 C.2.1 dX10_inside_9 rfl (lv_at hl 0 rfl) ?_
    refine lv_ifnonnull (pc := 10) (tgt := 17) C.1 C.2.1 dX10_inside_10 (by decide) ?_
    refine lv_aload_n (pc := 17) C.1 C.2.1 dX10_inside_17 rfl (lv_at hl 0 rfl) ?_
    refine lv_iload_n (pc := 18) C.1 C.2.1 dX10_inside_18 rfl (lv_at hl 3 rfl) ?_
    refine g_calli (pc := 19) w (mm_runV (ci := 2) (q := (RX2, TX2, 4)) (As := [.int (mm_I a2)]) (rest := []) C w (c_X2_at l G t_3 a2 ht_3 s_1 _ hw) ht_3 rfl rfl cv_X2_at ml_X10_186 ⟨Nat.le_of_ble_eq_true rfl, Nat.le_of_ble_eq_true rfl⟩ ⟨Nat.le_of_ble_eq_true rfl, Nat.le_of_ble_eq_true rfl⟩ rfl hl.1 rfl (Nat.le_of_ble_eq_true rfl) dX10_inside_19) (fun r_5 s_4 H locs hw w => ?_)
    exact g_iret (pc := 22) C w hr hk hw dX10_inside_22
theorem cv_X9_isTold : mm_V yX9_isTold cX9_isTold 1 (some .boolean) 0 := ⟨(mt_4 139 rfl rfl), (mt_4 137 rfl rfl), (mt_4 138 rfl rfl), (mt_1 4 rfl rfl), by decide, by decide, by decide +kernel⟩
theorem ml_X10_189 : Cond.methodLink RX10 189 yX9_isTold ∈ mm_ws := (mt_4 136 rfl rfl)
theorem mn_240 : n32 240 = 240 := by decide
theorem cv_X7_passMinute : mm_V yX7_passMinute cX7_passMinute 3 none 0 := ⟨(mt_4 143 rfl rfl), (mt_4 141 rfl rfl), (mt_4 142 rfl rfl), (mt_1 6 rfl rfl), by decide, by decide, by decide +kernel⟩
theorem ml_X10_193 : Cond.methodLink RX10 193 yX7_passMinute ∈ mm_ws := (mt_4 140 rfl rfl)
def wp_X10_go (this : Nat) (a1 : Int) (s0 : mm_M) (post : Int → mm_M → Prop) : Prop :=
  ∀ (L26 : Int → mm_M → Prop), 
  (∀ (v2 : Int) (s1 : mm_M), ((n32 a1 ≤ n32 v2 → post (s1 (mm_rt this 5) 7) s1) ∧ (¬ n32 a1 ≤ n32 v2 → (wp_X9_closing (mm_rt this 1) s1 (fun r_5 s_4 => ((n32 r_5 ≤ n32 (s1 (mm_rt this 5) 7) → post (s_4 (mm_rt this 5) 7) s_4) ∧ (¬ n32 r_5 ≤ n32 (s1 (mm_rt this 5) 7) → (wp_X7_passMinute (mm_rt this 5) s_4 (fun s_6 => (∀ v2_8 : Int, v2_8 = v2 + 1 → L26 v2_8 s_6))))))))) → L26 v2 s1) →
  (wp_X9_isTold (mm_rt this 1) s0 (fun r_2 s_1 => ((n32 r_2 = 0 → post (-1) s_1) ∧ (¬ n32 r_2 = 0 → ((n32 a1 < 1 → post (-1) s_1) ∧ (¬ n32 a1 < 1 → ((n32 a1 ≤ 240 → L26 0 s_1) ∧ (¬ n32 a1 ≤ 240 → post (-1) s_1))))))))
set_option maxRecDepth 100000 in
set_option maxHeartbeats 4000000 in
theorem c_X10_go (l : Launch) (G : mm_G) (this : Nat) (a1 : Int) (h0 : mm_ok this 20 0) (s0 : mm_M) (post : Int → mm_M → Prop) (hw : wp_X10_go this a1 s0 post) : Met l yX10_go (mm_wm yX10_go cX10_go 3 (some .int)) (mm_rm 8) (va_Pc [.ref (mm_ad G this), .int (mm_I a1)] (mm_pre G s0)) (mm_Qi G post) 0 0 (mm_A G) := by
  refine mm_met (own := RX10) (by decide) rfl (Nat.le_of_ble_eq_true rfl) ?_
  intro p e s m args below meth c C hr hk
  unfold wp_X10_go at hw
  have hw := hw (fun (v2 : Int) (u : mm_M) => mm_X p l e (mm_rm 8) s m args below meth c (MQ below (mm_Qi G post) args s 0 0 (mm_A G)) G (mm_A G) 3 26 [(0, .ref (mm_ad G this)), (1, .int (mm_I a1)), (2, .int (mm_I v2))] [] u)
  have hw := hw (by
    intro v2 s1 hw  H locs ls w hl
    refine lv_iload_n (pc := 26) C.1 C.2.1 dX10_go_26 rfl (lv_at hl 2 rfl) ?_
    refine lv_iload_n (pc := 27) C.1 C.2.1 dX10_go_27 rfl (lv_at hl 1 rfl) ?_
    refine g_icmp_ge (pc := 28) (tgt := 61) C rfl rfl dX10_go_28 (by decide) (fun hc => ?_) (fun hc => ?_)
    · have hw := hw.1 hc
      refine lv_aload_n (pc := 61) C.1 C.2.1 dX10_go_61 rfl (lv_at hl 0 rfl) ?_
      refine g_getr (pc := 62) C w h0 ff_X10_5 lk_X10_44 dX10_go_62 ?_
      refine g_getiN (pc := 65) C w (ro_X10_5 h0) ff_X7_7 lk_X10_145 dX10_go_65 ?_
      exact g_iret (pc := 68) C w hr hk hw dX10_go_68
    · have hw := hw.2 hc
      refine lv_aload_n (pc := 31) C.1 C.2.1 dX10_go_31 rfl (lv_at hl 0 rfl) ?_
      refine g_getr (pc := 32) C w h0 ff_X10_5 lk_X10_44 dX10_go_32 ?_
      refine g_getiN (pc := 35) C w (ro_X10_5 h0) ff_X7_7 lk_X10_145 dX10_go_35 ?_
      refine lv_aload_n (pc := 38) C.1 C.2.1 dX10_go_38 rfl (lv_at hl 0 rfl) ?_
      refine g_getr (pc := 39) C w h0 ff_X10_1 lk_X10_22 dX10_go_39 ?_
      refine g_calli (pc := 42) w (mm_runV (ci := 9) (q := (RX9, TX9, 9)) (As := []) (rest := [.int (mm_I (s1 (mm_rt this 5) 7))]) C w (c_X9_closing l G (mm_rt this 1) (ro_X10_1 h0) s1 _ hw) (ro_X10_1 h0) rfl rfl cv_X9_closing ml_X10_148 ⟨Nat.le_of_ble_eq_true rfl, Nat.le_of_ble_eq_true rfl⟩ ⟨Nat.le_of_ble_eq_true rfl, Nat.le_of_ble_eq_true rfl⟩ rfl hl.1 rfl (Nat.le_of_ble_eq_true rfl) dX10_go_42) (fun r_5 s_4 H locs hw w => ?_)
      refine g_icmp_ge (pc := 45) (tgt := 61) C rfl rfl dX10_go_45 (by decide) (fun hc => ?_) (fun hc => ?_)
      · have hw := hw.1 hc
        refine lv_aload_n (pc := 61) C.1 C.2.1 dX10_go_61 rfl (lv_at hl 0 rfl) ?_
        refine g_getr (pc := 62) C w h0 ff_X10_5 lk_X10_44 dX10_go_62 ?_
        refine g_getiN (pc := 65) C w (ro_X10_5 h0) ff_X7_7 lk_X10_145 dX10_go_65 ?_
        exact g_iret (pc := 68) C w hr hk hw dX10_go_68
      · have hw := hw.2 hc
        refine lv_aload_n (pc := 48) C.1 C.2.1 dX10_go_48 rfl (lv_at hl 0 rfl) ?_
        refine g_getr (pc := 49) C w h0 ff_X10_5 lk_X10_44 dX10_go_49 ?_
        refine g_callv (pc := 52) w (mm_runV (ci := 7) (q := (RX7, TX7, 9)) (As := []) (rest := []) C w (c_X7_passMinute l G (mm_rt this 5) (ro_X10_5 h0) s_4 _ hw) (ro_X10_5 h0) rfl rfl cv_X7_passMinute ml_X10_193 ⟨Nat.le_of_ble_eq_true rfl, Nat.le_of_ble_eq_true rfl⟩ ⟨Nat.le_of_ble_eq_true rfl, Nat.le_of_ble_eq_true rfl⟩ rfl hl.1 rfl (Nat.le_of_ble_eq_true rfl) dX10_go_52) (fun s_6 H locs hw w => ?_)
        refine g_iinc (pc := 55) (k := 2) C dX10_go_55 hl rfl (by decide) (fun v2_8 ev2_8 ls hl => ?_)
        have hw := hw v2_8 ev2_8
        have hl : lv_has ls 3 [(2, .int (mm_I v2_8)), (0, .ref (mm_ad G this)), (1, .int (mm_I a1))] := hl
        refine lv_goto (pc := 58) (tgt := 26) C.1 C.2.1 dX10_go_58 (by decide) ?_
        exact hw  _ _ _ w (lv_sub hl [1, 2, 0] rfl))
  intro H locs ls w hl
  have hl : lv_has ls 3 [(0, .ref (mm_ad G this)), (1, .int (mm_I a1))] := hl
  refine lv_aload_n (pc := 0) C.1 C.2.1 dX10_go_0 rfl (lv_at hl 0 rfl) ?_
  refine g_getr (pc := 1) C w h0 ff_X10_1 lk_X10_22 dX10_go_1 ?_
  refine g_calli (pc := 4) w (mm_runV (ci := 9) (q := (RX9, TX9, 9)) (As := []) (rest := []) C w (c_X9_isTold l G (mm_rt this 1) (ro_X10_1 h0) s0 _ hw) (ro_X10_1 h0) rfl rfl cv_X9_isTold ml_X10_189 ⟨Nat.le_of_ble_eq_true rfl, Nat.le_of_ble_eq_true rfl⟩ ⟨Nat.le_of_ble_eq_true rfl, Nat.le_of_ble_eq_true rfl⟩ rfl hl.1 rfl (Nat.le_of_ble_eq_true rfl) dX10_go_4) (fun r_2 s_1 H locs hw w => ?_)
  refine g_if_eq (pc := 7) (tgt := 22) C rfl dX10_go_7 (by decide) (fun hc => ?_) (fun hc => ?_)
  · have hw := hw.1 hc
    refine lv_iconst (pc := 22) (v := mm_I (-1)) C.1 C.2.1 dX10_go_22 rfl ?_
    exact g_iret (pc := 23) C w hr hk hw dX10_go_23
  · have hw := hw.2 hc
    refine lv_iload_n (pc := 10) C.1 C.2.1 dX10_go_10 rfl (lv_at hl 1 rfl) ?_
    refine lv_iconst (pc := 11) (v := mm_I 1) C.1 C.2.1 dX10_go_11 rfl ?_
    refine g_icmp_lt (pc := 12) (tgt := 22) C rfl mn_1 dX10_go_12 (by decide) (fun hc => ?_) (fun hc => ?_)
    · have hw := hw.1 hc
      refine lv_iconst (pc := 22) (v := mm_I (-1)) C.1 C.2.1 dX10_go_22 rfl ?_
      exact g_iret (pc := 23) C w hr hk hw dX10_go_23
    · have hw := hw.2 hc
      refine lv_iload_n (pc := 15) C.1 C.2.1 dX10_go_15 rfl (lv_at hl 1 rfl) ?_
      refine lv_sipush (pc := 16) C.1 C.2.1 dX10_go_16 ms_240 ?_
      refine g_icmp_le (pc := 19) (tgt := 24) C rfl mn_240 dX10_go_19 (by decide) (fun hc => ?_) (fun hc => ?_)
      · have hw := hw.1 hc
        refine lv_iconst (pc := 24) (v := mm_I 0) C.1 C.2.1 dX10_go_24 rfl ?_
        refine lv_istore_n (pc := 25) (lv' := [(2, .int (mm_I 0)), (0, .ref (mm_ad G this)), (1, .int (mm_I a1))]) C.1 C.2.1 dX10_go_25 rfl hl (by decide) rfl (fun ls hl => ?_)
        exact hw  _ _ _ w (lv_sub hl [1, 2, 0] rfl)
      · have hw := hw.2 hc
        refine lv_iconst (pc := 22) (v := mm_I (-1)) C.1 C.2.1 dX10_go_22 rfl ?_
        exact g_iret (pc := 23) C w hr hk hw dX10_go_23
theorem lk_X10_61 : Cond.fieldLink RX10 61 "LastServed" "row" "LLastServed$Row;" ∈ mm_ws := (mt_2 126 rfl rfl)
theorem ff_X10_8 : mm_F 10 8 1 RX10 TX10 10 := ⟨rfl, by decide, fk_X10, rfl, rfl⟩
theorem ro_X10_8 {i : Nat} (h : mm_ok i 20 0) : mm_ok (mm_rt i 8) 16 0 := by
  have q : ∀ i, i < mm_N → mm_kd i = 20 → mm_rt i 8 < mm_N ∧ mm_kd (mm_rt i 8) = 16 ∧ mm_ln (mm_rt i 8) = 0 := by decide +kernel
  exact q i h.1 h.2.1
theorem cv_X6_append : mm_V yX6_append cX6_append 3 (some .int) 2 := ⟨(mt_4 200 rfl rfl), (mt_4 198 rfl rfl), (mt_4 199 rfl rfl), (mt_1 10 rfl rfl), by decide, by decide, by decide +kernel⟩
theorem ml_X10_196 : Cond.methodLink RX10 196 yX6_append ∈ mm_ws := (mt_4 197 rfl rfl)
def wp_X10_comer (this : Nat) (a1 : Int) (a2 : Int) (s0 : mm_M) (post : Int → mm_M → Prop) : Prop :=
  (wp_X6_append (mm_rt this 8) a1 a2 s0 (fun r_2 s_1 => post r_2 s_1))
set_option maxRecDepth 100000 in
set_option maxHeartbeats 4000000 in
theorem c_X10_comer (l : Launch) (G : mm_G) (this : Nat) (a1 : Int) (a2 : Int) (h0 : mm_ok this 20 0) (s0 : mm_M) (post : Int → mm_M → Prop) (hw : wp_X10_comer this a1 a2 s0 post) : Met l yX10_comer (mm_wm yX10_comer cX10_comer 3 (some .int)) (mm_rm 2) (va_Pc [.ref (mm_ad G this), .int (mm_I a1), .int (mm_I a2)] (mm_pre G s0)) (mm_Qi G post) 0 0 (mm_A G) := by
  refine mm_met (own := RX10) (by decide) rfl (Nat.le_of_ble_eq_true rfl) ?_
  intro p e s m args below meth c C hr hk
  unfold wp_X10_comer at hw
  intro H locs ls w hl
  have hl : lv_has ls 3 [(0, .ref (mm_ad G this)), (1, .int (mm_I a1)), (2, .int (mm_I a2))] := hl
  refine lv_aload_n (pc := 0) C.1 C.2.1 dX10_comer_0 rfl (lv_at hl 0 rfl) ?_
  refine g_getr (pc := 1) C w h0 ff_X10_8 lk_X10_61 dX10_comer_1 ?_
  refine lv_iload_n (pc := 4) C.1 C.2.1 dX10_comer_4 rfl (lv_at hl 1 rfl) ?_
  refine lv_iload_n (pc := 5) C.1 C.2.1 dX10_comer_5 rfl (lv_at hl 2 rfl) ?_
  refine g_calli (pc := 6) w (mm_runV (ci := 6) (q := (RX6, TX6, 9)) (As := [.int (mm_I a1), .int (mm_I a2)]) (rest := []) C w (c_X6_append l G (mm_rt this 8) a1 a2 (ro_X10_8 h0) s0 _ hw) (ro_X10_8 h0) rfl rfl cv_X6_append ml_X10_196 ⟨Nat.le_of_ble_eq_true rfl, Nat.le_of_ble_eq_true rfl⟩ ⟨Nat.le_of_ble_eq_true rfl, Nat.le_of_ble_eq_true rfl⟩ rfl hl.1 rfl (Nat.le_of_ble_eq_true rfl) dX10_comer_6) (fun r_2 s_1 H locs hw w => ?_)
  exact g_iret (pc := 9) C w hr hk hw dX10_comer_9
theorem lk_X10_198 : Cond.fieldLinkNest RX10 198 "LastServed$Row" "size" "I" "LastServed" ∈ mm_nest := by decide +kernel
def wp_X10_clear (this : Nat) (s0 : mm_M) (post : Int → mm_M → Prop) : Prop :=
  (∀ v1_1 : Int, v1_1 = s0 (mm_rt this 8) 8 → (∀ s_2 : mm_M, s_2 = mm_up s0 (mm_rt this 8) 8 0 → post v1_1 s_2))
set_option maxRecDepth 100000 in
set_option maxHeartbeats 4000000 in
theorem c_X10_clear (l : Launch) (G : mm_G) (this : Nat) (h0 : mm_ok this 20 0) (s0 : mm_M) (post : Int → mm_M → Prop) (hw : wp_X10_clear this s0 post) : Met l yX10_clear (mm_wm yX10_clear cX10_clear 2 (some .int)) (mm_rm 1) (va_Pc [.ref (mm_ad G this)] (mm_pre G s0)) (mm_Qi G post) 0 0 (mm_A G) := by
  refine mm_met (own := RX10) (by decide) rfl (Nat.le_of_ble_eq_true rfl) ?_
  intro p e s m args below meth c C hr hk
  unfold wp_X10_clear at hw
  intro H locs ls w hl
  have hl : lv_has ls 2 [(0, .ref (mm_ad G this))] := hl
  refine lv_aload_n (pc := 0) C.1 C.2.1 dX10_clear_0 rfl (lv_at hl 0 rfl) ?_
  refine g_getr (pc := 1) C w h0 ff_X10_8 lk_X10_61 dX10_clear_1 ?_
  refine g_getiN (pc := 4) C w (ro_X10_8 h0) ff_X6_8 lk_X10_198 dX10_clear_4 ?_
  refine g_istore_n (pc := 7) C dX10_clear_7 rfl hl (by decide) (fun v1_1 ev1_1 ls hl => ?_)
  have hw := hw v1_1 ev1_1
  have hl : lv_has ls 2 [(1, .int (mm_I v1_1)), (0, .ref (mm_ad G this))] := hl
  refine lv_aload_n (pc := 8) C.1 C.2.1 dX10_clear_8 rfl (lv_at hl 1 rfl) ?_
  refine g_getr (pc := 9) C w h0 ff_X10_8 lk_X10_61 dX10_clear_9 ?_
  refine lv_iconst (pc := 12) (v := mm_I 0) C.1 C.2.1 dX10_clear_12 rfl ?_
  refine g_putiN (pc := 13) C w (ro_X10_8 h0) ff_X6_8 fw_X6_8 lk_X10_198 dX10_clear_13 (fun s_2 H locs es_2 w => ?_)
  have hw := hw s_2 es_2
  refine lv_iload_n (pc := 16) C.1 C.2.1 dX10_clear_16 rfl (lv_at hl 0 rfl) ?_
  exact g_iret (pc := 17) C w hr hk hw dX10_clear_17
theorem ml_X10_199 : Cond.methodLink RX10 199 yX6_serveAll ∈ mm_ws := (mt_4 209 rfl rfl)
theorem cv_X6_servedAt : mm_V yX6_servedAt cX6_servedAt 2 (some .int) 1 := ⟨(mt_4 234 rfl rfl), (mt_4 232 rfl rfl), (mt_4 233 rfl rfl), (mt_1 10 rfl rfl), by decide, by decide, by decide +kernel⟩
theorem ml_X10_202 : Cond.methodLink RX10 202 yX6_servedAt ∈ mm_ws := (mt_4 231 rfl rfl)
theorem cv_X6_waitOf : mm_V yX6_waitOf cX6_waitOf 2 (some .int) 1 := ⟨(mt_4 238 rfl rfl), (mt_4 236 rfl rfl), (mt_4 237 rfl rfl), (mt_1 10 rfl rfl), by decide, by decide, by decide +kernel⟩
theorem ml_X10_205 : Cond.methodLink RX10 205 yX6_waitOf ∈ mm_ws := (mt_4 235 rfl rfl)
theorem ml_X10_208 : Cond.methodLink RX10 208 yX6_together ∈ mm_ws := (mt_4 239 rfl rfl)
theorem cv_X6_unlikeOfAll : mm_V yX6_unlikeOfAll cX6_unlikeOfAll 3 (some .int) 0 := ⟨(mt_5 6 rfl rfl), (mt_5 4 rfl rfl), (mt_5 5 rfl rfl), (mt_1 10 rfl rfl), by decide, by decide, by decide +kernel⟩
theorem ml_X10_211 : Cond.methodLink RX10 211 yX6_unlikeOfAll ∈ mm_ws := (mt_5 3 rfl rfl)
theorem ml_X10_214 : Cond.methodLink RX10 214 yX6_longest ∈ mm_ws := (mt_5 9 rfl rfl)
def wp_X10_waits (this : Nat) (a1 : Int) (a2 : Int) (a3 : Int) (s0 : mm_M) (post : Int → mm_M → Prop) : Prop :=
  ((n32 (s0 (mm_rt this 8) 8) = 0 → post (-1) s0) ∧ (¬ n32 (s0 (mm_rt this 8) 8) = 0 → (wp_X10_isSettledLaw a1 s0 (fun r_2 s_1 => ((¬ n32 r_2 = 0 → (wp_X6_serveAll (mm_rt this 8) a1 s_1 (fun s_3 => ((n32 a3 = 0 → (wp_X6_servedAt (mm_rt this 8) a2 s_3 (fun r_6 s_5 => post r_6 s_5))) ∧ (¬ n32 a3 = 0 → ((n32 a3 = 1 → (wp_X6_waitOf (mm_rt this 8) a2 s_3 (fun r_8 s_7 => post r_8 s_7))) ∧ (¬ n32 a3 = 1 → ((n32 a3 = 2 → (wp_X6_together (mm_rt this 8) s_3 (fun r_10 s_9 => post r_10 s_9))) ∧ (¬ n32 a3 = 2 → ((n32 a3 = 3 → (wp_X6_unlikeOfAll (mm_rt this 8) s_3 (fun r_12 s_11 => post r_12 s_11))) ∧ (¬ n32 a3 = 3 → ((n32 a3 = 4 → (wp_X6_longest (mm_rt this 8) s_3 (fun r_14 s_13 => post r_14 s_13))) ∧ (¬ n32 a3 = 4 → post (-1) s_3))))))))))))) ∧ (n32 r_2 = 0 → post (-1) s_1))))))
set_option maxRecDepth 100000 in
set_option maxHeartbeats 4000000 in
theorem c_X10_waits (l : Launch) (G : mm_G) (this : Nat) (a1 : Int) (a2 : Int) (a3 : Int) (h0 : mm_ok this 20 0) (s0 : mm_M) (post : Int → mm_M → Prop) (hw : wp_X10_waits this a1 a2 a3 s0 post) : Met l yX10_waits (mm_wm yX10_waits cX10_waits 4 (some .int)) (mm_rm 7) (va_Pc [.ref (mm_ad G this), .int (mm_I a1), .int (mm_I a2), .int (mm_I a3)] (mm_pre G s0)) (mm_Qi G post) 0 0 (mm_A G) := by
  refine mm_met (own := RX10) (by decide) rfl (Nat.le_of_ble_eq_true rfl) ?_
  intro p e s m args below meth c C hr hk
  unfold wp_X10_waits at hw
  intro H locs ls w hl
  have hl : lv_has ls 4 [(0, .ref (mm_ad G this)), (1, .int (mm_I a1)), (2, .int (mm_I a2)), (3, .int (mm_I a3))] := hl
  refine lv_aload_n (pc := 0) C.1 C.2.1 dX10_waits_0 rfl (lv_at hl 0 rfl) ?_
  refine g_getr (pc := 1) C w h0 ff_X10_8 lk_X10_61 dX10_waits_1 ?_
  refine g_getiN (pc := 4) C w (ro_X10_8 h0) ff_X6_8 lk_X10_198 dX10_waits_4 ?_
  refine g_if_eq (pc := 7) (tgt := 17) C rfl dX10_waits_7 (by decide) (fun hc => ?_) (fun hc => ?_)
  · have hw := hw.1 hc
    refine lv_iconst (pc := 17) (v := mm_I (-1)) C.1 C.2.1 dX10_waits_17 rfl ?_
    exact g_iret (pc := 18) C w hr hk hw dX10_waits_18
  · have hw := hw.2 hc
    refine lv_iload_n (pc := 10) C.1 C.2.1 dX10_waits_10 rfl (lv_at hl 1 rfl) ?_
    refine g_calli (pc := 11) w (mm_runS (As := [.int (mm_I a1)]) (rest := []) C w (c_X10_isSettledLaw l G a1  s0 _ hw) cs_X10_isSettledLaw ml_X10_179 ⟨Nat.le_of_ble_eq_true rfl, Nat.le_of_ble_eq_true rfl⟩ ⟨Nat.le_of_ble_eq_true rfl, Nat.le_of_ble_eq_true rfl⟩ rfl hl.1 rfl (Nat.le_of_ble_eq_true rfl) dX10_waits_11) (fun r_2 s_1 H locs hw w => ?_)
    refine g_if_ne (pc := 14) (tgt := 19) C rfl dX10_waits_14 (by decide) (fun hc => ?_) (fun hc => ?_)
    · have hw := hw.1 hc
      refine lv_aload_n (pc := 19) C.1 C.2.1 dX10_waits_19 rfl (lv_at hl 0 rfl) ?_
      refine g_getr (pc := 20) C w h0 ff_X10_8 lk_X10_61 dX10_waits_20 ?_
      refine lv_iload_n (pc := 23) C.1 C.2.1 dX10_waits_23 rfl (lv_at hl 1 rfl) ?_
      refine g_callv (pc := 24) w (mm_runV (ci := 6) (q := (RX6, TX6, 9)) (As := [.int (mm_I a1)]) (rest := []) C w (c_X6_serveAll l G (mm_rt this 8) a1 (ro_X10_8 h0) s_1 _ hw) (ro_X10_8 h0) rfl rfl cv_X6_serveAll ml_X10_199 ⟨Nat.le_of_ble_eq_true rfl, Nat.le_of_ble_eq_true rfl⟩ ⟨Nat.le_of_ble_eq_true rfl, Nat.le_of_ble_eq_true rfl⟩ rfl hl.1 rfl (Nat.le_of_ble_eq_true rfl) dX10_waits_24) (fun s_3 H locs hw w => ?_)
      refine lv_iload_n (pc := 27) C.1 C.2.1 dX10_waits_27 rfl (lv_at hl 3 rfl) ?_
      by_cases hc0 : n32 a3 = 0
      · have hw := hw.1 hc0
        refine lv_tableIn (pc := 28) (tgt := 64) C.1 C.2.1 dX10_waits_28 (by rw [show (mm_I a3).toInt = 0 from hc0]; decide) (by rw [show (mm_I a3).toInt = 0 from hc0]; decide) (by rw [show (mm_I a3).toInt = 0 from hc0]; first | done | rfl) (by decide) ?_
        refine lv_aload_n (pc := 64) C.1 C.2.1 dX10_waits_64 rfl (lv_at hl 0 rfl) ?_
        refine g_getr (pc := 65) C w h0 ff_X10_8 lk_X10_61 dX10_waits_65 ?_
        refine lv_iload_n (pc := 68) C.1 C.2.1 dX10_waits_68 rfl (lv_at hl 2 rfl) ?_
        refine g_calli (pc := 69) w (mm_runV (ci := 6) (q := (RX6, TX6, 9)) (As := [.int (mm_I a2)]) (rest := []) C w (c_X6_servedAt l G (mm_rt this 8) a2 (ro_X10_8 h0) s_3 _ hw) (ro_X10_8 h0) rfl rfl cv_X6_servedAt ml_X10_202 ⟨Nat.le_of_ble_eq_true rfl, Nat.le_of_ble_eq_true rfl⟩ ⟨Nat.le_of_ble_eq_true rfl, Nat.le_of_ble_eq_true rfl⟩ rfl hl.1 rfl (Nat.le_of_ble_eq_true rfl) dX10_waits_69) (fun r_6 s_5 H locs hw w => ?_)
        exact g_iret (pc := 72) C w hr hk hw dX10_waits_72
      have hw := hw.2 hc0
      by_cases hc1 : n32 a3 = 1
      · have hw := hw.1 hc1
        refine lv_tableIn (pc := 28) (tgt := 73) C.1 C.2.1 dX10_waits_28 (by rw [show (mm_I a3).toInt = 1 from hc1]; decide) (by rw [show (mm_I a3).toInt = 1 from hc1]; decide) (by rw [show (mm_I a3).toInt = 1 from hc1]; first | done | rfl) (by decide) ?_
        refine lv_aload_n (pc := 73) C.1 C.2.1 dX10_waits_73 rfl (lv_at hl 0 rfl) ?_
        refine g_getr (pc := 74) C w h0 ff_X10_8 lk_X10_61 dX10_waits_74 ?_
        refine lv_iload_n (pc := 77) C.1 C.2.1 dX10_waits_77 rfl (lv_at hl 2 rfl) ?_
        refine g_calli (pc := 78) w (mm_runV (ci := 6) (q := (RX6, TX6, 9)) (As := [.int (mm_I a2)]) (rest := []) C w (c_X6_waitOf l G (mm_rt this 8) a2 (ro_X10_8 h0) s_3 _ hw) (ro_X10_8 h0) rfl rfl cv_X6_waitOf ml_X10_205 ⟨Nat.le_of_ble_eq_true rfl, Nat.le_of_ble_eq_true rfl⟩ ⟨Nat.le_of_ble_eq_true rfl, Nat.le_of_ble_eq_true rfl⟩ rfl hl.1 rfl (Nat.le_of_ble_eq_true rfl) dX10_waits_78) (fun r_8 s_7 H locs hw w => ?_)
        exact g_iret (pc := 81) C w hr hk hw dX10_waits_81
      have hw := hw.2 hc1
      by_cases hc2 : n32 a3 = 2
      · have hw := hw.1 hc2
        refine lv_tableIn (pc := 28) (tgt := 82) C.1 C.2.1 dX10_waits_28 (by rw [show (mm_I a3).toInt = 2 from hc2]; decide) (by rw [show (mm_I a3).toInt = 2 from hc2]; decide) (by rw [show (mm_I a3).toInt = 2 from hc2]; first | done | rfl) (by decide) ?_
        refine lv_aload_n (pc := 82) C.1 C.2.1 dX10_waits_82 rfl (lv_at hl 0 rfl) ?_
        refine g_getr (pc := 83) C w h0 ff_X10_8 lk_X10_61 dX10_waits_83 ?_
        refine g_calli (pc := 86) w (mm_runV (ci := 6) (q := (RX6, TX6, 9)) (As := []) (rest := []) C w (c_X6_together l G (mm_rt this 8) (ro_X10_8 h0) s_3 _ hw) (ro_X10_8 h0) rfl rfl cv_X6_together ml_X10_208 ⟨Nat.le_of_ble_eq_true rfl, Nat.le_of_ble_eq_true rfl⟩ ⟨Nat.le_of_ble_eq_true rfl, Nat.le_of_ble_eq_true rfl⟩ rfl hl.1 rfl (Nat.le_of_ble_eq_true rfl) dX10_waits_86) (fun r_10 s_9 H locs hw w => ?_)
        exact g_iret (pc := 89) C w hr hk hw dX10_waits_89
      have hw := hw.2 hc2
      by_cases hc3 : n32 a3 = 3
      · have hw := hw.1 hc3
        refine lv_tableIn (pc := 28) (tgt := 90) C.1 C.2.1 dX10_waits_28 (by rw [show (mm_I a3).toInt = 3 from hc3]; decide) (by rw [show (mm_I a3).toInt = 3 from hc3]; decide) (by rw [show (mm_I a3).toInt = 3 from hc3]; first | done | rfl) (by decide) ?_
        refine lv_aload_n (pc := 90) C.1 C.2.1 dX10_waits_90 rfl (lv_at hl 0 rfl) ?_
        refine g_getr (pc := 91) C w h0 ff_X10_8 lk_X10_61 dX10_waits_91 ?_
        refine g_calli (pc := 94) w (mm_runV (ci := 6) (q := (RX6, TX6, 9)) (As := []) (rest := []) C w (c_X6_unlikeOfAll l G (mm_rt this 8) (ro_X10_8 h0) s_3 _ hw) (ro_X10_8 h0) rfl rfl cv_X6_unlikeOfAll ml_X10_211 ⟨Nat.le_of_ble_eq_true rfl, Nat.le_of_ble_eq_true rfl⟩ ⟨Nat.le_of_ble_eq_true rfl, Nat.le_of_ble_eq_true rfl⟩ rfl hl.1 rfl (Nat.le_of_ble_eq_true rfl) dX10_waits_94) (fun r_12 s_11 H locs hw w => ?_)
        exact g_iret (pc := 97) C w hr hk hw dX10_waits_97
      have hw := hw.2 hc3
      by_cases hc4 : n32 a3 = 4
      · have hw := hw.1 hc4
        refine lv_tableIn (pc := 28) (tgt := 98) C.1 C.2.1 dX10_waits_28 (by rw [show (mm_I a3).toInt = 4 from hc4]; decide) (by rw [show (mm_I a3).toInt = 4 from hc4]; decide) (by rw [show (mm_I a3).toInt = 4 from hc4]; first | done | rfl) (by decide) ?_
        refine lv_aload_n (pc := 98) C.1 C.2.1 dX10_waits_98 rfl (lv_at hl 0 rfl) ?_
        refine g_getr (pc := 99) C w h0 ff_X10_8 lk_X10_61 dX10_waits_99 ?_
        refine g_calli (pc := 102) w (mm_runV (ci := 6) (q := (RX6, TX6, 9)) (As := []) (rest := []) C w (c_X6_longest l G (mm_rt this 8) (ro_X10_8 h0) s_3 _ hw) (ro_X10_8 h0) rfl rfl cv_X6_longest ml_X10_214 ⟨Nat.le_of_ble_eq_true rfl, Nat.le_of_ble_eq_true rfl⟩ ⟨Nat.le_of_ble_eq_true rfl, Nat.le_of_ble_eq_true rfl⟩ rfl hl.1 rfl (Nat.le_of_ble_eq_true rfl) dX10_waits_102) (fun r_14 s_13 H locs hw w => ?_)
        exact g_iret (pc := 105) C w hr hk hw dX10_waits_105
      have hw := hw.2 hc4
      refine lv_tableOut (pc := 28) (tgt := 106) C.1 C.2.1 dX10_waits_28 (mo_0_4 hc0 hc1 hc2 hc3 hc4) (by decide) ?_
      refine lv_iconst (pc := 106) (v := mm_I (-1)) C.1 C.2.1 dX10_waits_106 rfl ?_
      exact g_iret (pc := 107) C w hr hk hw dX10_waits_107
    · have hw := hw.2 hc
      refine lv_iconst (pc := 17) (v := mm_I (-1)) C.1 C.2.1 dX10_waits_17 rfl ?_
      exact g_iret (pc := 18) C w hr hk hw dX10_waits_18
theorem cv_X6_meanByLot : mm_V yX6_meanByLot cX6_meanByLot 3 (some .int) 0 := ⟨(mt_5 20 rfl rfl), (mt_5 18 rfl rfl), (mt_5 19 rfl rfl), (mt_1 10 rfl rfl), by decide, by decide, by decide +kernel⟩
theorem ml_X10_217 : Cond.methodLink RX10 217 yX6_meanByLot ∈ mm_ws := (mt_5 17 rfl rfl)
def wp_X10_lot (this : Nat) (s0 : mm_M) (post : Int → mm_M → Prop) : Prop :=
  ((¬ n32 (s0 (mm_rt this 8) 8) = 0 → (wp_X6_meanByLot (mm_rt this 8) s0 (fun r_2 s_1 => post r_2 s_1))) ∧ (n32 (s0 (mm_rt this 8) 8) = 0 → post (-1) s0))
set_option maxRecDepth 100000 in
set_option maxHeartbeats 4000000 in
theorem c_X10_lot (l : Launch) (G : mm_G) (this : Nat) (h0 : mm_ok this 20 0) (s0 : mm_M) (post : Int → mm_M → Prop) (hw : wp_X10_lot this s0 post) : Met l yX10_lot (mm_wm yX10_lot cX10_lot 1 (some .int)) (mm_rm 5) (va_Pc [.ref (mm_ad G this)] (mm_pre G s0)) (mm_Qi G post) 0 0 (mm_A G) := by
  refine mm_met (own := RX10) (by decide) rfl (Nat.le_of_ble_eq_true rfl) ?_
  intro p e s m args below meth c C hr hk
  unfold wp_X10_lot at hw
  intro H locs ls w hl
  have hl : lv_has ls 1 [(0, .ref (mm_ad G this))] := hl
  refine lv_aload_n (pc := 0) C.1 C.2.1 dX10_lot_0 rfl (lv_at hl 0 rfl) ?_
  refine g_getr (pc := 1) C w h0 ff_X10_8 lk_X10_61 dX10_lot_1 ?_
  refine g_getiN (pc := 4) C w (ro_X10_8 h0) ff_X6_8 lk_X10_198 dX10_lot_4 ?_
  refine g_if_ne (pc := 7) (tgt := 14) C rfl dX10_lot_7 (by decide) (fun hc => ?_) (fun hc => ?_)
  · have hw := hw.1 hc
    refine lv_aload_n (pc := 14) C.1 C.2.1 dX10_lot_14 rfl (lv_at hl 0 rfl) ?_
    refine g_getr (pc := 15) C w h0 ff_X10_8 lk_X10_61 dX10_lot_15 ?_
    refine g_calli (pc := 18) w (mm_runV (ci := 6) (q := (RX6, TX6, 9)) (As := []) (rest := []) C w (c_X6_meanByLot l G (mm_rt this 8) (ro_X10_8 h0) s0 _ hw) (ro_X10_8 h0) rfl rfl cv_X6_meanByLot ml_X10_217 ⟨Nat.le_of_ble_eq_true rfl, Nat.le_of_ble_eq_true rfl⟩ ⟨Nat.le_of_ble_eq_true rfl, Nat.le_of_ble_eq_true rfl⟩ rfl hl.1 rfl (Nat.le_of_ble_eq_true rfl) dX10_lot_18) (fun r_2 s_1 H locs hw w => ?_)
    exact g_iret (pc := 21) C w hr hk hw dX10_lot_21
  · have hw := hw.2 hc
    refine lv_iconst (pc := 10) (v := mm_I (-1)) C.1 C.2.1 dX10_lot_10 rfl ?_
    refine lv_goto (pc := 11) (tgt := 21) C.1 C.2.1 dX10_lot_11 (by decide) ?_
    exact g_iret (pc := 21) C w hr hk hw dX10_lot_21
theorem cv_X6_bestLaw : mm_V yX6_bestLaw cX6_bestLaw 8 (some .int) 0 := ⟨(mt_5 37 rfl rfl), (mt_5 35 rfl rfl), (mt_5 36 rfl rfl), (mt_1 10 rfl rfl), by decide, by decide, by decide +kernel⟩
theorem ml_X10_220 : Cond.methodLink RX10 220 yX6_bestLaw ∈ mm_ws := (mt_5 34 rfl rfl)
def wp_X10_best (this : Nat) (s0 : mm_M) (post : Int → mm_M → Prop) : Prop :=
  ((¬ n32 (s0 (mm_rt this 8) 8) = 0 → (wp_X6_bestLaw (mm_rt this 8) s0 (fun r_2 s_1 => post r_2 s_1))) ∧ (n32 (s0 (mm_rt this 8) 8) = 0 → post (-1) s0))
set_option maxRecDepth 100000 in
set_option maxHeartbeats 4000000 in
theorem c_X10_best (l : Launch) (G : mm_G) (this : Nat) (h0 : mm_ok this 20 0) (s0 : mm_M) (post : Int → mm_M → Prop) (hw : wp_X10_best this s0 post) : Met l yX10_best (mm_wm yX10_best cX10_best 1 (some .int)) (mm_rm 8) (va_Pc [.ref (mm_ad G this)] (mm_pre G s0)) (mm_Qi G post) 0 0 (mm_A G) := by
  refine mm_met (own := RX10) (by decide) rfl (Nat.le_of_ble_eq_true rfl) ?_
  intro p e s m args below meth c C hr hk
  unfold wp_X10_best at hw
  intro H locs ls w hl
  have hl : lv_has ls 1 [(0, .ref (mm_ad G this))] := hl
  refine lv_aload_n (pc := 0) C.1 C.2.1 dX10_best_0 rfl (lv_at hl 0 rfl) ?_
  refine g_getr (pc := 1) C w h0 ff_X10_8 lk_X10_61 dX10_best_1 ?_
  refine g_getiN (pc := 4) C w (ro_X10_8 h0) ff_X6_8 lk_X10_198 dX10_best_4 ?_
  refine g_if_ne (pc := 7) (tgt := 14) C rfl dX10_best_7 (by decide) (fun hc => ?_) (fun hc => ?_)
  · have hw := hw.1 hc
    refine lv_aload_n (pc := 14) C.1 C.2.1 dX10_best_14 rfl (lv_at hl 0 rfl) ?_
    refine g_getr (pc := 15) C w h0 ff_X10_8 lk_X10_61 dX10_best_15 ?_
    refine g_calli (pc := 18) w (mm_runV (ci := 6) (q := (RX6, TX6, 9)) (As := []) (rest := []) C w (c_X6_bestLaw l G (mm_rt this 8) (ro_X10_8 h0) s0 _ hw) (ro_X10_8 h0) rfl rfl cv_X6_bestLaw ml_X10_220 ⟨Nat.le_of_ble_eq_true rfl, Nat.le_of_ble_eq_true rfl⟩ ⟨Nat.le_of_ble_eq_true rfl, Nat.le_of_ble_eq_true rfl⟩ rfl hl.1 rfl (Nat.le_of_ble_eq_true rfl) dX10_best_18) (fun r_2 s_1 H locs hw w => ?_)
    exact g_iret (pc := 21) C w hr hk hw dX10_best_21
  · have hw := hw.2 hc
    refine lv_iconst (pc := 10) (v := mm_I (-1)) C.1 C.2.1 dX10_best_10 rfl ?_
    refine lv_goto (pc := 11) (tgt := 21) C.1 C.2.1 dX10_best_11 (by decide) ?_
    exact g_iret (pc := 21) C w hr hk hw dX10_best_21
theorem lk_X10_223 : Cond.fieldLinkNest RX10 223 "LastServed$Shop" "book" "LLastServed$Book;" "LastServed" ∈ mm_nest := by decide +kernel
theorem ml_X10_230 : Cond.methodLink RX10 230 yX0_fact ∈ mm_ws := (mt_5 44 rfl rfl)
theorem lk_X10_227 : Cond.fieldLinkNest RX10 227 "LastServed$Book" "size" "I" "LastServed" ∈ mm_nest := by decide +kernel
def wp_X10_book (this : Nat) (a1 : Int) (a2 : Int) (s0 : mm_M) (post : Int → mm_M → Prop) : Prop :=
  ((¬ n32 a1 = (-1) → (wp_X0_fact (mm_rt (mm_rt this 5) 6) a1 a2 s0 (fun r_2 s_1 => post r_2 s_1))) ∧ (n32 a1 = (-1) → post (s0 (mm_rt (mm_rt this 5) 6) 1) s0))
set_option maxRecDepth 100000 in
set_option maxHeartbeats 4000000 in
theorem c_X10_book (l : Launch) (G : mm_G) (this : Nat) (a1 : Int) (a2 : Int) (h0 : mm_ok this 20 0) (s0 : mm_M) (post : Int → mm_M → Prop) (hw : wp_X10_book this a1 a2 s0 post) : Met l yX10_book (mm_wm yX10_book cX10_book 3 (some .int)) (mm_rm 2) (va_Pc [.ref (mm_ad G this), .int (mm_I a1), .int (mm_I a2)] (mm_pre G s0)) (mm_Qi G post) 0 0 (mm_A G) := by
  refine mm_met (own := RX10) (by decide) rfl (Nat.le_of_ble_eq_true rfl) ?_
  intro p e s m args below meth c C hr hk
  unfold wp_X10_book at hw
  intro H locs ls w hl
  have hl : lv_has ls 3 [(0, .ref (mm_ad G this)), (1, .int (mm_I a1)), (2, .int (mm_I a2))] := hl
  refine lv_iload_n (pc := 0) C.1 C.2.1 dX10_book_0 rfl (lv_at hl 1 rfl) ?_
  refine lv_iconst (pc := 1) (v := mm_I (-1)) C.1 C.2.1 dX10_book_1 rfl ?_
  refine g_icmp_ne (pc := 2) (tgt := 18) C rfl mn_m1 dX10_book_2 (by decide) (fun hc => ?_) (fun hc => ?_)
  · have hw := hw.1 hc
    refine lv_aload_n (pc := 18) C.1 C.2.1 dX10_book_18 rfl (lv_at hl 0 rfl) ?_
    refine g_getr (pc := 19) C w h0 ff_X10_5 lk_X10_44 dX10_book_19 ?_
    refine g_getrN (pc := 22) C w (ro_X10_5 h0) ff_X7_6 lk_X10_223 dX10_book_22 ?_
    refine lv_iload_n (pc := 25) C.1 C.2.1 dX10_book_25 rfl (lv_at hl 1 rfl) ?_
    refine lv_iload_n (pc := 26) C.1 C.2.1 dX10_book_26 rfl (lv_at hl 2 rfl) ?_
    refine g_calli (pc := 27) w (mm_runV (ci := 0) (q := (RX0, TX0, 2)) (As := [.int (mm_I a1), .int (mm_I a2)]) (rest := []) C w (c_X0_fact l G (mm_rt (mm_rt this 5) 6) a1 a2 (ro_X7_6 (ro_X10_5 h0)) s0 _ hw) (ro_X7_6 (ro_X10_5 h0)) rfl rfl cv_X0_fact ml_X10_230 ⟨Nat.le_of_ble_eq_true rfl, Nat.le_of_ble_eq_true rfl⟩ ⟨Nat.le_of_ble_eq_true rfl, Nat.le_of_ble_eq_true rfl⟩ rfl hl.1 rfl (Nat.le_of_ble_eq_true rfl) dX10_book_27) (fun r_2 s_1 H locs hw w => ?_)
    exact g_iret (pc := 30) C w hr hk hw dX10_book_30
  · have hw := hw.2 hc
    refine lv_aload_n (pc := 5) C.1 C.2.1 dX10_book_5 rfl (lv_at hl 0 rfl) ?_
    refine g_getr (pc := 6) C w h0 ff_X10_5 lk_X10_44 dX10_book_6 ?_
    refine g_getrN (pc := 9) C w (ro_X10_5 h0) ff_X7_6 lk_X10_223 dX10_book_9 ?_
    refine g_getiN (pc := 12) C w (ro_X7_6 (ro_X10_5 h0)) ff_X0_1 lk_X10_227 dX10_book_12 ?_
    refine lv_goto (pc := 15) (tgt := 30) C.1 C.2.1 dX10_book_15 (by decide) ?_
    exact g_iret (pc := 30) C w hr hk hw dX10_book_30
theorem cv_X0_outOfOrder : mm_V yX0_outOfOrder cX0_outOfOrder 6 (some .int) 2 := ⟨(mt_5 55 rfl rfl), (mt_5 53 rfl rfl), (mt_5 54 rfl rfl), (mt_1 7 rfl rfl), by decide, by decide, by decide +kernel⟩
theorem ml_X10_232 : Cond.methodLink RX10 232 yX0_outOfOrder ∈ mm_ws := (mt_5 52 rfl rfl)
def wp_X10_judge (this : Nat) (a1 : Int) (a2 : Int) (s0 : mm_M) (post : Int → mm_M → Prop) : Prop :=
  (wp_X9_hasCounter (mm_rt this 1) a1 s0 (fun r_2 s_1 => ((n32 r_2 = 0 → post (-1) s_1) ∧ (¬ n32 r_2 = 0 → ((n32 a2 < 0 → post (-1) s_1) ∧ (¬ n32 a2 < 0 → ((n32 a2 ≤ 2 → (wp_X0_outOfOrder (mm_rt (mm_rt this 5) 6) a1 a2 s_1 (fun r_4 s_3 => post r_4 s_3))) ∧ (¬ n32 a2 ≤ 2 → post (-1) s_1))))))))
set_option maxRecDepth 100000 in
set_option maxHeartbeats 4000000 in
theorem c_X10_judge (l : Launch) (G : mm_G) (this : Nat) (a1 : Int) (a2 : Int) (h0 : mm_ok this 20 0) (s0 : mm_M) (post : Int → mm_M → Prop) (hw : wp_X10_judge this a1 a2 s0 post) : Met l yX10_judge (mm_wm yX10_judge cX10_judge 3 (some .int)) (mm_rm 3) (va_Pc [.ref (mm_ad G this), .int (mm_I a1), .int (mm_I a2)] (mm_pre G s0)) (mm_Qi G post) 0 0 (mm_A G) := by
  refine mm_met (own := RX10) (by decide) rfl (Nat.le_of_ble_eq_true rfl) ?_
  intro p e s m args below meth c C hr hk
  unfold wp_X10_judge at hw
  intro H locs ls w hl
  have hl : lv_has ls 3 [(0, .ref (mm_ad G this)), (1, .int (mm_I a1)), (2, .int (mm_I a2))] := hl
  refine lv_aload_n (pc := 0) C.1 C.2.1 dX10_judge_0 rfl (lv_at hl 0 rfl) ?_
  refine g_getr (pc := 1) C w h0 ff_X10_1 lk_X10_22 dX10_judge_1 ?_
  refine lv_iload_n (pc := 4) C.1 C.2.1 dX10_judge_4 rfl (lv_at hl 1 rfl) ?_
  refine g_calli (pc := 5) w (mm_runV (ci := 9) (q := (RX9, TX9, 9)) (As := [.int (mm_I a1)]) (rest := []) C w (c_X9_hasCounter l G (mm_rt this 1) a1 (ro_X10_1 h0) s0 _ hw) (ro_X10_1 h0) rfl rfl cv_X9_hasCounter ml_X10_142 ⟨Nat.le_of_ble_eq_true rfl, Nat.le_of_ble_eq_true rfl⟩ ⟨Nat.le_of_ble_eq_true rfl, Nat.le_of_ble_eq_true rfl⟩ rfl hl.1 rfl (Nat.le_of_ble_eq_true rfl) dX10_judge_5) (fun r_2 s_1 H locs hw w => ?_)
  refine g_if_eq (pc := 8) (tgt := 20) C rfl dX10_judge_8 (by decide) (fun hc => ?_) (fun hc => ?_)
  · have hw := hw.1 hc
    refine lv_iconst (pc := 20) (v := mm_I (-1)) C.1 C.2.1 dX10_judge_20 rfl ?_
    exact g_iret (pc := 21) C w hr hk hw dX10_judge_21
  · have hw := hw.2 hc
    refine lv_iload_n (pc := 11) C.1 C.2.1 dX10_judge_11 rfl (lv_at hl 2 rfl) ?_
    refine g_if_lt (pc := 12) (tgt := 20) C rfl dX10_judge_12 (by decide) (fun hc => ?_) (fun hc => ?_)
    · have hw := hw.1 hc
      refine lv_iconst (pc := 20) (v := mm_I (-1)) C.1 C.2.1 dX10_judge_20 rfl ?_
      exact g_iret (pc := 21) C w hr hk hw dX10_judge_21
    · have hw := hw.2 hc
      refine lv_iload_n (pc := 15) C.1 C.2.1 dX10_judge_15 rfl (lv_at hl 2 rfl) ?_
      refine lv_iconst (pc := 16) (v := mm_I 2) C.1 C.2.1 dX10_judge_16 rfl ?_
      refine g_icmp_le (pc := 17) (tgt := 22) C rfl mn_2 dX10_judge_17 (by decide) (fun hc => ?_) (fun hc => ?_)
      · have hw := hw.1 hc
        refine lv_aload_n (pc := 22) C.1 C.2.1 dX10_judge_22 rfl (lv_at hl 0 rfl) ?_
        refine g_getr (pc := 23) C w h0 ff_X10_5 lk_X10_44 dX10_judge_23 ?_
        refine g_getrN (pc := 26) C w (ro_X10_5 h0) ff_X7_6 lk_X10_223 dX10_judge_26 ?_
        refine lv_iload_n (pc := 29) C.1 C.2.1 dX10_judge_29 rfl (lv_at hl 1 rfl) ?_
        refine lv_iload_n (pc := 30) C.1 C.2.1 dX10_judge_30 rfl (lv_at hl 2 rfl) ?_
        refine g_calli (pc := 31) w (mm_runV (ci := 0) (q := (RX0, TX0, 2)) (As := [.int (mm_I a1), .int (mm_I a2)]) (rest := []) C w (c_X0_outOfOrder l G (mm_rt (mm_rt this 5) 6) a1 a2 (ro_X7_6 (ro_X10_5 h0)) s_1 _ hw) (ro_X7_6 (ro_X10_5 h0)) rfl rfl cv_X0_outOfOrder ml_X10_232 ⟨Nat.le_of_ble_eq_true rfl, Nat.le_of_ble_eq_true rfl⟩ ⟨Nat.le_of_ble_eq_true rfl, Nat.le_of_ble_eq_true rfl⟩ rfl hl.1 rfl (Nat.le_of_ble_eq_true rfl) dX10_judge_31) (fun r_4 s_3 H locs hw w => ?_)
        exact g_iret (pc := 34) C w hr hk hw dX10_judge_34
      · have hw := hw.2 hc
        refine lv_iconst (pc := 20) (v := mm_I (-1)) C.1 C.2.1 dX10_judge_20 rfl ?_
        exact g_iret (pc := 21) C w hr hk hw dX10_judge_21
def wp_X10_canStand (a1 : Int) (a2 : Int) (a3 : Int) (s0 : mm_M) (post : Int → mm_M → Prop) : Prop :=
  ((n32 a1 < 0 → post 0 s0) ∧ (¬ n32 a1 < 0 → ((120 < n32 a1 → post 0 s0) ∧ (¬ 120 < n32 a1 → ((n32 a2 < 0 → post 0 s0) ∧ (¬ n32 a2 < 0 → ((n32 a3 < 0 → post 0 s0) ∧ (¬ n32 a3 < 0 → ((12 < n32 (a2 + a3) → post 0 s0) ∧ (¬ 12 < n32 (a2 + a3) → post 1 s0))))))))))
set_option maxRecDepth 100000 in
set_option maxHeartbeats 4000000 in
theorem c_X10_canStand (l : Launch) (G : mm_G) (a1 : Int) (a2 : Int) (a3 : Int)  (s0 : mm_M) (post : Int → mm_M → Prop) (hw : wp_X10_canStand a1 a2 a3 s0 post) : Met l yX10_canStand (mm_wm yX10_canStand cX10_canStand 3 (some .boolean)) (mm_rm 1) (va_Pc [.int (mm_I a1), .int (mm_I a2), .int (mm_I a3)] (mm_pre G s0)) (mm_Qi G post) 0 0 (mm_A G) := by
  refine mm_met (own := RX10) (by decide) rfl (Nat.le_of_ble_eq_true rfl) ?_
  intro p e s m args below meth c C hr hk
  unfold wp_X10_canStand at hw
  intro H locs ls w hl
  have hl : lv_has ls 3 [(0, .int (mm_I a1)), (1, .int (mm_I a2)), (2, .int (mm_I a3))] := hl
  refine lv_iload_n (pc := 0) C.1 C.2.1 dX10_canStand_0 rfl (lv_at hl 0 rfl) ?_
  refine g_if_lt (pc := 1) (tgt := 30) C rfl dX10_canStand_1 (by decide) (fun hc => ?_) (fun hc => ?_)
  · have hw := hw.1 hc
    refine lv_iconst (pc := 30) (v := mm_I 0) C.1 C.2.1 dX10_canStand_30 rfl ?_
    exact g_zret (pc := 31) C w hr hk (by decide) hw dX10_canStand_31
  · have hw := hw.2 hc
    refine lv_iload_n (pc := 4) C.1 C.2.1 dX10_canStand_4 rfl (lv_at hl 0 rfl) ?_
    refine lv_bipush (pc := 5) C.1 C.2.1 dX10_canStand_5 mb_120 ?_
    refine g_icmp_gt (pc := 7) (tgt := 30) C rfl mn_120 dX10_canStand_7 (by decide) (fun hc => ?_) (fun hc => ?_)
    · have hw := hw.1 hc
      refine lv_iconst (pc := 30) (v := mm_I 0) C.1 C.2.1 dX10_canStand_30 rfl ?_
      exact g_zret (pc := 31) C w hr hk (by decide) hw dX10_canStand_31
    · have hw := hw.2 hc
      refine lv_iload_n (pc := 10) C.1 C.2.1 dX10_canStand_10 rfl (lv_at hl 1 rfl) ?_
      refine g_if_lt (pc := 11) (tgt := 30) C rfl dX10_canStand_11 (by decide) (fun hc => ?_) (fun hc => ?_)
      · have hw := hw.1 hc
        refine lv_iconst (pc := 30) (v := mm_I 0) C.1 C.2.1 dX10_canStand_30 rfl ?_
        exact g_zret (pc := 31) C w hr hk (by decide) hw dX10_canStand_31
      · have hw := hw.2 hc
        refine lv_iload_n (pc := 14) C.1 C.2.1 dX10_canStand_14 rfl (lv_at hl 2 rfl) ?_
        refine g_if_lt (pc := 15) (tgt := 30) C rfl dX10_canStand_15 (by decide) (fun hc => ?_) (fun hc => ?_)
        · have hw := hw.1 hc
          refine lv_iconst (pc := 30) (v := mm_I 0) C.1 C.2.1 dX10_canStand_30 rfl ?_
          exact g_zret (pc := 31) C w hr hk (by decide) hw dX10_canStand_31
        · have hw := hw.2 hc
          refine lv_iload_n (pc := 18) C.1 C.2.1 dX10_canStand_18 rfl (lv_at hl 1 rfl) ?_
          refine lv_iload_n (pc := 19) C.1 C.2.1 dX10_canStand_19 rfl (lv_at hl 2 rfl) ?_
          refine g_iadd (pc := 20) C dX10_canStand_20 ?_
          refine lv_bipush (pc := 21) C.1 C.2.1 dX10_canStand_21 mb_12 ?_
          refine g_icmp_gt (pc := 23) (tgt := 30) C rfl mn_12 dX10_canStand_23 (by decide) (fun hc => ?_) (fun hc => ?_)
          · have hw := hw.1 hc
            refine lv_iconst (pc := 30) (v := mm_I 0) C.1 C.2.1 dX10_canStand_30 rfl ?_
            exact g_zret (pc := 31) C w hr hk (by decide) hw dX10_canStand_31
          · have hw := hw.2 hc
            refine lv_iconst (pc := 26) (v := mm_I 1) C.1 C.2.1 dX10_canStand_26 rfl ?_
            refine lv_goto (pc := 27) (tgt := 31) C.1 C.2.1 dX10_canStand_27 (by decide) ?_
            exact g_zret (pc := 31) C w hr hk (by decide) hw dX10_canStand_31
theorem mn_100 : n32 100 = 100 := by decide
theorem cs_X10_canStand : mm_S yX10_canStand cX10_canStand 3 (some .boolean) 3 := ⟨(mt_5 64 rfl rfl), (mt_5 63 rfl rfl), (mt_1 1 rfl rfl), by decide, by decide, by decide +kernel⟩
theorem ml_X10_235 : Cond.methodLink RX10 235 yX10_canStand ∈ mm_ws := (mt_5 62 rfl rfl)
theorem lk_X10_68 : Cond.fieldLink RX10 68 "LastServed" "ones" "LLastServed$Ones;" ∈ mm_ws := (mt_2 127 rfl rfl)
theorem ff_X10_9 : mm_F 10 9 1 RX10 TX10 10 := ⟨rfl, by decide, fk_X10, rfl, rfl⟩
theorem ro_X10_9 {i : Nat} (h : mm_ok i 20 0) : mm_ok (mm_rt i 9) 14 0 := by
  have q : ∀ i, i < mm_N → mm_kd i = 20 → mm_rt i 9 < mm_N ∧ mm_kd (mm_rt i 9) = 14 ∧ mm_ln (mm_rt i 9) = 0 := by decide +kernel
  exact q i h.1 h.2.1
theorem cv_X4_begin : mm_V yX4_begin cX4_begin 5 (some .boolean) 4 := ⟨(mt_5 68 rfl rfl), (mt_5 66 rfl rfl), (mt_5 67 rfl rfl), (mt_1 11 rfl rfl), by decide, by decide, by decide +kernel⟩
theorem ml_X10_239 : Cond.methodLink RX10 239 yX4_begin ∈ mm_ws := (mt_5 65 rfl rfl)
theorem ml_X10_243 : Cond.methodLink RX10 243 yX4_reach ∈ mm_ws := (mt_5 76 rfl rfl)
theorem ml_X10_249 : Cond.methodLink RX10 249 yX4_actOf ∈ mm_ws := (mt_5 110 rfl rfl)
theorem ml_X10_246 : Cond.methodLink RX10 246 yX4_valueOf ∈ mm_ws := (mt_5 106 rfl rfl)
def wp_X10_value (this : Nat) (a1 : Int) (a2 : Int) (a3 : Int) (a4 : Int) (a5 : Int) (s0 : mm_M) (post : Int → mm_M → Prop) : Prop :=
  ((n32 a3 < 0 → post (-2147483648) s0) ∧ (¬ n32 a3 < 0 → ((n32 a5 < 0 → post (-2147483648) s0) ∧ (¬ n32 a5 < 0 → ((n32 a5 ≤ 1 → (∀ v6_1 : Int, v6_1 = Int.tdiv (n32 a3) 10000 → (∀ v7_2 : Int, v7_2 = Int.tmod (n32 (Int.tdiv (n32 a3) 100)) 100 → (∀ v8_3 : Int, v8_3 = Int.tmod (n32 a3) 100 → (wp_X10_canStand v6_1 v7_2 v8_3 s0 (fun r_5 s_4 => ((n32 r_5 = 0 → post (-2147483648) s_4) ∧ (¬ n32 r_5 = 0 → (wp_X4_begin (mm_rt this 9) (mm_rt this 1) a1 a2 a4 s_4 (fun r_7 s_6 => ((¬ n32 r_7 = 0 → (wp_X4_reach (mm_rt this 9) v6_1 s_6 (fun s_8 => ((¬ n32 a5 = 0 → (wp_X4_actOf (mm_rt this 9) v7_2 v8_3 s_8 (fun r_11 s_10 => post r_11 s_10))) ∧ (n32 a5 = 0 → (wp_X4_valueOf (mm_rt this 9) v7_2 v8_3 s_8 (fun r_13 s_12 => post r_13 s_12))))))) ∧ (n32 r_7 = 0 → post (-2147483648) s_6)))))))))))) ∧ (¬ n32 a5 ≤ 1 → post (-2147483648) s0))))))
set_option maxRecDepth 100000 in
set_option maxHeartbeats 4000000 in
theorem c_X10_value (l : Launch) (G : mm_G) (this : Nat) (a1 : Int) (a2 : Int) (a3 : Int) (a4 : Int) (a5 : Int) (h0 : mm_ok this 20 0) (s0 : mm_M) (post : Int → mm_M → Prop) (hw : wp_X10_value this a1 a2 a3 a4 a5 s0 post) : Met l yX10_value (mm_wm yX10_value cX10_value 9 (some .int)) (mm_rm 6) (va_Pc [.ref (mm_ad G this), .int (mm_I a1), .int (mm_I a2), .int (mm_I a3), .int (mm_I a4), .int (mm_I a5)] (mm_pre G s0)) (mm_Qi G post) 0 0 (mm_A G) := by
  refine mm_met (own := RX10) (by decide) rfl (Nat.le_of_ble_eq_true rfl) ?_
  intro p e s m args below meth c C hr hk
  unfold wp_X10_value at hw
  intro H locs ls w hl
  have hl : lv_has ls 9 [(0, .ref (mm_ad G this)), (1, .int (mm_I a1)), (2, .int (mm_I a2)), (3, .int (mm_I a3)), (4, .int (mm_I a4)), (5, .int (mm_I a5))] := hl
  refine lv_iload_n (pc := 0) C.1 C.2.1 dX10_value_0 rfl (lv_at hl 3 rfl) ?_
  refine g_if_lt (pc := 1) (tgt := 15) C rfl dX10_value_1 (by decide) (fun hc => ?_) (fun hc => ?_)
  · have hw := hw.1 hc
    refine lv_ldc (pc := 15) C.1 C.2.1 C.2.2.2.1 (C.2.2.2.2 _ lc_X10_89) dX10_value_15 ?_
    exact g_iret (pc := 17) C w hr hk hw dX10_value_17
  · have hw := hw.2 hc
    refine lv_iload (pc := 4) C.1 C.2.1 dX10_value_4 (lv_at hl 5 rfl) ?_
    refine g_if_lt (pc := 6) (tgt := 15) C rfl dX10_value_6 (by decide) (fun hc => ?_) (fun hc => ?_)
    · have hw := hw.1 hc
      refine lv_ldc (pc := 15) C.1 C.2.1 C.2.2.2.1 (C.2.2.2.2 _ lc_X10_89) dX10_value_15 ?_
      exact g_iret (pc := 17) C w hr hk hw dX10_value_17
    · have hw := hw.2 hc
      refine lv_iload (pc := 9) C.1 C.2.1 dX10_value_9 (lv_at hl 5 rfl) ?_
      refine lv_iconst (pc := 11) (v := mm_I 1) C.1 C.2.1 dX10_value_11 rfl ?_
      refine g_icmp_le (pc := 12) (tgt := 18) C rfl mn_1 dX10_value_12 (by decide) (fun hc => ?_) (fun hc => ?_)
      · have hw := hw.1 hc
        refine lv_iload_n (pc := 18) C.1 C.2.1 dX10_value_18 rfl (lv_at hl 3 rfl) ?_
        refine lv_sipush (pc := 19) C.1 C.2.1 dX10_value_19 ms_10000 ?_
        refine g_idiv (pc := 22) C rfl mn_10000 (by decide) dX10_value_22 ?_
        refine g_istore (pc := 23) C dX10_value_23 hl (by decide) (fun v6_1 ev6_1 ls hl => ?_)
        have hw := hw v6_1 ev6_1
        have hl : lv_has ls 9 [(6, .int (mm_I v6_1)), (0, .ref (mm_ad G this)), (1, .int (mm_I a1)), (2, .int (mm_I a2)), (3, .int (mm_I a3)), (4, .int (mm_I a4)), (5, .int (mm_I a5))] := hl
        refine lv_iload_n (pc := 25) C.1 C.2.1 dX10_value_25 rfl (lv_at hl 4 rfl) ?_
        refine lv_bipush (pc := 26) C.1 C.2.1 dX10_value_26 mb_100 ?_
        refine g_idiv (pc := 28) C rfl mn_100 (by decide) dX10_value_28 ?_
        refine lv_bipush (pc := 29) C.1 C.2.1 dX10_value_29 mb_100 ?_
        refine g_irem (pc := 31) C rfl mn_100 (by decide) dX10_value_31 ?_
        refine g_istore (pc := 32) C dX10_value_32 hl (by decide) (fun v7_2 ev7_2 ls hl => ?_)
        have hw := hw v7_2 ev7_2
        have hl : lv_has ls 9 [(7, .int (mm_I v7_2)), (6, .int (mm_I v6_1)), (0, .ref (mm_ad G this)), (1, .int (mm_I a1)), (2, .int (mm_I a2)), (3, .int (mm_I a3)), (4, .int (mm_I a4)), (5, .int (mm_I a5))] := hl
        refine lv_iload_n (pc := 34) C.1 C.2.1 dX10_value_34 rfl (lv_at hl 5 rfl) ?_
        refine lv_bipush (pc := 35) C.1 C.2.1 dX10_value_35 mb_100 ?_
        refine g_irem (pc := 37) C rfl mn_100 (by decide) dX10_value_37 ?_
        refine g_istore (pc := 38) C dX10_value_38 hl (by decide) (fun v8_3 ev8_3 ls hl => ?_)
        have hw := hw v8_3 ev8_3
        have hl : lv_has ls 9 [(8, .int (mm_I v8_3)), (7, .int (mm_I v7_2)), (6, .int (mm_I v6_1)), (0, .ref (mm_ad G this)), (1, .int (mm_I a1)), (2, .int (mm_I a2)), (3, .int (mm_I a3)), (4, .int (mm_I a4)), (5, .int (mm_I a5))] := hl
        refine lv_iload (pc := 40) C.1 C.2.1 dX10_value_40 (lv_at hl 2 rfl) ?_
        refine lv_iload (pc := 42) C.1 C.2.1 dX10_value_42 (lv_at hl 1 rfl) ?_
        refine lv_iload (pc := 44) C.1 C.2.1 dX10_value_44 (lv_at hl 0 rfl) ?_
        refine g_calli (pc := 46) w (mm_runS (As := [.int (mm_I v6_1), .int (mm_I v7_2), .int (mm_I v8_3)]) (rest := []) C w (c_X10_canStand l G v6_1 v7_2 v8_3  s0 _ hw) cs_X10_canStand ml_X10_235 ⟨Nat.le_of_ble_eq_true rfl, Nat.le_of_ble_eq_true rfl⟩ ⟨Nat.le_of_ble_eq_true rfl, Nat.le_of_ble_eq_true rfl⟩ rfl hl.1 rfl (Nat.le_of_ble_eq_true rfl) dX10_value_46) (fun r_5 s_4 H locs hw w => ?_)
        refine g_if_eq (pc := 49) (tgt := 70) C rfl dX10_value_49 (by decide) (fun hc => ?_) (fun hc => ?_)
        · have hw := hw.1 hc
          refine lv_ldc (pc := 70) C.1 C.2.1 C.2.2.2.1 (C.2.2.2.2 _ lc_X10_89) dX10_value_70 ?_
          exact g_iret (pc := 72) C w hr hk hw dX10_value_72
        · have hw := hw.2 hc
          refine lv_aload_n (pc := 52) C.1 C.2.1 dX10_value_52 rfl (lv_at hl 3 rfl) ?_
          refine g_getr (pc := 53) C w h0 ff_X10_9 lk_X10_68 dX10_value_53 ?_
          refine lv_aload_n (pc := 56) C.1 C.2.1 dX10_value_56 rfl (lv_at hl 3 rfl) ?_
          refine g_getr (pc := 57) C w h0 ff_X10_1 lk_X10_22 dX10_value_57 ?_
          refine lv_iload_n (pc := 60) C.1 C.2.1 dX10_value_60 rfl (lv_at hl 4 rfl) ?_
          refine lv_iload_n (pc := 61) C.1 C.2.1 dX10_value_61 rfl (lv_at hl 5 rfl) ?_
          refine lv_iload (pc := 62) C.1 C.2.1 dX10_value_62 (lv_at hl 7 rfl) ?_
          refine g_calli (pc := 64) w (mm_runV (ci := 4) (q := (RX4, TX4, 12)) (As := [.ref (mm_ad G (mm_rt this 1)), .int (mm_I a1), .int (mm_I a2), .int (mm_I a4)]) (rest := []) C w (c_X4_begin l G (mm_rt this 9) (mm_rt this 1) a1 a2 a4 (ro_X10_9 h0) (ro_X10_1 h0) s_4 _ hw) (ro_X10_9 h0) rfl rfl cv_X4_begin ml_X10_239 ⟨Nat.le_of_ble_eq_true rfl, Nat.le_of_ble_eq_true rfl⟩ ⟨Nat.le_of_ble_eq_true rfl, Nat.le_of_ble_eq_true rfl⟩ rfl hl.1 rfl (Nat.le_of_ble_eq_true rfl) dX10_value_64) (fun r_7 s_6 H locs hw w => ?_)
          refine g_if_ne (pc := 67) (tgt := 73) C rfl dX10_value_67 (by decide) (fun hc => ?_) (fun hc => ?_)
          · have hw := hw.1 hc
            refine lv_aload_n (pc := 73) C.1 C.2.1 dX10_value_73 rfl (lv_at hl 3 rfl) ?_
            refine g_getr (pc := 74) C w h0 ff_X10_9 lk_X10_68 dX10_value_74 ?_
            refine lv_iload (pc := 77) C.1 C.2.1 dX10_value_77 (lv_at hl 2 rfl) ?_
            refine g_callv (pc := 79) w (mm_runV (ci := 4) (q := (RX4, TX4, 12)) (As := [.int (mm_I v6_1)]) (rest := []) C w (c_X4_reach l G (mm_rt this 9) v6_1 (ro_X10_9 h0) s_6 _ hw) (ro_X10_9 h0) rfl rfl cv_X4_reach ml_X10_243 ⟨Nat.le_of_ble_eq_true rfl, Nat.le_of_ble_eq_true rfl⟩ ⟨Nat.le_of_ble_eq_true rfl, Nat.le_of_ble_eq_true rfl⟩ rfl hl.1 rfl (Nat.le_of_ble_eq_true rfl) dX10_value_79) (fun s_8 H locs hw w => ?_)
            refine lv_iload (pc := 82) C.1 C.2.1 dX10_value_82 (lv_at hl 8 rfl) ?_
            refine g_if_ne (pc := 84) (tgt := 101) C rfl dX10_value_84 (by decide) (fun hc => ?_) (fun hc => ?_)
            · have hw := hw.1 hc
              refine lv_aload_n (pc := 101) C.1 C.2.1 dX10_value_101 rfl (lv_at hl 3 rfl) ?_
              refine g_getr (pc := 102) C w h0 ff_X10_9 lk_X10_68 dX10_value_102 ?_
              refine lv_iload (pc := 105) C.1 C.2.1 dX10_value_105 (lv_at hl 1 rfl) ?_
              refine lv_iload (pc := 107) C.1 C.2.1 dX10_value_107 (lv_at hl 0 rfl) ?_
              refine g_calli (pc := 109) w (mm_runV (ci := 4) (q := (RX4, TX4, 12)) (As := [.int (mm_I v7_2), .int (mm_I v8_3)]) (rest := []) C w (c_X4_actOf l G (mm_rt this 9) v7_2 v8_3 (ro_X10_9 h0) s_8 _ hw) (ro_X10_9 h0) rfl rfl cv_X4_actOf ml_X10_249 ⟨Nat.le_of_ble_eq_true rfl, Nat.le_of_ble_eq_true rfl⟩ ⟨Nat.le_of_ble_eq_true rfl, Nat.le_of_ble_eq_true rfl⟩ rfl hl.1 rfl (Nat.le_of_ble_eq_true rfl) dX10_value_109) (fun r_11 s_10 H locs hw w => ?_)
              exact g_iret (pc := 112) C w hr hk hw dX10_value_112
            · have hw := hw.2 hc
              refine lv_aload_n (pc := 87) C.1 C.2.1 dX10_value_87 rfl (lv_at hl 3 rfl) ?_
              refine g_getr (pc := 88) C w h0 ff_X10_9 lk_X10_68 dX10_value_88 ?_
              refine lv_iload (pc := 91) C.1 C.2.1 dX10_value_91 (lv_at hl 1 rfl) ?_
              refine lv_iload (pc := 93) C.1 C.2.1 dX10_value_93 (lv_at hl 0 rfl) ?_
              refine g_calli (pc := 95) w (mm_runV (ci := 4) (q := (RX4, TX4, 12)) (As := [.int (mm_I v7_2), .int (mm_I v8_3)]) (rest := []) C w (c_X4_valueOf l G (mm_rt this 9) v7_2 v8_3 (ro_X10_9 h0) s_8 _ hw) (ro_X10_9 h0) rfl rfl cv_X4_valueOf ml_X10_246 ⟨Nat.le_of_ble_eq_true rfl, Nat.le_of_ble_eq_true rfl⟩ ⟨Nat.le_of_ble_eq_true rfl, Nat.le_of_ble_eq_true rfl⟩ rfl hl.1 rfl (Nat.le_of_ble_eq_true rfl) dX10_value_95) (fun r_13 s_12 H locs hw w => ?_)
              refine lv_goto (pc := 98) (tgt := 112) C.1 C.2.1 dX10_value_98 (by decide) ?_
              exact g_iret (pc := 112) C w hr hk hw dX10_value_112
          · have hw := hw.2 hc
            refine lv_ldc (pc := 70) C.1 C.2.1 C.2.2.2.1 (C.2.2.2.2 _ lc_X10_89) dX10_value_70 ?_
            exact g_iret (pc := 72) C w hr hk hw dX10_value_72
      · have hw := hw.2 hc
        refine lv_ldc (pc := 15) C.1 C.2.1 C.2.2.2.1 (C.2.2.2.2 _ lc_X10_89) dX10_value_15 ?_
        exact g_iret (pc := 17) C w hr hk hw dX10_value_17
theorem ml_X10_252 : Cond.methodLink RX10 252 yX9_fee ∈ mm_ws := (mt_5 118 rfl rfl)
theorem ml_X10_255 : Cond.methodLink RX10 255 yX4_worthOfEntering ∈ mm_ws := (mt_5 119 rfl rfl)
def wp_X10_entering (this : Nat) (a1 : Int) (a2 : Int) (a3 : Int) (a4 : Int) (s0 : mm_M) (post : Int → mm_M → Prop) : Prop :=
  ((0 ≤ n32 a3 → (∀ v5_1 : Int, v5_1 = Int.tdiv (n32 a3) 100 → (∀ v6_2 : Int, v6_2 = Int.tmod (n32 a3) 100 → (wp_X10_canStand v5_1 v6_2 0 s0 (fun r_4 s_3 => ((n32 r_4 = 0 → post (-2147483648) s_3) ∧ (¬ n32 r_4 = 0 → (wp_X4_begin (mm_rt this 9) (mm_rt this 1) a1 a2 a4 s_3 (fun r_6 s_5 => ((¬ n32 r_6 = 0 → (wp_X4_reach (mm_rt this 9) v5_1 s_5 (fun s_7 => (wp_X9_fee (mm_rt this 1) s_7 (fun r_10 s_9 => (wp_X4_worthOfEntering (mm_rt this 9) v6_2 r_10 s_9 (fun r_12 s_11 => post r_12 s_11))))))) ∧ (n32 r_6 = 0 → post (-2147483648) s_5))))))))))) ∧ (¬ 0 ≤ n32 a3 → post (-2147483648) s0))
set_option maxRecDepth 100000 in
set_option maxHeartbeats 4000000 in
theorem c_X10_entering (l : Launch) (G : mm_G) (this : Nat) (a1 : Int) (a2 : Int) (a3 : Int) (a4 : Int) (h0 : mm_ok this 20 0) (s0 : mm_M) (post : Int → mm_M → Prop) (hw : wp_X10_entering this a1 a2 a3 a4 s0 post) : Met l yX10_entering (mm_wm yX10_entering cX10_entering 7 (some .int)) (mm_rm 6) (va_Pc [.ref (mm_ad G this), .int (mm_I a1), .int (mm_I a2), .int (mm_I a3), .int (mm_I a4)] (mm_pre G s0)) (mm_Qi G post) 0 0 (mm_A G) := by
  refine mm_met (own := RX10) (by decide) rfl (Nat.le_of_ble_eq_true rfl) ?_
  intro p e s m args below meth c C hr hk
  unfold wp_X10_entering at hw
  intro H locs ls w hl
  have hl : lv_has ls 7 [(0, .ref (mm_ad G this)), (1, .int (mm_I a1)), (2, .int (mm_I a2)), (3, .int (mm_I a3)), (4, .int (mm_I a4))] := hl
  refine lv_iload_n (pc := 0) C.1 C.2.1 dX10_entering_0 rfl (lv_at hl 3 rfl) ?_
  refine g_if_ge (pc := 1) (tgt := 7) C rfl dX10_entering_1 (by decide) (fun hc => ?_) (fun hc => ?_)
  · have hw := hw.1 hc
    refine lv_iload_n (pc := 7) C.1 C.2.1 dX10_entering_7 rfl (lv_at hl 3 rfl) ?_
    refine lv_bipush (pc := 8) C.1 C.2.1 dX10_entering_8 mb_100 ?_
    refine g_idiv (pc := 10) C rfl mn_100 (by decide) dX10_entering_10 ?_
    refine g_istore (pc := 11) C dX10_entering_11 hl (by decide) (fun v5_1 ev5_1 ls hl => ?_)
    have hw := hw v5_1 ev5_1
    have hl : lv_has ls 7 [(5, .int (mm_I v5_1)), (0, .ref (mm_ad G this)), (1, .int (mm_I a1)), (2, .int (mm_I a2)), (3, .int (mm_I a3)), (4, .int (mm_I a4))] := hl
    refine lv_iload_n (pc := 13) C.1 C.2.1 dX10_entering_13 rfl (lv_at hl 4 rfl) ?_
    refine lv_bipush (pc := 14) C.1 C.2.1 dX10_entering_14 mb_100 ?_
    refine g_irem (pc := 16) C rfl mn_100 (by decide) dX10_entering_16 ?_
    refine g_istore (pc := 17) C dX10_entering_17 hl (by decide) (fun v6_2 ev6_2 ls hl => ?_)
    have hw := hw v6_2 ev6_2
    have hl : lv_has ls 7 [(6, .int (mm_I v6_2)), (5, .int (mm_I v5_1)), (0, .ref (mm_ad G this)), (1, .int (mm_I a1)), (2, .int (mm_I a2)), (3, .int (mm_I a3)), (4, .int (mm_I a4))] := hl
    refine lv_iload (pc := 19) C.1 C.2.1 dX10_entering_19 (lv_at hl 1 rfl) ?_
    refine lv_iload (pc := 21) C.1 C.2.1 dX10_entering_21 (lv_at hl 0 rfl) ?_
    refine lv_iconst (pc := 23) (v := mm_I 0) C.1 C.2.1 dX10_entering_23 rfl ?_
    refine g_calli (pc := 24) w (mm_runS (As := [.int (mm_I v5_1), .int (mm_I v6_2), .int (mm_I 0)]) (rest := []) C w (c_X10_canStand l G v5_1 v6_2 0  s0 _ hw) cs_X10_canStand ml_X10_235 ⟨Nat.le_of_ble_eq_true rfl, Nat.le_of_ble_eq_true rfl⟩ ⟨Nat.le_of_ble_eq_true rfl, Nat.le_of_ble_eq_true rfl⟩ rfl hl.1 rfl (Nat.le_of_ble_eq_true rfl) dX10_entering_24) (fun r_4 s_3 H locs hw w => ?_)
    refine g_if_eq (pc := 27) (tgt := 48) C rfl dX10_entering_27 (by decide) (fun hc => ?_) (fun hc => ?_)
    · have hw := hw.1 hc
      refine lv_ldc (pc := 48) C.1 C.2.1 C.2.2.2.1 (C.2.2.2.2 _ lc_X10_89) dX10_entering_48 ?_
      exact g_iret (pc := 50) C w hr hk hw dX10_entering_50
    · have hw := hw.2 hc
      refine lv_aload_n (pc := 30) C.1 C.2.1 dX10_entering_30 rfl (lv_at hl 2 rfl) ?_
      refine g_getr (pc := 31) C w h0 ff_X10_9 lk_X10_68 dX10_entering_31 ?_
      refine lv_aload_n (pc := 34) C.1 C.2.1 dX10_entering_34 rfl (lv_at hl 2 rfl) ?_
      refine g_getr (pc := 35) C w h0 ff_X10_1 lk_X10_22 dX10_entering_35 ?_
      refine lv_iload_n (pc := 38) C.1 C.2.1 dX10_entering_38 rfl (lv_at hl 3 rfl) ?_
      refine lv_iload_n (pc := 39) C.1 C.2.1 dX10_entering_39 rfl (lv_at hl 4 rfl) ?_
      refine lv_iload (pc := 40) C.1 C.2.1 dX10_entering_40 (lv_at hl 6 rfl) ?_
      refine g_calli (pc := 42) w (mm_runV (ci := 4) (q := (RX4, TX4, 12)) (As := [.ref (mm_ad G (mm_rt this 1)), .int (mm_I a1), .int (mm_I a2), .int (mm_I a4)]) (rest := []) C w (c_X4_begin l G (mm_rt this 9) (mm_rt this 1) a1 a2 a4 (ro_X10_9 h0) (ro_X10_1 h0) s_3 _ hw) (ro_X10_9 h0) rfl rfl cv_X4_begin ml_X10_239 ⟨Nat.le_of_ble_eq_true rfl, Nat.le_of_ble_eq_true rfl⟩ ⟨Nat.le_of_ble_eq_true rfl, Nat.le_of_ble_eq_true rfl⟩ rfl hl.1 rfl (Nat.le_of_ble_eq_true rfl) dX10_entering_42) (fun r_6 s_5 H locs hw w => ?_)
      refine g_if_ne (pc := 45) (tgt := 51) C rfl dX10_entering_45 (by decide) (fun hc => ?_) (fun hc => ?_)
      · have hw := hw.1 hc
        refine lv_aload_n (pc := 51) C.1 C.2.1 dX10_entering_51 rfl (lv_at hl 2 rfl) ?_
        refine g_getr (pc := 52) C w h0 ff_X10_9 lk_X10_68 dX10_entering_52 ?_
        refine lv_iload (pc := 55) C.1 C.2.1 dX10_entering_55 (lv_at hl 1 rfl) ?_
        refine g_callv (pc := 57) w (mm_runV (ci := 4) (q := (RX4, TX4, 12)) (As := [.int (mm_I v5_1)]) (rest := []) C w (c_X4_reach l G (mm_rt this 9) v5_1 (ro_X10_9 h0) s_5 _ hw) (ro_X10_9 h0) rfl rfl cv_X4_reach ml_X10_243 ⟨Nat.le_of_ble_eq_true rfl, Nat.le_of_ble_eq_true rfl⟩ ⟨Nat.le_of_ble_eq_true rfl, Nat.le_of_ble_eq_true rfl⟩ rfl hl.1 rfl (Nat.le_of_ble_eq_true rfl) dX10_entering_57) (fun s_7 H locs hw w => ?_)
        refine lv_aload_n (pc := 60) C.1 C.2.1 dX10_entering_60 rfl (lv_at hl 2 rfl) ?_
        refine g_getr (pc := 61) C w h0 ff_X10_9 lk_X10_68 dX10_entering_61 ?_
        refine lv_iload (pc := 64) C.1 C.2.1 dX10_entering_64 (lv_at hl 0 rfl) ?_
        refine lv_aload_n (pc := 66) C.1 C.2.1 dX10_entering_66 rfl (lv_at hl 2 rfl) ?_
        refine g_getr (pc := 67) C w h0 ff_X10_1 lk_X10_22 dX10_entering_67 ?_
        refine g_calli (pc := 70) w (mm_runV (ci := 9) (q := (RX9, TX9, 9)) (As := []) (rest := [.int (mm_I v6_2), .ref (mm_ad G (mm_rt this 9))]) C w (c_X9_fee l G (mm_rt this 1) (ro_X10_1 h0) s_7 _ hw) (ro_X10_1 h0) rfl rfl cv_X9_fee ml_X10_252 ⟨Nat.le_of_ble_eq_true rfl, Nat.le_of_ble_eq_true rfl⟩ ⟨Nat.le_of_ble_eq_true rfl, Nat.le_of_ble_eq_true rfl⟩ rfl hl.1 rfl (Nat.le_of_ble_eq_true rfl) dX10_entering_70) (fun r_10 s_9 H locs hw w => ?_)
        refine g_calli (pc := 73) w (mm_runV (ci := 4) (q := (RX4, TX4, 12)) (As := [.int (mm_I v6_2), .int (mm_I r_10)]) (rest := []) C w (c_X4_worthOfEntering l G (mm_rt this 9) v6_2 r_10 (ro_X10_9 h0) s_9 _ hw) (ro_X10_9 h0) rfl rfl cv_X4_worthOfEntering ml_X10_255 ⟨Nat.le_of_ble_eq_true rfl, Nat.le_of_ble_eq_true rfl⟩ ⟨Nat.le_of_ble_eq_true rfl, Nat.le_of_ble_eq_true rfl⟩ rfl hl.1 rfl (Nat.le_of_ble_eq_true rfl) dX10_entering_73) (fun r_12 s_11 H locs hw w => ?_)
        exact g_iret (pc := 76) C w hr hk hw dX10_entering_76
      · have hw := hw.2 hc
        refine lv_ldc (pc := 48) C.1 C.2.1 C.2.2.2.1 (C.2.2.2.2 _ lc_X10_89) dX10_entering_48 ?_
        exact g_iret (pc := 50) C w hr hk hw dX10_entering_50
  · have hw := hw.2 hc
    refine lv_ldc (pc := 4) C.1 C.2.1 C.2.2.2.1 (C.2.2.2.2 _ lc_X10_89) dX10_entering_4 ?_
    exact g_iret (pc := 6) C w hr hk hw dX10_entering_6
theorem lc_X10_258 : Cond.constant RX10 258 (mm_I 4826809) ∈ mm_ws := (mt_5 128 rfl rfl)
theorem mn_4826809 : n32 4826809 = 4826809 := by decide
theorem cv_X4_bestTime : mm_V yX4_bestTime cX4_bestTime 7 (some .int) 3 := ⟨(mt_5 132 rfl rfl), (mt_5 130 rfl rfl), (mt_5 131 rfl rfl), (mt_1 11 rfl rfl), by decide, by decide, by decide +kernel⟩
theorem ml_X10_259 : Cond.methodLink RX10 259 yX4_bestTime ∈ mm_ws := (mt_5 129 rfl rfl)
def wp_X10_when (this : Nat) (a1 : Int) (a2 : Int) (a3 : Int) (a4 : Int) (a5 : Int) (s0 : mm_M) (post : Int → mm_M → Prop) : Prop :=
  ((n32 a3 < 0 → post (-1) s0) ∧ (¬ n32 a3 < 0 → ((120 < n32 a3 → post (-1) s0) ∧ (¬ 120 < n32 a3 → ((n32 a4 < 0 → post (-1) s0) ∧ (¬ n32 a4 < 0 → ((n32 a4 < 4826809 → (wp_X4_begin (mm_rt this 9) (mm_rt this 1) a1 a2 a5 s0 (fun r_2 s_1 => ((¬ n32 r_2 = 0 → (wp_X9_fee (mm_rt this 1) s_1 (fun r_4 s_3 => (wp_X4_bestTime (mm_rt this 9) a3 a4 r_4 s_3 (fun r_6 s_5 => post r_6 s_5))))) ∧ (n32 r_2 = 0 → post (-1) s_1))))) ∧ (¬ n32 a4 < 4826809 → post (-1) s0))))))))
set_option maxRecDepth 100000 in
set_option maxHeartbeats 4000000 in
theorem c_X10_when (l : Launch) (G : mm_G) (this : Nat) (a1 : Int) (a2 : Int) (a3 : Int) (a4 : Int) (a5 : Int) (h0 : mm_ok this 20 0) (s0 : mm_M) (post : Int → mm_M → Prop) (hw : wp_X10_when this a1 a2 a3 a4 a5 s0 post) : Met l yX10_when (mm_wm yX10_when cX10_when 6 (some .int)) (mm_rm 7) (va_Pc [.ref (mm_ad G this), .int (mm_I a1), .int (mm_I a2), .int (mm_I a3), .int (mm_I a4), .int (mm_I a5)] (mm_pre G s0)) (mm_Qi G post) 0 0 (mm_A G) := by
  refine mm_met (own := RX10) (by decide) rfl (Nat.le_of_ble_eq_true rfl) ?_
  intro p e s m args below meth c C hr hk
  unfold wp_X10_when at hw
  intro H locs ls w hl
  have hl : lv_has ls 6 [(0, .ref (mm_ad G this)), (1, .int (mm_I a1)), (2, .int (mm_I a2)), (3, .int (mm_I a3)), (4, .int (mm_I a4)), (5, .int (mm_I a5))] := hl
  refine lv_iload_n (pc := 0) C.1 C.2.1 dX10_when_0 rfl (lv_at hl 3 rfl) ?_
  refine g_if_lt (pc := 1) (tgt := 23) C rfl dX10_when_1 (by decide) (fun hc => ?_) (fun hc => ?_)
  · have hw := hw.1 hc
    refine lv_iconst (pc := 23) (v := mm_I (-1)) C.1 C.2.1 dX10_when_23 rfl ?_
    exact g_iret (pc := 24) C w hr hk hw dX10_when_24
  · have hw := hw.2 hc
    refine lv_iload_n (pc := 4) C.1 C.2.1 dX10_when_4 rfl (lv_at hl 3 rfl) ?_
    refine lv_bipush (pc := 5) C.1 C.2.1 dX10_when_5 mb_120 ?_
    refine g_icmp_gt (pc := 7) (tgt := 23) C rfl mn_120 dX10_when_7 (by decide) (fun hc => ?_) (fun hc => ?_)
    · have hw := hw.1 hc
      refine lv_iconst (pc := 23) (v := mm_I (-1)) C.1 C.2.1 dX10_when_23 rfl ?_
      exact g_iret (pc := 24) C w hr hk hw dX10_when_24
    · have hw := hw.2 hc
      refine lv_iload (pc := 10) C.1 C.2.1 dX10_when_10 (lv_at hl 4 rfl) ?_
      refine g_if_lt (pc := 12) (tgt := 23) C rfl dX10_when_12 (by decide) (fun hc => ?_) (fun hc => ?_)
      · have hw := hw.1 hc
        refine lv_iconst (pc := 23) (v := mm_I (-1)) C.1 C.2.1 dX10_when_23 rfl ?_
        exact g_iret (pc := 24) C w hr hk hw dX10_when_24
      · have hw := hw.2 hc
        refine lv_iload (pc := 15) C.1 C.2.1 dX10_when_15 (lv_at hl 4 rfl) ?_
        refine lv_ldcw (pc := 17) C.1 C.2.1 C.2.2.2.1 (C.2.2.2.2 _ lc_X10_258) dX10_when_17 ?_
        refine g_icmp_lt (pc := 20) (tgt := 25) C rfl mn_4826809 dX10_when_20 (by decide) (fun hc => ?_) (fun hc => ?_)
        · have hw := hw.1 hc
          refine lv_aload_n (pc := 25) C.1 C.2.1 dX10_when_25 rfl (lv_at hl 0 rfl) ?_
          refine g_getr (pc := 26) C w h0 ff_X10_9 lk_X10_68 dX10_when_26 ?_
          refine lv_aload_n (pc := 29) C.1 C.2.1 dX10_when_29 rfl (lv_at hl 0 rfl) ?_
          refine g_getr (pc := 30) C w h0 ff_X10_1 lk_X10_22 dX10_when_30 ?_
          refine lv_iload_n (pc := 33) C.1 C.2.1 dX10_when_33 rfl (lv_at hl 1 rfl) ?_
          refine lv_iload_n (pc := 34) C.1 C.2.1 dX10_when_34 rfl (lv_at hl 2 rfl) ?_
          refine lv_iload (pc := 35) C.1 C.2.1 dX10_when_35 (lv_at hl 5 rfl) ?_
          refine g_calli (pc := 37) w (mm_runV (ci := 4) (q := (RX4, TX4, 12)) (As := [.ref (mm_ad G (mm_rt this 1)), .int (mm_I a1), .int (mm_I a2), .int (mm_I a5)]) (rest := []) C w (c_X4_begin l G (mm_rt this 9) (mm_rt this 1) a1 a2 a5 (ro_X10_9 h0) (ro_X10_1 h0) s0 _ hw) (ro_X10_9 h0) rfl rfl cv_X4_begin ml_X10_239 ⟨Nat.le_of_ble_eq_true rfl, Nat.le_of_ble_eq_true rfl⟩ ⟨Nat.le_of_ble_eq_true rfl, Nat.le_of_ble_eq_true rfl⟩ rfl hl.1 rfl (Nat.le_of_ble_eq_true rfl) dX10_when_37) (fun r_2 s_1 H locs hw w => ?_)
          refine g_if_ne (pc := 40) (tgt := 45) C rfl dX10_when_40 (by decide) (fun hc => ?_) (fun hc => ?_)
          · have hw := hw.1 hc
            refine lv_aload_n (pc := 45) C.1 C.2.1 dX10_when_45 rfl (lv_at hl 0 rfl) ?_
            refine g_getr (pc := 46) C w h0 ff_X10_9 lk_X10_68 dX10_when_46 ?_
            refine lv_iload_n (pc := 49) C.1 C.2.1 dX10_when_49 rfl (lv_at hl 3 rfl) ?_
            refine lv_iload (pc := 50) C.1 C.2.1 dX10_when_50 (lv_at hl 4 rfl) ?_
            refine lv_aload_n (pc := 52) C.1 C.2.1 dX10_when_52 rfl (lv_at hl 0 rfl) ?_
            refine g_getr (pc := 53) C w h0 ff_X10_1 lk_X10_22 dX10_when_53 ?_
            refine g_calli (pc := 56) w (mm_runV (ci := 9) (q := (RX9, TX9, 9)) (As := []) (rest := [.int (mm_I a4), .int (mm_I a3), .ref (mm_ad G (mm_rt this 9))]) C w (c_X9_fee l G (mm_rt this 1) (ro_X10_1 h0) s_1 _ hw) (ro_X10_1 h0) rfl rfl cv_X9_fee ml_X10_252 ⟨Nat.le_of_ble_eq_true rfl, Nat.le_of_ble_eq_true rfl⟩ ⟨Nat.le_of_ble_eq_true rfl, Nat.le_of_ble_eq_true rfl⟩ rfl hl.1 rfl (Nat.le_of_ble_eq_true rfl) dX10_when_56) (fun r_4 s_3 H locs hw w => ?_)
            refine g_calli (pc := 59) w (mm_runV (ci := 4) (q := (RX4, TX4, 12)) (As := [.int (mm_I a3), .int (mm_I a4), .int (mm_I r_4)]) (rest := []) C w (c_X4_bestTime l G (mm_rt this 9) a3 a4 r_4 (ro_X10_9 h0) s_3 _ hw) (ro_X10_9 h0) rfl rfl cv_X4_bestTime ml_X10_259 ⟨Nat.le_of_ble_eq_true rfl, Nat.le_of_ble_eq_true rfl⟩ ⟨Nat.le_of_ble_eq_true rfl, Nat.le_of_ble_eq_true rfl⟩ rfl hl.1 rfl (Nat.le_of_ble_eq_true rfl) dX10_when_59) (fun r_6 s_5 H locs hw w => ?_)
            exact g_iret (pc := 62) C w hr hk hw dX10_when_62
          · have hw := hw.2 hc
            refine lv_iconst (pc := 43) (v := mm_I (-1)) C.1 C.2.1 dX10_when_43 rfl ?_
            exact g_iret (pc := 44) C w hr hk hw dX10_when_44
        · have hw := hw.2 hc
          refine lv_iconst (pc := 23) (v := mm_I (-1)) C.1 C.2.1 dX10_when_23 rfl ?_
          exact g_iret (pc := 24) C w hr hk hw dX10_when_24
theorem cv_X4_leastFee : mm_V yX4_leastFee cX4_leastFee 4 (some .int) 1 := ⟨(mt_5 145 rfl rfl), (mt_5 143 rfl rfl), (mt_5 144 rfl rfl), (mt_1 11 rfl rfl), by decide, by decide, by decide +kernel⟩
theorem ml_X10_263 : Cond.methodLink RX10 263 yX4_leastFee ∈ mm_ws := (mt_5 142 rfl rfl)
def wp_X10_least (this : Nat) (a1 : Int) (a2 : Int) (a3 : Int) (a4 : Int) (s0 : mm_M) (post : Int → mm_M → Prop) : Prop :=
  ((n32 a3 < 1 → post (-1) s0) ∧ (¬ n32 a3 < 1 → ((60 < n32 a3 → post (-1) s0) ∧ (¬ 60 < n32 a3 → (wp_X4_begin (mm_rt this 9) (mm_rt this 1) a1 a2 a4 s0 (fun r_2 s_1 => ((¬ n32 r_2 = 0 → (wp_X4_leastFee (mm_rt this 9) a3 s_1 (fun r_4 s_3 => post r_4 s_3))) ∧ (n32 r_2 = 0 → post (-1) s_1))))))))
set_option maxRecDepth 100000 in
set_option maxHeartbeats 4000000 in
theorem c_X10_least (l : Launch) (G : mm_G) (this : Nat) (a1 : Int) (a2 : Int) (a3 : Int) (a4 : Int) (h0 : mm_ok this 20 0) (s0 : mm_M) (post : Int → mm_M → Prop) (hw : wp_X10_least this a1 a2 a3 a4 s0 post) : Met l yX10_least (mm_wm yX10_least cX10_least 5 (some .int)) (mm_rm 6) (va_Pc [.ref (mm_ad G this), .int (mm_I a1), .int (mm_I a2), .int (mm_I a3), .int (mm_I a4)] (mm_pre G s0)) (mm_Qi G post) 0 0 (mm_A G) := by
  refine mm_met (own := RX10) (by decide) rfl (Nat.le_of_ble_eq_true rfl) ?_
  intro p e s m args below meth c C hr hk
  unfold wp_X10_least at hw
  intro H locs ls w hl
  have hl : lv_has ls 5 [(0, .ref (mm_ad G this)), (1, .int (mm_I a1)), (2, .int (mm_I a2)), (3, .int (mm_I a3)), (4, .int (mm_I a4))] := hl
  refine lv_iload_n (pc := 0) C.1 C.2.1 dX10_least_0 rfl (lv_at hl 3 rfl) ?_
  refine lv_iconst (pc := 1) (v := mm_I 1) C.1 C.2.1 dX10_least_1 rfl ?_
  refine g_icmp_lt (pc := 2) (tgt := 29) C rfl mn_1 dX10_least_2 (by decide) (fun hc => ?_) (fun hc => ?_)
  · have hw := hw.1 hc
    refine lv_iconst (pc := 29) (v := mm_I (-1)) C.1 C.2.1 dX10_least_29 rfl ?_
    exact g_iret (pc := 30) C w hr hk hw dX10_least_30
  · have hw := hw.2 hc
    refine lv_iload_n (pc := 5) C.1 C.2.1 dX10_least_5 rfl (lv_at hl 3 rfl) ?_
    refine lv_bipush (pc := 6) C.1 C.2.1 dX10_least_6 mb_60 ?_
    refine g_icmp_gt (pc := 8) (tgt := 29) C rfl mn_60 dX10_least_8 (by decide) (fun hc => ?_) (fun hc => ?_)
    · have hw := hw.1 hc
      refine lv_iconst (pc := 29) (v := mm_I (-1)) C.1 C.2.1 dX10_least_29 rfl ?_
      exact g_iret (pc := 30) C w hr hk hw dX10_least_30
    · have hw := hw.2 hc
      refine lv_aload_n (pc := 11) C.1 C.2.1 dX10_least_11 rfl (lv_at hl 0 rfl) ?_
      refine g_getr (pc := 12) C w h0 ff_X10_9 lk_X10_68 dX10_least_12 ?_
      refine lv_aload_n (pc := 15) C.1 C.2.1 dX10_least_15 rfl (lv_at hl 0 rfl) ?_
      refine g_getr (pc := 16) C w h0 ff_X10_1 lk_X10_22 dX10_least_16 ?_
      refine lv_iload_n (pc := 19) C.1 C.2.1 dX10_least_19 rfl (lv_at hl 1 rfl) ?_
      refine lv_iload_n (pc := 20) C.1 C.2.1 dX10_least_20 rfl (lv_at hl 2 rfl) ?_
      refine lv_iload (pc := 21) C.1 C.2.1 dX10_least_21 (lv_at hl 4 rfl) ?_
      refine g_calli (pc := 23) w (mm_runV (ci := 4) (q := (RX4, TX4, 12)) (As := [.ref (mm_ad G (mm_rt this 1)), .int (mm_I a1), .int (mm_I a2), .int (mm_I a4)]) (rest := []) C w (c_X4_begin l G (mm_rt this 9) (mm_rt this 1) a1 a2 a4 (ro_X10_9 h0) (ro_X10_1 h0) s0 _ hw) (ro_X10_9 h0) rfl rfl cv_X4_begin ml_X10_239 ⟨Nat.le_of_ble_eq_true rfl, Nat.le_of_ble_eq_true rfl⟩ ⟨Nat.le_of_ble_eq_true rfl, Nat.le_of_ble_eq_true rfl⟩ rfl hl.1 rfl (Nat.le_of_ble_eq_true rfl) dX10_least_23) (fun r_2 s_1 H locs hw w => ?_)
      refine g_if_ne (pc := 26) (tgt := 31) C rfl dX10_least_26 (by decide) (fun hc => ?_) (fun hc => ?_)
      · have hw := hw.1 hc
        refine lv_aload_n (pc := 31) C.1 C.2.1 dX10_least_31 rfl (lv_at hl 0 rfl) ?_
        refine g_getr (pc := 32) C w h0 ff_X10_9 lk_X10_68 dX10_least_32 ?_
        refine lv_iload_n (pc := 35) C.1 C.2.1 dX10_least_35 rfl (lv_at hl 3 rfl) ?_
        refine g_calli (pc := 36) w (mm_runV (ci := 4) (q := (RX4, TX4, 12)) (As := [.int (mm_I a3)]) (rest := []) C w (c_X4_leastFee l G (mm_rt this 9) a3 (ro_X10_9 h0) s_1 _ hw) (ro_X10_9 h0) rfl rfl cv_X4_leastFee ml_X10_263 ⟨Nat.le_of_ble_eq_true rfl, Nat.le_of_ble_eq_true rfl⟩ ⟨Nat.le_of_ble_eq_true rfl, Nat.le_of_ble_eq_true rfl⟩ rfl hl.1 rfl (Nat.le_of_ble_eq_true rfl) dX10_least_36) (fun r_4 s_3 H locs hw w => ?_)
        exact g_iret (pc := 39) C w hr hk hw dX10_least_39
      · have hw := hw.2 hc
        refine lv_iconst (pc := 29) (v := mm_I (-1)) C.1 C.2.1 dX10_least_29 rfl ?_
        exact g_iret (pc := 30) C w hr hk hw dX10_least_30
def wp_X10_send (this : Nat) (a1 : Int) (a2 : Int) (a3 : Int) (a4 : Int) (a5 : Int) (s0 : mm_M) (post : Int → mm_M → Prop) : Prop :=
  ((n32 a3 < 0 → post (-2147483648) s0) ∧ (¬ n32 a3 < 0 → ((n32 a5 < 0 → post (-2147483648) s0) ∧ (¬ n32 a5 < 0 → ((n32 a5 ≤ 99 → (∀ v6_1 : Int, v6_1 = Int.tdiv (n32 a3) 10000 → (∀ v7_2 : Int, v7_2 = Int.tmod (n32 (Int.tdiv (n32 a3) 100)) 100 → (∀ v8_3 : Int, v8_3 = Int.tmod (n32 a3) 100 → (∀ v9_4 : Int, v9_4 = (v7_2 + v8_3) + 1 → (wp_X10_canStand v6_1 v9_4 0 s0 (fun r_6 s_5 => ((n32 r_6 = 0 → post (-2147483648) s_5) ∧ (¬ n32 r_6 = 0 → (wp_X4_begin (mm_rt this 9) (mm_rt this 1) a1 a2 a4 s_5 (fun r_8 s_7 => ((¬ n32 r_8 = 0 → (wp_X4_reach (mm_rt this 9) v6_1 s_7 (fun s_9 => (wp_X9_fee (mm_rt this 1) s_9 (fun r_12 s_11 => (wp_X4_worthOfEntering (mm_rt this 9) v9_4 (r_12 + a5) s_11 (fun r_14 s_13 => (wp_X4_valueOf (mm_rt this 9) v7_2 v8_3 s_13 (fun r_16 s_15 => post (r_14 - r_16) s_15))))))))) ∧ (n32 r_8 = 0 → post (-2147483648) s_7))))))))))))) ∧ (¬ n32 a5 ≤ 99 → post (-2147483648) s0))))))
set_option maxRecDepth 100000 in
set_option maxHeartbeats 4000000 in
theorem c_X10_send (l : Launch) (G : mm_G) (this : Nat) (a1 : Int) (a2 : Int) (a3 : Int) (a4 : Int) (a5 : Int) (h0 : mm_ok this 20 0) (s0 : mm_M) (post : Int → mm_M → Prop) (hw : wp_X10_send this a1 a2 a3 a4 a5 s0 post) : Met l yX10_send (mm_wm yX10_send cX10_send 10 (some .int)) (mm_rm 6) (va_Pc [.ref (mm_ad G this), .int (mm_I a1), .int (mm_I a2), .int (mm_I a3), .int (mm_I a4), .int (mm_I a5)] (mm_pre G s0)) (mm_Qi G post) 0 0 (mm_A G) := by
  refine mm_met (own := RX10) (by decide) rfl (Nat.le_of_ble_eq_true rfl) ?_
  intro p e s m args below meth c C hr hk
  unfold wp_X10_send at hw
  intro H locs ls w hl
  have hl : lv_has ls 10 [(0, .ref (mm_ad G this)), (1, .int (mm_I a1)), (2, .int (mm_I a2)), (3, .int (mm_I a3)), (4, .int (mm_I a4)), (5, .int (mm_I a5))] := hl
  refine lv_iload_n (pc := 0) C.1 C.2.1 dX10_send_0 rfl (lv_at hl 3 rfl) ?_
  refine g_if_lt (pc := 1) (tgt := 16) C rfl dX10_send_1 (by decide) (fun hc => ?_) (fun hc => ?_)
  · have hw := hw.1 hc
    refine lv_ldc (pc := 16) C.1 C.2.1 C.2.2.2.1 (C.2.2.2.2 _ lc_X10_89) dX10_send_16 ?_
    exact g_iret (pc := 18) C w hr hk hw dX10_send_18
  · have hw := hw.2 hc
    refine lv_iload (pc := 4) C.1 C.2.1 dX10_send_4 (lv_at hl 5 rfl) ?_
    refine g_if_lt (pc := 6) (tgt := 16) C rfl dX10_send_6 (by decide) (fun hc => ?_) (fun hc => ?_)
    · have hw := hw.1 hc
      refine lv_ldc (pc := 16) C.1 C.2.1 C.2.2.2.1 (C.2.2.2.2 _ lc_X10_89) dX10_send_16 ?_
      exact g_iret (pc := 18) C w hr hk hw dX10_send_18
    · have hw := hw.2 hc
      refine lv_iload (pc := 9) C.1 C.2.1 dX10_send_9 (lv_at hl 5 rfl) ?_
      refine lv_bipush (pc := 11) C.1 C.2.1 dX10_send_11 mb_99 ?_
      refine g_icmp_le (pc := 13) (tgt := 19) C rfl mn_99 dX10_send_13 (by decide) (fun hc => ?_) (fun hc => ?_)
      · have hw := hw.1 hc
        refine lv_iload_n (pc := 19) C.1 C.2.1 dX10_send_19 rfl (lv_at hl 3 rfl) ?_
        refine lv_sipush (pc := 20) C.1 C.2.1 dX10_send_20 ms_10000 ?_
        refine g_idiv (pc := 23) C rfl mn_10000 (by decide) dX10_send_23 ?_
        refine g_istore (pc := 24) C dX10_send_24 hl (by decide) (fun v6_1 ev6_1 ls hl => ?_)
        have hw := hw v6_1 ev6_1
        have hl : lv_has ls 10 [(6, .int (mm_I v6_1)), (0, .ref (mm_ad G this)), (1, .int (mm_I a1)), (2, .int (mm_I a2)), (3, .int (mm_I a3)), (4, .int (mm_I a4)), (5, .int (mm_I a5))] := hl
        refine lv_iload_n (pc := 26) C.1 C.2.1 dX10_send_26 rfl (lv_at hl 4 rfl) ?_
        refine lv_bipush (pc := 27) C.1 C.2.1 dX10_send_27 mb_100 ?_
        refine g_idiv (pc := 29) C rfl mn_100 (by decide) dX10_send_29 ?_
        refine lv_bipush (pc := 30) C.1 C.2.1 dX10_send_30 mb_100 ?_
        refine g_irem (pc := 32) C rfl mn_100 (by decide) dX10_send_32 ?_
        refine g_istore (pc := 33) C dX10_send_33 hl (by decide) (fun v7_2 ev7_2 ls hl => ?_)
        have hw := hw v7_2 ev7_2
        have hl : lv_has ls 10 [(7, .int (mm_I v7_2)), (6, .int (mm_I v6_1)), (0, .ref (mm_ad G this)), (1, .int (mm_I a1)), (2, .int (mm_I a2)), (3, .int (mm_I a3)), (4, .int (mm_I a4)), (5, .int (mm_I a5))] := hl
        refine lv_iload_n (pc := 35) C.1 C.2.1 dX10_send_35 rfl (lv_at hl 5 rfl) ?_
        refine lv_bipush (pc := 36) C.1 C.2.1 dX10_send_36 mb_100 ?_
        refine g_irem (pc := 38) C rfl mn_100 (by decide) dX10_send_38 ?_
        refine g_istore (pc := 39) C dX10_send_39 hl (by decide) (fun v8_3 ev8_3 ls hl => ?_)
        have hw := hw v8_3 ev8_3
        have hl : lv_has ls 10 [(8, .int (mm_I v8_3)), (7, .int (mm_I v7_2)), (6, .int (mm_I v6_1)), (0, .ref (mm_ad G this)), (1, .int (mm_I a1)), (2, .int (mm_I a2)), (3, .int (mm_I a3)), (4, .int (mm_I a4)), (5, .int (mm_I a5))] := hl
        refine lv_iload (pc := 41) C.1 C.2.1 dX10_send_41 (lv_at hl 1 rfl) ?_
        refine lv_iload (pc := 43) C.1 C.2.1 dX10_send_43 (lv_at hl 0 rfl) ?_
        refine g_iadd (pc := 45) C dX10_send_45 ?_
        refine lv_iconst (pc := 46) (v := mm_I 1) C.1 C.2.1 dX10_send_46 rfl ?_
        refine g_iadd (pc := 47) C dX10_send_47 ?_
        refine g_istore (pc := 48) C dX10_send_48 hl (by decide) (fun v9_4 ev9_4 ls hl => ?_)
        have hw := hw v9_4 ev9_4
        have hl : lv_has ls 10 [(9, .int (mm_I v9_4)), (8, .int (mm_I v8_3)), (7, .int (mm_I v7_2)), (6, .int (mm_I v6_1)), (0, .ref (mm_ad G this)), (1, .int (mm_I a1)), (2, .int (mm_I a2)), (3, .int (mm_I a3)), (4, .int (mm_I a4)), (5, .int (mm_I a5))] := hl
        refine lv_iload (pc := 50) C.1 C.2.1 dX10_send_50 (lv_at hl 3 rfl) ?_
        refine lv_iload (pc := 52) C.1 C.2.1 dX10_send_52 (lv_at hl 0 rfl) ?_
        refine lv_iconst (pc := 54) (v := mm_I 0) C.1 C.2.1 dX10_send_54 rfl ?_
        refine g_calli (pc := 55) w (mm_runS (As := [.int (mm_I v6_1), .int (mm_I v9_4), .int (mm_I 0)]) (rest := []) C w (c_X10_canStand l G v6_1 v9_4 0  s0 _ hw) cs_X10_canStand ml_X10_235 ⟨Nat.le_of_ble_eq_true rfl, Nat.le_of_ble_eq_true rfl⟩ ⟨Nat.le_of_ble_eq_true rfl, Nat.le_of_ble_eq_true rfl⟩ rfl hl.1 rfl (Nat.le_of_ble_eq_true rfl) dX10_send_55) (fun r_6 s_5 H locs hw w => ?_)
        refine g_if_eq (pc := 58) (tgt := 79) C rfl dX10_send_58 (by decide) (fun hc => ?_) (fun hc => ?_)
        · have hw := hw.1 hc
          refine lv_ldc (pc := 79) C.1 C.2.1 C.2.2.2.1 (C.2.2.2.2 _ lc_X10_89) dX10_send_79 ?_
          exact g_iret (pc := 81) C w hr hk hw dX10_send_81
        · have hw := hw.2 hc
          refine lv_aload_n (pc := 61) C.1 C.2.1 dX10_send_61 rfl (lv_at hl 4 rfl) ?_
          refine g_getr (pc := 62) C w h0 ff_X10_9 lk_X10_68 dX10_send_62 ?_
          refine lv_aload_n (pc := 65) C.1 C.2.1 dX10_send_65 rfl (lv_at hl 4 rfl) ?_
          refine g_getr (pc := 66) C w h0 ff_X10_1 lk_X10_22 dX10_send_66 ?_
          refine lv_iload_n (pc := 69) C.1 C.2.1 dX10_send_69 rfl (lv_at hl 5 rfl) ?_
          refine lv_iload_n (pc := 70) C.1 C.2.1 dX10_send_70 rfl (lv_at hl 6 rfl) ?_
          refine lv_iload (pc := 71) C.1 C.2.1 dX10_send_71 (lv_at hl 8 rfl) ?_
          refine g_calli (pc := 73) w (mm_runV (ci := 4) (q := (RX4, TX4, 12)) (As := [.ref (mm_ad G (mm_rt this 1)), .int (mm_I a1), .int (mm_I a2), .int (mm_I a4)]) (rest := []) C w (c_X4_begin l G (mm_rt this 9) (mm_rt this 1) a1 a2 a4 (ro_X10_9 h0) (ro_X10_1 h0) s_5 _ hw) (ro_X10_9 h0) rfl rfl cv_X4_begin ml_X10_239 ⟨Nat.le_of_ble_eq_true rfl, Nat.le_of_ble_eq_true rfl⟩ ⟨Nat.le_of_ble_eq_true rfl, Nat.le_of_ble_eq_true rfl⟩ rfl hl.1 rfl (Nat.le_of_ble_eq_true rfl) dX10_send_73) (fun r_8 s_7 H locs hw w => ?_)
          refine g_if_ne (pc := 76) (tgt := 82) C rfl dX10_send_76 (by decide) (fun hc => ?_) (fun hc => ?_)
          · have hw := hw.1 hc
            refine lv_aload_n (pc := 82) C.1 C.2.1 dX10_send_82 rfl (lv_at hl 4 rfl) ?_
            refine g_getr (pc := 83) C w h0 ff_X10_9 lk_X10_68 dX10_send_83 ?_
            refine lv_iload (pc := 86) C.1 C.2.1 dX10_send_86 (lv_at hl 3 rfl) ?_
            refine g_callv (pc := 88) w (mm_runV (ci := 4) (q := (RX4, TX4, 12)) (As := [.int (mm_I v6_1)]) (rest := []) C w (c_X4_reach l G (mm_rt this 9) v6_1 (ro_X10_9 h0) s_7 _ hw) (ro_X10_9 h0) rfl rfl cv_X4_reach ml_X10_243 ⟨Nat.le_of_ble_eq_true rfl, Nat.le_of_ble_eq_true rfl⟩ ⟨Nat.le_of_ble_eq_true rfl, Nat.le_of_ble_eq_true rfl⟩ rfl hl.1 rfl (Nat.le_of_ble_eq_true rfl) dX10_send_88) (fun s_9 H locs hw w => ?_)
            refine lv_aload_n (pc := 91) C.1 C.2.1 dX10_send_91 rfl (lv_at hl 4 rfl) ?_
            refine g_getr (pc := 92) C w h0 ff_X10_9 lk_X10_68 dX10_send_92 ?_
            refine lv_iload (pc := 95) C.1 C.2.1 dX10_send_95 (lv_at hl 0 rfl) ?_
            refine lv_aload_n (pc := 97) C.1 C.2.1 dX10_send_97 rfl (lv_at hl 4 rfl) ?_
            refine g_getr (pc := 98) C w h0 ff_X10_1 lk_X10_22 dX10_send_98 ?_
            refine g_calli (pc := 101) w (mm_runV (ci := 9) (q := (RX9, TX9, 9)) (As := []) (rest := [.int (mm_I v9_4), .ref (mm_ad G (mm_rt this 9))]) C w (c_X9_fee l G (mm_rt this 1) (ro_X10_1 h0) s_9 _ hw) (ro_X10_1 h0) rfl rfl cv_X9_fee ml_X10_252 ⟨Nat.le_of_ble_eq_true rfl, Nat.le_of_ble_eq_true rfl⟩ ⟨Nat.le_of_ble_eq_true rfl, Nat.le_of_ble_eq_true rfl⟩ rfl hl.1 rfl (Nat.le_of_ble_eq_true rfl) dX10_send_101) (fun r_12 s_11 H locs hw w => ?_)
            refine lv_iload (pc := 104) C.1 C.2.1 dX10_send_104 (lv_at hl 9 rfl) ?_
            refine g_iadd (pc := 106) C dX10_send_106 ?_
            refine g_calli (pc := 107) w (mm_runV (ci := 4) (q := (RX4, TX4, 12)) (As := [.int (mm_I v9_4), .int (mm_I (r_12 + a5))]) (rest := []) C w (c_X4_worthOfEntering l G (mm_rt this 9) v9_4 (r_12 + a5) (ro_X10_9 h0) s_11 _ hw) (ro_X10_9 h0) rfl rfl cv_X4_worthOfEntering ml_X10_255 ⟨Nat.le_of_ble_eq_true rfl, Nat.le_of_ble_eq_true rfl⟩ ⟨Nat.le_of_ble_eq_true rfl, Nat.le_of_ble_eq_true rfl⟩ rfl hl.1 rfl (Nat.le_of_ble_eq_true rfl) dX10_send_107) (fun r_14 s_13 H locs hw w => ?_)
            refine lv_aload_n (pc := 110) C.1 C.2.1 dX10_send_110 rfl (lv_at hl 4 rfl) ?_
            refine g_getr (pc := 111) C w h0 ff_X10_9 lk_X10_68 dX10_send_111 ?_
            refine lv_iload (pc := 114) C.1 C.2.1 dX10_send_114 (lv_at hl 2 rfl) ?_
            refine lv_iload (pc := 116) C.1 C.2.1 dX10_send_116 (lv_at hl 1 rfl) ?_
            refine g_calli (pc := 118) w (mm_runV (ci := 4) (q := (RX4, TX4, 12)) (As := [.int (mm_I v7_2), .int (mm_I v8_3)]) (rest := [.int (mm_I r_14)]) C w (c_X4_valueOf l G (mm_rt this 9) v7_2 v8_3 (ro_X10_9 h0) s_13 _ hw) (ro_X10_9 h0) rfl rfl cv_X4_valueOf ml_X10_246 ⟨Nat.le_of_ble_eq_true rfl, Nat.le_of_ble_eq_true rfl⟩ ⟨Nat.le_of_ble_eq_true rfl, Nat.le_of_ble_eq_true rfl⟩ rfl hl.1 rfl (Nat.le_of_ble_eq_true rfl) dX10_send_118) (fun r_16 s_15 H locs hw w => ?_)
            refine g_isub (pc := 121) C dX10_send_121 ?_
            exact g_iret (pc := 122) C w hr hk hw dX10_send_122
          · have hw := hw.2 hc
            refine lv_ldc (pc := 79) C.1 C.2.1 C.2.2.2.1 (C.2.2.2.2 _ lc_X10_89) dX10_send_79 ?_
            exact g_iret (pc := 81) C w hr hk hw dX10_send_81
      · have hw := hw.2 hc
        refine lv_ldc (pc := 16) C.1 C.2.1 C.2.2.2.1 (C.2.2.2.2 _ lc_X10_89) dX10_send_16 ?_
        exact g_iret (pc := 18) C w hr hk hw dX10_send_18
