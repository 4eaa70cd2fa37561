theorem cv_X6_whenServed : mm_V yX6_whenServed cX6_whenServed 4 (some .int) 2 := ⟨(mt_4 216 rfl rfl), (mt_4 215 rfl rfl), (mp_3 1 rfl rfl), (mt_1 10 rfl rfl), by decide, by decide, by decide +kernel⟩
theorem ml_X6_56 : Cond.methodLink RX6 56 yX6_whenServed ∈ mm_ws := (mt_4 213 rfl rfl)
theorem cv_X6_whoIsNext : mm_V yX6_whoIsNext cX6_whoIsNext 6 (some .int) 3 := ⟨(mt_4 221 rfl rfl), (mt_4 220 rfl rfl), (mp_3 2 rfl rfl), (mt_1 10 rfl rfl), by decide, by decide, by decide +kernel⟩
theorem ml_X6_59 : Cond.methodLink RX6 59 yX6_whoIsNext ∈ mm_ws := (mt_4 218 rfl rfl)
def wp_X6_serveAll (this : Nat) (a1 : Int) (s0 : mm_M) (post : mm_M → Prop) : Prop :=
  ∀ (L7 : Int → Int → Int → mm_M → Prop), 
  (∀ (v2 : Int) (v3 : Int) (v4 : Int) (s1 : mm_M), ((n32 (s1 this 8) ≤ n32 v4 → post s1) ∧ (¬ n32 (s1 this 8) ≤ n32 v4 → ((8 ≤ n32 v4 → post s1) ∧ (¬ 8 ≤ n32 v4 → (wp_X6_whenServed this v2 v3 s1 (fun r_5 s_4 => (∀ v3_6 : Int, v3_6 = r_5 → (wp_X6_whoIsNext this a1 v2 v3_6 s_4 (fun r_8 s_7 => (∀ v5_9 : Int, v5_9 = r_8 → ((n32 v5_9 < 0 → post s_7) ∧ (¬ n32 v5_9 < 0 → ((n32 v5_9 < 8 → ((0 ≤ v4 ∧ v4 < 8) ∧ (∀ s_10 : mm_M, s_10 = mm_up s_7 (mm_rt this 4) v4 v5_9 → ((0 ≤ v5_9 ∧ v5_9 < 8) ∧ ((0 ≤ v5_9 ∧ v5_9 < 8) ∧ (∀ s_11 : mm_M, s_11 = mm_up s_10 (mm_rt this 5) v5_9 (v3_6 - (s_10 (mm_rt this 2) v5_9)) → ((0 ≤ v5_9 ∧ v5_9 < 8) ∧ (∀ v3_12 : Int, v3_12 = v3_6 + (s_11 (mm_rt this 3) v5_9) → (∀ v2_13 : Int, v2_13 = mm_or v2 (mm_shl 1 v5_9) → (∀ v4_14 : Int, v4_14 = v4 + 1 → L7 v2_13 v3_12 v4_14 s_11)))))))))) ∧ (¬ n32 v5_9 < 8 → post s_7)))))))))))))) → L7 v2 v3 v4 s1) →
  L7 0 0 0 s0
set_option maxRecDepth 100000 in
set_option maxHeartbeats 4000000 in
theorem c_X6_serveAll (l : Launch) (G : mm_G) (this : Nat) (a1 : Int) (h0 : mm_ok this 16 0) (s0 : mm_M) (post : mm_M → Prop) (hw : wp_X6_serveAll this a1 s0 post) : Met l yX6_serveAll (mm_wm yX6_serveAll cX6_serveAll 6 none) (mm_rm 6) (va_Pc [.ref (mm_ad G this), .int (mm_I a1)] (mm_pre G s0)) (mm_Qv G post) 0 0 (mm_A G) := by
  refine mm_met (own := RX6) (by decide) rfl (Nat.le_of_ble_eq_true rfl) ?_
  intro p e s m args below meth c C hr hk
  unfold wp_X6_serveAll at hw
  have hw := hw (fun (v2 : Int) (v3 : Int) (v4 : Int) (u : mm_M) => mm_X p l e (mm_rm 6) s m args below meth c (MQ below (mm_Qv G post) args s 0 0 (mm_A G)) G (mm_A G) 6 7 [(0, .ref (mm_ad G this)), (1, .int (mm_I a1)), (2, .int (mm_I v2)), (3, .int (mm_I v3)), (4, .int (mm_I v4))] [] u)
  have hw := hw (by
    intro v2 v3 v4 s1 hw  H locs ls w hl
    refine lv_iload (pc := 7) C.1 C.2.1 dX6_serveAll_7 (lv_at hl 4 rfl) ?_
    refine lv_aload_n (pc := 9) C.1 C.2.1 dX6_serveAll_9 rfl (lv_at hl 0 rfl) ?_
    refine g_geti (pc := 10) C w h0 ff_X6_8 lk_X6_38 dX6_serveAll_10 ?_
    refine g_icmp_ge (pc := 13) (tgt := 100) C rfl rfl dX6_serveAll_13 (by decide) (fun hc => ?_) (fun hc => ?_)
    · have hw := hw.1 hc
      exact g_vret (pc := 100) C w hr hk hw dX6_serveAll_100
    · have hw := hw.2 hc
      refine lv_iload (pc := 16) C.1 C.2.1 dX6_serveAll_16 (lv_at hl 4 rfl) ?_
      refine lv_bipush (pc := 18) C.1 C.2.1 dX6_serveAll_18 mb_8 ?_
      refine g_icmp_ge (pc := 20) (tgt := 100) C rfl mn_8 dX6_serveAll_20 (by decide) (fun hc => ?_) (fun hc => ?_)
      · have hw := hw.1 hc
        exact g_vret (pc := 100) C w hr hk hw dX6_serveAll_100
      · have hw := hw.2 hc
        refine lv_aload_n (pc := 23) C.1 C.2.1 dX6_serveAll_23 rfl (lv_at hl 0 rfl) ?_
        refine lv_iload_n (pc := 24) C.1 C.2.1 dX6_serveAll_24 rfl (lv_at hl 2 rfl) ?_
        refine lv_iload_n (pc := 25) C.1 C.2.1 dX6_serveAll_25 rfl (lv_at hl 3 rfl) ?_
        refine g_calli (pc := 26) w (mm_runV (ci := 6) (q := (RX6, TX6, 9)) (As := [.int (mm_I v2), .int (mm_I v3)]) (rest := []) C w (c_X6_whenServed l G this v2 v3 h0 s1 _ hw) h0 rfl rfl cv_X6_whenServed ml_X6_56 ⟨Nat.le_of_ble_eq_true rfl, Nat.le_of_ble_eq_true rfl⟩ ⟨Nat.le_of_ble_eq_true rfl, Nat.le_of_ble_eq_true rfl⟩ rfl hl.1 rfl (Nat.le_of_ble_eq_true rfl) dX6_serveAll_26) (fun r_5 s_4 H locs hw w => ?_)
        refine g_istore_n (pc := 29) C dX6_serveAll_29 rfl hl (by decide) (fun v3_6 ev3_6 ls hl => ?_)
        have hw := hw v3_6 ev3_6
        have hl : lv_has ls 6 [(3, .int (mm_I v3_6)), (0, .ref (mm_ad G this)), (1, .int (mm_I a1)), (2, .int (mm_I v2)), (4, .int (mm_I v4))] := hl
        refine lv_aload_n (pc := 30) C.1 C.2.1 dX6_serveAll_30 rfl (lv_at hl 1 rfl) ?_
        refine lv_iload_n (pc := 31) C.1 C.2.1 dX6_serveAll_31 rfl (lv_at hl 2 rfl) ?_
        refine lv_iload_n (pc := 32) C.1 C.2.1 dX6_serveAll_32 rfl (lv_at hl 3 rfl) ?_
        refine lv_iload_n (pc := 33) C.1 C.2.1 dX6_serveAll_33 rfl (lv_at hl 0 rfl) ?_
        refine g_calli (pc := 34) w (mm_runV (ci := 6) (q := (RX6, TX6, 9)) (As := [.int (mm_I a1), .int (mm_I v2), .int (mm_I v3_6)]) (rest := []) C w (c_X6_whoIsNext l G this a1 v2 v3_6 h0 s_4 _ hw) h0 rfl rfl cv_X6_whoIsNext ml_X6_59 ⟨Nat.le_of_ble_eq_true rfl, Nat.le_of_ble_eq_true rfl⟩ ⟨Nat.le_of_ble_eq_true rfl, Nat.le_of_ble_eq_true rfl⟩ rfl hl.1 rfl (Nat.le_of_ble_eq_true rfl) dX6_serveAll_34) (fun r_8 s_7 H locs hw w => ?_)
        refine g_istore (pc := 37) C dX6_serveAll_37 hl (by decide) (fun v5_9 ev5_9 ls hl => ?_)
        have hw := hw v5_9 ev5_9
        have hl : lv_has ls 6 [(5, .int (mm_I v5_9)), (3, .int (mm_I v3_6)), (0, .ref (mm_ad G this)), (1, .int (mm_I a1)), (2, .int (mm_I v2)), (4, .int (mm_I v4))] := hl
        refine lv_iload (pc := 39) C.1 C.2.1 dX6_serveAll_39 (lv_at hl 0 rfl) ?_
        refine g_if_lt (pc := 41) (tgt := 51) C rfl dX6_serveAll_41 (by decide) (fun hc => ?_) (fun hc => ?_)
        · have hw := hw.1 hc
          exact g_vret (pc := 51) C w hr hk hw dX6_serveAll_51
        · have hw := hw.2 hc
          refine lv_iload (pc := 44) C.1 C.2.1 dX6_serveAll_44 (lv_at hl 0 rfl) ?_
          refine lv_bipush (pc := 46) C.1 C.2.1 dX6_serveAll_46 mb_8 ?_
          refine g_icmp_lt (pc := 48) (tgt := 52) C rfl mn_8 dX6_serveAll_48 (by decide) (fun hc => ?_) (fun hc => ?_)
          · have hw := hw.1 hc
            refine lv_aload_n (pc := 52) C.1 C.2.1 dX6_serveAll_52 rfl (lv_at hl 2 rfl) ?_
            refine g_getr (pc := 53) C w h0 ff_X6_4 lk_X6_18 dX6_serveAll_53 ?_
            refine lv_iload (pc := 56) C.1 C.2.1 dX6_serveAll_56 (lv_at hl 5 rfl) ?_
            refine lv_iload (pc := 58) C.1 C.2.1 dX6_serveAll_58 (lv_at hl 0 rfl) ?_
            obtain ⟨hi, hw⟩ := hw
            refine g_iast (pc := 60) C w (ro_X6_4 h0) hi  dX6_serveAll_60 (fun s_10 H locs es_10 w => ?_)
            have hw := hw s_10 es_10
            refine lv_aload_n (pc := 61) C.1 C.2.1 dX6_serveAll_61 rfl (lv_at hl 2 rfl) ?_
            refine g_getr (pc := 62) C w h0 ff_X6_5 lk_X6_21 dX6_serveAll_62 ?_
            refine lv_iload (pc := 65) C.1 C.2.1 dX6_serveAll_65 (lv_at hl 0 rfl) ?_
            refine lv_iload_n (pc := 67) C.1 C.2.1 dX6_serveAll_67 rfl (lv_at hl 1 rfl) ?_
            refine lv_aload_n (pc := 68) C.1 C.2.1 dX6_serveAll_68 rfl (lv_at hl 2 rfl) ?_
            refine g_getr (pc := 69) C w h0 ff_X6_2 lk_X6_9 dX6_serveAll_69 ?_
            refine lv_iload (pc := 72) C.1 C.2.1 dX6_serveAll_72 (lv_at hl 0 rfl) ?_
            obtain ⟨hi, hw⟩ := hw
            refine g_iald (pc := 74) C w (ro_X6_2 h0) hi dX6_serveAll_74 ?_
            refine g_isub (pc := 75) C dX6_serveAll_75 ?_
            obtain ⟨hi, hw⟩ := hw
            refine g_iast (pc := 76) C w (ro_X6_5 h0) hi  dX6_serveAll_76 (fun s_11 H locs es_11 w => ?_)
            have hw := hw s_11 es_11
            refine lv_iload_n (pc := 77) C.1 C.2.1 dX6_serveAll_77 rfl (lv_at hl 1 rfl) ?_
            refine lv_aload_n (pc := 78) C.1 C.2.1 dX6_serveAll_78 rfl (lv_at hl 2 rfl) ?_
            refine g_getr (pc := 79) C w h0 ff_X6_3 lk_X6_15 dX6_serveAll_79 ?_
            refine lv_iload (pc := 82) C.1 C.2.1 dX6_serveAll_82 (lv_at hl 0 rfl) ?_
            obtain ⟨hi, hw⟩ := hw
            refine g_iald (pc := 84) C w (ro_X6_3 h0) hi dX6_serveAll_84 ?_
            refine g_iadd (pc := 85) C dX6_serveAll_85 ?_
            refine g_istore_n (pc := 86) C dX6_serveAll_86 rfl hl (by decide) (fun v3_12 ev3_12 ls hl => ?_)
            have hw := hw v3_12 ev3_12
            have hl : lv_has ls 6 [(3, .int (mm_I v3_12)), (5, .int (mm_I v5_9)), (0, .ref (mm_ad G this)), (1, .int (mm_I a1)), (2, .int (mm_I v2)), (4, .int (mm_I v4))] := hl
            refine lv_iload_n (pc := 87) C.1 C.2.1 dX6_serveAll_87 rfl (lv_at hl 4 rfl) ?_
            refine lv_iconst (pc := 88) (v := mm_I 1) C.1 C.2.1 dX6_serveAll_88 rfl ?_
            refine lv_iload (pc := 89) C.1 C.2.1 dX6_serveAll_89 (lv_at hl 1 rfl) ?_
            refine g_ishl (pc := 91) C dX6_serveAll_91 ?_
            refine g_ior (pc := 92) C dX6_serveAll_92 ?_
            refine g_istore_n (pc := 93) C dX6_serveAll_93 rfl hl (by decide) (fun v2_13 ev2_13 ls hl => ?_)
            have hw := hw v2_13 ev2_13
            have hl : lv_has ls 6 [(2, .int (mm_I v2_13)), (3, .int (mm_I v3_12)), (5, .int (mm_I v5_9)), (0, .ref (mm_ad G this)), (1, .int (mm_I a1)), (4, .int (mm_I v4))] := hl
            refine g_iinc (pc := 94) (k := 5) C dX6_serveAll_94 hl rfl (by decide) (fun v4_14 ev4_14 ls hl => ?_)
            have hw := hw v4_14 ev4_14
            have hl : lv_has ls 6 [(4, .int (mm_I v4_14)), (2, .int (mm_I v2_13)), (3, .int (mm_I v3_12)), (5, .int (mm_I v5_9)), (0, .ref (mm_ad G this)), (1, .int (mm_I a1))] := hl
            refine lv_goto (pc := 97) (tgt := 7) C.1 C.2.1 dX6_serveAll_97 (by decide) ?_
            exact hw  _ _ _ w (lv_sub hl [4, 5, 1, 2, 0] rfl)
          · have hw := hw.2 hc
            exact g_vret (pc := 51) C w hr hk hw dX6_serveAll_51)
  intro H locs ls w hl
  have hl : lv_has ls 6 [(0, .ref (mm_ad G this)), (1, .int (mm_I a1))] := hl
  refine lv_iconst (pc := 0) (v := mm_I 0) C.1 C.2.1 dX6_serveAll_0 rfl ?_
  refine lv_istore_n (pc := 1) (lv' := [(2, .int (mm_I 0)), (0, .ref (mm_ad G this)), (1, .int (mm_I a1))]) C.1 C.2.1 dX6_serveAll_1 rfl hl (by decide) rfl (fun ls hl => ?_)
  refine lv_iconst (pc := 2) (v := mm_I 0) C.1 C.2.1 dX6_serveAll_2 rfl ?_
  refine lv_istore_n (pc := 3) (lv' := [(3, .int (mm_I 0)), (2, .int (mm_I 0)), (0, .ref (mm_ad G this)), (1, .int (mm_I a1))]) C.1 C.2.1 dX6_serveAll_3 rfl hl (by decide) rfl (fun ls hl => ?_)
  refine lv_iconst (pc := 4) (v := mm_I 0) C.1 C.2.1 dX6_serveAll_4 rfl ?_
  refine lv_istore (pc := 5) (lv' := [(4, .int (mm_I 0)), (3, .int (mm_I 0)), (2, .int (mm_I 0)), (0, .ref (mm_ad G this)), (1, .int (mm_I a1))]) C.1 C.2.1 dX6_serveAll_5 hl (by decide) rfl (fun ls hl => ?_)
  exact hw  _ _ _ w (lv_sub hl [3, 4, 2, 1, 0] rfl)
def wp_X6_freeAfter (this : Nat) (a1 : Int) (s0 : mm_M) (post : Int → mm_M → Prop) : Prop :=
  ∀ (L4 : Int → Int → mm_M → Prop), 
  (∀ (v2 : Int) (v3 : Int) (s1 : mm_M), ((n32 (s1 this 8) ≤ n32 v3 → post v2 s1) ∧ (¬ n32 (s1 this 8) ≤ n32 v3 → ((8 ≤ n32 v3 → post v2 s1) ∧ (¬ 8 ≤ n32 v3 → ((¬ n32 (mm_and (mm_shr a1 v3) 1) = 1 → (∀ v3_3 : Int, v3_3 = v3 + 1 → L4 v2 v3_3 s1)) ∧ (n32 (mm_and (mm_shr a1 v3) 1) = 1 → ((0 ≤ v3 ∧ v3 < 8) ∧ ((0 ≤ v3 ∧ v3 < 8) ∧ (∀ v2_4 : Int, v2_4 = (mm_max v2 (s1 (mm_rt this 2) v3)) + (s1 (mm_rt this 3) v3) → (∀ v3_5 : Int, v3_5 = v3 + 1 → L4 v2_4 v3_5 s1)))))))))) → L4 v2 v3 s1) →
  L4 0 0 s0
set_option maxRecDepth 100000 in
set_option maxHeartbeats 4000000 in
theorem c_X6_freeAfter (l : Launch) (G : mm_G) (this : Nat) (a1 : Int) (h0 : mm_ok this 16 0) (s0 : mm_M) (post : Int → mm_M → Prop) (hw : wp_X6_freeAfter this a1 s0 post) : Met l yX6_freeAfter (mm_wm yX6_freeAfter cX6_freeAfter 4 (some .int)) (mm_rm 2) (va_Pc [.ref (mm_ad G this), .int (mm_I a1)] (mm_pre G s0)) (mm_Qi G post) 0 0 (mm_A G) := by
  refine mm_met (own := RX6) (by decide) rfl (Nat.le_of_ble_eq_true rfl) ?_
  intro p e s m args below meth c C hr hk
  unfold wp_X6_freeAfter at hw
  have hw := hw (fun (v2 : Int) (v3 : Int) (u : mm_M) => mm_X p l e (mm_rm 2) s m args below meth c (MQ below (mm_Qi G post) args s 0 0 (mm_A G)) G (mm_A G) 4 4 [(0, .ref (mm_ad G this)), (1, .int (mm_I a1)), (2, .int (mm_I v2)), (3, .int (mm_I v3))] [] u)
  have hw := hw (by
    intro v2 v3 s1 hw  H locs ls w hl
    refine lv_iload_n (pc := 4) C.1 C.2.1 dX6_freeAfter_4 rfl (lv_at hl 3 rfl) ?_
    refine lv_aload_n (pc := 5) C.1 C.2.1 dX6_freeAfter_5 rfl (lv_at hl 0 rfl) ?_
    refine g_geti (pc := 6) C w h0 ff_X6_8 lk_X6_38 dX6_freeAfter_6 ?_
    refine g_icmp_ge (pc := 9) (tgt := 51) C rfl rfl dX6_freeAfter_9 (by decide) (fun hc => ?_) (fun hc => ?_)
    · have hw := hw.1 hc
      refine lv_iload_n (pc := 51) C.1 C.2.1 dX6_freeAfter_51 rfl (lv_at hl 2 rfl) ?_
      exact g_iret (pc := 52) C w hr hk hw dX6_freeAfter_52
    · have hw := hw.2 hc
      refine lv_iload_n (pc := 12) C.1 C.2.1 dX6_freeAfter_12 rfl (lv_at hl 3 rfl) ?_
      refine lv_bipush (pc := 13) C.1 C.2.1 dX6_freeAfter_13 mb_8 ?_
      refine g_icmp_ge (pc := 15) (tgt := 51) C rfl mn_8 dX6_freeAfter_15 (by decide) (fun hc => ?_) (fun hc => ?_)
      · have hw := hw.1 hc
        refine lv_iload_n (pc := 51) C.1 C.2.1 dX6_freeAfter_51 rfl (lv_at hl 2 rfl) ?_
        exact g_iret (pc := 52) C w hr hk hw dX6_freeAfter_52
      · have hw := hw.2 hc
        refine lv_iload_n (pc := 18) C.1 C.2.1 dX6_freeAfter_18 rfl (lv_at hl 1 rfl) ?_
        refine lv_iload_n (pc := 19) C.1 C.2.1 dX6_freeAfter_19 rfl (lv_at hl 3 rfl) ?_
        refine g_ishr (pc := 20) C dX6_freeAfter_20 ?_
        refine lv_iconst (pc := 21) (v := mm_I 1) C.1 C.2.1 dX6_freeAfter_21 rfl ?_
        refine g_iand (pc := 22) C dX6_freeAfter_22 ?_
        refine lv_iconst (pc := 23) (v := mm_I 1) C.1 C.2.1 dX6_freeAfter_23 rfl ?_
        refine g_icmp_ne (pc := 24) (tgt := 45) C rfl mn_1 dX6_freeAfter_24 (by decide) (fun hc => ?_) (fun hc => ?_)
        · have hw := hw.1 hc
          refine g_iinc (pc := 45) (k := 3) C dX6_freeAfter_45 hl rfl (by decide) (fun v3_3 ev3_3 ls hl => ?_)
          have hw := hw v3_3 ev3_3
          have hl : lv_has ls 4 [(3, .int (mm_I v3_3)), (0, .ref (mm_ad G this)), (1, .int (mm_I a1)), (2, .int (mm_I v2))] := hl
          refine lv_goto (pc := 48) (tgt := 4) C.1 C.2.1 dX6_freeAfter_48 (by decide) ?_
          exact hw  _ _ _ w (lv_sub hl [1, 2, 3, 0] rfl)
        · have hw := hw.2 hc
          refine lv_iload_n (pc := 27) C.1 C.2.1 dX6_freeAfter_27 rfl (lv_at hl 2 rfl) ?_
          refine lv_aload_n (pc := 28) C.1 C.2.1 dX6_freeAfter_28 rfl (lv_at hl 0 rfl) ?_
          refine g_getr (pc := 29) C w h0 ff_X6_2 lk_X6_9 dX6_freeAfter_29 ?_
          refine lv_iload_n (pc := 32) C.1 C.2.1 dX6_freeAfter_32 rfl (lv_at hl 3 rfl) ?_
          obtain ⟨hi, hw⟩ := hw
          refine g_iald (pc := 33) C w (ro_X6_2 h0) hi dX6_freeAfter_33 ?_
          refine g_max (pc := 34) C hl.1 ml_X6_42 mv_max ⟨Nat.le_of_ble_eq_true rfl, Nat.le_of_ble_eq_true rfl⟩ ⟨Nat.le_of_ble_eq_true rfl, Nat.le_of_ble_eq_true rfl⟩ dX6_freeAfter_34 ?_
          refine lv_aload_n (pc := 37) C.1 C.2.1 dX6_freeAfter_37 rfl (lv_at hl 0 rfl) ?_
          refine g_getr (pc := 38) C w h0 ff_X6_3 lk_X6_15 dX6_freeAfter_38 ?_
          refine lv_iload_n (pc := 41) C.1 C.2.1 dX6_freeAfter_41 rfl (lv_at hl 3 rfl) ?_
          obtain ⟨hi, hw⟩ := hw
          refine g_iald (pc := 42) C w (ro_X6_3 h0) hi dX6_freeAfter_42 ?_
          refine g_iadd (pc := 43) C dX6_freeAfter_43 ?_
          refine g_istore_n (pc := 44) C dX6_freeAfter_44 rfl hl (by decide) (fun v2_4 ev2_4 ls hl => ?_)
          have hw := hw v2_4 ev2_4
          have hl : lv_has ls 4 [(2, .int (mm_I v2_4)), (0, .ref (mm_ad G this)), (1, .int (mm_I a1)), (3, .int (mm_I v3))] := hl
          refine g_iinc (pc := 45) (k := 3) C dX6_freeAfter_45 hl rfl (by decide) (fun v3_5 ev3_5 ls hl => ?_)
          have hw := hw v3_5 ev3_5
          have hl : lv_has ls 4 [(3, .int (mm_I v3_5)), (2, .int (mm_I v2_4)), (0, .ref (mm_ad G this)), (1, .int (mm_I a1))] := hl
          refine lv_goto (pc := 48) (tgt := 4) C.1 C.2.1 dX6_freeAfter_48 (by decide) ?_
          exact hw  _ _ _ w (lv_sub hl [2, 3, 1, 0] rfl))
  intro H locs ls w hl
  have hl : lv_has ls 4 [(0, .ref (mm_ad G this)), (1, .int (mm_I a1))] := hl
  refine lv_iconst (pc := 0) (v := mm_I 0) C.1 C.2.1 dX6_freeAfter_0 rfl ?_
  refine lv_istore_n (pc := 1) (lv' := [(2, .int (mm_I 0)), (0, .ref (mm_ad G this)), (1, .int (mm_I a1))]) C.1 C.2.1 dX6_freeAfter_1 rfl hl (by decide) rfl (fun ls hl => ?_)
  refine lv_iconst (pc := 2) (v := mm_I 0) C.1 C.2.1 dX6_freeAfter_2 rfl ?_
  refine lv_istore_n (pc := 3) (lv' := [(3, .int (mm_I 0)), (2, .int (mm_I 0)), (0, .ref (mm_ad G this)), (1, .int (mm_I a1))]) C.1 C.2.1 dX6_freeAfter_3 rfl hl (by decide) rfl (fun ls hl => ?_)
  exact hw  _ _ _ w (lv_sub hl [2, 3, 1, 0] rfl)
theorem cv_X6_freeAfter : mm_V yX6_freeAfter cX6_freeAfter 4 (some .int) 1 := ⟨(mt_5 29 rfl rfl), (mt_5 28 rfl rfl), (mp_3 5 rfl rfl), (mt_1 10 rfl rfl), by decide, by decide, by decide +kernel⟩
theorem ml_X6_97 : Cond.methodLink RX6 97 yX6_freeAfter ∈ mm_ws := (mt_5 26 rfl rfl)
theorem lk_X6_27 : Cond.fieldLink RX6 27 "LastServed$Row" "means" "[I" ∈ mm_ws := (mt_2 53 rfl rfl)
theorem ff_X6_7 : mm_F 6 7 1 RX6 TX6 9 := ⟨rfl, by decide, fk_X6, rfl, rfl⟩
theorem ro_X6_7 {i : Nat} (h : mm_ok i 16 0) : mm_ok (mm_rt i 7) 0 256 := by
  have q : ∀ i, i < mm_N → mm_kd i = 16 → mm_rt i 7 < mm_N ∧ mm_kd (mm_rt i 7) = 0 ∧ mm_ln (mm_rt i 7) = 256 := by decide +kernel
  exact q i h.1 h.2.1
def wp_X6_meanBehind (this : Nat) (a1 : Int) (s0 : mm_M) (post : Int → mm_M → Prop) : Prop :=
  ∀ (L19 : Int → Int → Int → Int → mm_M → Prop), ∀ (L83 : Int → Int → mm_M → Prop), 
  (∀ (v2 : Int) (v3 : Int) (v4 : Int) (v5 : Int) (s1 : mm_M), ((n32 (s1 this 8) ≤ n32 v5 → L83 v3 v4 s1) ∧ (¬ n32 (s1 this 8) ≤ n32 v5 → ((8 ≤ n32 v5 → L83 v3 v4 s1) ∧ (¬ 8 ≤ n32 v5 → (wp_X6_stands this v5 a1 v2 s1 (fun r_10 s_9 => ((n32 r_10 = 0 → (∀ v5_11 : Int, v5_11 = v5 + 1 → L19 v2 v3 v4 v5_11 s_9)) ∧ (¬ n32 r_10 = 0 → ((0 ≤ v5 ∧ v5 < 8) ∧ ((0 ≤ mm_or a1 (mm_shl 1 v5) ∧ mm_or a1 (mm_shl 1 v5) < 256) ∧ (∀ v3_12 : Int, v3_12 = v3 + ((1000 * (v2 - (s_9 (mm_rt this 2) v5))) + (s_9 (mm_rt this 7) (mm_or a1 (mm_shl 1 v5)))) → (∀ v4_13 : Int, v4_13 = v4 + 1 → (∀ v5_14 : Int, v5_14 = v5 + 1 → L19 v2 v3_12 v4_13 v5_14 s_9))))))))))))) → L19 v2 v3 v4 v5 s1) →
  (∀ (v3 : Int) (v4 : Int) (s1 : mm_M), ((¬ n32 v4 = 0 → (n32 v4 ≠ 0 ∧ post (Int.tdiv (n32 v3) (n32 v4)) s1)) ∧ (n32 v4 = 0 → post 0 s1)) → L83 v3 v4 s1) →
  (wp_X6_freeAfter this a1 s0 (fun r_2 s_1 => (wp_X6_whenServed this a1 r_2 s_1 (fun r_4 s_3 => (∀ v2_5 : Int, v2_5 = r_4 → L19 v2_5 0 0 0 s_3)))))
set_option maxRecDepth 100000 in
set_option maxHeartbeats 4000000 in
theorem c_X6_meanBehind (l : Launch) (G : mm_G) (this : Nat) (a1 : Int) (h0 : mm_ok this 16 0) (s0 : mm_M) (post : Int → mm_M → Prop) (hw : wp_X6_meanBehind this a1 s0 post) : Met l yX6_meanBehind (mm_wm yX6_meanBehind cX6_meanBehind 6 (some .int)) (mm_rm 3) (va_Pc [.ref (mm_ad G this), .int (mm_I a1)] (mm_pre G s0)) (mm_Qi G post) 0 0 (mm_A G) := by
  refine mm_met (own := RX6) (by decide) rfl (Nat.le_of_ble_eq_true rfl) ?_
  intro p e s m args below meth c C hr hk
  unfold wp_X6_meanBehind at hw
  have hw := hw (fun (v2 : Int) (v3 : Int) (v4 : Int) (v5 : Int) (u : mm_M) => mm_X p l e (mm_rm 3) s m args below meth c (MQ below (mm_Qi G post) args s 0 0 (mm_A G)) G (mm_A G) 6 19 [(0, .ref (mm_ad G this)), (1, .int (mm_I a1)), (2, .int (mm_I v2)), (3, .int (mm_I v3)), (4, .int (mm_I v4)), (5, .int (mm_I v5))] [] u)
  have hw := hw (fun (v3 : Int) (v4 : Int) (u : mm_M) => mm_X p l e (mm_rm 3) s m args below meth c (MQ below (mm_Qi G post) args s 0 0 (mm_A G)) G (mm_A G) 6 83 [(3, .int (mm_I v3)), (4, .int (mm_I v4))] [] u)
  have hw := hw (by
    intro v2 v3 v4 v5 s1 hw  H locs ls w hl
    refine lv_iload (pc := 19) C.1 C.2.1 dX6_meanBehind_19 (lv_at hl 5 rfl) ?_
    refine lv_aload_n (pc := 21) C.1 C.2.1 dX6_meanBehind_21 rfl (lv_at hl 0 rfl) ?_
    refine g_geti (pc := 22) C w h0 ff_X6_8 lk_X6_38 dX6_meanBehind_22 ?_
    refine g_icmp_ge (pc := 25) (tgt := 83) C rfl rfl dX6_meanBehind_25 (by decide) (fun hc => ?_) (fun hc => ?_)
    · have hw := hw.1 hc
      exact hw  _ _ _ w (lv_sub hl [3, 4] rfl)
    · have hw := hw.2 hc
      refine lv_iload (pc := 28) C.1 C.2.1 dX6_meanBehind_28 (lv_at hl 5 rfl) ?_
      refine lv_bipush (pc := 30) C.1 C.2.1 dX6_meanBehind_30 mb_8 ?_
      refine g_icmp_ge (pc := 32) (tgt := 83) C rfl mn_8 dX6_meanBehind_32 (by decide) (fun hc => ?_) (fun hc => ?_)
      · have hw := hw.1 hc
        exact hw  _ _ _ w (lv_sub hl [3, 4] rfl)
      · have hw := hw.2 hc
        refine lv_aload_n (pc := 35) C.1 C.2.1 dX6_meanBehind_35 rfl (lv_at hl 0 rfl) ?_
        refine lv_iload (pc := 36) C.1 C.2.1 dX6_meanBehind_36 (lv_at hl 5 rfl) ?_
        refine lv_iload_n (pc := 38) C.1 C.2.1 dX6_meanBehind_38 rfl (lv_at hl 1 rfl) ?_
        refine lv_iload_n (pc := 39) C.1 C.2.1 dX6_meanBehind_39 rfl (lv_at hl 2 rfl) ?_
        refine g_calli (pc := 40) w (mm_runV (ci := 6) (q := (RX6, TX6, 9)) (As := [.int (mm_I v5), .int (mm_I a1), .int (mm_I v2)]) (rest := []) C w (c_X6_stands l G this v5 a1 v2 h0 s1 _ hw) h0 rfl rfl cv_X6_stands ml_X6_69 ⟨Nat.le_of_ble_eq_true rfl, Nat.le_of_ble_eq_true rfl⟩ ⟨Nat.le_of_ble_eq_true rfl, Nat.le_of_ble_eq_true rfl⟩ rfl hl.1 rfl (Nat.le_of_ble_eq_true rfl) dX6_meanBehind_40) (fun r_10 s_9 H locs hw w => ?_)
        refine g_if_eq (pc := 43) (tgt := 77) C rfl dX6_meanBehind_43 (by decide) (fun hc => ?_) (fun hc => ?_)
        · have hw := hw.1 hc
          refine g_iinc (pc := 77) (k := 5) C dX6_meanBehind_77 hl rfl (by decide) (fun v5_11 ev5_11 ls hl => ?_)
          have hw := hw v5_11 ev5_11
          have hl : lv_has ls 6 [(5, .int (mm_I v5_11)), (0, .ref (mm_ad G this)), (1, .int (mm_I a1)), (2, .int (mm_I v2)), (3, .int (mm_I v3)), (4, .int (mm_I v4))] := hl
          refine lv_goto (pc := 80) (tgt := 19) C.1 C.2.1 dX6_meanBehind_80 (by decide) ?_
          exact hw  _ _ _ w (lv_sub hl [1, 2, 3, 4, 5, 0] rfl)
        · have hw := hw.2 hc
          refine lv_iload_n (pc := 46) C.1 C.2.1 dX6_meanBehind_46 rfl (lv_at hl 3 rfl) ?_
          refine lv_sipush (pc := 47) C.1 C.2.1 dX6_meanBehind_47 ms_1000 ?_
          refine lv_iload_n (pc := 50) C.1 C.2.1 dX6_meanBehind_50 rfl (lv_at hl 2 rfl) ?_
          refine lv_aload_n (pc := 51) C.1 C.2.1 dX6_meanBehind_51 rfl (lv_at hl 0 rfl) ?_
          refine g_getr (pc := 52) C w h0 ff_X6_2 lk_X6_9 dX6_meanBehind_52 ?_
          refine lv_iload (pc := 55) C.1 C.2.1 dX6_meanBehind_55 (lv_at hl 5 rfl) ?_
          obtain ⟨hi, hw⟩ := hw
          refine g_iald (pc := 57) C w (ro_X6_2 h0) hi dX6_meanBehind_57 ?_
          refine g_isub (pc := 58) C dX6_meanBehind_58 ?_
          refine g_imul (pc := 59) C dX6_meanBehind_59 ?_
          refine lv_aload_n (pc := 60) C.1 C.2.1 dX6_meanBehind_60 rfl (lv_at hl 0 rfl) ?_
          refine g_getr (pc := 61) C w h0 ff_X6_7 lk_X6_27 dX6_meanBehind_61 ?_
          refine lv_iload_n (pc := 64) C.1 C.2.1 dX6_meanBehind_64 rfl (lv_at hl 1 rfl) ?_
          refine lv_iconst (pc := 65) (v := mm_I 1) C.1 C.2.1 dX6_meanBehind_65 rfl ?_
          refine lv_iload (pc := 66) C.1 C.2.1 dX6_meanBehind_66 (lv_at hl 5 rfl) ?_
          refine g_ishl (pc := 68) C dX6_meanBehind_68 ?_
          refine g_ior (pc := 69) C dX6_meanBehind_69 ?_
          obtain ⟨hi, hw⟩ := hw
          refine g_iald (pc := 70) C w (ro_X6_7 h0) hi dX6_meanBehind_70 ?_
          refine g_iadd (pc := 71) C dX6_meanBehind_71 ?_
          refine g_iadd (pc := 72) C dX6_meanBehind_72 ?_
          refine g_istore_n (pc := 73) C dX6_meanBehind_73 rfl hl (by decide) (fun v3_12 ev3_12 ls hl => ?_)
          have hw := hw v3_12 ev3_12
          have hl : lv_has ls 6 [(3, .int (mm_I v3_12)), (0, .ref (mm_ad G this)), (1, .int (mm_I a1)), (2, .int (mm_I v2)), (4, .int (mm_I v4)), (5, .int (mm_I v5))] := hl
          refine g_iinc (pc := 74) (k := 4) C dX6_meanBehind_74 hl rfl (by decide) (fun v4_13 ev4_13 ls hl => ?_)
          have hw := hw v4_13 ev4_13
          have hl : lv_has ls 6 [(4, .int (mm_I v4_13)), (3, .int (mm_I v3_12)), (0, .ref (mm_ad G this)), (1, .int (mm_I a1)), (2, .int (mm_I v2)), (5, .int (mm_I v5))] := hl
          refine g_iinc (pc := 77) (k := 5) C dX6_meanBehind_77 hl rfl (by decide) (fun v5_14 ev5_14 ls hl => ?_)
          have hw := hw v5_14 ev5_14
          have hl : lv_has ls 6 [(5, .int (mm_I v5_14)), (4, .int (mm_I v4_13)), (3, .int (mm_I v3_12)), (0, .ref (mm_ad G this)), (1, .int (mm_I a1)), (2, .int (mm_I v2))] := hl
          refine lv_goto (pc := 80) (tgt := 19) C.1 C.2.1 dX6_meanBehind_80 (by decide) ?_
          exact hw  _ _ _ w (lv_sub hl [3, 4, 5, 2, 1, 0] rfl))
  have hw := hw (by
    intro v3 v4 s1 hw  H locs ls w hl
    refine lv_iload (pc := 83) C.1 C.2.1 dX6_meanBehind_83 (lv_at hl 1 rfl) ?_
    refine g_if_ne (pc := 85) (tgt := 92) C rfl dX6_meanBehind_85 (by decide) (fun hc => ?_) (fun hc => ?_)
    · have hw := hw.1 hc
      refine lv_iload_n (pc := 92) C.1 C.2.1 dX6_meanBehind_92 rfl (lv_at hl 0 rfl) ?_
      refine lv_iload (pc := 93) C.1 C.2.1 dX6_meanBehind_93 (lv_at hl 1 rfl) ?_
      obtain ⟨hz, hw⟩ := hw
      refine g_idiv (pc := 95) C rfl rfl hz dX6_meanBehind_95 ?_
      exact g_iret (pc := 96) C w hr hk hw dX6_meanBehind_96
    · have hw := hw.2 hc
      refine lv_iconst (pc := 88) (v := mm_I 0) C.1 C.2.1 dX6_meanBehind_88 rfl ?_
      refine lv_goto (pc := 89) (tgt := 96) C.1 C.2.1 dX6_meanBehind_89 (by decide) ?_
      exact g_iret (pc := 96) C w hr hk hw dX6_meanBehind_96)
  intro H locs ls w hl
  have hl : lv_has ls 6 [(0, .ref (mm_ad G this)), (1, .int (mm_I a1))] := hl
  refine lv_aload_n (pc := 0) C.1 C.2.1 dX6_meanBehind_0 rfl (lv_at hl 0 rfl) ?_
  refine lv_iload_n (pc := 1) C.1 C.2.1 dX6_meanBehind_1 rfl (lv_at hl 1 rfl) ?_
  refine lv_aload_n (pc := 2) C.1 C.2.1 dX6_meanBehind_2 rfl (lv_at hl 0 rfl) ?_
  refine lv_iload_n (pc := 3) C.1 C.2.1 dX6_meanBehind_3 rfl (lv_at hl 1 rfl) ?_
  refine g_calli (pc := 4) w (mm_runV (ci := 6) (q := (RX6, TX6, 9)) (As := [.int (mm_I a1)]) (rest := [.int (mm_I a1), .ref (mm_ad G this)]) C w (c_X6_freeAfter l G this a1 h0 s0 _ hw) h0 rfl rfl cv_X6_freeAfter ml_X6_97 ⟨Nat.le_of_ble_eq_true rfl, Nat.le_of_ble_eq_true rfl⟩ ⟨Nat.le_of_ble_eq_true rfl, Nat.le_of_ble_eq_true rfl⟩ rfl hl.1 rfl (Nat.le_of_ble_eq_true rfl) dX6_meanBehind_4) (fun r_2 s_1 H locs hw w => ?_)
  refine g_calli (pc := 7) w (mm_runV (ci := 6) (q := (RX6, TX6, 9)) (As := [.int (mm_I a1), .int (mm_I r_2)]) (rest := []) C w (c_X6_whenServed l G this a1 r_2 h0 s_1 _ hw) h0 rfl rfl cv_X6_whenServed ml_X6_56 ⟨Nat.le_of_ble_eq_true rfl, Nat.le_of_ble_eq_true rfl⟩ ⟨Nat.le_of_ble_eq_true rfl, Nat.le_of_ble_eq_true rfl⟩ rfl hl.1 rfl (Nat.le_of_ble_eq_true rfl) dX6_meanBehind_7) (fun r_4 s_3 H locs hw w => ?_)
  refine g_istore_n (pc := 10) C dX6_meanBehind_10 rfl hl (by decide) (fun v2_5 ev2_5 ls hl => ?_)
  have hw := hw v2_5 ev2_5
  have hl : lv_has ls 6 [(2, .int (mm_I v2_5)), (0, .ref (mm_ad G this)), (1, .int (mm_I a1))] := hl
  refine lv_iconst (pc := 11) (v := mm_I 0) C.1 C.2.1 dX6_meanBehind_11 rfl ?_
  refine lv_istore_n (pc := 12) (lv' := [(3, .int (mm_I 0)), (2, .int (mm_I v2_5)), (0, .ref (mm_ad G this)), (1, .int (mm_I a1))]) C.1 C.2.1 dX6_meanBehind_12 rfl hl (by decide) rfl (fun ls hl => ?_)
  refine lv_iconst (pc := 13) (v := mm_I 0) C.1 C.2.1 dX6_meanBehind_13 rfl ?_
  refine lv_istore (pc := 14) (lv' := [(4, .int (mm_I 0)), (3, .int (mm_I 0)), (2, .int (mm_I v2_5)), (0, .ref (mm_ad G this)), (1, .int (mm_I a1))]) C.1 C.2.1 dX6_meanBehind_14 hl (by decide) rfl (fun ls hl => ?_)
  refine lv_iconst (pc := 16) (v := mm_I 0) C.1 C.2.1 dX6_meanBehind_16 rfl ?_
  refine lv_istore (pc := 17) (lv' := [(5, .int (mm_I 0)), (4, .int (mm_I 0)), (3, .int (mm_I 0)), (2, .int (mm_I v2_5)), (0, .ref (mm_ad G this)), (1, .int (mm_I a1))]) C.1 C.2.1 dX6_meanBehind_17 hl (by decide) rfl (fun ls hl => ?_)
  exact hw  _ _ _ w (lv_sub hl [4, 5, 3, 2, 1, 0] rfl)
theorem ml_X6_90 : Cond.methodLink RX6 90 Lib.Math.min.name ∈ mm_ws := (mt_5 21 rfl rfl)
theorem cv_X6_meanBehind : mm_V yX6_meanBehind cX6_meanBehind 6 (some .int) 1 := ⟨(mt_5 25 rfl rfl), (mt_5 24 rfl rfl), (mp_3 4 rfl rfl), (mt_1 10 rfl rfl), by decide, by decide, by decide +kernel⟩
theorem ml_X6_93 : Cond.methodLink RX6 93 yX6_meanBehind ∈ mm_ws := (mt_5 22 rfl rfl)
def wp_X6_meanByLot (this : Nat) (s0 : mm_M) (post : Int → mm_M → Prop) : Prop :=
  ∀ (L25 : Int → mm_M → Prop), 
  (∀ (v2 : Int) (s1 : mm_M), ((n32 v2 < 0 → post (s1 (mm_rt this 7) 0) s1) ∧ (¬ n32 v2 < 0 → (wp_X6_meanBehind this v2 s1 (fun r_5 s_4 => ((0 ≤ v2 ∧ v2 < 256) ∧ (∀ s_6 : mm_M, s_6 = mm_up s_4 (mm_rt this 7) v2 r_5 → (∀ v2_7 : Int, v2_7 = v2 + (-1) → L25 v2_7 s_6))))))) → L25 v2 s1) →
  (∀ v1_1 : Int, v1_1 = (mm_shl 1 (mm_min (s0 this 8) 8)) - 1 → ((0 ≤ v1_1 ∧ v1_1 < 256) ∧ (∀ s_2 : mm_M, s_2 = mm_up s0 (mm_rt this 7) v1_1 0 → (∀ v2_3 : Int, v2_3 = v1_1 - 1 → L25 v2_3 s_2))))
set_option maxRecDepth 100000 in
set_option maxHeartbeats 4000000 in
theorem c_X6_meanByLot (l : Launch) (G : mm_G) (this : Nat) (h0 : mm_ok this 16 0) (s0 : mm_M) (post : Int → mm_M → Prop) (hw : wp_X6_meanByLot this s0 post) : Met l yX6_meanByLot (mm_wm yX6_meanByLot cX6_meanByLot 3 (some .int)) (mm_rm 4) (va_Pc [.ref (mm_ad G this)] (mm_pre G s0)) (mm_Qi G post) 0 0 (mm_A G) := by
  refine mm_met (own := RX6) (by decide) rfl (Nat.le_of_ble_eq_true rfl) ?_
  intro p e s m args below meth c C hr hk
  unfold wp_X6_meanByLot at hw
  have hw := hw (fun (v2 : Int) (u : mm_M) => mm_X p l e (mm_rm 4) s m args below meth c (MQ below (mm_Qi G post) args s 0 0 (mm_A G)) G (mm_A G) 3 25 [(0, .ref (mm_ad G this)), (2, .int (mm_I v2))] [] u)
  have hw := hw (by
    intro v2 s1 hw  H locs ls w hl
    refine lv_iload_n (pc := 25) C.1 C.2.1 dX6_meanByLot_25 rfl (lv_at hl 1 rfl) ?_
    refine g_if_lt (pc := 26) (tgt := 46) C rfl dX6_meanByLot_26 (by decide) (fun hc => ?_) (fun hc => ?_)
    · have hw := hw.1 hc
      refine lv_aload_n (pc := 46) C.1 C.2.1 dX6_meanByLot_46 rfl (lv_at hl 0 rfl) ?_
      refine g_getr (pc := 47) C w h0 ff_X6_7 lk_X6_27 dX6_meanByLot_47 ?_
      refine lv_iconst (pc := 50) (v := mm_I 0) C.1 C.2.1 dX6_meanByLot_50 rfl ?_
      refine g_iald (pc := 51) C w (ro_X6_7 h0) ⟨by decide, by decide⟩ dX6_meanByLot_51 ?_
      exact g_iret (pc := 52) C w hr hk hw dX6_meanByLot_52
    · have hw := hw.2 hc
      refine lv_aload_n (pc := 29) C.1 C.2.1 dX6_meanByLot_29 rfl (lv_at hl 0 rfl) ?_
      refine g_getr (pc := 30) C w h0 ff_X6_7 lk_X6_27 dX6_meanByLot_30 ?_
      refine lv_iload_n (pc := 33) C.1 C.2.1 dX6_meanByLot_33 rfl (lv_at hl 1 rfl) ?_
      refine lv_aload_n (pc := 34) C.1 C.2.1 dX6_meanByLot_34 rfl (lv_at hl 0 rfl) ?_
      refine lv_iload_n (pc := 35) C.1 C.2.1 dX6_meanByLot_35 rfl (lv_at hl 1 rfl) ?_
      refine g_calli (pc := 36) w (mm_runV (ci := 6) (q := (RX6, TX6, 9)) (As := [.int (mm_I v2)]) (rest := [.int (mm_I v2), .ref (mm_ad G (mm_rt this 7))]) C w (c_X6_meanBehind l G this v2 h0 s1 _ hw) h0 rfl rfl cv_X6_meanBehind ml_X6_93 ⟨Nat.le_of_ble_eq_true rfl, Nat.le_of_ble_eq_true rfl⟩ ⟨Nat.le_of_ble_eq_true rfl, Nat.le_of_ble_eq_true rfl⟩ rfl hl.1 rfl (Nat.le_of_ble_eq_true rfl) dX6_meanByLot_36) (fun r_5 s_4 H locs hw w => ?_)
      obtain ⟨hi, hw⟩ := hw
      refine g_iast (pc := 39) C w (ro_X6_7 h0) hi  dX6_meanByLot_39 (fun s_6 H locs es_6 w => ?_)
      have hw := hw s_6 es_6
      refine g_iinc (pc := 40) (k := 1) C dX6_meanByLot_40 hl rfl (by decide) (fun v2_7 ev2_7 ls hl => ?_)
      have hw := hw v2_7 ev2_7
      have hl : lv_has ls 3 [(2, .int (mm_I v2_7)), (0, .ref (mm_ad G this))] := hl
      refine lv_goto (pc := 43) (tgt := 25) C.1 C.2.1 dX6_meanByLot_43 (by decide) ?_
      exact hw  _ _ _ w (lv_sub hl [1, 0] rfl))
  intro H locs ls w hl
  have hl : lv_has ls 3 [(0, .ref (mm_ad G this))] := hl
  refine lv_iconst (pc := 0) (v := mm_I 1) C.1 C.2.1 dX6_meanByLot_0 rfl ?_
  refine lv_aload_n (pc := 1) C.1 C.2.1 dX6_meanByLot_1 rfl (lv_at hl 0 rfl) ?_
  refine g_geti (pc := 2) C w h0 ff_X6_8 lk_X6_38 dX6_meanByLot_2 ?_
  refine lv_bipush (pc := 5) C.1 C.2.1 dX6_meanByLot_5 mb_8 ?_
  refine g_min (pc := 7) C hl.1 ml_X6_90 mv_min ⟨Nat.le_of_ble_eq_true rfl, Nat.le_of_ble_eq_true rfl⟩ ⟨Nat.le_of_ble_eq_true rfl, Nat.le_of_ble_eq_true rfl⟩ dX6_meanByLot_7 ?_
  refine g_ishl (pc := 10) C dX6_meanByLot_10 ?_
  refine lv_iconst (pc := 11) (v := mm_I 1) C.1 C.2.1 dX6_meanByLot_11 rfl ?_
  refine g_isub (pc := 12) C dX6_meanByLot_12 ?_
  refine g_istore_n (pc := 13) C dX6_meanByLot_13 rfl hl (by decide) (fun v1_1 ev1_1 ls hl => ?_)
  have hw := hw v1_1 ev1_1
  have hl : lv_has ls 3 [(1, .int (mm_I v1_1)), (0, .ref (mm_ad G this))] := hl
  refine lv_aload_n (pc := 14) C.1 C.2.1 dX6_meanByLot_14 rfl (lv_at hl 1 rfl) ?_
  refine g_getr (pc := 15) C w h0 ff_X6_7 lk_X6_27 dX6_meanByLot_15 ?_
  refine lv_iload_n (pc := 18) C.1 C.2.1 dX6_meanByLot_18 rfl (lv_at hl 0 rfl) ?_
  refine lv_iconst (pc := 19) (v := mm_I 0) C.1 C.2.1 dX6_meanByLot_19 rfl ?_
  obtain ⟨hi, hw⟩ := hw
  refine g_iast (pc := 20) C w (ro_X6_7 h0) hi  dX6_meanByLot_20 (fun s_2 H locs es_2 w => ?_)
  have hw := hw s_2 es_2
  refine lv_iload_n (pc := 21) C.1 C.2.1 dX6_meanByLot_21 rfl (lv_at hl 0 rfl) ?_
  refine lv_iconst (pc := 22) (v := mm_I 1) C.1 C.2.1 dX6_meanByLot_22 rfl ?_
  refine g_isub (pc := 23) C dX6_meanByLot_23 ?_
  refine g_istore_n (pc := 24) C dX6_meanByLot_24 rfl hl (by decide) (fun v2_3 ev2_3 ls hl => ?_)
  have hw := hw v2_3 ev2_3
  have hl : lv_has ls 3 [(2, .int (mm_I v2_3)), (1, .int (mm_I v1_1)), (0, .ref (mm_ad G this))] := hl
  exact hw  _ _ _ w (lv_sub hl [2, 0] rfl)
theorem cv_X6_serveAll : mm_V yX6_serveAll cX6_serveAll 6 none 1 := ⟨(mt_4 212 rfl rfl), (mt_4 210 rfl rfl), (mt_4 211 rfl rfl), (mt_1 10 rfl rfl), by decide, by decide, by decide +kernel⟩
theorem ml_X6_100 : Cond.methodLink RX6 100 yX6_serveAll ∈ mm_ws := (mt_5 38 rfl rfl)
theorem cv_X6_longest : mm_V yX6_longest cX6_longest 3 (some .int) 0 := ⟨(mt_5 12 rfl rfl), (mt_5 10 rfl rfl), (mt_5 11 rfl rfl), (mt_1 10 rfl rfl), by decide, by decide, by decide +kernel⟩
theorem ml_X6_104 : Cond.methodLink RX6 104 yX6_longest ∈ mm_ws := (mt_5 39 rfl rfl)
def wp_X6_bestLaw (this : Nat) (s0 : mm_M) (post : Int → mm_M → Prop) : Prop :=
  ∀ (L9 : Int → Int → Int → Int → mm_M → Prop), ∀ (L37 : Int → Int → Int → Int → mm_M → Prop), ∀ (L78 : Int → Int → Int → Int → Int → Int → Int → mm_M → Prop), 
  (∀ (v1 : Int) (v2 : Int) (v3 : Int) (v4 : Int) (s1 : mm_M), ((8 < n32 v4 → post v1 s1) ∧ (¬ 8 < n32 v4 → ((n32 v4 ≤ 2 → L37 v1 v2 v3 v4 s1) ∧ (¬ n32 v4 ≤ 2 → (wp_X3_isTold (mm_rt this 0) v4 s1 (fun r_6 s_5 => ((¬ n32 r_6 = 0 → L37 v1 v2 v3 v4 s_5) ∧ (n32 r_6 = 0 → (∀ v4_7 : Int, v4_7 = v4 + 1 → L9 v1 v2 v3 v4_7 s_5))))))))) → L9 v1 v2 v3 v4 s1) →
  (∀ (v1 : Int) (v2 : Int) (v3 : Int) (v4 : Int) (s1 : mm_M), (wp_X6_serveAll this v4 s1 (fun s_8 => (wp_X6_together this s_8 (fun r_11 s_10 => (∀ v5_12 : Int, v5_12 = r_11 → (wp_X6_longest this s_10 (fun r_14 s_13 => (∀ v6_15 : Int, v6_15 = r_14 → ((n32 v5_12 < n32 v2 → L78 v1 v2 v3 v4 v5_12 v6_15 1 s_13) ∧ (¬ n32 v5_12 < n32 v2 → ((¬ n32 v5_12 = n32 v2 → L78 v1 v2 v3 v4 v5_12 v6_15 0 s_13) ∧ (n32 v5_12 = n32 v2 → ((n32 v3 ≤ n32 v6_15 → L78 v1 v2 v3 v4 v5_12 v6_15 0 s_13) ∧ (¬ n32 v3 ≤ n32 v6_15 → L78 v1 v2 v3 v4 v5_12 v6_15 1 s_13)))))))))))))) → L37 v1 v2 v3 v4 s1) →
  (∀ (v1 : Int) (v2 : Int) (v3 : Int) (v4 : Int) (v5 : Int) (v6 : Int) (q0 : Int) (s1 : mm_M), (∀ v7_16 : Int, v7_16 = q0 → ((n32 v1 = (-1) → (∀ v1_17 : Int, v1_17 = v4 → (∀ v2_18 : Int, v2_18 = v5 → (∀ v3_19 : Int, v3_19 = v6 → (∀ v4_20 : Int, v4_20 = v4 + 1 → L9 v1_17 v2_18 v3_19 v4_20 s1))))) ∧ (¬ n32 v1 = (-1) → ((n32 v7_16 = 0 → (∀ v4_21 : Int, v4_21 = v4 + 1 → L9 v1 v2 v3 v4_21 s1)) ∧ (¬ n32 v7_16 = 0 → (∀ v1_22 : Int, v1_22 = v4 → (∀ v2_23 : Int, v2_23 = v5 → (∀ v3_24 : Int, v3_24 = v6 → (∀ v4_25 : Int, v4_25 = v4 + 1 → L9 v1_22 v2_23 v3_24 v4_25 s1))))))))) → L78 v1 v2 v3 v4 v5 v6 q0 s1) →
  L9 (-1) 0 0 0 s0
set_option maxRecDepth 100000 in
set_option maxHeartbeats 4000000 in
theorem c_X6_bestLaw (l : Launch) (G : mm_G) (this : Nat) (h0 : mm_ok this 16 0) (s0 : mm_M) (post : Int → mm_M → Prop) (hw : wp_X6_bestLaw this s0 post) : Met l yX6_bestLaw (mm_wm yX6_bestLaw cX6_bestLaw 8 (some .int)) (mm_rm 7) (va_Pc [.ref (mm_ad G this)] (mm_pre G s0)) (mm_Qi G post) 0 0 (mm_A G) := by
  refine mm_met (own := RX6) (by decide) rfl (Nat.le_of_ble_eq_true rfl) ?_
  intro p e s m args below meth c C hr hk
  unfold wp_X6_bestLaw at hw
  have hw := hw (fun (v1 : Int) (v2 : Int) (v3 : Int) (v4 : Int) (u : mm_M) => mm_X p l e (mm_rm 7) s m args below meth c (MQ below (mm_Qi G post) args s 0 0 (mm_A G)) G (mm_A G) 8 9 [(0, .ref (mm_ad G this)), (1, .int (mm_I v1)), (2, .int (mm_I v2)), (3, .int (mm_I v3)), (4, .int (mm_I v4))] [] u)
  have hw := hw (fun (v1 : Int) (v2 : Int) (v3 : Int) (v4 : Int) (u : mm_M) => mm_X p l e (mm_rm 7) s m args below meth c (MQ below (mm_Qi G post) args s 0 0 (mm_A G)) G (mm_A G) 8 37 [(0, .ref (mm_ad G this)), (1, .int (mm_I v1)), (2, .int (mm_I v2)), (3, .int (mm_I v3)), (4, .int (mm_I v4))] [] u)
  have hw := hw (fun (v1 : Int) (v2 : Int) (v3 : Int) (v4 : Int) (v5 : Int) (v6 : Int) (q0 : Int) (u : mm_M) => mm_X p l e (mm_rm 7) s m args below meth c (MQ below (mm_Qi G post) args s 0 0 (mm_A G)) G (mm_A G) 8 78 [(0, .ref (mm_ad G this)), (1, .int (mm_I v1)), (2, .int (mm_I v2)), (3, .int (mm_I v3)), (4, .int (mm_I v4)), (5, .int (mm_I v5)), (6, .int (mm_I v6))] [.int (mm_I q0)] u)
  have hw := hw (by
    intro v1 v2 v3 v4 s1 hw  H locs ls w hl
    refine lv_iload (pc := 9) C.1 C.2.1 dX6_bestLaw_9 (lv_at hl 4 rfl) ?_
    refine lv_bipush (pc := 11) C.1 C.2.1 dX6_bestLaw_11 mb_8 ?_
    refine g_icmp_gt (pc := 13) (tgt := 105) C rfl mn_8 dX6_bestLaw_13 (by decide) (fun hc => ?_) (fun hc => ?_)
    · have hw := hw.1 hc
      refine lv_iload_n (pc := 105) C.1 C.2.1 dX6_bestLaw_105 rfl (lv_at hl 1 rfl) ?_
      exact g_iret (pc := 106) C w hr hk hw dX6_bestLaw_106
    · have hw := hw.2 hc
      refine lv_iload (pc := 16) C.1 C.2.1 dX6_bestLaw_16 (lv_at hl 4 rfl) ?_
      refine lv_iconst (pc := 18) (v := mm_I 2) C.1 C.2.1 dX6_bestLaw_18 rfl ?_
      refine g_icmp_le (pc := 19) (tgt := 37) C rfl mn_2 dX6_bestLaw_19 (by decide) (fun hc => ?_) (fun hc => ?_)
      · have hw := hw.1 hc
        exact hw  _ _ _ w (lv_sub hl [0, 1, 2, 3, 4] rfl)
      · have hw := hw.2 hc
        refine lv_aload_n (pc := 22) C.1 C.2.1 dX6_bestLaw_22 rfl (lv_at hl 0 rfl) ?_
        refine g_getr (pc := 23) C w h0 ff_X6_0 lk_X6_30 dX6_bestLaw_23 ?_
        refine lv_iload (pc := 26) C.1 C.2.1 dX6_bestLaw_26 (lv_at hl 4 rfl) ?_
        refine g_calli (pc := 28) w (mm_runV (ci := 3) (q := (RX3, TX3, 7)) (As := [.int (mm_I v4)]) (rest := []) C w (c_X3_isTold l G (mm_rt this 0) v4 (ro_X6_0 h0) s1 _ hw) (ro_X6_0 h0) rfl rfl cv_X3_isTold ml_X6_77 ⟨Nat.le_of_ble_eq_true rfl, Nat.le_of_ble_eq_true rfl⟩ ⟨Nat.le_of_ble_eq_true rfl, Nat.le_of_ble_eq_true rfl⟩ rfl hl.1 rfl (Nat.le_of_ble_eq_true rfl) dX6_bestLaw_28) (fun r_6 s_5 H locs hw w => ?_)
        refine g_if_ne (pc := 31) (tgt := 37) C rfl dX6_bestLaw_31 (by decide) (fun hc => ?_) (fun hc => ?_)
        · have hw := hw.1 hc
          exact hw  _ _ _ w (lv_sub hl [0, 1, 2, 3, 4] rfl)
        · have hw := hw.2 hc
          refine lv_goto (pc := 34) (tgt := 99) C.1 C.2.1 dX6_bestLaw_34 (by decide) ?_
          refine g_iinc (pc := 99) (k := 4) C dX6_bestLaw_99 hl rfl (by decide) (fun v4_7 ev4_7 ls hl => ?_)
          have hw := hw v4_7 ev4_7
          have hl : lv_has ls 8 [(4, .int (mm_I v4_7)), (0, .ref (mm_ad G this)), (1, .int (mm_I v1)), (2, .int (mm_I v2)), (3, .int (mm_I v3))] := hl
          refine lv_goto (pc := 102) (tgt := 9) C.1 C.2.1 dX6_bestLaw_102 (by decide) ?_
          exact hw  _ _ _ w (lv_sub hl [1, 2, 3, 4, 0] rfl))
  have hw := hw (by
    intro v1 v2 v3 v4 s1 hw  H locs ls w hl
    refine lv_aload_n (pc := 37) C.1 C.2.1 dX6_bestLaw_37 rfl (lv_at hl 0 rfl) ?_
    refine lv_iload (pc := 38) C.1 C.2.1 dX6_bestLaw_38 (lv_at hl 4 rfl) ?_
    refine g_callv (pc := 40) w (mm_runV (ci := 6) (q := (RX6, TX6, 9)) (As := [.int (mm_I v4)]) (rest := []) C w (c_X6_serveAll l G this v4 h0 s1 _ hw) h0 rfl rfl cv_X6_serveAll ml_X6_100 ⟨Nat.le_of_ble_eq_true rfl, Nat.le_of_ble_eq_true rfl⟩ ⟨Nat.le_of_ble_eq_true rfl, Nat.le_of_ble_eq_true rfl⟩ rfl hl.1 rfl (Nat.le_of_ble_eq_true rfl) dX6_bestLaw_40) (fun s_8 H locs hw w => ?_)
    refine lv_aload_n (pc := 43) C.1 C.2.1 dX6_bestLaw_43 rfl (lv_at hl 0 rfl) ?_
    refine g_calli (pc := 44) w (mm_runV (ci := 6) (q := (RX6, TX6, 9)) (As := []) (rest := []) C w (c_X6_together l G this h0 s_8 _ hw) h0 rfl rfl cv_X6_together ml_X6_48 ⟨Nat.le_of_ble_eq_true rfl, Nat.le_of_ble_eq_true rfl⟩ ⟨Nat.le_of_ble_eq_true rfl, Nat.le_of_ble_eq_true rfl⟩ rfl hl.1 rfl (Nat.le_of_ble_eq_true rfl) dX6_bestLaw_44) (fun r_11 s_10 H locs hw w => ?_)
    refine g_istore (pc := 47) C dX6_bestLaw_47 hl (by decide) (fun v5_12 ev5_12 ls hl => ?_)
    have hw := hw v5_12 ev5_12
    have hl : lv_has ls 8 [(5, .int (mm_I v5_12)), (0, .ref (mm_ad G this)), (1, .int (mm_I v1)), (2, .int (mm_I v2)), (3, .int (mm_I v3)), (4, .int (mm_I v4))] := hl
    refine lv_aload_n (pc := 49) C.1 C.2.1 dX6_bestLaw_49 rfl (lv_at hl 1 rfl) ?_
    refine g_calli (pc := 50) w (mm_runV (ci := 6) (q := (RX6, TX6, 9)) (As := []) (rest := []) C w (c_X6_longest l G this h0 s_10 _ hw) h0 rfl rfl cv_X6_longest ml_X6_104 ⟨Nat.le_of_ble_eq_true rfl, Nat.le_of_ble_eq_true rfl⟩ ⟨Nat.le_of_ble_eq_true rfl, Nat.le_of_ble_eq_true rfl⟩ rfl hl.1 rfl (Nat.le_of_ble_eq_true rfl) dX6_bestLaw_50) (fun r_14 s_13 H locs hw w => ?_)
    refine g_istore (pc := 53) C dX6_bestLaw_53 hl (by decide) (fun v6_15 ev6_15 ls hl => ?_)
    have hw := hw v6_15 ev6_15
    have hl : lv_has ls 8 [(6, .int (mm_I v6_15)), (5, .int (mm_I v5_12)), (0, .ref (mm_ad G this)), (1, .int (mm_I v1)), (2, .int (mm_I v2)), (3, .int (mm_I v3)), (4, .int (mm_I v4))] := hl
    refine lv_iload (pc := 55) C.1 C.2.1 dX6_bestLaw_55 (lv_at hl 1 rfl) ?_
    refine lv_iload_n (pc := 57) C.1 C.2.1 dX6_bestLaw_57 rfl (lv_at hl 4 rfl) ?_
    refine g_icmp_lt (pc := 58) (tgt := 73) C rfl rfl dX6_bestLaw_58 (by decide) (fun hc => ?_) (fun hc => ?_)
    · have hw := hw.1 hc
      refine lv_iconst (pc := 73) (v := mm_I 1) C.1 C.2.1 dX6_bestLaw_73 rfl ?_
      refine lv_goto (pc := 74) (tgt := 78) C.1 C.2.1 dX6_bestLaw_74 (by decide) ?_
      exact hw  _ _ _ w (lv_sub hl [2, 3, 4, 5, 6, 1, 0] rfl)
    · have hw := hw.2 hc
      refine lv_iload (pc := 61) C.1 C.2.1 dX6_bestLaw_61 (lv_at hl 1 rfl) ?_
      refine lv_iload_n (pc := 63) C.1 C.2.1 dX6_bestLaw_63 rfl (lv_at hl 4 rfl) ?_
      refine g_icmp_ne (pc := 64) (tgt := 77) C rfl rfl dX6_bestLaw_64 (by decide) (fun hc => ?_) (fun hc => ?_)
      · have hw := hw.1 hc
        refine lv_iconst (pc := 77) (v := mm_I 0) C.1 C.2.1 dX6_bestLaw_77 rfl ?_
        exact hw  _ _ _ w (lv_sub hl [2, 3, 4, 5, 6, 1, 0] rfl)
      · have hw := hw.2 hc
        refine lv_iload (pc := 67) C.1 C.2.1 dX6_bestLaw_67 (lv_at hl 0 rfl) ?_
        refine lv_iload_n (pc := 69) C.1 C.2.1 dX6_bestLaw_69 rfl (lv_at hl 5 rfl) ?_
        refine g_icmp_ge (pc := 70) (tgt := 77) C rfl rfl dX6_bestLaw_70 (by decide) (fun hc => ?_) (fun hc => ?_)
        · have hw := hw.1 hc
          refine lv_iconst (pc := 77) (v := mm_I 0) C.1 C.2.1 dX6_bestLaw_77 rfl ?_
          exact hw  _ _ _ w (lv_sub hl [2, 3, 4, 5, 6, 1, 0] rfl)
        · have hw := hw.2 hc
          refine lv_iconst (pc := 73) (v := mm_I 1) C.1 C.2.1 dX6_bestLaw_73 rfl ?_
          refine lv_goto (pc := 74) (tgt := 78) C.1 C.2.1 dX6_bestLaw_74 (by decide) ?_
          exact hw  _ _ _ w (lv_sub hl [2, 3, 4, 5, 6, 1, 0] rfl))
  have hw := hw (by
    intro v1 v2 v3 v4 v5 v6 q0 s1 hw  H locs ls w hl
    refine g_istore (pc := 78) C dX6_bestLaw_78 hl (by decide) (fun v7_16 ev7_16 ls hl => ?_)
    have hw := hw v7_16 ev7_16
    have hl : lv_has ls 8 [(7, .int (mm_I v7_16)), (0, .ref (mm_ad G this)), (1, .int (mm_I v1)), (2, .int (mm_I v2)), (3, .int (mm_I v3)), (4, .int (mm_I v4)), (5, .int (mm_I v5)), (6, .int (mm_I v6))] := hl
    refine lv_iload_n (pc := 80) C.1 C.2.1 dX6_bestLaw_80 rfl (lv_at hl 2 rfl) ?_
    refine lv_iconst (pc := 81) (v := mm_I (-1)) C.1 C.2.1 dX6_bestLaw_81 rfl ?_
    refine g_icmp_eq (pc := 82) (tgt := 90) C rfl mn_m1 dX6_bestLaw_82 (by decide) (fun hc => ?_) (fun hc => ?_)
    · have hw := hw.1 hc
      refine lv_iload (pc := 90) C.1 C.2.1 dX6_bestLaw_90 (lv_at hl 5 rfl) ?_
      refine g_istore_n (pc := 92) C dX6_bestLaw_92 rfl hl (by decide) (fun v1_17 ev1_17 ls hl => ?_)
      have hw := hw v1_17 ev1_17
      have hl : lv_has ls 8 [(1, .int (mm_I v1_17)), (7, .int (mm_I v7_16)), (0, .ref (mm_ad G this)), (2, .int (mm_I v2)), (3, .int (mm_I v3)), (4, .int (mm_I v4)), (5, .int (mm_I v5)), (6, .int (mm_I v6))] := hl
      refine lv_iload (pc := 93) C.1 C.2.1 dX6_bestLaw_93 (lv_at hl 6 rfl) ?_
      refine g_istore_n (pc := 95) C dX6_bestLaw_95 rfl hl (by decide) (fun v2_18 ev2_18 ls hl => ?_)
      have hw := hw v2_18 ev2_18
      have hl : lv_has ls 8 [(2, .int (mm_I v2_18)), (1, .int (mm_I v1_17)), (7, .int (mm_I v7_16)), (0, .ref (mm_ad G this)), (3, .int (mm_I v3)), (4, .int (mm_I v4)), (5, .int (mm_I v5)), (6, .int (mm_I v6))] := hl
      refine lv_iload (pc := 96) C.1 C.2.1 dX6_bestLaw_96 (lv_at hl 7 rfl) ?_
      refine g_istore_n (pc := 98) C dX6_bestLaw_98 rfl hl (by decide) (fun v3_19 ev3_19 ls hl => ?_)
      have hw := hw v3_19 ev3_19
      have hl : lv_has ls 8 [(3, .int (mm_I v3_19)), (2, .int (mm_I v2_18)), (1, .int (mm_I v1_17)), (7, .int (mm_I v7_16)), (0, .ref (mm_ad G this)), (4, .int (mm_I v4)), (5, .int (mm_I v5)), (6, .int (mm_I v6))] := hl
      refine g_iinc (pc := 99) (k := 5) C dX6_bestLaw_99 hl rfl (by decide) (fun v4_20 ev4_20 ls hl => ?_)
      have hw := hw v4_20 ev4_20
      have hl : lv_has ls 8 [(4, .int (mm_I v4_20)), (3, .int (mm_I v3_19)), (2, .int (mm_I v2_18)), (1, .int (mm_I v1_17)), (7, .int (mm_I v7_16)), (0, .ref (mm_ad G this)), (5, .int (mm_I v5)), (6, .int (mm_I v6))] := hl
      refine lv_goto (pc := 102) (tgt := 9) C.1 C.2.1 dX6_bestLaw_102 (by decide) ?_
      exact hw  _ _ _ w (lv_sub hl [5, 3, 2, 1, 0] rfl)
    · have hw := hw.2 hc
      refine lv_iload (pc := 85) C.1 C.2.1 dX6_bestLaw_85 (lv_at hl 0 rfl) ?_
      refine g_if_eq (pc := 87) (tgt := 99) C rfl dX6_bestLaw_87 (by decide) (fun hc => ?_) (fun hc => ?_)
      · have hw := hw.1 hc
        refine g_iinc (pc := 99) (k := 5) C dX6_bestLaw_99 hl rfl (by decide) (fun v4_21 ev4_21 ls hl => ?_)
        have hw := hw v4_21 ev4_21
        have hl : lv_has ls 8 [(4, .int (mm_I v4_21)), (7, .int (mm_I v7_16)), (0, .ref (mm_ad G this)), (1, .int (mm_I v1)), (2, .int (mm_I v2)), (3, .int (mm_I v3)), (5, .int (mm_I v5)), (6, .int (mm_I v6))] := hl
        refine lv_goto (pc := 102) (tgt := 9) C.1 C.2.1 dX6_bestLaw_102 (by decide) ?_
        exact hw  _ _ _ w (lv_sub hl [2, 3, 4, 5, 0] rfl)
      · have hw := hw.2 hc
        refine lv_iload (pc := 90) C.1 C.2.1 dX6_bestLaw_90 (lv_at hl 5 rfl) ?_
        refine g_istore_n (pc := 92) C dX6_bestLaw_92 rfl hl (by decide) (fun v1_22 ev1_22 ls hl => ?_)
        have hw := hw v1_22 ev1_22
        have hl : lv_has ls 8 [(1, .int (mm_I v1_22)), (7, .int (mm_I v7_16)), (0, .ref (mm_ad G this)), (2, .int (mm_I v2)), (3, .int (mm_I v3)), (4, .int (mm_I v4)), (5, .int (mm_I v5)), (6, .int (mm_I v6))] := hl
        refine lv_iload (pc := 93) C.1 C.2.1 dX6_bestLaw_93 (lv_at hl 6 rfl) ?_
        refine g_istore_n (pc := 95) C dX6_bestLaw_95 rfl hl (by decide) (fun v2_23 ev2_23 ls hl => ?_)
        have hw := hw v2_23 ev2_23
        have hl : lv_has ls 8 [(2, .int (mm_I v2_23)), (1, .int (mm_I v1_22)), (7, .int (mm_I v7_16)), (0, .ref (mm_ad G this)), (3, .int (mm_I v3)), (4, .int (mm_I v4)), (5, .int (mm_I v5)), (6, .int (mm_I v6))] := hl
        refine lv_iload (pc := 96) C.1 C.2.1 dX6_bestLaw_96 (lv_at hl 7 rfl) ?_
        refine g_istore_n (pc := 98) C dX6_bestLaw_98 rfl hl (by decide) (fun v3_24 ev3_24 ls hl => ?_)
        have hw := hw v3_24 ev3_24
        have hl : lv_has ls 8 [(3, .int (mm_I v3_24)), (2, .int (mm_I v2_23)), (1, .int (mm_I v1_22)), (7, .int (mm_I v7_16)), (0, .ref (mm_ad G this)), (4, .int (mm_I v4)), (5, .int (mm_I v5)), (6, .int (mm_I v6))] := hl
        refine g_iinc (pc := 99) (k := 5) C dX6_bestLaw_99 hl rfl (by decide) (fun v4_25 ev4_25 ls hl => ?_)
        have hw := hw v4_25 ev4_25
        have hl : lv_has ls 8 [(4, .int (mm_I v4_25)), (3, .int (mm_I v3_24)), (2, .int (mm_I v2_23)), (1, .int (mm_I v1_22)), (7, .int (mm_I v7_16)), (0, .ref (mm_ad G this)), (5, .int (mm_I v5)), (6, .int (mm_I v6))] := hl
        refine lv_goto (pc := 102) (tgt := 9) C.1 C.2.1 dX6_bestLaw_102 (by decide) ?_
        exact hw  _ _ _ w (lv_sub hl [5, 3, 2, 1, 0] rfl))
  intro H locs ls w hl
  have hl : lv_has ls 8 [(0, .ref (mm_ad G this))] := hl
  refine lv_iconst (pc := 0) (v := mm_I (-1)) C.1 C.2.1 dX6_bestLaw_0 rfl ?_
  refine lv_istore_n (pc := 1) (lv' := [(1, .int (mm_I (-1))), (0, .ref (mm_ad G this))]) C.1 C.2.1 dX6_bestLaw_1 rfl hl (by decide) rfl (fun ls hl => ?_)
  refine lv_iconst (pc := 2) (v := mm_I 0) C.1 C.2.1 dX6_bestLaw_2 rfl ?_
  refine lv_istore_n (pc := 3) (lv' := [(2, .int (mm_I 0)), (1, .int (mm_I (-1))), (0, .ref (mm_ad G this))]) C.1 C.2.1 dX6_bestLaw_3 rfl hl (by decide) rfl (fun ls hl => ?_)
  refine lv_iconst (pc := 4) (v := mm_I 0) C.1 C.2.1 dX6_bestLaw_4 rfl ?_
  refine lv_istore_n (pc := 5) (lv' := [(3, .int (mm_I 0)), (2, .int (mm_I 0)), (1, .int (mm_I (-1))), (0, .ref (mm_ad G this))]) C.1 C.2.1 dX6_bestLaw_5 rfl hl (by decide) rfl (fun ls hl => ?_)
  refine lv_iconst (pc := 6) (v := mm_I 0) C.1 C.2.1 dX6_bestLaw_6 rfl ?_
  refine lv_istore (pc := 7) (lv' := [(4, .int (mm_I 0)), (3, .int (mm_I 0)), (2, .int (mm_I 0)), (1, .int (mm_I (-1))), (0, .ref (mm_ad G this))]) C.1 C.2.1 dX6_bestLaw_7 hl (by decide) rfl (fun ls hl => ?_)
  exact hw  _ _ _ w (lv_sub hl [4, 3, 2, 1, 0] rfl)
theorem lk_X7_48 : Cond.fieldLink RX7 48 "LastServed$Shop" "minute" "I" ∈ mm_ws := (mt_2 16 rfl rfl)
theorem ff_X7_7 : mm_F 7 7 0 RX7 TX7 9 := ⟨rfl, by decide, fk_X7, rfl, rfl⟩
theorem fw_X7_7 : mm_Fw 7 7 TX7 9 .int := ⟨⟨tyX7, tyX7_ok⟩, nmX7, rfl, by decide +kernel⟩
theorem lk_X7_52 : Cond.fieldLink RX7 52 "LastServed$Shop" "x" "I" ∈ mm_ws := (mt_2 18 rfl rfl)
theorem ff_X7_8 : mm_F 7 8 0 RX7 TX7 9 := ⟨rfl, by decide, fk_X7, rfl, rfl⟩
theorem fw_X7_8 : mm_Fw 7 8 TX7 9 .int := ⟨⟨tyX7, tyX7_ok⟩, nmX7, rfl, by decide +kernel⟩
theorem lk_X7_30 : Cond.fieldLink RX7 30 "LastServed$Shop" "book" "LLastServed$Book;" ∈ mm_ws := (mt_2 14 rfl rfl)
theorem ff_X7_6 : mm_F 7 6 1 RX7 TX7 9 := ⟨rfl, by decide, fk_X7, rfl, rfl⟩
theorem ro_X7_6 {i : Nat} (h : mm_ok i 17 0) : mm_ok (mm_rt i 6) 10 0 := by
  have q : ∀ i, i < mm_N → mm_kd i = 17 → mm_rt i 6 < mm_N ∧ mm_kd (mm_rt i 6) = 10 ∧ mm_ln (mm_rt i 6) = 0 := by decide +kernel
  exact q i h.1 h.2.1
theorem lk_X7_55 : Cond.fieldLinkNest RX7 55 "LastServed$Book" "size" "I" "LastServed" ∈ mm_nest := by decide +kernel
theorem lk_X7_23 : Cond.fieldLink RX7 23 "LastServed$Shop" "counts" "[I" ∈ mm_ws := (mt_2 13 rfl rfl)
theorem ff_X7_5 : mm_F 7 5 1 RX7 TX7 9 := ⟨rfl, by decide, fk_X7, rfl, rfl⟩
theorem ro_X7_5 {i : Nat} (h : mm_ok i 17 0) : mm_ok (mm_rt i 5) 0 35 := by
  have q : ∀ i, i < mm_N → mm_kd i = 17 → mm_rt i 5 < mm_N ∧ mm_kd (mm_rt i 5) = 0 ∧ mm_ln (mm_rt i 5) = 35 := by decide +kernel
  exact q i h.1 h.2.1
theorem ml_X7_58 : Cond.methodLink RX7 58 yJ7_fill_53178 ∈ mm_ws := (mt_3 138 rfl rfl)
theorem lk_X7_11 : Cond.fieldLink RX7 11 "LastServed$Shop" "people" "[LLastServed$Person;" ∈ mm_ws := (mt_2 11 rfl rfl)
theorem ff_X7_3 : mm_F 7 3 1 RX7 TX7 9 := ⟨rfl, by decide, fk_X7, rfl, rfl⟩
theorem ro_X7_3 {i : Nat} (h : mm_ok i 17 0) : mm_ok (mm_rt i 3) 5 30 := by
  have q : ∀ i, i < mm_N → mm_kd i = 17 → mm_rt i 3 < mm_N ∧ mm_kd (mm_rt i 3) = 5 ∧ mm_ln (mm_rt i 3) = 30 := by decide +kernel
  exact q i h.1 h.2.1
theorem ra_5 {i j : Nat} (h : mm_ok i 5 30) (hj : j < 30) : mm_ok (mm_rt i j) 15 0 := by
  have q : ∀ i, i < mm_N → mm_kd i = 5 → ∀ j, j < 30 → mm_rt i j < mm_N ∧ mm_kd (mm_rt i j) = 15 ∧ mm_ln (mm_rt i j) = 0 := by decide +kernel
  exact q i h.1 h.2.1 j hj
theorem lk_X7_64 : Cond.fieldLinkNest RX7 64 "LastServed$Person" "state" "I" "LastServed" ∈ mm_nest := by decide +kernel
theorem lk_X7_19 : Cond.fieldLink RX7 19 "LastServed$Shop" "desks" "[LLastServed$Desk;" ∈ mm_ws := (mt_2 12 rfl rfl)
theorem ff_X7_4 : mm_F 7 4 1 RX7 TX7 9 := ⟨rfl, by decide, fk_X7, rfl, rfl⟩
theorem ro_X7_4 {i : Nat} (h : mm_ok i 17 0) : mm_ok (mm_rt i 4) 6 3 := by
  have q : ∀ i, i < mm_N → mm_kd i = 17 → mm_rt i 4 < mm_N ∧ mm_kd (mm_rt i 4) = 6 ∧ mm_ln (mm_rt i 4) = 3 := by decide +kernel
  exact q i h.1 h.2.1
theorem ra_6 {i j : Nat} (h : mm_ok i 6 3) (hj : j < 3) : mm_ok (mm_rt i j) 12 0 := by
  have q : ∀ i, i < mm_N → mm_kd i = 6 → ∀ j, j < 3 → mm_rt i j < mm_N ∧ mm_kd (mm_rt i j) = 12 ∧ mm_ln (mm_rt i j) = 0 := by decide +kernel
  exact q i h.1 h.2.1 j hj
theorem lk_X7_34 : Cond.fieldLink RX7 34 "LastServed$Shop" "town" "LLastServed$Town;" ∈ mm_ws := (mt_2 8 rfl rfl)
theorem ff_X7_0 : mm_F 7 0 1 RX7 TX7 9 := ⟨rfl, by decide, fk_X7, rfl, rfl⟩
theorem ro_X7_0 {i : Nat} (h : mm_ok i 17 0) : mm_ok (mm_rt i 0) 19 0 := by
  have q : ∀ i, i < mm_N → mm_kd i = 17 → mm_rt i 0 < mm_N ∧ mm_kd (mm_rt i 0) = 19 ∧ mm_ln (mm_rt i 0) = 0 := by decide +kernel
  exact q i h.1 h.2.1
theorem ml_X7_67 : Cond.methodLink RX7 67 yX9_ofCounter ∈ mm_ws := (mt_3 141 rfl rfl)
theorem cv_X2_open : mm_V yX2_open cX2_open 2 none 1 := ⟨(mt_3 152 rfl rfl), (mt_3 150 rfl rfl), (mt_3 151 rfl rfl), (mt_1 9 rfl rfl), by decide, by decide, by decide +kernel⟩
theorem ml_X7_73 : Cond.methodLink RX7 73 yX2_open ∈ mm_ws := (mt_3 149 rfl rfl)
def wp_X7_open (this : Nat) (s0 : mm_M) (post : mm_M → Prop) : Prop :=
  ∀ (L28 : Int → mm_M → Prop), ∀ (L52 : Int → mm_M → Prop), 
  (∀ (v1 : Int) (s1 : mm_M), ((30 ≤ n32 v1 → L52 0 s1) ∧ (¬ 30 ≤ n32 v1 → ((0 ≤ v1 ∧ v1 < 30) ∧ (∀ s_9 : mm_M, s_9 = mm_up s1 (mm_rt (mm_rt this 3) (v1).toNat) 0 (-1) → (∀ v1_10 : Int, v1_10 = v1 + 1 → L28 v1_10 s_9))))) → L28 v1 s1) →
  (∀ (v1 : Int) (s1 : mm_M), ((3 ≤ n32 v1 → post s1) ∧ (¬ 3 ≤ n32 v1 → ((0 ≤ v1 ∧ v1 < 3) ∧ (wp_X9_ofCounter (mm_rt this 0) v1 2 s1 (fun r_13 s_12 => (wp_X2_open (mm_rt (mm_rt this 4) (v1).toNat) r_13 s_12 (fun s_14 => (∀ v1_16 : Int, v1_16 = v1 + 1 → L52 v1_16 s_14)))))))) → L52 v1 s1) →
  (∀ s_1 : mm_M, s_1 = mm_up s0 this 7 0 → (∀ s_2 : mm_M, s_2 = mm_up s_1 this 8 0 → (∀ s_3 : mm_M, s_3 = mm_up s_2 (mm_rt this 6) 1 0 → (wp_J7_fill_53178 (mm_rt this 5) 35 0 s_3 (fun s_4 => L28 0 s_4)))))
set_option maxRecDepth 100000 in
set_option maxHeartbeats 4000000 in
theorem c_X7_open (l : Launch) (G : mm_G) (this : Nat) (h0 : mm_ok this 17 0) (s0 : mm_M) (post : mm_M → Prop) (hw : wp_X7_open this s0 post) : Met l yX7_open (mm_wm yX7_open cX7_open 2 none) (mm_rm 3) (va_Pc [.ref (mm_ad G this)] (mm_pre G s0)) (mm_Qv G post) 0 0 (mm_A G) := by
  refine mm_met (own := RX7) (by decide) rfl (Nat.le_of_ble_eq_true rfl) ?_
  intro p e s m args below meth c C hr hk
  unfold wp_X7_open at hw
  have hw := hw (fun (v1 : Int) (u : mm_M) => mm_X p l e (mm_rm 3) s m args below meth c (MQ below (mm_Qv G post) args s 0 0 (mm_A G)) G (mm_A G) 2 28 [(0, .ref (mm_ad G this)), (1, .int (mm_I v1))] [] u)
  have hw := hw (fun (v1 : Int) (u : mm_M) => mm_X p l e (mm_rm 3) s m args below meth c (MQ below (mm_Qv G post) args s 0 0 (mm_A G)) G (mm_A G) 2 52 [(0, .ref (mm_ad G this)), (1, .int (mm_I v1))] [] u)
  have hw := hw (by
    intro v1 s1 hw  H locs ls w hl
    refine lv_iload_n (pc := 28) C.1 C.2.1 dX7_open_28 rfl (lv_at hl 1 rfl) ?_
    refine lv_bipush (pc := 29) C.1 C.2.1 dX7_open_29 mb_30 ?_
    refine g_icmp_ge (pc := 31) (tgt := 50) C rfl mn_30 dX7_open_31 (by decide) (fun hc => ?_) (fun hc => ?_)
    · have hw := hw.1 hc
      refine lv_iconst (pc := 50) (v := mm_I 0) C.1 C.2.1 dX7_open_50 rfl ?_
      refine lv_istore_n (pc := 51) (lv' := [(1, .int (mm_I 0)), (0, .ref (mm_ad G this))]) C.1 C.2.1 dX7_open_51 rfl hl (by decide) rfl (fun ls hl => ?_)
      exact hw  _ _ _ w (lv_sub hl [1, 0] rfl)
    · have hw := hw.2 hc
      refine lv_aload_n (pc := 34) C.1 C.2.1 dX7_open_34 rfl (lv_at hl 0 rfl) ?_
      refine g_getr (pc := 35) C w h0 ff_X7_3 lk_X7_11 dX7_open_35 ?_
      refine lv_iload_n (pc := 38) C.1 C.2.1 dX7_open_38 rfl (lv_at hl 1 rfl) ?_
      obtain ⟨hi, hw⟩ := hw
      refine g_aald (pc := 39) C w (ro_X7_3 h0) (by decide) rfl hi dX7_open_39 ?_
      have ho_8 := ra_5 (j := (v1).toNat) (ro_X7_3 h0) (mm_tn (n := 30) hi)
      refine lv_iconst (pc := 40) (v := mm_I (-1)) C.1 C.2.1 dX7_open_40 rfl ?_
      refine g_putiN (pc := 41) C w ho_8 ff_X5_0 fw_X5_0 lk_X7_64 dX7_open_41 (fun s_9 H locs es_9 w => ?_)
      have hw := hw s_9 es_9
      refine g_iinc (pc := 44) (k := 1) C dX7_open_44 hl rfl (by decide) (fun v1_10 ev1_10 ls hl => ?_)
      have hw := hw v1_10 ev1_10
      have hl : lv_has ls 2 [(1, .int (mm_I v1_10)), (0, .ref (mm_ad G this))] := hl
      refine lv_goto (pc := 47) (tgt := 28) C.1 C.2.1 dX7_open_47 (by decide) ?_
      exact hw  _ _ _ w (lv_sub hl [1, 0] rfl))
  have hw := hw (by
    intro v1 s1 hw  H locs ls w hl
    refine lv_iload_n (pc := 52) C.1 C.2.1 dX7_open_52 rfl (lv_at hl 1 rfl) ?_
    refine lv_iconst (pc := 53) (v := mm_I 3) C.1 C.2.1 dX7_open_53 rfl ?_
    refine g_icmp_ge (pc := 54) (tgt := 81) C rfl mn_3 dX7_open_54 (by decide) (fun hc => ?_) (fun hc => ?_)
    · have hw := hw.1 hc
      exact g_vret (pc := 81) C w hr hk hw dX7_open_81
    · have hw := hw.2 hc
      refine lv_aload_n (pc := 57) C.1 C.2.1 dX7_open_57 rfl (lv_at hl 0 rfl) ?_
      refine g_getr (pc := 58) C w h0 ff_X7_4 lk_X7_19 dX7_open_58 ?_
      refine lv_iload_n (pc := 61) C.1 C.2.1 dX7_open_61 rfl (lv_at hl 1 rfl) ?_
      obtain ⟨hi, hw⟩ := hw
      refine g_aald (pc := 62) C w (ro_X7_4 h0) (by decide) rfl hi dX7_open_62 ?_
      have ho_11 := ra_6 (j := (v1).toNat) (ro_X7_4 h0) (mm_tn (n := 3) hi)
      refine lv_aload_n (pc := 63) C.1 C.2.1 dX7_open_63 rfl (lv_at hl 0 rfl) ?_
      refine g_getr (pc := 64) C w h0 ff_X7_0 lk_X7_34 dX7_open_64 ?_
      refine lv_iload_n (pc := 67) C.1 C.2.1 dX7_open_67 rfl (lv_at hl 1 rfl) ?_
      refine lv_iconst (pc := 68) (v := mm_I 2) C.1 C.2.1 dX7_open_68 rfl ?_
      refine g_calli (pc := 69) w (mm_runV (ci := 9) (q := (RX9, TX9, 9)) (As := [.int (mm_I v1), .int (mm_I 2)]) (rest := [.ref (mm_ad G (mm_rt (mm_rt this 4) (v1).toNat))]) C w (c_X9_ofCounter l G (mm_rt this 0) v1 2 (ro_X7_0 h0) s1 _ hw) (ro_X7_0 h0) rfl rfl cv_X9_ofCounter ml_X7_67 ⟨Nat.le_of_ble_eq_true rfl, Nat.le_of_ble_eq_true rfl⟩ ⟨Nat.le_of_ble_eq_true rfl, Nat.le_of_ble_eq_true rfl⟩ rfl hl.1 rfl (Nat.le_of_ble_eq_true rfl) dX7_open_69) (fun r_13 s_12 H locs hw w => ?_)
      refine g_callv (pc := 72) w (mm_runV (ci := 2) (q := (RX2, TX2, 4)) (As := [.int (mm_I r_13)]) (rest := []) C w (c_X2_open l G (mm_rt (mm_rt this 4) (v1).toNat) r_13 ho_11 s_12 _ hw) ho_11 rfl rfl cv_X2_open ml_X7_73 ⟨Nat.le_of_ble_eq_true rfl, Nat.le_of_ble_eq_true rfl⟩ ⟨Nat.le_of_ble_eq_true rfl, Nat.le_of_ble_eq_true rfl⟩ rfl hl.1 rfl (Nat.le_of_ble_eq_true rfl) dX7_open_72) (fun s_14 H locs hw w => ?_)
      refine g_iinc (pc := 75) (k := 1) C dX7_open_75 hl rfl (by decide) (fun v1_16 ev1_16 ls hl => ?_)
      have hw := hw v1_16 ev1_16
      have hl : lv_has ls 2 [(1, .int (mm_I v1_16)), (0, .ref (mm_ad G this))] := hl
      refine lv_goto (pc := 78) (tgt := 52) C.1 C.2.1 dX7_open_78 (by decide) ?_
      exact hw  _ _ _ w (lv_sub hl [1, 0] rfl))
  intro H locs ls w hl
  have hl : lv_has ls 2 [(0, .ref (mm_ad G this))] := hl
  refine lv_aload_n (pc := 0) C.1 C.2.1 dX7_open_0 rfl (lv_at hl 0 rfl) ?_
  refine lv_iconst (pc := 1) (v := mm_I 0) C.1 C.2.1 dX7_open_1 rfl ?_
  refine g_puti (pc := 2) C w h0 ff_X7_7 fw_X7_7 lk_X7_48 dX7_open_2 (fun s_1 H locs es_1 w => ?_)
  have hw := hw s_1 es_1
  refine lv_aload_n (pc := 5) C.1 C.2.1 dX7_open_5 rfl (lv_at hl 0 rfl) ?_
  refine lv_iconst (pc := 6) (v := mm_I 0) C.1 C.2.1 dX7_open_6 rfl ?_
  refine g_puti (pc := 7) C w h0 ff_X7_8 fw_X7_8 lk_X7_52 dX7_open_7 (fun s_2 H locs es_2 w => ?_)
  have hw := hw s_2 es_2
  refine lv_aload_n (pc := 10) C.1 C.2.1 dX7_open_10 rfl (lv_at hl 0 rfl) ?_
  refine g_getr (pc := 11) C w h0 ff_X7_6 lk_X7_30 dX7_open_11 ?_
  refine lv_iconst (pc := 14) (v := mm_I 0) C.1 C.2.1 dX7_open_14 rfl ?_
  refine g_putiN (pc := 15) C w (ro_X7_6 h0) ff_X0_1 fw_X0_1 lk_X7_55 dX7_open_15 (fun s_3 H locs es_3 w => ?_)
  have hw := hw s_3 es_3
  refine lv_aload_n (pc := 18) C.1 C.2.1 dX7_open_18 rfl (lv_at hl 0 rfl) ?_
  refine g_getr (pc := 19) C w h0 ff_X7_5 lk_X7_23 dX7_open_19 ?_
  refine lv_iconst (pc := 22) (v := mm_I 0) C.1 C.2.1 dX7_open_22 rfl ?_
  refine g_callv (pc := 23) w (mm_runS (As := [.ref (mm_ad G (mm_rt this 5)), .int (mm_I 0)]) (rest := []) C w (c_J7_fill_53178 l G (mm_rt this 5) 35 0 (ro_X7_5 h0) s_3 _ hw) cs_J7_fill_53178 ml_X7_58 ⟨Nat.le_of_ble_eq_true rfl, Nat.le_of_ble_eq_true rfl⟩ ⟨Nat.le_of_ble_eq_true rfl, Nat.le_of_ble_eq_true rfl⟩ rfl hl.1 rfl (Nat.le_of_ble_eq_true rfl) dX7_open_23) (fun s_4 H locs hw w => ?_)
  refine lv_iconst (pc := 26) (v := mm_I 0) C.1 C.2.1 dX7_open_26 rfl ?_
  refine lv_istore_n (pc := 27) (lv' := [(1, .int (mm_I 0)), (0, .ref (mm_ad G this))]) C.1 C.2.1 dX7_open_27 rfl hl (by decide) rfl (fun ls hl => ?_)
  exact hw  _ _ _ w (lv_sub hl [1, 0] rfl)
theorem cv_X0_takeOver : mm_V yX0_takeOver cX0_takeOver 2 none 1 := ⟨(mt_5 174 rfl rfl), (mt_5 172 rfl rfl), (mt_5 173 rfl rfl), (mt_1 7 rfl rfl), by decide, by decide, by decide +kernel⟩
theorem ml_X7_77 : Cond.methodLink RX7 77 yX0_takeOver ∈ mm_ws := (mt_5 171 rfl rfl)
theorem mb_35 : (Int8.ofInt 35).toInt32 = mm_I 35 := by decide
theorem ml_X7_81 : Cond.methodLink RX7 81 arraycopyName ∈ mm_ws := (mt_5 175 rfl rfl)
theorem cv_X5_takeOver : mm_V yX5_takeOver cX5_takeOver 2 none 1 := ⟨(mt_5 179 rfl rfl), (mt_5 177 rfl rfl), (mt_5 178 rfl rfl), (mt_1 8 rfl rfl), by decide, by decide, by decide +kernel⟩
theorem ml_X7_87 : Cond.methodLink RX7 87 yX5_takeOver ∈ mm_ws := (mt_5 176 rfl rfl)
theorem cv_X2_takeOver : mm_V yX2_takeOver cX2_takeOver 2 none 1 := ⟨(mt_5 183 rfl rfl), (mt_5 181 rfl rfl), (mt_5 182 rfl rfl), (mt_1 9 rfl rfl), by decide, by decide, by decide +kernel⟩
theorem ml_X7_90 : Cond.methodLink RX7 90 yX2_takeOver ∈ mm_ws := (mt_5 180 rfl rfl)
def wp_X7_takeOver (this : Nat) (a1 : Nat) (s0 : mm_M) (post : mm_M → Prop) : Prop :=
  ∀ (L44 : Int → mm_M → Prop), ∀ (L73 : Int → mm_M → Prop), 
  (∀ (v2 : Int) (s1 : mm_M), ((30 ≤ n32 v2 → L73 0 s1) ∧ (¬ 30 ≤ n32 v2 → ((0 ≤ v2 ∧ v2 < 30) ∧ ((0 ≤ v2 ∧ v2 < 30) ∧ (wp_X5_takeOver (mm_rt (mm_rt this 3) (v2).toNat) (mm_rt (mm_rt a1 3) (v2).toNat) s1 (fun s_10 => (∀ v2_12 : Int, v2_12 = v2 + 1 → L44 v2_12 s_10))))))) → L44 v2 s1) →
  (∀ (v2 : Int) (s1 : mm_M), ((3 ≤ n32 v2 → post s1) ∧ (¬ 3 ≤ n32 v2 → ((0 ≤ v2 ∧ v2 < 3) ∧ ((0 ≤ v2 ∧ v2 < 3) ∧ (wp_X2_takeOver (mm_rt (mm_rt this 4) (v2).toNat) (mm_rt (mm_rt a1 4) (v2).toNat) s1 (fun s_15 => (∀ v2_17 : Int, v2_17 = v2 + 1 → L73 v2_17 s_15))))))) → L73 v2 s1) →
  (∀ s_1 : mm_M, s_1 = mm_up s0 this 7 (s0 a1 7) → (∀ s_2 : mm_M, s_2 = mm_up s_1 this 8 (s_1 a1 8) → (wp_X0_takeOver (mm_rt this 6) (mm_rt a1 6) s_2 (fun s_3 => ((0 ≤ (0 : Int) ∧ 0 ≤ (0 : Int) ∧ 0 ≤ (35 : Int) ∧ (0 : Int) + 35 ≤ 35 ∧ (0 : Int) + 35 ≤ 35) ∧ (∀ s_5 : mm_M, s_5 = mm_cp s_3 (mm_rt a1 5) 0 (mm_rt this 5) 0 35 → L44 0 s_5))))))
set_option maxRecDepth 100000 in
set_option maxHeartbeats 4000000 in
theorem c_X7_takeOver (l : Launch) (G : mm_G) (this : Nat) (a1 : Nat) (h0 : mm_ok this 17 0) (h1 : mm_ok a1 17 0) (s0 : mm_M) (post : mm_M → Prop) (hw : wp_X7_takeOver this a1 s0 post) : Met l yX7_takeOver (mm_wm yX7_takeOver cX7_takeOver 3 none) (mm_rm 3) (va_Pc [.ref (mm_ad G this), .ref (mm_ad G a1)] (mm_pre G s0)) (mm_Qv G post) 0 0 (mm_A G) := by
  refine mm_met (own := RX7) (by decide) rfl (Nat.le_of_ble_eq_true rfl) ?_
  intro p e s m args below meth c C hr hk
  unfold wp_X7_takeOver at hw
  have hw := hw (fun (v2 : Int) (u : mm_M) => mm_X p l e (mm_rm 3) s m args below meth c (MQ below (mm_Qv G post) args s 0 0 (mm_A G)) G (mm_A G) 3 44 [(0, .ref (mm_ad G this)), (1, .ref (mm_ad G a1)), (2, .int (mm_I v2))] [] u)
  have hw := hw (fun (v2 : Int) (u : mm_M) => mm_X p l e (mm_rm 3) s m args below meth c (MQ below (mm_Qv G post) args s 0 0 (mm_A G)) G (mm_A G) 3 73 [(0, .ref (mm_ad G this)), (1, .ref (mm_ad G a1)), (2, .int (mm_I v2))] [] u)
  have hw := hw (by
    intro v2 s1 hw  H locs ls w hl
    refine lv_iload_n (pc := 44) C.1 C.2.1 dX7_takeOver_44 rfl (lv_at hl 2 rfl) ?_
    refine lv_bipush (pc := 45) C.1 C.2.1 dX7_takeOver_45 mb_30 ?_
    refine g_icmp_ge (pc := 47) (tgt := 71) C rfl mn_30 dX7_takeOver_47 (by decide) (fun hc => ?_) (fun hc => ?_)
    · have hw := hw.1 hc
      refine lv_iconst (pc := 71) (v := mm_I 0) C.1 C.2.1 dX7_takeOver_71 rfl ?_
      refine lv_istore_n (pc := 72) (lv' := [(2, .int (mm_I 0)), (0, .ref (mm_ad G this)), (1, .ref (mm_ad G a1))]) C.1 C.2.1 dX7_takeOver_72 rfl hl (by decide) rfl (fun ls hl => ?_)
      exact hw  _ _ _ w (lv_sub hl [1, 2, 0] rfl)
    · have hw := hw.2 hc
      refine lv_aload_n (pc := 50) C.1 C.2.1 dX7_takeOver_50 rfl (lv_at hl 0 rfl) ?_
      refine g_getr (pc := 51) C w h0 ff_X7_3 lk_X7_11 dX7_takeOver_51 ?_
      refine lv_iload_n (pc := 54) C.1 C.2.1 dX7_takeOver_54 rfl (lv_at hl 2 rfl) ?_
      obtain ⟨hi, hw⟩ := hw
      refine g_aald (pc := 55) C w (ro_X7_3 h0) (by decide) rfl hi dX7_takeOver_55 ?_
      have ho_8 := ra_5 (j := (v2).toNat) (ro_X7_3 h0) (mm_tn (n := 30) hi)
      refine lv_aload_n (pc := 56) C.1 C.2.1 dX7_takeOver_56 rfl (lv_at hl 1 rfl) ?_
      refine g_getr (pc := 57) C w h1 ff_X7_3 lk_X7_11 dX7_takeOver_57 ?_
      refine lv_iload_n (pc := 60) C.1 C.2.1 dX7_takeOver_60 rfl (lv_at hl 2 rfl) ?_
      obtain ⟨hi, hw⟩ := hw
      refine g_aald (pc := 61) C w (ro_X7_3 h1) (by decide) rfl hi dX7_takeOver_61 ?_
      have ho_9 := ra_5 (j := (v2).toNat) (ro_X7_3 h1) (mm_tn (n := 30) hi)
      refine g_callv (pc := 62) w (mm_runV (ci := 5) (q := (RX5, TX5, 7)) (As := [.ref (mm_ad G (mm_rt (mm_rt a1 3) (v2).toNat))]) (rest := []) C w (c_X5_takeOver l G (mm_rt (mm_rt this 3) (v2).toNat) (mm_rt (mm_rt a1 3) (v2).toNat) ho_8 ho_9 s1 _ hw) ho_8 rfl rfl cv_X5_takeOver ml_X7_87 ⟨Nat.le_of_ble_eq_true rfl, Nat.le_of_ble_eq_true rfl⟩ ⟨Nat.le_of_ble_eq_true rfl, Nat.le_of_ble_eq_true rfl⟩ rfl hl.1 rfl (Nat.le_of_ble_eq_true rfl) dX7_takeOver_62) (fun s_10 H locs hw w => ?_)
      refine g_iinc (pc := 65) (k := 2) C dX7_takeOver_65 hl rfl (by decide) (fun v2_12 ev2_12 ls hl => ?_)
      have hw := hw v2_12 ev2_12
      have hl : lv_has ls 3 [(2, .int (mm_I v2_12)), (0, .ref (mm_ad G this)), (1, .ref (mm_ad G a1))] := hl
      refine lv_goto (pc := 68) (tgt := 44) C.1 C.2.1 dX7_takeOver_68 (by decide) ?_
      exact hw  _ _ _ w (lv_sub hl [1, 2, 0] rfl))
  have hw := hw (by
    intro v2 s1 hw  H locs ls w hl
    refine lv_iload_n (pc := 73) C.1 C.2.1 dX7_takeOver_73 rfl (lv_at hl 2 rfl) ?_
    refine lv_iconst (pc := 74) (v := mm_I 3) C.1 C.2.1 dX7_takeOver_74 rfl ?_
    refine g_icmp_ge (pc := 75) (tgt := 99) C rfl mn_3 dX7_takeOver_75 (by decide) (fun hc => ?_) (fun hc => ?_)
    · have hw := hw.1 hc
      exact g_vret (pc := 99) C w hr hk hw dX7_takeOver_99
    · have hw := hw.2 hc
      refine lv_aload_n (pc := 78) C.1 C.2.1 dX7_takeOver_78 rfl (lv_at hl 0 rfl) ?_
      refine g_getr (pc := 79) C w h0 ff_X7_4 lk_X7_19 dX7_takeOver_79 ?_
      refine lv_iload_n (pc := 82) C.1 C.2.1 dX7_takeOver_82 rfl (lv_at hl 2 rfl) ?_
      obtain ⟨hi, hw⟩ := hw
      refine g_aald (pc := 83) C w (ro_X7_4 h0) (by decide) rfl hi dX7_takeOver_83 ?_
      have ho_13 := ra_6 (j := (v2).toNat) (ro_X7_4 h0) (mm_tn (n := 3) hi)
      refine lv_aload_n (pc := 84) C.1 C.2.1 dX7_takeOver_84 rfl (lv_at hl 1 rfl) ?_
      refine g_getr (pc := 85) C w h1 ff_X7_4 lk_X7_19 dX7_takeOver_85 ?_
      refine lv_iload_n (pc := 88) C.1 C.2.1 dX7_takeOver_88 rfl (lv_at hl 2 rfl) ?_
      obtain ⟨hi, hw⟩ := hw
      refine g_aald (pc := 89) C w (ro_X7_4 h1) (by decide) rfl hi dX7_takeOver_89 ?_
      have ho_14 := ra_6 (j := (v2).toNat) (ro_X7_4 h1) (mm_tn (n := 3) hi)
      refine g_callv (pc := 90) w (mm_runV (ci := 2) (q := (RX2, TX2, 4)) (As := [.ref (mm_ad G (mm_rt (mm_rt a1 4) (v2).toNat))]) (rest := []) C w (c_X2_takeOver l G (mm_rt (mm_rt this 4) (v2).toNat) (mm_rt (mm_rt a1 4) (v2).toNat) ho_13 ho_14 s1 _ hw) ho_13 rfl rfl cv_X2_takeOver ml_X7_90 ⟨Nat.le_of_ble_eq_true rfl, Nat.le_of_ble_eq_true rfl⟩ ⟨Nat.le_of_ble_eq_true rfl, Nat.le_of_ble_eq_true rfl⟩ rfl hl.1 rfl (Nat.le_of_ble_eq_true rfl) dX7_takeOver_90) (fun s_15 H locs hw w => ?_)
      refine g_iinc (pc := 93) (k := 2) C dX7_takeOver_93 hl rfl (by decide) (fun v2_17 ev2_17 ls hl => ?_)
      have hw := hw v2_17 ev2_17
      have hl : lv_has ls 3 [(2, .int (mm_I v2_17)), (0, .ref (mm_ad G this)), (1, .ref (mm_ad G a1))] := hl
      refine lv_goto (pc := 96) (tgt := 73) C.1 C.2.1 dX7_takeOver_96 (by decide) ?_
      exact hw  _ _ _ w (lv_sub hl [1, 2, 0] rfl))
  intro H locs ls w hl
  have hl : lv_has ls 3 [(0, .ref (mm_ad G this)), (1, .ref (mm_ad G a1))] := hl
  refine lv_aload_n (pc := 0) C.1 C.2.1 dX7_takeOver_0 rfl (lv_at hl 0 rfl) ?_
  refine lv_aload_n (pc := 1) C.1 C.2.1 dX7_takeOver_1 rfl (lv_at hl 1 rfl) ?_
  refine g_geti (pc := 2) C w h1 ff_X7_7 lk_X7_48 dX7_takeOver_2 ?_
  refine g_puti (pc := 5) C w h0 ff_X7_7 fw_X7_7 lk_X7_48 dX7_takeOver_5 (fun s_1 H locs es_1 w => ?_)
  have hw := hw s_1 es_1
  refine lv_aload_n (pc := 8) C.1 C.2.1 dX7_takeOver_8 rfl (lv_at hl 0 rfl) ?_
  refine lv_aload_n (pc := 9) C.1 C.2.1 dX7_takeOver_9 rfl (lv_at hl 1 rfl) ?_
  refine g_geti (pc := 10) C w h1 ff_X7_8 lk_X7_52 dX7_takeOver_10 ?_
  refine g_puti (pc := 13) C w h0 ff_X7_8 fw_X7_8 lk_X7_52 dX7_takeOver_13 (fun s_2 H locs es_2 w => ?_)
  have hw := hw s_2 es_2
  refine lv_aload_n (pc := 16) C.1 C.2.1 dX7_takeOver_16 rfl (lv_at hl 0 rfl) ?_
  refine g_getr (pc := 17) C w h0 ff_X7_6 lk_X7_30 dX7_takeOver_17 ?_
  refine lv_aload_n (pc := 20) C.1 C.2.1 dX7_takeOver_20 rfl (lv_at hl 1 rfl) ?_
  refine g_getr (pc := 21) C w h1 ff_X7_6 lk_X7_30 dX7_takeOver_21 ?_
  refine g_callv (pc := 24) w (mm_runV (ci := 0) (q := (RX0, TX0, 2)) (As := [.ref (mm_ad G (mm_rt a1 6))]) (rest := []) C w (c_X0_takeOver l G (mm_rt this 6) (mm_rt a1 6) (ro_X7_6 h0) (ro_X7_6 h1) s_2 _ hw) (ro_X7_6 h0) rfl rfl cv_X0_takeOver ml_X7_77 ⟨Nat.le_of_ble_eq_true rfl, Nat.le_of_ble_eq_true rfl⟩ ⟨Nat.le_of_ble_eq_true rfl, Nat.le_of_ble_eq_true rfl⟩ rfl hl.1 rfl (Nat.le_of_ble_eq_true rfl) dX7_takeOver_24) (fun s_3 H locs hw w => ?_)
  refine lv_aload_n (pc := 27) C.1 C.2.1 dX7_takeOver_27 rfl (lv_at hl 1 rfl) ?_
  refine g_getr (pc := 28) C w h1 ff_X7_5 lk_X7_23 dX7_takeOver_28 ?_
  refine lv_iconst (pc := 31) (v := mm_I 0) C.1 C.2.1 dX7_takeOver_31 rfl ?_
  refine lv_aload_n (pc := 32) C.1 C.2.1 dX7_takeOver_32 rfl (lv_at hl 0 rfl) ?_
  refine g_getr (pc := 33) C w h0 ff_X7_5 lk_X7_23 dX7_takeOver_33 ?_
  refine lv_iconst (pc := 36) (v := mm_I 0) C.1 C.2.1 dX7_takeOver_36 rfl ?_
  refine lv_bipush (pc := 37) C.1 C.2.1 dX7_takeOver_37 mb_35 ?_
  obtain ⟨hi, hw⟩ := hw
  refine g_copy (pc := 39) C w hl.1 (ro_X7_5 h1) (ro_X7_5 h0) hi ml_X7_81 mv_copy ⟨Nat.le_of_ble_eq_true rfl, Nat.le_of_ble_eq_true rfl⟩ dX7_takeOver_39 (fun s_5 H locs es_5 w => ?_)
  have hw := hw s_5 es_5
  refine lv_iconst (pc := 42) (v := mm_I 0) C.1 C.2.1 dX7_takeOver_42 rfl ?_
  refine lv_istore_n (pc := 43) (lv' := [(2, .int (mm_I 0)), (0, .ref (mm_ad G this)), (1, .ref (mm_ad G a1))]) C.1 C.2.1 dX7_takeOver_43 rfl hl (by decide) rfl (fun ls hl => ?_)
  exact hw  _ _ _ w (lv_sub hl [1, 2, 0] rfl)
theorem ml_X7_93 : Cond.methodLink RX7 93 yX9_hasCounter ∈ mm_ws := (mt_3 170 rfl rfl)
def wp_X7_deskOf (this : Nat) (a1 : Int) (s0 : mm_M) (post : Option Nat → mm_M → Prop) : Prop :=
  (wp_X9_hasCounter (mm_rt this 0) a1 s0 (fun r_2 s_1 => ((n32 r_2 = 0 → post none s_1) ∧ (¬ n32 r_2 = 0 → ((0 ≤ a1 ∧ a1 < 3) ∧ post (some (mm_rt (mm_rt this 4) (a1).toNat)) s_1)))))
set_option maxRecDepth 100000 in
set_option maxHeartbeats 4000000 in
theorem c_X7_deskOf (l : Launch) (G : mm_G) (this : Nat) (a1 : Int) (h0 : mm_ok this 17 0) (s0 : mm_M) (post : Option Nat → mm_M → Prop) (hw : wp_X7_deskOf this a1 s0 post) : Met l yX7_deskOf (mm_wm yX7_deskOf cX7_deskOf 2 (some (.object "LastServed$Desk"))) (mm_rm 2) (va_Pc [.ref (mm_ad G this), .int (mm_I a1)] (mm_pre G s0)) (mm_Qq G (fun i => mm_ok i 12 0) post) 0 0 (mm_A G) := by
  refine mm_met (own := RX7) (by decide) rfl (Nat.le_of_ble_eq_true rfl) ?_
  intro p e s m args below meth c C hr hk
  unfold wp_X7_deskOf at hw
  intro H locs ls w hl
  have hl : lv_has ls 2 [(0, .ref (mm_ad G this)), (1, .int (mm_I a1))] := hl
  refine lv_aload_n (pc := 0) C.1 C.2.1 dX7_deskOf_0 rfl (lv_at hl 0 rfl) ?_
  refine g_getr (pc := 1) C w h0 ff_X7_0 lk_X7_34 dX7_deskOf_1 ?_
  refine lv_iload_n (pc := 4) C.1 C.2.1 dX7_deskOf_4 rfl (lv_at hl 1 rfl) ?_
  refine g_calli (pc := 5) w (mm_runV (ci := 9) (q := (RX9, TX9, 9)) (As := [.int (mm_I a1)]) (rest := []) C w (c_X9_hasCounter l G (mm_rt this 0) a1 (ro_X7_0 h0) s0 _ hw) (ro_X7_0 h0) rfl rfl cv_X9_hasCounter ml_X7_93 ⟨Nat.le_of_ble_eq_true rfl, Nat.le_of_ble_eq_true rfl⟩ ⟨Nat.le_of_ble_eq_true rfl, Nat.le_of_ble_eq_true rfl⟩ rfl hl.1 rfl (Nat.le_of_ble_eq_true rfl) dX7_deskOf_5) (fun r_2 s_1 H locs hw w => ?_)
  refine g_if_eq (pc := 8) (tgt := 20) C rfl dX7_deskOf_8 (by decide) (fun hc => ?_) (fun hc => ?_)
  · have hw := hw.1 hc
    refine lv_null (pc := 20) C.1 C.2.1 dX7_deskOf_20 ?_
    exact g_nret (pc := 21) C w hr hk hw dX7_deskOf_21
  · have hw := hw.2 hc
    refine lv_aload_n (pc := 11) C.1 C.2.1 dX7_deskOf_11 rfl (lv_at hl 0 rfl) ?_
    refine g_getr (pc := 12) C w h0 ff_X7_4 lk_X7_19 dX7_deskOf_12 ?_
    refine lv_iload_n (pc := 15) C.1 C.2.1 dX7_deskOf_15 rfl (lv_at hl 1 rfl) ?_
    obtain ⟨hi, hw⟩ := hw
    refine g_aald (pc := 16) C w (ro_X7_4 h0) (by decide) rfl hi dX7_deskOf_16 ?_
    have ho_3 := ra_6 (j := (a1).toNat) (ro_X7_4 h0) (mm_tn (n := 3) hi)
    refine lv_goto (pc := 17) (tgt := 21) C.1 C.2.1 dX7_deskOf_17 (by decide) ?_
    exact g_aret (pc := 21) C w hr hk ho_3 hw dX7_deskOf_21
def wp_X7_whoIsThere (this : Nat) (a1 : Int) (s0 : mm_M) (post : Option Nat → mm_M → Prop) : Prop :=
  ((n32 a1 < 0 → post none s0) ∧ (¬ n32 a1 < 0 → ((n32 a1 < 30 → ((0 ≤ a1 ∧ a1 < 30) ∧ ((¬ n32 (s0 (mm_rt (mm_rt this 3) (a1).toNat) 0) = (-1) → post (some (mm_rt (mm_rt this 3) (a1).toNat)) s0) ∧ (n32 (s0 (mm_rt (mm_rt this 3) (a1).toNat) 0) = (-1) → post none s0)))) ∧ (¬ n32 a1 < 30 → post none s0))))
set_option maxRecDepth 100000 in
set_option maxHeartbeats 4000000 in
theorem c_X7_whoIsThere (l : Launch) (G : mm_G) (this : Nat) (a1 : Int) (h0 : mm_ok this 17 0) (s0 : mm_M) (post : Option Nat → mm_M → Prop) (hw : wp_X7_whoIsThere this a1 s0 post) : Met l yX7_whoIsThere (mm_wm yX7_whoIsThere cX7_whoIsThere 3 (some (.object "LastServed$Person"))) (mm_rm 1) (va_Pc [.ref (mm_ad G this), .int (mm_I a1)] (mm_pre G s0)) (mm_Qq G (fun i => mm_ok i 15 0) post) 0 0 (mm_A G) := by
  refine mm_met (own := RX7) (by decide) rfl (Nat.le_of_ble_eq_true rfl) ?_
  intro p e s m args below meth c C hr hk
  unfold wp_X7_whoIsThere at hw
  intro H locs ls w hl
  have hl : lv_has ls 3 [(0, .ref (mm_ad G this)), (1, .int (mm_I a1))] := hl
  refine lv_iload_n (pc := 0) C.1 C.2.1 dX7_whoIsThere_0 rfl (lv_at hl 1 rfl) ?_
  refine g_if_lt (pc := 1) (tgt := 10) C rfl dX7_whoIsThere_1 (by decide) (fun hc => ?_) (fun hc => ?_)
  · have hw := hw.1 hc
    refine lv_null (pc := 10) C.1 C.2.1 dX7_whoIsThere_10 ?_
    exact g_nret (pc := 11) C w hr hk hw dX7_whoIsThere_11
  · have hw := hw.2 hc
    refine lv_iload_n (pc := 4) C.1 C.2.1 dX7_whoIsThere_4 rfl (lv_at hl 1 rfl) ?_
    refine lv_bipush (pc := 5) C.1 C.2.1 dX7_whoIsThere_5 mb_30 ?_
    refine g_icmp_lt (pc := 7) (tgt := 12) C rfl mn_30 dX7_whoIsThere_7 (by decide) (fun hc => ?_) (fun hc => ?_)
    · have hw := hw.1 hc
      refine lv_aload_n (pc := 12) C.1 C.2.1 dX7_whoIsThere_12 rfl (lv_at hl 0 rfl) ?_
      refine g_getr (pc := 13) C w h0 ff_X7_3 lk_X7_11 dX7_whoIsThere_13 ?_
      refine lv_iload_n (pc := 16) C.1 C.2.1 dX7_whoIsThere_16 rfl (lv_at hl 1 rfl) ?_
      obtain ⟨hi, hw⟩ := hw
      refine g_aald (pc := 17) C w (ro_X7_3 h0) (by decide) rfl hi dX7_whoIsThere_17 ?_
      have ho_1 := ra_5 (j := (a1).toNat) (ro_X7_3 h0) (mm_tn (n := 30) hi)
      refine lv_astore_n (pc := 18) (lv' := [(2, .ref (mm_ad G (mm_rt (mm_rt this 3) (a1).toNat))), (0, .ref (mm_ad G this)), (1, .int (mm_I a1))]) C.1 C.2.1 dX7_whoIsThere_18 rfl hl (by decide) rfl (fun ls hl => ?_)
      refine lv_aload_n (pc := 19) C.1 C.2.1 dX7_whoIsThere_19 rfl (lv_at hl 0 rfl) ?_
      refine lv_ifnull (pc := 20) C.1 C.2.1 dX7_whoIsThere_20 ?_
      refine lv_aload_n (pc := 23) C.1 C.2.1 dX7_whoIsThere_23 rfl (lv_at hl 0 rfl) ?_
      refine g_getiN (pc := 24) C w ho_1 ff_X5_0 lk_X7_64 dX7_whoIsThere_24 ?_
      refine lv_iconst (pc := 27) (v := mm_I (-1)) C.1 C.2.1 dX7_whoIsThere_27 rfl ?_
      refine g_icmp_ne (pc := 28) (tgt := 35) C rfl mn_m1 dX7_whoIsThere_28 (by decide) (fun hc => ?_) (fun hc => ?_)
      · have hw := hw.1 hc
        refine lv_aload_n (pc := 35) C.1 C.2.1 dX7_whoIsThere_35 rfl (lv_at hl 0 rfl) ?_
        exact g_aret (pc := 36) C w hr hk ho_1 hw dX7_whoIsThere_36
      · have hw := hw.2 hc
        refine lv_null (pc := 31) C.1 C.2.1 dX7_whoIsThere_31 ?_
        refine lv_goto (pc := 32) (tgt := 36) C.1 C.2.1 dX7_whoIsThere_32 (by decide) ?_
        exact g_nret (pc := 36) C w hr hk hw dX7_whoIsThere_36
    · have hw := hw.2 hc
      refine lv_null (pc := 10) C.1 C.2.1 dX7_whoIsThere_10 ?_
      exact g_nret (pc := 11) C w hr hk hw dX7_whoIsThere_11
theorem cv_X7_whoIsThere : mm_V yX7_whoIsThere cX7_whoIsThere 3 (some (.object "LastServed$Person")) 1 := ⟨(mt_3 224 rfl rfl), (mt_3 222 rfl rfl), (mt_3 223 rfl rfl), (mt_1 6 rfl rfl), by decide, by decide, by decide +kernel⟩
theorem ml_X7_97 : Cond.methodLink RX7 97 yX7_whoIsThere ∈ mm_ws := (mt_3 221 rfl rfl)
def wp_X7_howMany (this : Nat) (s0 : mm_M) (post : Int → mm_M → Prop) : Prop :=
  ∀ (L4 : Int → Int → mm_M → Prop), 
  (∀ (v1 : Int) (v2 : Int) (s1 : mm_M), ((30 ≤ n32 v2 → post v1 s1) ∧ (¬ 30 ≤ n32 v2 → (wp_X7_whoIsThere this v2 s1 (fun r_4 s_3 => (r_4 = none → (∀ v2_6 : Int, v2_6 = v2 + 1 → L4 v1 v2_6 s_3)) ∧ (∀ t_5 : Nat, r_4 = some t_5 → (∀ v1_7 : Int, v1_7 = v1 + 1 → (∀ v2_8 : Int, v2_8 = v2 + 1 → L4 v1_7 v2_8 s_3))))))) → L4 v1 v2 s1) →
  L4 0 0 s0
set_option maxRecDepth 100000 in
set_option maxHeartbeats 4000000 in
theorem c_X7_howMany (l : Launch) (G : mm_G) (this : Nat) (h0 : mm_ok this 17 0) (s0 : mm_M) (post : Int → mm_M → Prop) (hw : wp_X7_howMany this s0 post) : Met l yX7_howMany (mm_wm yX7_howMany cX7_howMany 3 (some .int)) (mm_rm 2) (va_Pc [.ref (mm_ad G this)] (mm_pre G s0)) (mm_Qi G post) 0 0 (mm_A G) := by
  refine mm_met (own := RX7) (by decide) rfl (Nat.le_of_ble_eq_true rfl) ?_
  intro p e s m args below meth c C hr hk
  unfold wp_X7_howMany at hw
  have hw := hw (fun (v1 : Int) (v2 : Int) (u : mm_M) => mm_X p l e (mm_rm 2) s m args below meth c (MQ below (mm_Qi G post) args s 0 0 (mm_A G)) G (mm_A G) 3 4 [(0, .ref (mm_ad G this)), (1, .int (mm_I v1)), (2, .int (mm_I v2))] [] u)
  have hw := hw (by
    intro v1 v2 s1 hw  H locs ls w hl
    refine lv_iload_n (pc := 4) C.1 C.2.1 dX7_howMany_4 rfl (lv_at hl 2 rfl) ?_
    refine lv_bipush (pc := 5) C.1 C.2.1 dX7_howMany_5 mb_30 ?_
    refine g_icmp_ge (pc := 7) (tgt := 27) C rfl mn_30 dX7_howMany_7 (by decide) (fun hc => ?_) (fun hc => ?_)
    · have hw := hw.1 hc
      refine lv_iload_n (pc := 27) C.1 C.2.1 dX7_howMany_27 rfl (lv_at hl 1 rfl) ?_
      exact g_iret (pc := 28) C w hr hk hw dX7_howMany_28
    · have hw := hw.2 hc
      refine lv_aload_n (pc := 10) C.1 C.2.1 dX7_howMany_10 rfl (lv_at hl 0 rfl) ?_
      refine lv_iload_n (pc := 11) C.1 C.2.1 dX7_howMany_11 rfl (lv_at hl 2 rfl) ?_
      refine g_callq (pc := 12) w (mm_runV (ci := 7) (q := (RX7, TX7, 9)) (As := [.int (mm_I v2)]) (rest := []) C w (c_X7_whoIsThere l G this v2 h0 s1 _ hw) h0 rfl rfl cv_X7_whoIsThere ml_X7_97 ⟨Nat.le_of_ble_eq_true rfl, Nat.le_of_ble_eq_true rfl⟩ ⟨Nat.le_of_ble_eq_true rfl, Nat.le_of_ble_eq_true rfl⟩ rfl hl.1 rfl (Nat.le_of_ble_eq_true rfl) dX7_howMany_12) (fun s_3 H locs hw w => ?_) (fun t_5 s_3 H locs ht_5 hw w => ?_)
      · have hw := hw.1 rfl
        refine lv_ifnullN (pc := 15) (tgt := 21) C.1 C.2.1 dX7_howMany_15 (by decide) ?_
        refine g_iinc (pc := 21) (k := 2) C dX7_howMany_21 hl rfl (by decide) (fun v2_6 ev2_6 ls hl => ?_)
        have hw := hw v2_6 ev2_6
        have hl : lv_has ls 3 [(2, .int (mm_I v2_6)), (0, .ref (mm_ad G this)), (1, .int (mm_I v1))] := hl
        refine lv_goto (pc := 24) (tgt := 4) C.1 C.2.1 dX7_howMany_24 (by decide) ?_
        exact hw  _ _ _ w (lv_sub hl [1, 2, 0] rfl)
      · have hw := hw.2 t_5 rfl
        refine lv_ifnull (pc := 15) C.1 C.2.1 dX7_howMany_15 ?_
        refine g_iinc (pc := 18) (k := 1) C dX7_howMany_18 hl rfl (by decide) (fun v1_7 ev1_7 ls hl => ?_)
        have hw := hw v1_7 ev1_7
        have hl : lv_has ls 3 [(1, .int (mm_I v1_7)), (0, .ref (mm_ad G this)), (2, .int (mm_I v2))] := hl
        refine g_iinc (pc := 21) (k := 2) C dX7_howMany_21 hl rfl (by decide) (fun v2_8 ev2_8 ls hl => ?_)
        have hw := hw v2_8 ev2_8
        have hl : lv_has ls 3 [(2, .int (mm_I v2_8)), (1, .int (mm_I v1_7)), (0, .ref (mm_ad G this))] := hl
        refine lv_goto (pc := 24) (tgt := 4) C.1 C.2.1 dX7_howMany_24 (by decide) ?_
        exact hw  _ _ _ w (lv_sub hl [2, 1, 0] rfl))
  intro H locs ls w hl
  have hl : lv_has ls 3 [(0, .ref (mm_ad G this))] := hl
  refine lv_iconst (pc := 0) (v := mm_I 0) C.1 C.2.1 dX7_howMany_0 rfl ?_
  refine lv_istore_n (pc := 1) (lv' := [(1, .int (mm_I 0)), (0, .ref (mm_ad G this))]) C.1 C.2.1 dX7_howMany_1 rfl hl (by decide) rfl (fun ls hl => ?_)
  refine lv_iconst (pc := 2) (v := mm_I 0) C.1 C.2.1 dX7_howMany_2 rfl ?_
  refine lv_istore_n (pc := 3) (lv' := [(2, .int (mm_I 0)), (1, .int (mm_I 0)), (0, .ref (mm_ad G this))]) C.1 C.2.1 dX7_howMany_3 rfl hl (by decide) rfl (fun ls hl => ?_)
  exact hw  _ _ _ w (lv_sub hl [2, 1, 0] rfl)
theorem lk_X7_101 : Cond.fieldLinkNest RX7 101 "LastServed$Person" "counter" "I" "LastServed" ∈ mm_nest := by decide +kernel
theorem cv_X7_deskOf : mm_V yX7_deskOf cX7_deskOf 2 (some (.object "LastServed$Desk")) 1 := ⟨(mt_3 169 rfl rfl), (mt_3 167 rfl rfl), (mt_3 168 rfl rfl), (mt_1 6 rfl rfl), by decide, by decide, by decide +kernel⟩
theorem ml_X7_104 : Cond.methodLink RX7 104 yX7_deskOf ∈ mm_ws := (mt_3 237 rfl rfl)
theorem ml_X7_108 : Cond.methodLink RX7 108 yX2_placeOf ∈ mm_ws := (mt_4 50 rfl rfl)
def wp_X7_placeOf (this : Nat) (a1 : Int) (a2 : Nat) (s0 : mm_M) (post : Int → mm_M → Prop) : Prop :=
  (wp_X7_deskOf this (s0 a2 2) s0 (fun r_2 s_1 => (r_2 = none → post (-1) s_1) ∧ (∀ t_3 : Nat, r_2 = some t_3 → (wp_X2_placeOf t_3 a1 s_1 (fun r_5 s_4 => post r_5 s_4)))))
set_option maxRecDepth 100000 in
set_option maxHeartbeats 4000000 in
theorem c_X7_placeOf (l : Launch) (G : mm_G) (this : Nat) (a1 : Int) (a2 : Nat) (h0 : mm_ok this 17 0) (h2 : mm_ok a2 15 0) (s0 : mm_M) (post : Int → mm_M → Prop) (hw : wp_X7_placeOf this a1 a2 s0 post) : Met l yX7_placeOf (mm_wm yX7_placeOf cX7_placeOf 4 (some .int)) (mm_rm 3) (va_Pc [.ref (mm_ad G this), .int (mm_I a1), .ref (mm_ad G a2)] (mm_pre G s0)) (mm_Qi G post) 0 0 (mm_A G) := by
  refine mm_met (own := RX7) (by decide) rfl (Nat.le_of_ble_eq_true rfl) ?_
  intro p e s m args below meth c C hr hk
  unfold wp_X7_placeOf at hw
  intro H locs ls w hl
  have hl : lv_has ls 4 [(0, .ref (mm_ad G this)), (1, .int (mm_I a1)), (2, .ref (mm_ad G a2))] := hl
  refine lv_aload_n (pc := 0) C.1 C.2.1 dX7_placeOf_0 rfl (lv_at hl 0 rfl) ?_
  refine lv_aload_n (pc := 1) C.1 C.2.1 dX7_placeOf_1 rfl (lv_at hl 2 rfl) ?_
  refine g_getiN (pc := 2) C w h2 ff_X5_2 lk_X7_101 dX7_placeOf_2 ?_
  refine g_callq (pc := 5) w (mm_runV (ci := 7) (q := (RX7, TX7, 9)) (As := [.int (mm_I (s0 a2 2))]) (rest := []) C w (c_X7_deskOf l G this (s0 a2 2) h0 s0 _ hw) h0 rfl rfl cv_X7_deskOf ml_X7_104 ⟨Nat.le_of_ble_eq_true rfl, Nat.le_of_ble_eq_true rfl⟩ ⟨Nat.le_of_ble_eq_true rfl, Nat.le_of_ble_eq_true rfl⟩ rfl hl.1 rfl (Nat.le_of_ble_eq_true rfl) dX7_placeOf_5) (fun s_1 H locs hw w => ?_) (fun t_3 s_1 H locs ht_3 hw w => ?_)
  · have hw := hw.1 rfl
    refine lv_astore_nN (pc := 8) (lv' := [(3, .null), (0, .ref (mm_ad G this)), (1, .int (mm_I a1)), (2, .ref (mm_ad G a2))]) C.1 C.2.1 dX7_placeOf_8 rfl hl (by decide) rfl (fun ls hl => ?_)
    refine lv_aload_nN (pc := 9) C.1 C.2.1 dX7_placeOf_9 rfl (lv_at hl 0 rfl) ?_
    refine lv_ifnonnullN (pc := 10) C.1 C.2.1 dX7_placeOf_10 ?_
    refine lv_iconst (pc := 13) (v := mm_I (-1)) C.1 C.2.1 dX7_placeOf_13 rfl ?_
    refine lv_goto (pc := 14) (tgt := 22) C.1 C.2.1 dX7_placeOf_14 (by decide) ?_
    exact g_iret (pc := 22) C w hr hk hw dX7_placeOf_22
  · have hw := hw.2 t_3 rfl
    refine lv_astore_n (pc := 8) (lv' := [(3, .ref (mm_ad G t_3)), (0, .ref (mm_ad G this)), (1, .int (mm_I a1)), (2, .ref (mm_ad G a2))]) C.1 C.2.1 dX7_placeOf_8 rfl hl (by decide) rfl (fun ls hl => ?_)
    refine lv_aload_n (pc := 9) C.1 C.2.1 dX7_placeOf_9 rfl (lv_at hl 0 rfl) ?_
    refine lv_ifnonnull (pc := 10) (tgt := 17) C.1 C.2.1 dX7_placeOf_10 (by decide) ?_
    refine lv_aload_n (pc := 17) C.1 C.2.1 dX7_placeOf_17 rfl (lv_at hl 0 rfl) ?_
    refine lv_iload_n (pc := 18) C.1 C.2.1 dX7_placeOf_18 rfl (lv_at hl 2 rfl) ?_
    refine g_calli (pc := 19) w (mm_runV (ci := 2) (q := (RX2, TX2, 4)) (As := [.int (mm_I a1)]) (rest := []) C w (c_X2_placeOf l G t_3 a1 ht_3 s_1 _ hw) ht_3 rfl rfl cv_X2_placeOf ml_X7_108 ⟨Nat.le_of_ble_eq_true rfl, Nat.le_of_ble_eq_true rfl⟩ ⟨Nat.le_of_ble_eq_true rfl, Nat.le_of_ble_eq_true rfl⟩ rfl hl.1 rfl (Nat.le_of_ble_eq_true rfl) dX7_placeOf_19) (fun r_5 s_4 H locs hw w => ?_)
    exact g_iret (pc := 22) C w hr hk hw dX7_placeOf_22
theorem ml_X7_112 : Cond.methodLink RX7 112 yX9_hasSort ∈ mm_ws := (mt_3 193 rfl rfl)
theorem mn_7 : n32 7 = 7 := by decide
def wp_X7_counted (this : Nat) (a1 : Int) (a2 : Int) (s0 : mm_M) (post : Int → mm_M → Prop) : Prop :=
  (wp_X9_hasSort (mm_rt this 0) a1 s0 (fun r_2 s_1 => ((n32 r_2 = 0 → post 0 s_1) ∧ (¬ n32 r_2 = 0 → ((n32 a2 < 0 → post 0 s_1) ∧ (¬ n32 a2 < 0 → ((n32 a2 < 7 → ((0 ≤ (a1 * 7) + a2 ∧ (a1 * 7) + a2 < 35) ∧ post (s_1 (mm_rt this 5) ((a1 * 7) + a2)) s_1)) ∧ (¬ n32 a2 < 7 → post 0 s_1))))))))
set_option maxRecDepth 100000 in
set_option maxHeartbeats 4000000 in
theorem c_X7_counted (l : Launch) (G : mm_G) (this : Nat) (a1 : Int) (a2 : Int) (h0 : mm_ok this 17 0) (s0 : mm_M) (post : Int → mm_M → Prop) (hw : wp_X7_counted this a1 a2 s0 post) : Met l yX7_counted (mm_wm yX7_counted cX7_counted 3 (some .int)) (mm_rm 2) (va_Pc [.ref (mm_ad G this), .int (mm_I a1), .int (mm_I a2)] (mm_pre G s0)) (mm_Qi G post) 0 0 (mm_A G) := by
  refine mm_met (own := RX7) (by decide) rfl (Nat.le_of_ble_eq_true rfl) ?_
  intro p e s m args below meth c C hr hk
  unfold wp_X7_counted at hw
  intro H locs ls w hl
  have hl : lv_has ls 3 [(0, .ref (mm_ad G this)), (1, .int (mm_I a1)), (2, .int (mm_I a2))] := hl
  refine lv_aload_n (pc := 0) C.1 C.2.1 dX7_counted_0 rfl (lv_at hl 0 rfl) ?_
  refine g_getr (pc := 1) C w h0 ff_X7_0 lk_X7_34 dX7_counted_1 ?_
  refine lv_iload_n (pc := 4) C.1 C.2.1 dX7_counted_4 rfl (lv_at hl 1 rfl) ?_
  refine g_calli (pc := 5) w (mm_runV (ci := 9) (q := (RX9, TX9, 9)) (As := [.int (mm_I a1)]) (rest := []) C w (c_X9_hasSort l G (mm_rt this 0) a1 (ro_X7_0 h0) s0 _ hw) (ro_X7_0 h0) rfl rfl cv_X9_hasSort ml_X7_112 ⟨Nat.le_of_ble_eq_true rfl, Nat.le_of_ble_eq_true rfl⟩ ⟨Nat.le_of_ble_eq_true rfl, Nat.le_of_ble_eq_true rfl⟩ rfl hl.1 rfl (Nat.le_of_ble_eq_true rfl) dX7_counted_5) (fun r_2 s_1 H locs hw w => ?_)
  refine g_if_eq (pc := 8) (tgt := 21) C rfl dX7_counted_8 (by decide) (fun hc => ?_) (fun hc => ?_)
  · have hw := hw.1 hc
    refine lv_iconst (pc := 21) (v := mm_I 0) C.1 C.2.1 dX7_counted_21 rfl ?_
    exact g_iret (pc := 22) C w hr hk hw dX7_counted_22
  · have hw := hw.2 hc
    refine lv_iload_n (pc := 11) C.1 C.2.1 dX7_counted_11 rfl (lv_at hl 2 rfl) ?_
    refine g_if_lt (pc := 12) (tgt := 21) C rfl dX7_counted_12 (by decide) (fun hc => ?_) (fun hc => ?_)
    · have hw := hw.1 hc
      refine lv_iconst (pc := 21) (v := mm_I 0) C.1 C.2.1 dX7_counted_21 rfl ?_
      exact g_iret (pc := 22) C w hr hk hw dX7_counted_22
    · have hw := hw.2 hc
      refine lv_iload_n (pc := 15) C.1 C.2.1 dX7_counted_15 rfl (lv_at hl 2 rfl) ?_
      refine lv_bipush (pc := 16) C.1 C.2.1 dX7_counted_16 mb_7 ?_
      refine g_icmp_lt (pc := 18) (tgt := 23) C rfl mn_7 dX7_counted_18 (by decide) (fun hc => ?_) (fun hc => ?_)
      · have hw := hw.1 hc
        refine lv_aload_n (pc := 23) C.1 C.2.1 dX7_counted_23 rfl (lv_at hl 0 rfl) ?_
        refine g_getr (pc := 24) C w h0 ff_X7_5 lk_X7_23 dX7_counted_24 ?_
        refine lv_iload_n (pc := 27) C.1 C.2.1 dX7_counted_27 rfl (lv_at hl 1 rfl) ?_
        refine lv_bipush (pc := 28) C.1 C.2.1 dX7_counted_28 mb_7 ?_
        refine g_imul (pc := 30) C dX7_counted_30 ?_
        refine lv_iload_n (pc := 31) C.1 C.2.1 dX7_counted_31 rfl (lv_at hl 2 rfl) ?_
        refine g_iadd (pc := 32) C dX7_counted_32 ?_
        obtain ⟨hi, hw⟩ := hw
        refine g_iald (pc := 33) C w (ro_X7_5 h0) hi dX7_counted_33 ?_
        exact g_iret (pc := 34) C w hr hk hw dX7_counted_34
      · have hw := hw.2 hc
        refine lv_iconst (pc := 21) (v := mm_I 0) C.1 C.2.1 dX7_counted_21 rfl ?_
        exact g_iret (pc := 22) C w hr hk hw dX7_counted_22
