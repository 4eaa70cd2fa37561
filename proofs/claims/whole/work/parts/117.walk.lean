def wp_X11_book (this : Nat) (a1 : Int) (a2 : Int) (s0 : mm_M) (post : Int → mm_M → Prop) : Prop :=
  ((¬ n32 a1 = (-1) → (wp_X11_in a1 0 ((s0 this 35) - 1) s0 (fun r_2 s_1 => ((n32 r_2 = 0 → post (-1) s_1) ∧ (¬ n32 r_2 = 0 → (wp_X11_in a2 0 4 s_1 (fun r_4 s_3 => ((n32 r_4 = 0 → post (-1) s_3) ∧ (¬ n32 r_4 = 0 → ((0 ≤ (5 * a1) + a2 ∧ (5 * a1) + a2 < 100) ∧ post (s_3 (mm_rt this 36) ((5 * a1) + a2)) s_3)))))))))) ∧ (n32 a1 = (-1) → post (s0 this 35) s0))
set_option maxRecDepth 100000 in
set_option maxHeartbeats 4000000 in
theorem c_X11_book (l : Launch) (G : mm_G) (this : Nat) (a1 : Int) (a2 : Int) (h0 : mm_ok this 21 0) (s0 : mm_M) (post : Int → mm_M → Prop) (hw : wp_X11_book this a1 a2 s0 post) : Met l yX11_book (mm_wm yX11_book cX11_book 3 (some .int)) (mm_rm 2) (va_Pc [.ref (mm_ad G this), .int (mm_I a1), .int (mm_I a2)] (mm_pre G s0)) (mm_Qi G post) 0 0 (mm_A G) := by
  refine mm_met (own := RX11) (by decide) rfl (Nat.le_of_ble_eq_true rfl) ?_
  intro p e s m args below meth c C hr hk
  unfold wp_X11_book at hw
  intro H locs ls w hl
  have hl : lv_has ls 3 [(0, .ref (mm_ad G this)), (1, .int (mm_I a1)), (2, .int (mm_I a2))] := hl
  refine lv_iload_n (pc := 0) C.1 C.2.1 dX11_book_0 rfl (lv_at hl 1 rfl) ?_
  refine lv_iconst (pc := 1) (v := mm_I (-1)) C.1 C.2.1 dX11_book_1 rfl ?_
  refine g_icmp_ne (pc := 2) (tgt := 12) C rfl mn_m1 dX11_book_2 (by decide) (fun hc => ?_) (fun hc => ?_)
  · have hw := hw.1 hc
    refine lv_iload_n (pc := 12) C.1 C.2.1 dX11_book_12 rfl (lv_at hl 1 rfl) ?_
    refine lv_iconst (pc := 13) (v := mm_I 0) C.1 C.2.1 dX11_book_13 rfl ?_
    refine lv_aload_n (pc := 14) C.1 C.2.1 dX11_book_14 rfl (lv_at hl 0 rfl) ?_
    refine g_geti (pc := 15) C w h0 ff_X11_35 lk_X11_303 dX11_book_15 ?_
    refine lv_iconst (pc := 18) (v := mm_I 1) C.1 C.2.1 dX11_book_18 rfl ?_
    refine g_isub (pc := 19) C dX11_book_19 ?_
    refine g_calli (pc := 20) w (mm_runS (As := [.int (mm_I a1), .int (mm_I 0), .int (mm_I ((s0 this 35) - 1))]) (rest := []) C w (c_X11_in l G a1 0 ((s0 this 35) - 1)  s0 _ hw) cs_X11_in ml_X11_122 ⟨Nat.le_of_ble_eq_true rfl, Nat.le_of_ble_eq_true rfl⟩ ⟨Nat.le_of_ble_eq_true rfl, Nat.le_of_ble_eq_true rfl⟩ rfl hl.1 rfl (Nat.le_of_ble_eq_true rfl) dX11_book_20) (fun r_2 s_1 H locs hw w => ?_)
    refine g_if_eq (pc := 23) (tgt := 48) C rfl dX11_book_23 (by decide) (fun hc => ?_) (fun hc => ?_)
    · have hw := hw.1 hc
      refine lv_iconst (pc := 48) (v := mm_I (-1)) C.1 C.2.1 dX11_book_48 rfl ?_
      exact g_iret (pc := 49) C w hr hk hw dX11_book_49
    · have hw := hw.2 hc
      refine lv_iload_n (pc := 26) C.1 C.2.1 dX11_book_26 rfl (lv_at hl 2 rfl) ?_
      refine lv_iconst (pc := 27) (v := mm_I 0) C.1 C.2.1 dX11_book_27 rfl ?_
      refine lv_iconst (pc := 28) (v := mm_I 4) C.1 C.2.1 dX11_book_28 rfl ?_
      refine g_calli (pc := 29) w (mm_runS (As := [.int (mm_I a2), .int (mm_I 0), .int (mm_I 4)]) (rest := []) C w (c_X11_in l G a2 0 4  s_1 _ hw) cs_X11_in ml_X11_122 ⟨Nat.le_of_ble_eq_true rfl, Nat.le_of_ble_eq_true rfl⟩ ⟨Nat.le_of_ble_eq_true rfl, Nat.le_of_ble_eq_true rfl⟩ rfl hl.1 rfl (Nat.le_of_ble_eq_true rfl) dX11_book_29) (fun r_4 s_3 H locs hw w => ?_)
      refine g_if_eq (pc := 32) (tgt := 48) C rfl dX11_book_32 (by decide) (fun hc => ?_) (fun hc => ?_)
      · have hw := hw.1 hc
        refine lv_iconst (pc := 48) (v := mm_I (-1)) C.1 C.2.1 dX11_book_48 rfl ?_
        exact g_iret (pc := 49) C w hr hk hw dX11_book_49
      · have hw := hw.2 hc
        refine lv_aload_n (pc := 35) C.1 C.2.1 dX11_book_35 rfl (lv_at hl 0 rfl) ?_
        refine g_getr (pc := 36) C w h0 ff_X11_36 lk_X11_70 dX11_book_36 ?_
        refine lv_iconst (pc := 39) (v := mm_I 5) C.1 C.2.1 dX11_book_39 rfl ?_
        refine lv_iload_n (pc := 40) C.1 C.2.1 dX11_book_40 rfl (lv_at hl 1 rfl) ?_
        refine g_imul (pc := 41) C dX11_book_41 ?_
        refine lv_iload_n (pc := 42) C.1 C.2.1 dX11_book_42 rfl (lv_at hl 2 rfl) ?_
        refine g_iadd (pc := 43) C dX11_book_43 ?_
        obtain ⟨hi, hw⟩ := hw
        refine g_iald (pc := 44) C w (ro_X11_36 h0) hi dX11_book_44 ?_
        refine lv_goto (pc := 45) (tgt := 49) C.1 C.2.1 dX11_book_45 (by decide) ?_
        exact g_iret (pc := 49) C w hr hk hw dX11_book_49
  · have hw := hw.2 hc
    refine lv_aload_n (pc := 5) C.1 C.2.1 dX11_book_5 rfl (lv_at hl 0 rfl) ?_
    refine g_geti (pc := 6) C w h0 ff_X11_35 lk_X11_303 dX11_book_6 ?_
    refine lv_goto (pc := 9) (tgt := 49) C.1 C.2.1 dX11_book_9 (by decide) ?_
    exact g_iret (pc := 49) C w hr hk hw dX11_book_49
def wp_X11_judge (this : Nat) (a1 : Int) (a2 : Int) (s0 : mm_M) (post : Int → mm_M → Prop) : Prop :=
  ∀ (L24 : Int → Int → mm_M → Prop), 
  (∀ (v3 : Int) (v4 : Int) (s1 : mm_M), ((n32 (s1 this 35) ≤ n32 v4 → post v3 s1) ∧ (¬ n32 (s1 this 35) ≤ n32 v4 → ((0 ≤ (5 * v4) + 1 ∧ (5 * v4) + 1 < 100) ∧ ((¬ n32 (s1 (mm_rt this 36) ((5 * v4) + 1)) = n32 a1 → (∀ v3_7 : Int, v3_7 = v3 + 0 → (∀ v4_8 : Int, v4_8 = v4 + 1 → L24 v3_7 v4_8 s1))) ∧ (n32 (s1 (mm_rt this 36) ((5 * v4) + 1)) = n32 a1 → ((0 ≤ (5 * v4) + 4 ∧ (5 * v4) + 4 < 100) ∧ ((0 ≤ (5 * v4) + 3 ∧ (5 * v4) + 3 < 100) ∧ (wp_X11_placeBy a2 (s1 (mm_rt this 36) ((5 * v4) + 3)) s1 (fun r_10 s_9 => ((n32 (s1 (mm_rt this 36) ((5 * v4) + 4)) = n32 r_10 → (∀ v3_11 : Int, v3_11 = v3 + 0 → (∀ v4_12 : Int, v4_12 = v4 + 1 → L24 v3_11 v4_12 s_9))) ∧ (¬ n32 (s1 (mm_rt this 36) ((5 * v4) + 4)) = n32 r_10 → (∀ v3_13 : Int, v3_13 = v3 + 1 → (∀ v4_14 : Int, v4_14 = v4 + 1 → L24 v3_13 v4_14 s_9))))))))))))) → L24 v3 v4 s1) →
  (wp_X11_isCounter this a1 s0 (fun r_2 s_1 => ((n32 r_2 = 0 → post (-1) s_1) ∧ (¬ n32 r_2 = 0 → (wp_X11_in a2 0 2 s_1 (fun r_4 s_3 => ((¬ n32 r_4 = 0 → L24 0 0 s_3) ∧ (n32 r_4 = 0 → post (-1) s_3))))))))
set_option maxRecDepth 100000 in
set_option maxHeartbeats 4000000 in
theorem c_X11_judge (l : Launch) (G : mm_G) (this : Nat) (a1 : Int) (a2 : Int) (h0 : mm_ok this 21 0) (s0 : mm_M) (post : Int → mm_M → Prop) (hw : wp_X11_judge this a1 a2 s0 post) : Met l yX11_judge (mm_wm yX11_judge cX11_judge 5 (some .int)) (mm_rm 3) (va_Pc [.ref (mm_ad G this), .int (mm_I a1), .int (mm_I a2)] (mm_pre G s0)) (mm_Qi G post) 0 0 (mm_A G) := by
  refine mm_met (own := RX11) (by decide) rfl (Nat.le_of_ble_eq_true rfl) ?_
  intro p e s m args below meth c C hr hk
  unfold wp_X11_judge at hw
  have hw := hw (fun (v3 : Int) (v4 : Int) (u : mm_M) => mm_X p l e (mm_rm 3) s m args below meth c (MQ below (mm_Qi G post) args s 0 0 (mm_A G)) G (mm_A G) 5 24 [(0, .ref (mm_ad G this)), (1, .int (mm_I a1)), (2, .int (mm_I a2)), (3, .int (mm_I v3)), (4, .int (mm_I v4))] [] u)
  have hw := hw (by
    intro v3 v4 s1 hw  H locs ls w hl
    refine lv_iload (pc := 24) C.1 C.2.1 dX11_judge_24 (lv_at hl 4 rfl) ?_
    refine lv_aload_n (pc := 26) C.1 C.2.1 dX11_judge_26 rfl (lv_at hl 0 rfl) ?_
    refine g_geti (pc := 27) C w h0 ff_X11_35 lk_X11_303 dX11_judge_27 ?_
    refine g_icmp_ge (pc := 30) (tgt := 91) C rfl rfl dX11_judge_30 (by decide) (fun hc => ?_) (fun hc => ?_)
    · have hw := hw.1 hc
      refine lv_iload_n (pc := 91) C.1 C.2.1 dX11_judge_91 rfl (lv_at hl 3 rfl) ?_
      exact g_iret (pc := 92) C w hr hk hw dX11_judge_92
    · have hw := hw.2 hc
      refine lv_iload_n (pc := 33) C.1 C.2.1 dX11_judge_33 rfl (lv_at hl 3 rfl) ?_
      refine lv_aload_n (pc := 34) C.1 C.2.1 dX11_judge_34 rfl (lv_at hl 0 rfl) ?_
      refine g_getr (pc := 35) C w h0 ff_X11_36 lk_X11_70 dX11_judge_35 ?_
      refine lv_iconst (pc := 38) (v := mm_I 5) C.1 C.2.1 dX11_judge_38 rfl ?_
      refine lv_iload (pc := 39) C.1 C.2.1 dX11_judge_39 (lv_at hl 4 rfl) ?_
      refine g_imul (pc := 41) C dX11_judge_41 ?_
      refine lv_iconst (pc := 42) (v := mm_I 1) C.1 C.2.1 dX11_judge_42 rfl ?_
      refine g_iadd (pc := 43) C dX11_judge_43 ?_
      obtain ⟨hi, hw⟩ := hw
      refine g_iald (pc := 44) C w (ro_X11_36 h0) hi dX11_judge_44 ?_
      refine lv_iload_n (pc := 45) C.1 C.2.1 dX11_judge_45 rfl (lv_at hl 1 rfl) ?_
      refine g_icmp_ne (pc := 46) (tgt := 82) C rfl rfl dX11_judge_46 (by decide) (fun hc => ?_) (fun hc => ?_)
      · have hw := hw.1 hc
        refine lv_iconst (pc := 82) (v := mm_I 0) C.1 C.2.1 dX11_judge_82 rfl ?_
        refine g_iadd (pc := 83) C dX11_judge_83 ?_
        refine g_istore_n (pc := 84) C dX11_judge_84 rfl hl (by decide) (fun v3_7 ev3_7 ls hl => ?_)
        have hw := hw v3_7 ev3_7
        have hl : lv_has ls 5 [(3, .int (mm_I v3_7)), (0, .ref (mm_ad G this)), (1, .int (mm_I a1)), (2, .int (mm_I a2)), (4, .int (mm_I v4))] := hl
        refine g_iinc (pc := 85) (k := 4) C dX11_judge_85 hl rfl (by decide) (fun v4_8 ev4_8 ls hl => ?_)
        have hw := hw v4_8 ev4_8
        have hl : lv_has ls 5 [(4, .int (mm_I v4_8)), (3, .int (mm_I v3_7)), (0, .ref (mm_ad G this)), (1, .int (mm_I a1)), (2, .int (mm_I a2))] := hl
        refine lv_goto (pc := 88) (tgt := 24) C.1 C.2.1 dX11_judge_88 (by decide) ?_
        exact hw  _ _ _ w (lv_sub hl [2, 3, 4, 1, 0] rfl)
      · have hw := hw.2 hc
        refine lv_aload_n (pc := 49) C.1 C.2.1 dX11_judge_49 rfl (lv_at hl 0 rfl) ?_
        refine g_getr (pc := 50) C w h0 ff_X11_36 lk_X11_70 dX11_judge_50 ?_
        refine lv_iconst (pc := 53) (v := mm_I 5) C.1 C.2.1 dX11_judge_53 rfl ?_
        refine lv_iload (pc := 54) C.1 C.2.1 dX11_judge_54 (lv_at hl 4 rfl) ?_
        refine g_imul (pc := 56) C dX11_judge_56 ?_
        refine lv_iconst (pc := 57) (v := mm_I 4) C.1 C.2.1 dX11_judge_57 rfl ?_
        refine g_iadd (pc := 58) C dX11_judge_58 ?_
        obtain ⟨hi, hw⟩ := hw
        refine g_iald (pc := 59) C w (ro_X11_36 h0) hi dX11_judge_59 ?_
        refine lv_iload_n (pc := 60) C.1 C.2.1 dX11_judge_60 rfl (lv_at hl 2 rfl) ?_
        refine lv_aload_n (pc := 61) C.1 C.2.1 dX11_judge_61 rfl (lv_at hl 0 rfl) ?_
        refine g_getr (pc := 62) C w h0 ff_X11_36 lk_X11_70 dX11_judge_62 ?_
        refine lv_iconst (pc := 65) (v := mm_I 5) C.1 C.2.1 dX11_judge_65 rfl ?_
        refine lv_iload (pc := 66) C.1 C.2.1 dX11_judge_66 (lv_at hl 4 rfl) ?_
        refine g_imul (pc := 68) C dX11_judge_68 ?_
        refine lv_iconst (pc := 69) (v := mm_I 3) C.1 C.2.1 dX11_judge_69 rfl ?_
        refine g_iadd (pc := 70) C dX11_judge_70 ?_
        obtain ⟨hi, hw⟩ := hw
        refine g_iald (pc := 71) C w (ro_X11_36 h0) hi dX11_judge_71 ?_
        refine g_calli (pc := 72) w (mm_runS (As := [.int (mm_I a2), .int (mm_I (s1 (mm_rt this 36) ((5 * v4) + 3)))]) (rest := [.int (mm_I (s1 (mm_rt this 36) ((5 * v4) + 4))), .int (mm_I v3)]) C w (c_X11_placeBy l G a2 (s1 (mm_rt this 36) ((5 * v4) + 3))  s1 _ hw) cs_X11_placeBy ml_X11_386 ⟨Nat.le_of_ble_eq_true rfl, Nat.le_of_ble_eq_true rfl⟩ ⟨Nat.le_of_ble_eq_true rfl, Nat.le_of_ble_eq_true rfl⟩ rfl hl.1 rfl (Nat.le_of_ble_eq_true rfl) dX11_judge_72) (fun r_10 s_9 H locs hw w => ?_)
        refine g_icmp_eq (pc := 75) (tgt := 82) C rfl rfl dX11_judge_75 (by decide) (fun hc => ?_) (fun hc => ?_)
        · have hw := hw.1 hc
          refine lv_iconst (pc := 82) (v := mm_I 0) C.1 C.2.1 dX11_judge_82 rfl ?_
          refine g_iadd (pc := 83) C dX11_judge_83 ?_
          refine g_istore_n (pc := 84) C dX11_judge_84 rfl hl (by decide) (fun v3_11 ev3_11 ls hl => ?_)
          have hw := hw v3_11 ev3_11
          have hl : lv_has ls 5 [(3, .int (mm_I v3_11)), (0, .ref (mm_ad G this)), (1, .int (mm_I a1)), (2, .int (mm_I a2)), (4, .int (mm_I v4))] := hl
          refine g_iinc (pc := 85) (k := 4) C dX11_judge_85 hl rfl (by decide) (fun v4_12 ev4_12 ls hl => ?_)
          have hw := hw v4_12 ev4_12
          have hl : lv_has ls 5 [(4, .int (mm_I v4_12)), (3, .int (mm_I v3_11)), (0, .ref (mm_ad G this)), (1, .int (mm_I a1)), (2, .int (mm_I a2))] := hl
          refine lv_goto (pc := 88) (tgt := 24) C.1 C.2.1 dX11_judge_88 (by decide) ?_
          exact hw  _ _ _ w (lv_sub hl [2, 3, 4, 1, 0] rfl)
        · have hw := hw.2 hc
          refine lv_iconst (pc := 78) (v := mm_I 1) C.1 C.2.1 dX11_judge_78 rfl ?_
          refine lv_goto (pc := 79) (tgt := 83) C.1 C.2.1 dX11_judge_79 (by decide) ?_
          refine g_iadd (pc := 83) C dX11_judge_83 ?_
          refine g_istore_n (pc := 84) C dX11_judge_84 rfl hl (by decide) (fun v3_13 ev3_13 ls hl => ?_)
          have hw := hw v3_13 ev3_13
          have hl : lv_has ls 5 [(3, .int (mm_I v3_13)), (0, .ref (mm_ad G this)), (1, .int (mm_I a1)), (2, .int (mm_I a2)), (4, .int (mm_I v4))] := hl
          refine g_iinc (pc := 85) (k := 4) C dX11_judge_85 hl rfl (by decide) (fun v4_14 ev4_14 ls hl => ?_)
          have hw := hw v4_14 ev4_14
          have hl : lv_has ls 5 [(4, .int (mm_I v4_14)), (3, .int (mm_I v3_13)), (0, .ref (mm_ad G this)), (1, .int (mm_I a1)), (2, .int (mm_I a2))] := hl
          refine lv_goto (pc := 88) (tgt := 24) C.1 C.2.1 dX11_judge_88 (by decide) ?_
          exact hw  _ _ _ w (lv_sub hl [2, 3, 4, 1, 0] rfl))
  intro H locs ls w hl
  have hl : lv_has ls 5 [(0, .ref (mm_ad G this)), (1, .int (mm_I a1)), (2, .int (mm_I a2))] := hl
  refine lv_aload_n (pc := 0) C.1 C.2.1 dX11_judge_0 rfl (lv_at hl 0 rfl) ?_
  refine lv_iload_n (pc := 1) C.1 C.2.1 dX11_judge_1 rfl (lv_at hl 1 rfl) ?_
  refine g_calli (pc := 2) w (mm_runV (ci := 11) (q := (RX11, TX11, 65)) (As := [.int (mm_I a1)]) (rest := []) C w (c_X11_isCounter l G this a1 h0 s0 _ hw) h0 rfl rfl cv_X11_isCounter ml_X11_321 ⟨Nat.le_of_ble_eq_true rfl, Nat.le_of_ble_eq_true rfl⟩ ⟨Nat.le_of_ble_eq_true rfl, Nat.le_of_ble_eq_true rfl⟩ rfl hl.1 rfl (Nat.le_of_ble_eq_true rfl) dX11_judge_2) (fun r_2 s_1 H locs hw w => ?_)
  refine g_if_eq (pc := 5) (tgt := 17) C rfl dX11_judge_5 (by decide) (fun hc => ?_) (fun hc => ?_)
  · have hw := hw.1 hc
    refine lv_iconst (pc := 17) (v := mm_I (-1)) C.1 C.2.1 dX11_judge_17 rfl ?_
    exact g_iret (pc := 18) C w hr hk hw dX11_judge_18
  · have hw := hw.2 hc
    refine lv_iload_n (pc := 8) C.1 C.2.1 dX11_judge_8 rfl (lv_at hl 2 rfl) ?_
    refine lv_iconst (pc := 9) (v := mm_I 0) C.1 C.2.1 dX11_judge_9 rfl ?_
    refine lv_iconst (pc := 10) (v := mm_I 2) C.1 C.2.1 dX11_judge_10 rfl ?_
    refine g_calli (pc := 11) w (mm_runS (As := [.int (mm_I a2), .int (mm_I 0), .int (mm_I 2)]) (rest := []) C w (c_X11_in l G a2 0 2  s_1 _ hw) cs_X11_in ml_X11_122 ⟨Nat.le_of_ble_eq_true rfl, Nat.le_of_ble_eq_true rfl⟩ ⟨Nat.le_of_ble_eq_true rfl, Nat.le_of_ble_eq_true rfl⟩ rfl hl.1 rfl (Nat.le_of_ble_eq_true rfl) dX11_judge_11) (fun r_4 s_3 H locs hw w => ?_)
    refine g_if_ne (pc := 14) (tgt := 19) C rfl dX11_judge_14 (by decide) (fun hc => ?_) (fun hc => ?_)
    · have hw := hw.1 hc
      refine lv_iconst (pc := 19) (v := mm_I 0) C.1 C.2.1 dX11_judge_19 rfl ?_
      refine lv_istore_n (pc := 20) (lv' := [(3, .int (mm_I 0)), (0, .ref (mm_ad G this)), (1, .int (mm_I a1)), (2, .int (mm_I a2))]) C.1 C.2.1 dX11_judge_20 rfl hl (by decide) rfl (fun ls hl => ?_)
      refine lv_iconst (pc := 21) (v := mm_I 0) C.1 C.2.1 dX11_judge_21 rfl ?_
      refine lv_istore (pc := 22) (lv' := [(4, .int (mm_I 0)), (3, .int (mm_I 0)), (0, .ref (mm_ad G this)), (1, .int (mm_I a1)), (2, .int (mm_I a2))]) C.1 C.2.1 dX11_judge_22 hl (by decide) rfl (fun ls hl => ?_)
      exact hw  _ _ _ w (lv_sub hl [2, 3, 4, 1, 0] rfl)
    · have hw := hw.2 hc
      refine lv_iconst (pc := 17) (v := mm_I (-1)) C.1 C.2.1 dX11_judge_17 rfl ?_
      exact g_iret (pc := 18) C w hr hk hw dX11_judge_18
theorem lk_X11_115 : Cond.fieldLink RX11 115 "LastServedModel" "worth" "[I" ∈ mm_ws := (mt_6 22 rfl rfl)
theorem ff_X11_58 : mm_F 11 58 1 RX11 TX11 65 := ⟨rfl, by decide, fk_X11, rfl, rfl⟩
theorem ro_X11_58 {i : Nat} (h : mm_ok i 21 0) : mm_ok (mm_rt i 58) 0 20449 := by
  have q : ∀ i, i < mm_N → mm_kd i = 21 → mm_rt i 58 < mm_N ∧ mm_kd (mm_rt i 58) = 0 ∧ mm_ln (mm_rt i 58) = 20449 := by decide +kernel
  exact q i h.1 h.2.1
def wp_X11_worthAt (this : Nat) (a1 : Int) (a2 : Int) (a3 : Int) (s0 : mm_M) (post : Int → mm_M → Prop) : Prop :=
  ((0 ≤ (((a1 * 13) + a2) * 13) + a3 ∧ (((a1 * 13) + a2) * 13) + a3 < 20449) ∧ post (s0 (mm_rt this 58) ((((a1 * 13) + a2) * 13) + a3)) s0)
set_option maxRecDepth 100000 in
set_option maxHeartbeats 4000000 in
theorem c_X11_worthAt (l : Launch) (G : mm_G) (this : Nat) (a1 : Int) (a2 : Int) (a3 : Int) (h0 : mm_ok this 21 0) (s0 : mm_M) (post : Int → mm_M → Prop) (hw : wp_X11_worthAt this a1 a2 a3 s0 post) : Met l yX11_worthAt (mm_wm yX11_worthAt cX11_worthAt 4 (some .int)) (mm_rm 1) (va_Pc [.ref (mm_ad G this), .int (mm_I a1), .int (mm_I a2), .int (mm_I a3)] (mm_pre G s0)) (mm_Qi G post) 0 0 (mm_A G) := by
  refine mm_met (own := RX11) (by decide) rfl (Nat.le_of_ble_eq_true rfl) ?_
  intro p e s m args below meth c C hr hk
  unfold wp_X11_worthAt at hw
  intro H locs ls w hl
  have hl : lv_has ls 4 [(0, .ref (mm_ad G this)), (1, .int (mm_I a1)), (2, .int (mm_I a2)), (3, .int (mm_I a3))] := hl
  refine lv_aload_n (pc := 0) C.1 C.2.1 dX11_worthAt_0 rfl (lv_at hl 0 rfl) ?_
  refine g_getr (pc := 1) C w h0 ff_X11_58 lk_X11_115 dX11_worthAt_1 ?_
  refine lv_iload_n (pc := 4) C.1 C.2.1 dX11_worthAt_4 rfl (lv_at hl 1 rfl) ?_
  refine lv_bipush (pc := 5) C.1 C.2.1 dX11_worthAt_5 mb_13 ?_
  refine g_imul (pc := 7) C dX11_worthAt_7 ?_
  refine lv_iload_n (pc := 8) C.1 C.2.1 dX11_worthAt_8 rfl (lv_at hl 2 rfl) ?_
  refine g_iadd (pc := 9) C dX11_worthAt_9 ?_
  refine lv_bipush (pc := 10) C.1 C.2.1 dX11_worthAt_10 mb_13 ?_
  refine g_imul (pc := 12) C dX11_worthAt_12 ?_
  refine lv_iload_n (pc := 13) C.1 C.2.1 dX11_worthAt_13 rfl (lv_at hl 3 rfl) ?_
  refine g_iadd (pc := 14) C dX11_worthAt_14 ?_
  obtain ⟨hi, hw⟩ := hw
  refine g_iald (pc := 15) C w (ro_X11_58 h0) hi dX11_worthAt_15 ?_
  exact g_iret (pc := 16) C w hr hk hw dX11_worthAt_16
theorem cv_X11_worthAt : mm_V yX11_worthAt cX11_worthAt 4 (some .int) 3 := ⟨(mt_8 36 rfl rfl), (mt_8 35 rfl rfl), (mp_6 13 rfl rfl), (mt_1 12 rfl rfl), by decide, by decide, by decide +kernel⟩
theorem ml_X11_433 : Cond.methodLink RX11 433 yX11_worthAt ∈ mm_ws := (mt_8 33 rfl rfl)
theorem lk_X11_437 : Cond.fieldLink RX11 437 "LastServedModel" "wQ" "I" ∈ mm_ws := (mt_6 25 rfl rfl)
theorem ff_X11_61 : mm_F 11 61 0 RX11 TX11 65 := ⟨rfl, by decide, fk_X11, rfl, rfl⟩
def wp_X11_behindOf (this : Nat) (a1 : Int) (a2 : Int) (a3 : Int) (s0 : mm_M) (post : Int → mm_M → Prop) : Prop :=
  ∀ (L31 : Int → mm_M → Prop), 
  (∀ (q0 : Int) (s1 : mm_M), (∀ v4_5 : Int, v4_5 = q0 → (wp_X11_worthAt this (a1 - 1) a2 a3 s1 (fun r_7 s_6 => post (Int.tdiv (n32 (((s1 this 61) * v4_5) + ((16 - (s1 this 61)) * r_7))) 16) s_6))) → L31 q0 s1) →
  ((12 ≤ n32 (a2 + a3) → (wp_X11_worthAt this (a1 - 1) a2 a3 s0 (fun r_2 s_1 => L31 r_2 s_1))) ∧ (¬ 12 ≤ n32 (a2 + a3) → (wp_X11_worthAt this (a1 - 1) a2 (a3 + 1) s0 (fun r_4 s_3 => L31 r_4 s_3))))
set_option maxRecDepth 100000 in
set_option maxHeartbeats 4000000 in
theorem c_X11_behindOf (l : Launch) (G : mm_G) (this : Nat) (a1 : Int) (a2 : Int) (a3 : Int) (h0 : mm_ok this 21 0) (s0 : mm_M) (post : Int → mm_M → Prop) (hw : wp_X11_behindOf this a1 a2 a3 s0 post) : Met l yX11_behindOf (mm_wm yX11_behindOf cX11_behindOf 5 (some .int)) (mm_rm 2) (va_Pc [.ref (mm_ad G this), .int (mm_I a1), .int (mm_I a2), .int (mm_I a3)] (mm_pre G s0)) (mm_Qi G post) 0 0 (mm_A G) := by
  refine mm_met (own := RX11) (by decide) rfl (Nat.le_of_ble_eq_true rfl) ?_
  intro p e s m args below meth c C hr hk
  unfold wp_X11_behindOf at hw
  have hw := hw (fun (q0 : Int) (u : mm_M) => mm_X p l e (mm_rm 2) s m args below meth c (MQ below (mm_Qi G post) args s 0 0 (mm_A G)) G (mm_A G) 5 31 [(0, .ref (mm_ad G this)), (1, .int (mm_I a1)), (2, .int (mm_I a2)), (3, .int (mm_I a3))] [.int (mm_I q0)] u)
  have hw := hw (by
    intro q0 s1 hw  H locs ls w hl
    refine g_istore (pc := 31) C dX11_behindOf_31 hl (by decide) (fun v4_5 ev4_5 ls hl => ?_)
    have hw := hw v4_5 ev4_5
    have hl : lv_has ls 5 [(4, .int (mm_I v4_5)), (0, .ref (mm_ad G this)), (1, .int (mm_I a1)), (2, .int (mm_I a2)), (3, .int (mm_I a3))] := hl
    refine lv_aload_n (pc := 33) C.1 C.2.1 dX11_behindOf_33 rfl (lv_at hl 1 rfl) ?_
    refine g_geti (pc := 34) C w h0 ff_X11_61 lk_X11_437 dX11_behindOf_34 ?_
    refine lv_iload (pc := 37) C.1 C.2.1 dX11_behindOf_37 (lv_at hl 0 rfl) ?_
    refine g_imul (pc := 39) C dX11_behindOf_39 ?_
    refine lv_bipush (pc := 40) C.1 C.2.1 dX11_behindOf_40 mb_16 ?_
    refine lv_aload_n (pc := 42) C.1 C.2.1 dX11_behindOf_42 rfl (lv_at hl 1 rfl) ?_
    refine g_geti (pc := 43) C w h0 ff_X11_61 lk_X11_437 dX11_behindOf_43 ?_
    refine g_isub (pc := 46) C dX11_behindOf_46 ?_
    refine lv_aload_n (pc := 47) C.1 C.2.1 dX11_behindOf_47 rfl (lv_at hl 1 rfl) ?_
    refine lv_iload_n (pc := 48) C.1 C.2.1 dX11_behindOf_48 rfl (lv_at hl 2 rfl) ?_
    refine lv_iconst (pc := 49) (v := mm_I 1) C.1 C.2.1 dX11_behindOf_49 rfl ?_
    refine g_isub (pc := 50) C dX11_behindOf_50 ?_
    refine lv_iload_n (pc := 51) C.1 C.2.1 dX11_behindOf_51 rfl (lv_at hl 3 rfl) ?_
    refine lv_iload_n (pc := 52) C.1 C.2.1 dX11_behindOf_52 rfl (lv_at hl 4 rfl) ?_
    refine g_calli (pc := 53) w (mm_runV (ci := 11) (q := (RX11, TX11, 65)) (As := [.int (mm_I (a1 - 1)), .int (mm_I a2), .int (mm_I a3)]) (rest := [.int (mm_I (16 - (s1 this 61))), .int (mm_I ((s1 this 61) * v4_5))]) C w (c_X11_worthAt l G this (a1 - 1) a2 a3 h0 s1 _ hw) h0 rfl rfl cv_X11_worthAt ml_X11_433 ⟨Nat.le_of_ble_eq_true rfl, Nat.le_of_ble_eq_true rfl⟩ ⟨Nat.le_of_ble_eq_true rfl, Nat.le_of_ble_eq_true rfl⟩ rfl hl.1 rfl (Nat.le_of_ble_eq_true rfl) dX11_behindOf_53) (fun r_7 s_6 H locs hw w => ?_)
    refine g_imul (pc := 56) C dX11_behindOf_56 ?_
    refine g_iadd (pc := 57) C dX11_behindOf_57 ?_
    refine lv_bipush (pc := 58) C.1 C.2.1 dX11_behindOf_58 mb_16 ?_
    refine g_idiv (pc := 60) C rfl mn_16 (by decide) dX11_behindOf_60 ?_
    exact g_iret (pc := 61) C w hr hk hw dX11_behindOf_61)
  intro H locs ls w hl
  have hl : lv_has ls 5 [(0, .ref (mm_ad G this)), (1, .int (mm_I a1)), (2, .int (mm_I a2)), (3, .int (mm_I a3))] := hl
  refine lv_iload_n (pc := 0) C.1 C.2.1 dX11_behindOf_0 rfl (lv_at hl 2 rfl) ?_
  refine lv_iload_n (pc := 1) C.1 C.2.1 dX11_behindOf_1 rfl (lv_at hl 3 rfl) ?_
  refine g_iadd (pc := 2) C dX11_behindOf_2 ?_
  refine lv_bipush (pc := 3) C.1 C.2.1 dX11_behindOf_3 mb_12 ?_
  refine g_icmp_ge (pc := 5) (tgt := 22) C rfl mn_12 dX11_behindOf_5 (by decide) (fun hc => ?_) (fun hc => ?_)
  · have hw := hw.1 hc
    refine lv_aload_n (pc := 22) C.1 C.2.1 dX11_behindOf_22 rfl (lv_at hl 0 rfl) ?_
    refine lv_iload_n (pc := 23) C.1 C.2.1 dX11_behindOf_23 rfl (lv_at hl 1 rfl) ?_
    refine lv_iconst (pc := 24) (v := mm_I 1) C.1 C.2.1 dX11_behindOf_24 rfl ?_
    refine g_isub (pc := 25) C dX11_behindOf_25 ?_
    refine lv_iload_n (pc := 26) C.1 C.2.1 dX11_behindOf_26 rfl (lv_at hl 2 rfl) ?_
    refine lv_iload_n (pc := 27) C.1 C.2.1 dX11_behindOf_27 rfl (lv_at hl 3 rfl) ?_
    refine g_calli (pc := 28) w (mm_runV (ci := 11) (q := (RX11, TX11, 65)) (As := [.int (mm_I (a1 - 1)), .int (mm_I a2), .int (mm_I a3)]) (rest := []) C w (c_X11_worthAt l G this (a1 - 1) a2 a3 h0 s0 _ hw) h0 rfl rfl cv_X11_worthAt ml_X11_433 ⟨Nat.le_of_ble_eq_true rfl, Nat.le_of_ble_eq_true rfl⟩ ⟨Nat.le_of_ble_eq_true rfl, Nat.le_of_ble_eq_true rfl⟩ rfl hl.1 rfl (Nat.le_of_ble_eq_true rfl) dX11_behindOf_28) (fun r_2 s_1 H locs hw w => ?_)
    exact hw  _ _ _ w (lv_sub hl [0, 1, 2, 3] rfl)
  · have hw := hw.2 hc
    refine lv_aload_n (pc := 8) C.1 C.2.1 dX11_behindOf_8 rfl (lv_at hl 0 rfl) ?_
    refine lv_iload_n (pc := 9) C.1 C.2.1 dX11_behindOf_9 rfl (lv_at hl 1 rfl) ?_
    refine lv_iconst (pc := 10) (v := mm_I 1) C.1 C.2.1 dX11_behindOf_10 rfl ?_
    refine g_isub (pc := 11) C dX11_behindOf_11 ?_
    refine lv_iload_n (pc := 12) C.1 C.2.1 dX11_behindOf_12 rfl (lv_at hl 2 rfl) ?_
    refine lv_iload_n (pc := 13) C.1 C.2.1 dX11_behindOf_13 rfl (lv_at hl 3 rfl) ?_
    refine lv_iconst (pc := 14) (v := mm_I 1) C.1 C.2.1 dX11_behindOf_14 rfl ?_
    refine g_iadd (pc := 15) C dX11_behindOf_15 ?_
    refine g_calli (pc := 16) w (mm_runV (ci := 11) (q := (RX11, TX11, 65)) (As := [.int (mm_I (a1 - 1)), .int (mm_I a2), .int (mm_I (a3 + 1))]) (rest := []) C w (c_X11_worthAt l G this (a1 - 1) a2 (a3 + 1) h0 s0 _ hw) h0 rfl rfl cv_X11_worthAt ml_X11_433 ⟨Nat.le_of_ble_eq_true rfl, Nat.le_of_ble_eq_true rfl⟩ ⟨Nat.le_of_ble_eq_true rfl, Nat.le_of_ble_eq_true rfl⟩ rfl hl.1 rfl (Nat.le_of_ble_eq_true rfl) dX11_behindOf_16) (fun r_4 s_3 H locs hw w => ?_)
    refine lv_goto (pc := 19) (tgt := 31) C.1 C.2.1 dX11_behindOf_19 (by decide) ?_
    exact hw  _ _ _ w (lv_sub hl [0, 1, 2, 3] rfl)
theorem ms_m1000 : (Int16.ofInt (-1000)).toInt32 = mm_I (-1000) := by decide
theorem lk_X11_440 : Cond.fieldLink RX11 440 "LastServedModel" "wSort" "I" ∈ mm_ws := (mt_6 27 rfl rfl)
theorem ff_X11_63 : mm_F 11 63 0 RX11 TX11 65 := ⟨rfl, by decide, fk_X11, rfl, rfl⟩
theorem lk_X11_443 : Cond.fieldLink RX11 443 "LastServedModel" "wEach" "I" ∈ mm_ws := (mt_6 24 rfl rfl)
theorem ff_X11_60 : mm_F 11 60 0 RX11 TX11 65 := ⟨rfl, by decide, fk_X11, rfl, rfl⟩
theorem lk_X11_449 : Cond.fieldLink RX11 449 "LastServedModel" "wLaw" "I" ∈ mm_ws := (mt_6 23 rfl rfl)
theorem ff_X11_59 : mm_F 11 59 0 RX11 TX11 65 := ⟨rfl, by decide, fk_X11, rfl, rfl⟩
theorem cv_X11_behindOf : mm_V yX11_behindOf cX11_behindOf 5 (some .int) 3 := ⟨(mt_8 32 rfl rfl), (mt_8 31 rfl rfl), (mp_6 12 rfl rfl), (mt_1 12 rfl rfl), by decide, by decide, by decide +kernel⟩
theorem ml_X11_446 : Cond.methodLink RX11 446 yX11_behindOf ∈ mm_ws := (mt_8 29 rfl rfl)
def wp_X11_staying (this : Nat) (a1 : Int) (a2 : Int) (a3 : Int) (s0 : mm_M) (post : Int → mm_M → Prop) : Prop :=
  ∀ (L89 : Int → Int → Int → mm_M → Prop), 
  (∀ (v4 : Int) (v6 : Int) (v7 : Int) (s1 : mm_M), ((n32 a3 ≤ 0 → (n32 v6 ≠ 0 ∧ post (v4 + (Int.tdiv (n32 v7) (n32 v6))) s1)) ∧ (¬ n32 a3 ≤ 0 → (wp_X11_behindOf this a1 a2 (a3 - 1) s1 (fun r_22 s_21 => (∀ v7_23 : Int, v7_23 = v7 + (a3 * r_22) → (n32 v6 ≠ 0 ∧ post (v4 + (Int.tdiv (n32 v7_23) (n32 v6))) s_21)))))) → L89 v4 v6 v7 s1) →
  (wp_X11_sortHas this (s0 this 63) 3 s0 (fun r_2 s_1 => (∀ v4_3 : Int, v4_3 = (-1000) * r_2 → (wp_X11_sortHas this (s_1 this 63) 1 s_1 (fun r_5 s_4 => (∀ v5_6 : Int, v5_6 = 1000 * r_5 → (n32 (s_4 this 60) ≠ 0 ∧ ((n32 (Int.tmod (n32 a1) (n32 (s_4 this 60))) = 0 → (∀ v6_7 : Int, v6_7 = (a2 + a3) + 1 → ((¬ n32 (s_4 this 59) = 3 → (wp_X11_placeBy (s_4 this 59) v6_7 s_4 (fun r_9 s_8 => (∀ v7_10 : Int, v7_10 = r_9 → ((¬ n32 v7_10 = n32 a2 → ((n32 a2 ≤ n32 v7_10 → (wp_X11_behindOf this a1 a2 (a3 - 1) s_8 (fun r_12 s_11 => post (v4_3 + r_12) s_11))) ∧ (¬ n32 a2 ≤ n32 v7_10 → (wp_X11_behindOf this a1 (a2 - 1) a3 s_8 (fun r_14 s_13 => post (v4_3 + r_14) s_13))))) ∧ (n32 v7_10 = n32 a2 → post (v4_3 + v5_6) s_8)))))) ∧ (n32 (s_4 this 59) = 3 → (∀ v7_15 : Int, v7_15 = v5_6 → ((n32 a2 ≤ 0 → L89 v4_3 v6_7 v7_15 s_4) ∧ (¬ n32 a2 ≤ 0 → (wp_X11_behindOf this a1 (a2 - 1) a3 s_4 (fun r_17 s_16 => (∀ v7_18 : Int, v7_18 = v7_15 + (a2 * r_17) → L89 v4_3 v6_7 v7_18 s_16)))))))))) ∧ (¬ n32 (Int.tmod (n32 a1) (n32 (s_4 this 60))) = 0 → (wp_X11_behindOf this a1 a2 a3 s_4 (fun r_20 s_19 => post (v4_3 + r_20) s_19)))))))))))
set_option maxRecDepth 100000 in
set_option maxHeartbeats 4000000 in
theorem c_X11_staying (l : Launch) (G : mm_G) (this : Nat) (a1 : Int) (a2 : Int) (a3 : Int) (h0 : mm_ok this 21 0) (s0 : mm_M) (post : Int → mm_M → Prop) (hw : wp_X11_staying this a1 a2 a3 s0 post) : Met l yX11_staying (mm_wm yX11_staying cX11_staying 8 (some .int)) (mm_rm 3) (va_Pc [.ref (mm_ad G this), .int (mm_I a1), .int (mm_I a2), .int (mm_I a3)] (mm_pre G s0)) (mm_Qi G post) 0 0 (mm_A G) := by
  refine mm_met (own := RX11) (by decide) rfl (Nat.le_of_ble_eq_true rfl) ?_
  intro p e s m args below meth c C hr hk
  unfold wp_X11_staying at hw
  have hw := hw (fun (v4 : Int) (v6 : Int) (v7 : Int) (u : mm_M) => mm_X p l e (mm_rm 3) s m args below meth c (MQ below (mm_Qi G post) args s 0 0 (mm_A G)) G (mm_A G) 8 89 [(0, .ref (mm_ad G this)), (1, .int (mm_I a1)), (2, .int (mm_I a2)), (3, .int (mm_I a3)), (4, .int (mm_I v4)), (6, .int (mm_I v6)), (7, .int (mm_I v7))] [] u)
  have hw := hw (by
    intro v4 v6 v7 s1 hw  H locs ls w hl
    refine lv_iload_n (pc := 89) C.1 C.2.1 dX11_staying_89 rfl (lv_at hl 3 rfl) ?_
    refine g_if_le (pc := 90) (tgt := 109) C rfl dX11_staying_90 (by decide) (fun hc => ?_) (fun hc => ?_)
    · have hw := hw.1 hc
      refine lv_iload (pc := 109) C.1 C.2.1 dX11_staying_109 (lv_at hl 4 rfl) ?_
      refine lv_iload (pc := 111) C.1 C.2.1 dX11_staying_111 (lv_at hl 6 rfl) ?_
      refine lv_iload (pc := 113) C.1 C.2.1 dX11_staying_113 (lv_at hl 5 rfl) ?_
      obtain ⟨hz, hw⟩ := hw
      refine g_idiv (pc := 115) C rfl rfl hz dX11_staying_115 ?_
      refine g_iadd (pc := 116) C dX11_staying_116 ?_
      exact g_iret (pc := 117) C w hr hk hw dX11_staying_117
    · have hw := hw.2 hc
      refine lv_iload (pc := 93) C.1 C.2.1 dX11_staying_93 (lv_at hl 6 rfl) ?_
      refine lv_iload_n (pc := 95) C.1 C.2.1 dX11_staying_95 rfl (lv_at hl 3 rfl) ?_
      refine lv_aload_n (pc := 96) C.1 C.2.1 dX11_staying_96 rfl (lv_at hl 0 rfl) ?_
      refine lv_iload_n (pc := 97) C.1 C.2.1 dX11_staying_97 rfl (lv_at hl 1 rfl) ?_
      refine lv_iload_n (pc := 98) C.1 C.2.1 dX11_staying_98 rfl (lv_at hl 2 rfl) ?_
      refine lv_iload_n (pc := 99) C.1 C.2.1 dX11_staying_99 rfl (lv_at hl 3 rfl) ?_
      refine lv_iconst (pc := 100) (v := mm_I 1) C.1 C.2.1 dX11_staying_100 rfl ?_
      refine g_isub (pc := 101) C dX11_staying_101 ?_
      refine g_calli (pc := 102) w (mm_runV (ci := 11) (q := (RX11, TX11, 65)) (As := [.int (mm_I a1), .int (mm_I a2), .int (mm_I (a3 - 1))]) (rest := [.int (mm_I a3), .int (mm_I v7)]) C w (c_X11_behindOf l G this a1 a2 (a3 - 1) h0 s1 _ hw) h0 rfl rfl cv_X11_behindOf ml_X11_446 ⟨Nat.le_of_ble_eq_true rfl, Nat.le_of_ble_eq_true rfl⟩ ⟨Nat.le_of_ble_eq_true rfl, Nat.le_of_ble_eq_true rfl⟩ rfl hl.1 rfl (Nat.le_of_ble_eq_true rfl) dX11_staying_102) (fun r_22 s_21 H locs hw w => ?_)
      refine g_imul (pc := 105) C dX11_staying_105 ?_
      refine g_iadd (pc := 106) C dX11_staying_106 ?_
      refine g_istore (pc := 107) C dX11_staying_107 hl (by decide) (fun v7_23 ev7_23 ls hl => ?_)
      have hw := hw v7_23 ev7_23
      have hl : lv_has ls 8 [(7, .int (mm_I v7_23)), (0, .ref (mm_ad G this)), (1, .int (mm_I a1)), (2, .int (mm_I a2)), (3, .int (mm_I a3)), (4, .int (mm_I v4)), (6, .int (mm_I v6))] := hl
      refine lv_iload (pc := 109) C.1 C.2.1 dX11_staying_109 (lv_at hl 5 rfl) ?_
      refine lv_iload (pc := 111) C.1 C.2.1 dX11_staying_111 (lv_at hl 0 rfl) ?_
      refine lv_iload (pc := 113) C.1 C.2.1 dX11_staying_113 (lv_at hl 6 rfl) ?_
      obtain ⟨hz, hw⟩ := hw
      refine g_idiv (pc := 115) C rfl rfl hz dX11_staying_115 ?_
      refine g_iadd (pc := 116) C dX11_staying_116 ?_
      exact g_iret (pc := 117) C w hr hk hw dX11_staying_117)
  intro H locs ls w hl
  have hl : lv_has ls 8 [(0, .ref (mm_ad G this)), (1, .int (mm_I a1)), (2, .int (mm_I a2)), (3, .int (mm_I a3))] := hl
  refine lv_sipush (pc := 0) C.1 C.2.1 dX11_staying_0 ms_m1000 ?_
  refine lv_aload_n (pc := 3) C.1 C.2.1 dX11_staying_3 rfl (lv_at hl 0 rfl) ?_
  refine lv_aload_n (pc := 4) C.1 C.2.1 dX11_staying_4 rfl (lv_at hl 0 rfl) ?_
  refine g_geti (pc := 5) C w h0 ff_X11_63 lk_X11_440 dX11_staying_5 ?_
  refine lv_iconst (pc := 8) (v := mm_I 3) C.1 C.2.1 dX11_staying_8 rfl ?_
  refine g_calli (pc := 9) w (mm_runV (ci := 11) (q := (RX11, TX11, 65)) (As := [.int (mm_I (s0 this 63)), .int (mm_I 3)]) (rest := [.int (mm_I (-1000))]) C w (c_X11_sortHas l G this (s0 this 63) 3 h0 s0 _ hw) h0 rfl rfl cv_X11_sortHas ml_X11_327 ⟨Nat.le_of_ble_eq_true rfl, Nat.le_of_ble_eq_true rfl⟩ ⟨Nat.le_of_ble_eq_true rfl, Nat.le_of_ble_eq_true rfl⟩ rfl hl.1 rfl (Nat.le_of_ble_eq_true rfl) dX11_staying_9) (fun r_2 s_1 H locs hw w => ?_)
  refine g_imul (pc := 12) C dX11_staying_12 ?_
  refine g_istore (pc := 13) C dX11_staying_13 hl (by decide) (fun v4_3 ev4_3 ls hl => ?_)
  have hw := hw v4_3 ev4_3
  have hl : lv_has ls 8 [(4, .int (mm_I v4_3)), (0, .ref (mm_ad G this)), (1, .int (mm_I a1)), (2, .int (mm_I a2)), (3, .int (mm_I a3))] := hl
  refine lv_sipush (pc := 15) C.1 C.2.1 dX11_staying_15 ms_1000 ?_
  refine lv_aload_n (pc := 18) C.1 C.2.1 dX11_staying_18 rfl (lv_at hl 1 rfl) ?_
  refine lv_aload_n (pc := 19) C.1 C.2.1 dX11_staying_19 rfl (lv_at hl 1 rfl) ?_
  refine g_geti (pc := 20) C w h0 ff_X11_63 lk_X11_440 dX11_staying_20 ?_
  refine lv_iconst (pc := 23) (v := mm_I 1) C.1 C.2.1 dX11_staying_23 rfl ?_
  refine g_calli (pc := 24) w (mm_runV (ci := 11) (q := (RX11, TX11, 65)) (As := [.int (mm_I (s_1 this 63)), .int (mm_I 1)]) (rest := [.int (mm_I 1000)]) C w (c_X11_sortHas l G this (s_1 this 63) 1 h0 s_1 _ hw) h0 rfl rfl cv_X11_sortHas ml_X11_327 ⟨Nat.le_of_ble_eq_true rfl, Nat.le_of_ble_eq_true rfl⟩ ⟨Nat.le_of_ble_eq_true rfl, Nat.le_of_ble_eq_true rfl⟩ rfl hl.1 rfl (Nat.le_of_ble_eq_true rfl) dX11_staying_24) (fun r_5 s_4 H locs hw w => ?_)
  refine g_imul (pc := 27) C dX11_staying_27 ?_
  refine g_istore (pc := 28) C dX11_staying_28 hl (by decide) (fun v5_6 ev5_6 ls hl => ?_)
  have hw := hw v5_6 ev5_6
  have hl : lv_has ls 8 [(5, .int (mm_I v5_6)), (4, .int (mm_I v4_3)), (0, .ref (mm_ad G this)), (1, .int (mm_I a1)), (2, .int (mm_I a2)), (3, .int (mm_I a3))] := hl
  refine lv_iload_n (pc := 30) C.1 C.2.1 dX11_staying_30 rfl (lv_at hl 3 rfl) ?_
  refine lv_aload_n (pc := 31) C.1 C.2.1 dX11_staying_31 rfl (lv_at hl 2 rfl) ?_
  refine g_geti (pc := 32) C w h0 ff_X11_60 lk_X11_443 dX11_staying_32 ?_
  obtain ⟨hz, hw⟩ := hw
  refine g_irem (pc := 35) C rfl rfl hz dX11_staying_35 ?_
  refine g_if_eq (pc := 36) (tgt := 50) C rfl dX11_staying_36 (by decide) (fun hc => ?_) (fun hc => ?_)
  · have hw := hw.1 hc
    refine lv_iload_n (pc := 50) C.1 C.2.1 dX11_staying_50 rfl (lv_at hl 4 rfl) ?_
    refine lv_iload_n (pc := 51) C.1 C.2.1 dX11_staying_51 rfl (lv_at hl 5 rfl) ?_
    refine g_iadd (pc := 52) C dX11_staying_52 ?_
    refine lv_iconst (pc := 53) (v := mm_I 1) C.1 C.2.1 dX11_staying_53 rfl ?_
    refine g_iadd (pc := 54) C dX11_staying_54 ?_
    refine g_istore (pc := 55) C dX11_staying_55 hl (by decide) (fun v6_7 ev6_7 ls hl => ?_)
    have hw := hw v6_7 ev6_7
    have hl : lv_has ls 8 [(6, .int (mm_I v6_7)), (5, .int (mm_I v5_6)), (4, .int (mm_I v4_3)), (0, .ref (mm_ad G this)), (1, .int (mm_I a1)), (2, .int (mm_I a2)), (3, .int (mm_I a3))] := hl
    refine lv_aload_n (pc := 57) C.1 C.2.1 dX11_staying_57 rfl (lv_at hl 3 rfl) ?_
    refine g_geti (pc := 58) C w h0 ff_X11_59 lk_X11_449 dX11_staying_58 ?_
    refine lv_iconst (pc := 61) (v := mm_I 3) C.1 C.2.1 dX11_staying_61 rfl ?_
    refine g_icmp_ne (pc := 62) (tgt := 118) C rfl mn_3 dX11_staying_62 (by decide) (fun hc => ?_) (fun hc => ?_)
    · have hw := hw.1 hc
      refine lv_aload_n (pc := 118) C.1 C.2.1 dX11_staying_118 rfl (lv_at hl 3 rfl) ?_
      refine g_geti (pc := 119) C w h0 ff_X11_59 lk_X11_449 dX11_staying_119 ?_
      refine lv_iload (pc := 122) C.1 C.2.1 dX11_staying_122 (lv_at hl 0 rfl) ?_
      refine g_calli (pc := 124) w (mm_runS (As := [.int (mm_I (s_4 this 59)), .int (mm_I v6_7)]) (rest := []) C w (c_X11_placeBy l G (s_4 this 59) v6_7  s_4 _ hw) cs_X11_placeBy ml_X11_386 ⟨Nat.le_of_ble_eq_true rfl, Nat.le_of_ble_eq_true rfl⟩ ⟨Nat.le_of_ble_eq_true rfl, Nat.le_of_ble_eq_true rfl⟩ rfl hl.1 rfl (Nat.le_of_ble_eq_true rfl) dX11_staying_124) (fun r_9 s_8 H locs hw w => ?_)
      refine g_istore (pc := 127) C dX11_staying_127 hl (by decide) (fun v7_10 ev7_10 ls hl => ?_)
      have hw := hw v7_10 ev7_10
      have hl : lv_has ls 8 [(7, .int (mm_I v7_10)), (6, .int (mm_I v6_7)), (5, .int (mm_I v5_6)), (4, .int (mm_I v4_3)), (0, .ref (mm_ad G this)), (1, .int (mm_I a1)), (2, .int (mm_I a2)), (3, .int (mm_I a3))] := hl
      refine lv_iload (pc := 129) C.1 C.2.1 dX11_staying_129 (lv_at hl 3 rfl) ?_
      refine lv_iload (pc := 131) C.1 C.2.1 dX11_staying_131 (lv_at hl 0 rfl) ?_
      refine lv_iload_n (pc := 133) C.1 C.2.1 dX11_staying_133 rfl (lv_at hl 6 rfl) ?_
      refine g_icmp_ne (pc := 134) (tgt := 142) C rfl rfl dX11_staying_134 (by decide) (fun hc => ?_) (fun hc => ?_)
      · have hw := hw.1 hc
        refine lv_iload (pc := 142) C.1 C.2.1 dX11_staying_142 (lv_at hl 0 rfl) ?_
        refine lv_iload_n (pc := 144) C.1 C.2.1 dX11_staying_144 rfl (lv_at hl 6 rfl) ?_
        refine g_icmp_ge (pc := 145) (tgt := 160) C rfl rfl dX11_staying_145 (by decide) (fun hc => ?_) (fun hc => ?_)
        · have hw := hw.1 hc
          refine lv_aload_n (pc := 160) C.1 C.2.1 dX11_staying_160 rfl (lv_at hl 4 rfl) ?_
          refine lv_iload_n (pc := 161) C.1 C.2.1 dX11_staying_161 rfl (lv_at hl 5 rfl) ?_
          refine lv_iload_n (pc := 162) C.1 C.2.1 dX11_staying_162 rfl (lv_at hl 6 rfl) ?_
          refine lv_iload_n (pc := 163) C.1 C.2.1 dX11_staying_163 rfl (lv_at hl 7 rfl) ?_
          refine lv_iconst (pc := 164) (v := mm_I 1) C.1 C.2.1 dX11_staying_164 rfl ?_
          refine g_isub (pc := 165) C dX11_staying_165 ?_
          refine g_calli (pc := 166) w (mm_runV (ci := 11) (q := (RX11, TX11, 65)) (As := [.int (mm_I a1), .int (mm_I a2), .int (mm_I (a3 - 1))]) (rest := [.int (mm_I v4_3)]) C w (c_X11_behindOf l G this a1 a2 (a3 - 1) h0 s_8 _ hw) h0 rfl rfl cv_X11_behindOf ml_X11_446 ⟨Nat.le_of_ble_eq_true rfl, Nat.le_of_ble_eq_true rfl⟩ ⟨Nat.le_of_ble_eq_true rfl, Nat.le_of_ble_eq_true rfl⟩ rfl hl.1 rfl (Nat.le_of_ble_eq_true rfl) dX11_staying_166) (fun r_12 s_11 H locs hw w => ?_)
          refine g_iadd (pc := 169) C dX11_staying_169 ?_
          exact g_iret (pc := 170) C w hr hk hw dX11_staying_170
        · have hw := hw.2 hc
          refine lv_aload_n (pc := 148) C.1 C.2.1 dX11_staying_148 rfl (lv_at hl 4 rfl) ?_
          refine lv_iload_n (pc := 149) C.1 C.2.1 dX11_staying_149 rfl (lv_at hl 5 rfl) ?_
          refine lv_iload_n (pc := 150) C.1 C.2.1 dX11_staying_150 rfl (lv_at hl 6 rfl) ?_
          refine lv_iconst (pc := 151) (v := mm_I 1) C.1 C.2.1 dX11_staying_151 rfl ?_
          refine g_isub (pc := 152) C dX11_staying_152 ?_
          refine lv_iload_n (pc := 153) C.1 C.2.1 dX11_staying_153 rfl (lv_at hl 7 rfl) ?_
          refine g_calli (pc := 154) w (mm_runV (ci := 11) (q := (RX11, TX11, 65)) (As := [.int (mm_I a1), .int (mm_I (a2 - 1)), .int (mm_I a3)]) (rest := [.int (mm_I v4_3)]) C w (c_X11_behindOf l G this a1 (a2 - 1) a3 h0 s_8 _ hw) h0 rfl rfl cv_X11_behindOf ml_X11_446 ⟨Nat.le_of_ble_eq_true rfl, Nat.le_of_ble_eq_true rfl⟩ ⟨Nat.le_of_ble_eq_true rfl, Nat.le_of_ble_eq_true rfl⟩ rfl hl.1 rfl (Nat.le_of_ble_eq_true rfl) dX11_staying_154) (fun r_14 s_13 H locs hw w => ?_)
          refine lv_goto (pc := 157) (tgt := 169) C.1 C.2.1 dX11_staying_157 (by decide) ?_
          refine g_iadd (pc := 169) C dX11_staying_169 ?_
          exact g_iret (pc := 170) C w hr hk hw dX11_staying_170
      · have hw := hw.2 hc
        refine lv_iload (pc := 137) C.1 C.2.1 dX11_staying_137 (lv_at hl 2 rfl) ?_
        refine lv_goto (pc := 139) (tgt := 169) C.1 C.2.1 dX11_staying_139 (by decide) ?_
        refine g_iadd (pc := 169) C dX11_staying_169 ?_
        exact g_iret (pc := 170) C w hr hk hw dX11_staying_170
    · have hw := hw.2 hc
      refine lv_iload (pc := 65) C.1 C.2.1 dX11_staying_65 (lv_at hl 1 rfl) ?_
      refine g_istore (pc := 67) C dX11_staying_67 hl (by decide) (fun v7_15 ev7_15 ls hl => ?_)
      have hw := hw v7_15 ev7_15
      have hl : lv_has ls 8 [(7, .int (mm_I v7_15)), (6, .int (mm_I v6_7)), (5, .int (mm_I v5_6)), (4, .int (mm_I v4_3)), (0, .ref (mm_ad G this)), (1, .int (mm_I a1)), (2, .int (mm_I a2)), (3, .int (mm_I a3))] := hl
      refine lv_iload_n (pc := 69) C.1 C.2.1 dX11_staying_69 rfl (lv_at hl 6 rfl) ?_
      refine g_if_le (pc := 70) (tgt := 89) C rfl dX11_staying_70 (by decide) (fun hc => ?_) (fun hc => ?_)
      · have hw := hw.1 hc
        exact hw  _ _ _ w (lv_sub hl [4, 5, 6, 7, 3, 1, 0] rfl)
      · have hw := hw.2 hc
        refine lv_iload (pc := 73) C.1 C.2.1 dX11_staying_73 (lv_at hl 0 rfl) ?_
        refine lv_iload_n (pc := 75) C.1 C.2.1 dX11_staying_75 rfl (lv_at hl 6 rfl) ?_
        refine lv_aload_n (pc := 76) C.1 C.2.1 dX11_staying_76 rfl (lv_at hl 4 rfl) ?_
        refine lv_iload_n (pc := 77) C.1 C.2.1 dX11_staying_77 rfl (lv_at hl 5 rfl) ?_
        refine lv_iload_n (pc := 78) C.1 C.2.1 dX11_staying_78 rfl (lv_at hl 6 rfl) ?_
        refine lv_iconst (pc := 79) (v := mm_I 1) C.1 C.2.1 dX11_staying_79 rfl ?_
        refine g_isub (pc := 80) C dX11_staying_80 ?_
        refine lv_iload_n (pc := 81) C.1 C.2.1 dX11_staying_81 rfl (lv_at hl 7 rfl) ?_
        refine g_calli (pc := 82) w (mm_runV (ci := 11) (q := (RX11, TX11, 65)) (As := [.int (mm_I a1), .int (mm_I (a2 - 1)), .int (mm_I a3)]) (rest := [.int (mm_I a2), .int (mm_I v7_15)]) C w (c_X11_behindOf l G this a1 (a2 - 1) a3 h0 s_4 _ hw) h0 rfl rfl cv_X11_behindOf ml_X11_446 ⟨Nat.le_of_ble_eq_true rfl, Nat.le_of_ble_eq_true rfl⟩ ⟨Nat.le_of_ble_eq_true rfl, Nat.le_of_ble_eq_true rfl⟩ rfl hl.1 rfl (Nat.le_of_ble_eq_true rfl) dX11_staying_82) (fun r_17 s_16 H locs hw w => ?_)
        refine g_imul (pc := 85) C dX11_staying_85 ?_
        refine g_iadd (pc := 86) C dX11_staying_86 ?_
        refine g_istore (pc := 87) C dX11_staying_87 hl (by decide) (fun v7_18 ev7_18 ls hl => ?_)
        have hw := hw v7_18 ev7_18
        have hl : lv_has ls 8 [(7, .int (mm_I v7_18)), (6, .int (mm_I v6_7)), (5, .int (mm_I v5_6)), (4, .int (mm_I v4_3)), (0, .ref (mm_ad G this)), (1, .int (mm_I a1)), (2, .int (mm_I a2)), (3, .int (mm_I a3))] := hl
        exact hw  _ _ _ w (lv_sub hl [4, 5, 6, 7, 3, 1, 0] rfl)
  · have hw := hw.2 hc
    refine lv_iload (pc := 39) C.1 C.2.1 dX11_staying_39 (lv_at hl 1 rfl) ?_
    refine lv_aload_n (pc := 41) C.1 C.2.1 dX11_staying_41 rfl (lv_at hl 2 rfl) ?_
    refine lv_iload_n (pc := 42) C.1 C.2.1 dX11_staying_42 rfl (lv_at hl 3 rfl) ?_
    refine lv_iload_n (pc := 43) C.1 C.2.1 dX11_staying_43 rfl (lv_at hl 4 rfl) ?_
    refine lv_iload_n (pc := 44) C.1 C.2.1 dX11_staying_44 rfl (lv_at hl 5 rfl) ?_
    refine g_calli (pc := 45) w (mm_runV (ci := 11) (q := (RX11, TX11, 65)) (As := [.int (mm_I a1), .int (mm_I a2), .int (mm_I a3)]) (rest := [.int (mm_I v4_3)]) C w (c_X11_behindOf l G this a1 a2 a3 h0 s_4 _ hw) h0 rfl rfl cv_X11_behindOf ml_X11_446 ⟨Nat.le_of_ble_eq_true rfl, Nat.le_of_ble_eq_true rfl⟩ ⟨Nat.le_of_ble_eq_true rfl, Nat.le_of_ble_eq_true rfl⟩ rfl hl.1 rfl (Nat.le_of_ble_eq_true rfl) dX11_staying_45) (fun r_20 s_19 H locs hw w => ?_)
    refine g_iadd (pc := 48) C dX11_staying_48 ?_
    exact g_iret (pc := 49) C w hr hk hw dX11_staying_49
theorem cv_X11_staying : mm_V yX11_staying cX11_staying 8 (some .int) 3 := ⟨(mt_8 28 rfl rfl), (mt_8 27 rfl rfl), (mp_6 11 rfl rfl), (mt_1 12 rfl rfl), by decide, by decide, by decide +kernel⟩
theorem ml_X11_452 : Cond.methodLink RX11 452 yX11_staying ∈ mm_ws := (mt_8 25 rfl rfl)
theorem lk_X11_455 : Cond.fieldLink RX11 455 "LastServedModel" "wFee" "I" ∈ mm_ws := (mt_6 26 rfl rfl)
theorem ff_X11_62 : mm_F 11 62 0 RX11 TX11 65 := ⟨rfl, by decide, fk_X11, rfl, rfl⟩
def wp_X11_turning (this : Nat) (a1 : Int) (a2 : Int) (a3 : Int) (s0 : mm_M) (post : Int → mm_M → Prop) : Prop :=
  (wp_X11_staying this a1 (a2 + a3) 0 s0 (fun r_2 s_1 => (wp_X11_sortHas this (s_1 this 63) 4 s_1 (fun r_4 s_3 => post (r_2 - (1000 * ((s_1 this 62) + ((s_1 this 18) * r_4)))) s_3))))
set_option maxRecDepth 100000 in
set_option maxHeartbeats 4000000 in
theorem c_X11_turning (l : Launch) (G : mm_G) (this : Nat) (a1 : Int) (a2 : Int) (a3 : Int) (h0 : mm_ok this 21 0) (s0 : mm_M) (post : Int → mm_M → Prop) (hw : wp_X11_turning this a1 a2 a3 s0 post) : Met l yX11_turning (mm_wm yX11_turning cX11_turning 4 (some .int)) (mm_rm 4) (va_Pc [.ref (mm_ad G this), .int (mm_I a1), .int (mm_I a2), .int (mm_I a3)] (mm_pre G s0)) (mm_Qi G post) 0 0 (mm_A G) := by
  refine mm_met (own := RX11) (by decide) rfl (Nat.le_of_ble_eq_true rfl) ?_
  intro p e s m args below meth c C hr hk
  unfold wp_X11_turning at hw
  intro H locs ls w hl
  have hl : lv_has ls 4 [(0, .ref (mm_ad G this)), (1, .int (mm_I a1)), (2, .int (mm_I a2)), (3, .int (mm_I a3))] := hl
  refine lv_aload_n (pc := 0) C.1 C.2.1 dX11_turning_0 rfl (lv_at hl 0 rfl) ?_
  refine lv_iload_n (pc := 1) C.1 C.2.1 dX11_turning_1 rfl (lv_at hl 1 rfl) ?_
  refine lv_iload_n (pc := 2) C.1 C.2.1 dX11_turning_2 rfl (lv_at hl 2 rfl) ?_
  refine lv_iload_n (pc := 3) C.1 C.2.1 dX11_turning_3 rfl (lv_at hl 3 rfl) ?_
  refine g_iadd (pc := 4) C dX11_turning_4 ?_
  refine lv_iconst (pc := 5) (v := mm_I 0) C.1 C.2.1 dX11_turning_5 rfl ?_
  refine g_calli (pc := 6) w (mm_runV (ci := 11) (q := (RX11, TX11, 65)) (As := [.int (mm_I a1), .int (mm_I (a2 + a3)), .int (mm_I 0)]) (rest := []) C w (c_X11_staying l G this a1 (a2 + a3) 0 h0 s0 _ hw) h0 rfl rfl cv_X11_staying ml_X11_452 ⟨Nat.le_of_ble_eq_true rfl, Nat.le_of_ble_eq_true rfl⟩ ⟨Nat.le_of_ble_eq_true rfl, Nat.le_of_ble_eq_true rfl⟩ rfl hl.1 rfl (Nat.le_of_ble_eq_true rfl) dX11_turning_6) (fun r_2 s_1 H locs hw w => ?_)
  refine lv_sipush (pc := 9) C.1 C.2.1 dX11_turning_9 ms_1000 ?_
  refine lv_aload_n (pc := 12) C.1 C.2.1 dX11_turning_12 rfl (lv_at hl 0 rfl) ?_
  refine g_geti (pc := 13) C w h0 ff_X11_62 lk_X11_455 dX11_turning_13 ?_
  refine lv_aload_n (pc := 16) C.1 C.2.1 dX11_turning_16 rfl (lv_at hl 0 rfl) ?_
  refine g_geti (pc := 17) C w h0 ff_X11_18 lk_X11_299 dX11_turning_17 ?_
  refine lv_aload_n (pc := 20) C.1 C.2.1 dX11_turning_20 rfl (lv_at hl 0 rfl) ?_
  refine lv_aload_n (pc := 21) C.1 C.2.1 dX11_turning_21 rfl (lv_at hl 0 rfl) ?_
  refine g_geti (pc := 22) C w h0 ff_X11_63 lk_X11_440 dX11_turning_22 ?_
  refine lv_iconst (pc := 25) (v := mm_I 4) C.1 C.2.1 dX11_turning_25 rfl ?_
  refine g_calli (pc := 26) w (mm_runV (ci := 11) (q := (RX11, TX11, 65)) (As := [.int (mm_I (s_1 this 63)), .int (mm_I 4)]) (rest := [.int (mm_I (s_1 this 18)), .int (mm_I (s_1 this 62)), .int (mm_I 1000), .int (mm_I r_2)]) C w (c_X11_sortHas l G this (s_1 this 63) 4 h0 s_1 _ hw) h0 rfl rfl cv_X11_sortHas ml_X11_327 ⟨Nat.le_of_ble_eq_true rfl, Nat.le_of_ble_eq_true rfl⟩ ⟨Nat.le_of_ble_eq_true rfl, Nat.le_of_ble_eq_true rfl⟩ rfl hl.1 rfl (Nat.le_of_ble_eq_true rfl) dX11_turning_26) (fun r_4 s_3 H locs hw w => ?_)
  refine g_imul (pc := 29) C dX11_turning_29 ?_
  refine g_iadd (pc := 30) C dX11_turning_30 ?_
  refine g_imul (pc := 31) C dX11_turning_31 ?_
  refine g_isub (pc := 32) C dX11_turning_32 ?_
  exact g_iret (pc := 33) C w hr hk hw dX11_turning_33
theorem fw_X11_63 : mm_Fw 11 63 TX11 65 .int := ⟨⟨tyX11, tyX11_ok⟩, nmX11, rfl, by decide +kernel⟩
theorem fw_X11_59 : mm_Fw 11 59 TX11 65 .int := ⟨⟨tyX11, tyX11_ok⟩, nmX11, rfl, by decide +kernel⟩
theorem fw_X11_60 : mm_Fw 11 60 TX11 65 .int := ⟨⟨tyX11, tyX11_ok⟩, nmX11, rfl, by decide +kernel⟩
theorem fw_X11_61 : mm_Fw 11 61 TX11 65 .int := ⟨⟨tyX11, tyX11_ok⟩, nmX11, rfl, by decide +kernel⟩
theorem fw_X11_62 : mm_Fw 11 62 TX11 65 .int := ⟨⟨tyX11, tyX11_ok⟩, nmX11, rfl, by decide +kernel⟩
theorem cv_X11_turning : mm_V yX11_turning cX11_turning 4 (some .int) 3 := ⟨(mt_8 40 rfl rfl), (mt_8 39 rfl rfl), (mp_6 14 rfl rfl), (mt_1 12 rfl rfl), by decide, by decide, by decide +kernel⟩
theorem ml_X11_458 : Cond.methodLink RX11 458 yX11_turning ∈ mm_ws := (mt_8 37 rfl rfl)
def wp_X11_works (this : Nat) (a1 : Int) (a2 : Int) (a3 : Int) (a4 : Int) (a5 : Int) (s0 : mm_M) (post : mm_M → Prop) : Prop :=
  ∀ (L45 : Int → mm_M → Prop), ∀ (L55 : Int → Int → mm_M → Prop), ∀ (L65 : Int → Int → Int → mm_M → Prop), 
  (∀ (v6 : Int) (s1 : mm_M), ((n32 a5 < n32 v6 → post s1) ∧ (¬ n32 a5 < n32 v6 → L55 v6 0 s1)) → L45 v6 s1) →
  (∀ (v6 : Int) (v7 : Int) (s1 : mm_M), ((12 < n32 v7 → (∀ v6_8 : Int, v6_8 = v6 + 1 → L45 v6_8 s1)) ∧ (¬ 12 < n32 v7 → L65 v6 v7 0 s1)) → L55 v6 v7 s1) →
  (∀ (v6 : Int) (v7 : Int) (v8 : Int) (s1 : mm_M), ((12 < n32 (v7 + v8) → (∀ v7_10 : Int, v7_10 = v7 + 1 → L55 v6 v7_10 s1)) ∧ (¬ 12 < n32 (v7 + v8) → ((¬ n32 v6 = 0 → (wp_X11_staying this v6 v7 v8 s1 (fun r_12 s_11 => (wp_X11_turning this v6 v7 v8 s_11 (fun r_14 s_13 => ((0 ≤ (((v6 * 13) + v7) * 13) + v8 ∧ (((v6 * 13) + v7) * 13) + v8 < 20449) ∧ (∀ s_15 : mm_M, s_15 = mm_up s_13 (mm_rt this 58) ((((v6 * 13) + v7) * 13) + v8) (mm_max 0 (mm_max r_12 r_14)) → (∀ v8_16 : Int, v8_16 = v8 + 1 → L65 v6 v7 v8_16 s_15)))))))) ∧ (n32 v6 = 0 → ((0 ≤ (((v6 * 13) + v7) * 13) + v8 ∧ (((v6 * 13) + v7) * 13) + v8 < 20449) ∧ (∀ s_17 : mm_M, s_17 = mm_up s1 (mm_rt this 58) ((((v6 * 13) + v7) * 13) + v8) 0 → (∀ v8_18 : Int, v8_18 = v8 + 1 → L65 v6 v7 v8_18 s_17))))))) → L65 v6 v7 v8 s1) →
  (∀ s_1 : mm_M, s_1 = mm_up s0 this 63 a1 → ((0 ≤ 3 * a2 ∧ 3 * a2 < 9) ∧ (∀ s_2 : mm_M, s_2 = mm_up s_1 this 59 (s_1 (mm_rt this 13) (3 * a2)) → ((0 ≤ (3 * a2) + 1 ∧ (3 * a2) + 1 < 9) ∧ (∀ s_3 : mm_M, s_3 = mm_up s_2 this 60 (s_2 (mm_rt this 13) ((3 * a2) + 1)) → (∀ s_4 : mm_M, s_4 = mm_up s_3 this 61 a3 → (∀ s_5 : mm_M, s_5 = mm_up s_4 this 62 a4 → L45 0 s_5)))))))
set_option maxRecDepth 100000 in
set_option maxHeartbeats 4000000 in
theorem c_X11_works (l : Launch) (G : mm_G) (this : Nat) (a1 : Int) (a2 : Int) (a3 : Int) (a4 : Int) (a5 : Int) (h0 : mm_ok this 21 0) (s0 : mm_M) (post : mm_M → Prop) (hw : wp_X11_works this a1 a2 a3 a4 a5 s0 post) : Met l yX11_works (mm_wm yX11_works cX11_works 9 none) (mm_rm 5) (va_Pc [.ref (mm_ad G this), .int (mm_I a1), .int (mm_I a2), .int (mm_I a3), .int (mm_I a4), .int (mm_I a5)] (mm_pre G s0)) (mm_Qv G post) 0 0 (mm_A G) := by
  refine mm_met (own := RX11) (by decide) rfl (Nat.le_of_ble_eq_true rfl) ?_
  intro p e s m args below meth c C hr hk
  unfold wp_X11_works at hw
  have hw := hw (fun (v6 : Int) (u : mm_M) => mm_X p l e (mm_rm 5) s m args below meth c (MQ below (mm_Qv G post) args s 0 0 (mm_A G)) G (mm_A G) 9 45 [(0, .ref (mm_ad G this)), (5, .int (mm_I a5)), (6, .int (mm_I v6))] [] u)
  have hw := hw (fun (v6 : Int) (v7 : Int) (u : mm_M) => mm_X p l e (mm_rm 5) s m args below meth c (MQ below (mm_Qv G post) args s 0 0 (mm_A G)) G (mm_A G) 9 55 [(0, .ref (mm_ad G this)), (5, .int (mm_I a5)), (6, .int (mm_I v6)), (7, .int (mm_I v7))] [] u)
  have hw := hw (fun (v6 : Int) (v7 : Int) (v8 : Int) (u : mm_M) => mm_X p l e (mm_rm 5) s m args below meth c (MQ below (mm_Qv G post) args s 0 0 (mm_A G)) G (mm_A G) 9 65 [(0, .ref (mm_ad G this)), (5, .int (mm_I a5)), (6, .int (mm_I v6)), (7, .int (mm_I v7)), (8, .int (mm_I v8))] [] u)
  have hw := hw (by
    intro v6 s1 hw  H locs ls w hl
    refine lv_iload (pc := 45) C.1 C.2.1 dX11_works_45 (lv_at hl 2 rfl) ?_
    refine lv_iload (pc := 47) C.1 C.2.1 dX11_works_47 (lv_at hl 1 rfl) ?_
    refine g_icmp_gt (pc := 49) (tgt := 148) C rfl rfl dX11_works_49 (by decide) (fun hc => ?_) (fun hc => ?_)
    · have hw := hw.1 hc
      exact g_vret (pc := 148) C w hr hk hw dX11_works_148
    · have hw := hw.2 hc
      refine lv_iconst (pc := 52) (v := mm_I 0) C.1 C.2.1 dX11_works_52 rfl ?_
      refine lv_istore (pc := 53) (lv' := [(7, .int (mm_I 0)), (0, .ref (mm_ad G this)), (5, .int (mm_I a5)), (6, .int (mm_I v6))]) C.1 C.2.1 dX11_works_53 hl (by decide) rfl (fun ls hl => ?_)
      exact hw  _ _ _ w (lv_sub hl [1, 2, 3, 0] rfl))
  have hw := hw (by
    intro v6 v7 s1 hw  H locs ls w hl
    refine lv_iload (pc := 55) C.1 C.2.1 dX11_works_55 (lv_at hl 3 rfl) ?_
    refine lv_bipush (pc := 57) C.1 C.2.1 dX11_works_57 mb_12 ?_
    refine g_icmp_gt (pc := 59) (tgt := 142) C rfl mn_12 dX11_works_59 (by decide) (fun hc => ?_) (fun hc => ?_)
    · have hw := hw.1 hc
      refine g_iinc (pc := 142) (k := 2) C dX11_works_142 hl rfl (by decide) (fun v6_8 ev6_8 ls hl => ?_)
      have hw := hw v6_8 ev6_8
      have hl : lv_has ls 9 [(6, .int (mm_I v6_8)), (0, .ref (mm_ad G this)), (5, .int (mm_I a5)), (7, .int (mm_I v7))] := hl
      refine lv_goto (pc := 145) (tgt := 45) C.1 C.2.1 dX11_works_145 (by decide) ?_
      exact hw  _ _ _ w (lv_sub hl [1, 2, 0] rfl)
    · have hw := hw.2 hc
      refine lv_iconst (pc := 62) (v := mm_I 0) C.1 C.2.1 dX11_works_62 rfl ?_
      refine lv_istore (pc := 63) (lv' := [(8, .int (mm_I 0)), (0, .ref (mm_ad G this)), (5, .int (mm_I a5)), (6, .int (mm_I v6)), (7, .int (mm_I v7))]) C.1 C.2.1 dX11_works_63 hl (by decide) rfl (fun ls hl => ?_)
      exact hw  _ _ _ w (lv_sub hl [1, 2, 3, 4, 0] rfl))
  have hw := hw (by
    intro v6 v7 v8 s1 hw  H locs ls w hl
    refine lv_iload (pc := 65) C.1 C.2.1 dX11_works_65 (lv_at hl 3 rfl) ?_
    refine lv_iload (pc := 67) C.1 C.2.1 dX11_works_67 (lv_at hl 4 rfl) ?_
    refine g_iadd (pc := 69) C dX11_works_69 ?_
    refine lv_bipush (pc := 70) C.1 C.2.1 dX11_works_70 mb_12 ?_
    refine g_icmp_gt (pc := 72) (tgt := 136) C rfl mn_12 dX11_works_72 (by decide) (fun hc => ?_) (fun hc => ?_)
    · have hw := hw.1 hc
      refine g_iinc (pc := 136) (k := 3) C dX11_works_136 hl rfl (by decide) (fun v7_10 ev7_10 ls hl => ?_)
      have hw := hw v7_10 ev7_10
      have hl : lv_has ls 9 [(7, .int (mm_I v7_10)), (0, .ref (mm_ad G this)), (5, .int (mm_I a5)), (6, .int (mm_I v6)), (8, .int (mm_I v8))] := hl
      refine lv_goto (pc := 139) (tgt := 55) C.1 C.2.1 dX11_works_139 (by decide) ?_
      exact hw  _ _ _ w (lv_sub hl [1, 2, 3, 0] rfl)
    · have hw := hw.2 hc
      refine lv_aload_n (pc := 75) C.1 C.2.1 dX11_works_75 rfl (lv_at hl 0 rfl) ?_
      refine g_getr (pc := 76) C w h0 ff_X11_58 lk_X11_115 dX11_works_76 ?_
      refine lv_iload (pc := 79) C.1 C.2.1 dX11_works_79 (lv_at hl 2 rfl) ?_
      refine lv_bipush (pc := 81) C.1 C.2.1 dX11_works_81 mb_13 ?_
      refine g_imul (pc := 83) C dX11_works_83 ?_
      refine lv_iload (pc := 84) C.1 C.2.1 dX11_works_84 (lv_at hl 3 rfl) ?_
      refine g_iadd (pc := 86) C dX11_works_86 ?_
      refine lv_bipush (pc := 87) C.1 C.2.1 dX11_works_87 mb_13 ?_
      refine g_imul (pc := 89) C dX11_works_89 ?_
      refine lv_iload (pc := 90) C.1 C.2.1 dX11_works_90 (lv_at hl 4 rfl) ?_
      refine g_iadd (pc := 92) C dX11_works_92 ?_
      refine lv_iload (pc := 93) C.1 C.2.1 dX11_works_93 (lv_at hl 2 rfl) ?_
      refine g_if_ne (pc := 95) (tgt := 102) C rfl dX11_works_95 (by decide) (fun hc => ?_) (fun hc => ?_)
      · have hw := hw.1 hc
        refine lv_iconst (pc := 102) (v := mm_I 0) C.1 C.2.1 dX11_works_102 rfl ?_
        refine lv_aload_n (pc := 103) C.1 C.2.1 dX11_works_103 rfl (lv_at hl 0 rfl) ?_
        refine lv_iload (pc := 104) C.1 C.2.1 dX11_works_104 (lv_at hl 2 rfl) ?_
        refine lv_iload (pc := 106) C.1 C.2.1 dX11_works_106 (lv_at hl 3 rfl) ?_
        refine lv_iload (pc := 108) C.1 C.2.1 dX11_works_108 (lv_at hl 4 rfl) ?_
        refine g_calli (pc := 110) w (mm_runV (ci := 11) (q := (RX11, TX11, 65)) (As := [.int (mm_I v6), .int (mm_I v7), .int (mm_I v8)]) (rest := [.int (mm_I 0), .int (mm_I ((((v6 * 13) + v7) * 13) + v8)), .ref (mm_ad G (mm_rt this 58))]) C w (c_X11_staying l G this v6 v7 v8 h0 s1 _ hw) h0 rfl rfl cv_X11_staying ml_X11_452 ⟨Nat.le_of_ble_eq_true rfl, Nat.le_of_ble_eq_true rfl⟩ ⟨Nat.le_of_ble_eq_true rfl, Nat.le_of_ble_eq_true rfl⟩ rfl hl.1 rfl (Nat.le_of_ble_eq_true rfl) dX11_works_110) (fun r_12 s_11 H locs hw w => ?_)
        refine lv_aload_n (pc := 113) C.1 C.2.1 dX11_works_113 rfl (lv_at hl 0 rfl) ?_
        refine lv_iload (pc := 114) C.1 C.2.1 dX11_works_114 (lv_at hl 2 rfl) ?_
        refine lv_iload (pc := 116) C.1 C.2.1 dX11_works_116 (lv_at hl 3 rfl) ?_
        refine lv_iload (pc := 118) C.1 C.2.1 dX11_works_118 (lv_at hl 4 rfl) ?_
        refine g_calli (pc := 120) w (mm_runV (ci := 11) (q := (RX11, TX11, 65)) (As := [.int (mm_I v6), .int (mm_I v7), .int (mm_I v8)]) (rest := [.int (mm_I r_12), .int (mm_I 0), .int (mm_I ((((v6 * 13) + v7) * 13) + v8)), .ref (mm_ad G (mm_rt this 58))]) C w (c_X11_turning l G this v6 v7 v8 h0 s_11 _ hw) h0 rfl rfl cv_X11_turning ml_X11_458 ⟨Nat.le_of_ble_eq_true rfl, Nat.le_of_ble_eq_true rfl⟩ ⟨Nat.le_of_ble_eq_true rfl, Nat.le_of_ble_eq_true rfl⟩ rfl hl.1 rfl (Nat.le_of_ble_eq_true rfl) dX11_works_120) (fun r_14 s_13 H locs hw w => ?_)
        refine g_max (pc := 123) C hl.1 ml_X11_395 mv_max ⟨Nat.le_of_ble_eq_true rfl, Nat.le_of_ble_eq_true rfl⟩ ⟨Nat.le_of_ble_eq_true rfl, Nat.le_of_ble_eq_true rfl⟩ dX11_works_123 ?_
        refine g_max (pc := 126) C hl.1 ml_X11_395 mv_max ⟨Nat.le_of_ble_eq_true rfl, Nat.le_of_ble_eq_true rfl⟩ ⟨Nat.le_of_ble_eq_true rfl, Nat.le_of_ble_eq_true rfl⟩ dX11_works_126 ?_
        obtain ⟨hi, hw⟩ := hw
        refine g_iast (pc := 129) C w (ro_X11_58 h0) hi  dX11_works_129 (fun s_15 H locs es_15 w => ?_)
        have hw := hw s_15 es_15
        refine g_iinc (pc := 130) (k := 4) C dX11_works_130 hl rfl (by decide) (fun v8_16 ev8_16 ls hl => ?_)
        have hw := hw v8_16 ev8_16
        have hl : lv_has ls 9 [(8, .int (mm_I v8_16)), (0, .ref (mm_ad G this)), (5, .int (mm_I a5)), (6, .int (mm_I v6)), (7, .int (mm_I v7))] := hl
        refine lv_goto (pc := 133) (tgt := 65) C.1 C.2.1 dX11_works_133 (by decide) ?_
        exact hw  _ _ _ w (lv_sub hl [1, 2, 3, 4, 0] rfl)
      · have hw := hw.2 hc
        refine lv_iconst (pc := 98) (v := mm_I 0) C.1 C.2.1 dX11_works_98 rfl ?_
        refine lv_goto (pc := 99) (tgt := 129) C.1 C.2.1 dX11_works_99 (by decide) ?_
        obtain ⟨hi, hw⟩ := hw
        refine g_iast (pc := 129) C w (ro_X11_58 h0) hi  dX11_works_129 (fun s_17 H locs es_17 w => ?_)
        have hw := hw s_17 es_17
        refine g_iinc (pc := 130) (k := 4) C dX11_works_130 hl rfl (by decide) (fun v8_18 ev8_18 ls hl => ?_)
        have hw := hw v8_18 ev8_18
        have hl : lv_has ls 9 [(8, .int (mm_I v8_18)), (0, .ref (mm_ad G this)), (5, .int (mm_I a5)), (6, .int (mm_I v6)), (7, .int (mm_I v7))] := hl
        refine lv_goto (pc := 133) (tgt := 65) C.1 C.2.1 dX11_works_133 (by decide) ?_
        exact hw  _ _ _ w (lv_sub hl [1, 2, 3, 4, 0] rfl))
  intro H locs ls w hl
  have hl : lv_has ls 9 [(0, .ref (mm_ad G this)), (1, .int (mm_I a1)), (2, .int (mm_I a2)), (3, .int (mm_I a3)), (4, .int (mm_I a4)), (5, .int (mm_I a5))] := hl
  refine lv_aload_n (pc := 0) C.1 C.2.1 dX11_works_0 rfl (lv_at hl 0 rfl) ?_
  refine lv_iload_n (pc := 1) C.1 C.2.1 dX11_works_1 rfl (lv_at hl 1 rfl) ?_
  refine g_puti (pc := 2) C w h0 ff_X11_63 fw_X11_63 lk_X11_440 dX11_works_2 (fun s_1 H locs es_1 w => ?_)
  have hw := hw s_1 es_1
  refine lv_aload_n (pc := 5) C.1 C.2.1 dX11_works_5 rfl (lv_at hl 0 rfl) ?_
  refine lv_aload_n (pc := 6) C.1 C.2.1 dX11_works_6 rfl (lv_at hl 0 rfl) ?_
  refine g_getr (pc := 7) C w h0 ff_X11_13 lk_X11_27 dX11_works_7 ?_
  refine lv_iconst (pc := 10) (v := mm_I 3) C.1 C.2.1 dX11_works_10 rfl ?_
  refine lv_iload_n (pc := 11) C.1 C.2.1 dX11_works_11 rfl (lv_at hl 2 rfl) ?_
  refine g_imul (pc := 12) C dX11_works_12 ?_
  obtain ⟨hi, hw⟩ := hw
  refine g_iald (pc := 13) C w (ro_X11_13 h0) hi dX11_works_13 ?_
  refine g_puti (pc := 14) C w h0 ff_X11_59 fw_X11_59 lk_X11_449 dX11_works_14 (fun s_2 H locs es_2 w => ?_)
  have hw := hw s_2 es_2
  refine lv_aload_n (pc := 17) C.1 C.2.1 dX11_works_17 rfl (lv_at hl 0 rfl) ?_
  refine lv_aload_n (pc := 18) C.1 C.2.1 dX11_works_18 rfl (lv_at hl 0 rfl) ?_
  refine g_getr (pc := 19) C w h0 ff_X11_13 lk_X11_27 dX11_works_19 ?_
  refine lv_iconst (pc := 22) (v := mm_I 3) C.1 C.2.1 dX11_works_22 rfl ?_
  refine lv_iload_n (pc := 23) C.1 C.2.1 dX11_works_23 rfl (lv_at hl 2 rfl) ?_
  refine g_imul (pc := 24) C dX11_works_24 ?_
  refine lv_iconst (pc := 25) (v := mm_I 1) C.1 C.2.1 dX11_works_25 rfl ?_
  refine g_iadd (pc := 26) C dX11_works_26 ?_
  obtain ⟨hi, hw⟩ := hw
  refine g_iald (pc := 27) C w (ro_X11_13 h0) hi dX11_works_27 ?_
  refine g_puti (pc := 28) C w h0 ff_X11_60 fw_X11_60 lk_X11_443 dX11_works_28 (fun s_3 H locs es_3 w => ?_)
  have hw := hw s_3 es_3
  refine lv_aload_n (pc := 31) C.1 C.2.1 dX11_works_31 rfl (lv_at hl 0 rfl) ?_
  refine lv_iload_n (pc := 32) C.1 C.2.1 dX11_works_32 rfl (lv_at hl 3 rfl) ?_
  refine g_puti (pc := 33) C w h0 ff_X11_61 fw_X11_61 lk_X11_437 dX11_works_33 (fun s_4 H locs es_4 w => ?_)
  have hw := hw s_4 es_4
  refine lv_aload_n (pc := 36) C.1 C.2.1 dX11_works_36 rfl (lv_at hl 0 rfl) ?_
  refine lv_iload (pc := 37) C.1 C.2.1 dX11_works_37 (lv_at hl 4 rfl) ?_
  refine g_puti (pc := 39) C w h0 ff_X11_62 fw_X11_62 lk_X11_455 dX11_works_39 (fun s_5 H locs es_5 w => ?_)
  have hw := hw s_5 es_5
  refine lv_iconst (pc := 42) (v := mm_I 0) C.1 C.2.1 dX11_works_42 rfl ?_
  refine lv_istore (pc := 43) (lv' := [(6, .int (mm_I 0)), (0, .ref (mm_ad G this)), (1, .int (mm_I a1)), (2, .int (mm_I a2)), (3, .int (mm_I a3)), (4, .int (mm_I a4)), (5, .int (mm_I a5))]) C.1 C.2.1 dX11_works_43 hl (by decide) rfl (fun ls hl => ?_)
  exact hw  _ _ _ w (lv_sub hl [1, 6, 0] rfl)
def wp_X11_actAt (this : Nat) (a1 : Int) (a2 : Int) (a3 : Int) (s0 : mm_M) (post : Int → mm_M → Prop) : Prop :=
  ∀ (L40 : Int → mm_M → Prop), 
  (∀ (v5 : Int) (s1 : mm_M), ((n32 v5 < 0 → post 2 s1) ∧ (¬ n32 v5 < 0 → post 1 s1)) → L40 v5 s1) →
  ((¬ n32 a1 = 0 → (wp_X11_staying this a1 a2 a3 s0 (fun r_2 s_1 => (∀ v4_3 : Int, v4_3 = r_2 → (wp_X11_turning this a1 a2 a3 s_1 (fun r_5 s_4 => (∀ v5_6 : Int, v5_6 = r_5 → ((n32 v4_3 < n32 v5_6 → L40 v5_6 s_4) ∧ (¬ n32 v4_3 < n32 v5_6 → ((n32 v4_3 < 0 → L40 v5_6 s_4) ∧ (¬ n32 v4_3 < 0 → post 0 s_4))))))))))) ∧ (n32 a1 = 0 → post 2 s0))
set_option maxRecDepth 100000 in
set_option maxHeartbeats 4000000 in
theorem c_X11_actAt (l : Launch) (G : mm_G) (this : Nat) (a1 : Int) (a2 : Int) (a3 : Int) (h0 : mm_ok this 21 0) (s0 : mm_M) (post : Int → mm_M → Prop) (hw : wp_X11_actAt this a1 a2 a3 s0 post) : Met l yX11_actAt (mm_wm yX11_actAt cX11_actAt 6 (some .int)) (mm_rm 5) (va_Pc [.ref (mm_ad G this), .int (mm_I a1), .int (mm_I a2), .int (mm_I a3)] (mm_pre G s0)) (mm_Qi G post) 0 0 (mm_A G) := by
  refine mm_met (own := RX11) (by decide) rfl (Nat.le_of_ble_eq_true rfl) ?_
  intro p e s m args below meth c C hr hk
  unfold wp_X11_actAt at hw
  have hw := hw (fun (v5 : Int) (u : mm_M) => mm_X p l e (mm_rm 5) s m args below meth c (MQ below (mm_Qi G post) args s 0 0 (mm_A G)) G (mm_A G) 6 40 [(5, .int (mm_I v5))] [] u)
  have hw := hw (by
    intro v5 s1 hw  H locs ls w hl
    refine lv_iload (pc := 40) C.1 C.2.1 dX11_actAt_40 (lv_at hl 0 rfl) ?_
    refine g_if_lt (pc := 42) (tgt := 49) C rfl dX11_actAt_42 (by decide) (fun hc => ?_) (fun hc => ?_)
    · have hw := hw.1 hc
      refine lv_iconst (pc := 49) (v := mm_I 2) C.1 C.2.1 dX11_actAt_49 rfl ?_
      exact g_iret (pc := 50) C w hr hk hw dX11_actAt_50
    · have hw := hw.2 hc
      refine lv_iconst (pc := 45) (v := mm_I 1) C.1 C.2.1 dX11_actAt_45 rfl ?_
      refine lv_goto (pc := 46) (tgt := 50) C.1 C.2.1 dX11_actAt_46 (by decide) ?_
      exact g_iret (pc := 50) C w hr hk hw dX11_actAt_50)
  intro H locs ls w hl
  have hl : lv_has ls 6 [(0, .ref (mm_ad G this)), (1, .int (mm_I a1)), (2, .int (mm_I a2)), (3, .int (mm_I a3))] := hl
  refine lv_iload_n (pc := 0) C.1 C.2.1 dX11_actAt_0 rfl (lv_at hl 1 rfl) ?_
  refine g_if_ne (pc := 1) (tgt := 6) C rfl dX11_actAt_1 (by decide) (fun hc => ?_) (fun hc => ?_)
  · have hw := hw.1 hc
    refine lv_aload_n (pc := 6) C.1 C.2.1 dX11_actAt_6 rfl (lv_at hl 0 rfl) ?_
    refine lv_iload_n (pc := 7) C.1 C.2.1 dX11_actAt_7 rfl (lv_at hl 1 rfl) ?_
    refine lv_iload_n (pc := 8) C.1 C.2.1 dX11_actAt_8 rfl (lv_at hl 2 rfl) ?_
    refine lv_iload_n (pc := 9) C.1 C.2.1 dX11_actAt_9 rfl (lv_at hl 3 rfl) ?_
    refine g_calli (pc := 10) w (mm_runV (ci := 11) (q := (RX11, TX11, 65)) (As := [.int (mm_I a1), .int (mm_I a2), .int (mm_I a3)]) (rest := []) C w (c_X11_staying l G this a1 a2 a3 h0 s0 _ hw) h0 rfl rfl cv_X11_staying ml_X11_452 ⟨Nat.le_of_ble_eq_true rfl, Nat.le_of_ble_eq_true rfl⟩ ⟨Nat.le_of_ble_eq_true rfl, Nat.le_of_ble_eq_true rfl⟩ rfl hl.1 rfl (Nat.le_of_ble_eq_true rfl) dX11_actAt_10) (fun r_2 s_1 H locs hw w => ?_)
    refine g_istore (pc := 13) C dX11_actAt_13 hl (by decide) (fun v4_3 ev4_3 ls hl => ?_)
    have hw := hw v4_3 ev4_3
    have hl : lv_has ls 6 [(4, .int (mm_I v4_3)), (0, .ref (mm_ad G this)), (1, .int (mm_I a1)), (2, .int (mm_I a2)), (3, .int (mm_I a3))] := hl
    refine lv_aload_n (pc := 15) C.1 C.2.1 dX11_actAt_15 rfl (lv_at hl 1 rfl) ?_
    refine lv_iload_n (pc := 16) C.1 C.2.1 dX11_actAt_16 rfl (lv_at hl 2 rfl) ?_
    refine lv_iload_n (pc := 17) C.1 C.2.1 dX11_actAt_17 rfl (lv_at hl 3 rfl) ?_
    refine lv_iload_n (pc := 18) C.1 C.2.1 dX11_actAt_18 rfl (lv_at hl 4 rfl) ?_
    refine g_calli (pc := 19) w (mm_runV (ci := 11) (q := (RX11, TX11, 65)) (As := [.int (mm_I a1), .int (mm_I a2), .int (mm_I a3)]) (rest := []) C w (c_X11_turning l G this a1 a2 a3 h0 s_1 _ hw) h0 rfl rfl cv_X11_turning ml_X11_458 ⟨Nat.le_of_ble_eq_true rfl, Nat.le_of_ble_eq_true rfl⟩ ⟨Nat.le_of_ble_eq_true rfl, Nat.le_of_ble_eq_true rfl⟩ rfl hl.1 rfl (Nat.le_of_ble_eq_true rfl) dX11_actAt_19) (fun r_5 s_4 H locs hw w => ?_)
    refine g_istore (pc := 22) C dX11_actAt_22 hl (by decide) (fun v5_6 ev5_6 ls hl => ?_)
    have hw := hw v5_6 ev5_6
    have hl : lv_has ls 6 [(5, .int (mm_I v5_6)), (4, .int (mm_I v4_3)), (0, .ref (mm_ad G this)), (1, .int (mm_I a1)), (2, .int (mm_I a2)), (3, .int (mm_I a3))] := hl
    refine lv_iload (pc := 24) C.1 C.2.1 dX11_actAt_24 (lv_at hl 1 rfl) ?_
    refine lv_iload (pc := 26) C.1 C.2.1 dX11_actAt_26 (lv_at hl 0 rfl) ?_
    refine g_icmp_lt (pc := 28) (tgt := 40) C rfl rfl dX11_actAt_28 (by decide) (fun hc => ?_) (fun hc => ?_)
    · have hw := hw.1 hc
      exact hw  _ _ _ w (lv_sub hl [0] rfl)
    · have hw := hw.2 hc
      refine lv_iload (pc := 31) C.1 C.2.1 dX11_actAt_31 (lv_at hl 1 rfl) ?_
      refine g_if_lt (pc := 33) (tgt := 40) C rfl dX11_actAt_33 (by decide) (fun hc => ?_) (fun hc => ?_)
      · have hw := hw.1 hc
        exact hw  _ _ _ w (lv_sub hl [0] rfl)
      · have hw := hw.2 hc
        refine lv_iconst (pc := 36) (v := mm_I 0) C.1 C.2.1 dX11_actAt_36 rfl ?_
        refine lv_goto (pc := 37) (tgt := 50) C.1 C.2.1 dX11_actAt_37 (by decide) ?_
        exact g_iret (pc := 50) C w hr hk hw dX11_actAt_50
  · have hw := hw.2 hc
    refine lv_iconst (pc := 4) (v := mm_I 2) C.1 C.2.1 dX11_actAt_4 rfl ?_
    exact g_iret (pc := 5) C w hr hk hw dX11_actAt_5
def wp_X11_isAsked (this : Nat) (a1 : Int) (a2 : Int) (a3 : Int) (s0 : mm_M) (post : Int → mm_M → Prop) : Prop :=
  (wp_X11_isSort this a1 s0 (fun r_2 s_1 => ((n32 r_2 = 0 → post 0 s_1) ∧ (¬ n32 r_2 = 0 → (wp_X11_isCounter this a2 s_1 (fun r_4 s_3 => ((n32 r_4 = 0 → post 0 s_3) ∧ (¬ n32 r_4 = 0 → ((0 ≤ 3 * a2 ∧ 3 * a2 < 9) ∧ ((3 < n32 (s_3 (mm_rt this 13) (3 * a2)) → post 0 s_3) ∧ (¬ 3 < n32 (s_3 (mm_rt this 13) (3 * a2)) → (wp_X11_in a3 0 16 s_3 (fun r_6 s_5 => ((n32 r_6 = 0 → post 0 s_5) ∧ (¬ n32 r_6 = 0 → post 1 s_5)))))))))))))))
set_option maxRecDepth 100000 in
set_option maxHeartbeats 4000000 in
theorem c_X11_isAsked (l : Launch) (G : mm_G) (this : Nat) (a1 : Int) (a2 : Int) (a3 : Int) (h0 : mm_ok this 21 0) (s0 : mm_M) (post : Int → mm_M → Prop) (hw : wp_X11_isAsked this a1 a2 a3 s0 post) : Met l yX11_isAsked (mm_wm yX11_isAsked cX11_isAsked 4 (some .boolean)) (mm_rm 3) (va_Pc [.ref (mm_ad G this), .int (mm_I a1), .int (mm_I a2), .int (mm_I a3)] (mm_pre G s0)) (mm_Qi G post) 0 0 (mm_A G) := by
  refine mm_met (own := RX11) (by decide) rfl (Nat.le_of_ble_eq_true rfl) ?_
  intro p e s m args below meth c C hr hk
  unfold wp_X11_isAsked at hw
  intro H locs ls w hl
  have hl : lv_has ls 4 [(0, .ref (mm_ad G this)), (1, .int (mm_I a1)), (2, .int (mm_I a2)), (3, .int (mm_I a3))] := hl
  refine lv_aload_n (pc := 0) C.1 C.2.1 dX11_isAsked_0 rfl (lv_at hl 0 rfl) ?_
  refine lv_iload_n (pc := 1) C.1 C.2.1 dX11_isAsked_1 rfl (lv_at hl 1 rfl) ?_
  refine g_calli (pc := 2) w (mm_runV (ci := 11) (q := (RX11, TX11, 65)) (As := [.int (mm_I a1)]) (rest := []) C w (c_X11_isSort l G this a1 h0 s0 _ hw) h0 rfl rfl cv_X11_isSort ml_X11_324 ⟨Nat.le_of_ble_eq_true rfl, Nat.le_of_ble_eq_true rfl⟩ ⟨Nat.le_of_ble_eq_true rfl, Nat.le_of_ble_eq_true rfl⟩ rfl hl.1 rfl (Nat.le_of_ble_eq_true rfl) dX11_isAsked_2) (fun r_2 s_1 H locs hw w => ?_)
  refine g_if_eq (pc := 5) (tgt := 42) C rfl dX11_isAsked_5 (by decide) (fun hc => ?_) (fun hc => ?_)
  · have hw := hw.1 hc
    refine lv_iconst (pc := 42) (v := mm_I 0) C.1 C.2.1 dX11_isAsked_42 rfl ?_
    exact g_zret (pc := 43) C w hr hk (by decide) hw dX11_isAsked_43
  · have hw := hw.2 hc
    refine lv_aload_n (pc := 8) C.1 C.2.1 dX11_isAsked_8 rfl (lv_at hl 0 rfl) ?_
    refine lv_iload_n (pc := 9) C.1 C.2.1 dX11_isAsked_9 rfl (lv_at hl 2 rfl) ?_
    refine g_calli (pc := 10) w (mm_runV (ci := 11) (q := (RX11, TX11, 65)) (As := [.int (mm_I a2)]) (rest := []) C w (c_X11_isCounter l G this a2 h0 s_1 _ hw) h0 rfl rfl cv_X11_isCounter ml_X11_321 ⟨Nat.le_of_ble_eq_true rfl, Nat.le_of_ble_eq_true rfl⟩ ⟨Nat.le_of_ble_eq_true rfl, Nat.le_of_ble_eq_true rfl⟩ rfl hl.1 rfl (Nat.le_of_ble_eq_true rfl) dX11_isAsked_10) (fun r_4 s_3 H locs hw w => ?_)
    refine g_if_eq (pc := 13) (tgt := 42) C rfl dX11_isAsked_13 (by decide) (fun hc => ?_) (fun hc => ?_)
    · have hw := hw.1 hc
      refine lv_iconst (pc := 42) (v := mm_I 0) C.1 C.2.1 dX11_isAsked_42 rfl ?_
      exact g_zret (pc := 43) C w hr hk (by decide) hw dX11_isAsked_43
    · have hw := hw.2 hc
      refine lv_aload_n (pc := 16) C.1 C.2.1 dX11_isAsked_16 rfl (lv_at hl 0 rfl) ?_
      refine g_getr (pc := 17) C w h0 ff_X11_13 lk_X11_27 dX11_isAsked_17 ?_
      refine lv_iconst (pc := 20) (v := mm_I 3) C.1 C.2.1 dX11_isAsked_20 rfl ?_
      refine lv_iload_n (pc := 21) C.1 C.2.1 dX11_isAsked_21 rfl (lv_at hl 2 rfl) ?_
      refine g_imul (pc := 22) C dX11_isAsked_22 ?_
      obtain ⟨hi, hw⟩ := hw
      refine g_iald (pc := 23) C w (ro_X11_13 h0) hi dX11_isAsked_23 ?_
      refine lv_iconst (pc := 24) (v := mm_I 3) C.1 C.2.1 dX11_isAsked_24 rfl ?_
      refine g_icmp_gt (pc := 25) (tgt := 42) C rfl mn_3 dX11_isAsked_25 (by decide) (fun hc => ?_) (fun hc => ?_)
      · have hw := hw.1 hc
        refine lv_iconst (pc := 42) (v := mm_I 0) C.1 C.2.1 dX11_isAsked_42 rfl ?_
        exact g_zret (pc := 43) C w hr hk (by decide) hw dX11_isAsked_43
      · have hw := hw.2 hc
        refine lv_iload_n (pc := 28) C.1 C.2.1 dX11_isAsked_28 rfl (lv_at hl 3 rfl) ?_
        refine lv_iconst (pc := 29) (v := mm_I 0) C.1 C.2.1 dX11_isAsked_29 rfl ?_
        refine lv_bipush (pc := 30) C.1 C.2.1 dX11_isAsked_30 mb_16 ?_
        refine g_calli (pc := 32) w (mm_runS (As := [.int (mm_I a3), .int (mm_I 0), .int (mm_I 16)]) (rest := []) C w (c_X11_in l G a3 0 16  s_3 _ hw) cs_X11_in ml_X11_122 ⟨Nat.le_of_ble_eq_true rfl, Nat.le_of_ble_eq_true rfl⟩ ⟨Nat.le_of_ble_eq_true rfl, Nat.le_of_ble_eq_true rfl⟩ rfl hl.1 rfl (Nat.le_of_ble_eq_true rfl) dX11_isAsked_32) (fun r_6 s_5 H locs hw w => ?_)
        refine g_if_eq (pc := 35) (tgt := 42) C rfl dX11_isAsked_35 (by decide) (fun hc => ?_) (fun hc => ?_)
        · have hw := hw.1 hc
          refine lv_iconst (pc := 42) (v := mm_I 0) C.1 C.2.1 dX11_isAsked_42 rfl ?_
          exact g_zret (pc := 43) C w hr hk (by decide) hw dX11_isAsked_43
        · have hw := hw.2 hc
          refine lv_iconst (pc := 38) (v := mm_I 1) C.1 C.2.1 dX11_isAsked_38 rfl ?_
          refine lv_goto (pc := 39) (tgt := 43) C.1 C.2.1 dX11_isAsked_39 (by decide) ?_
          exact g_zret (pc := 43) C w hr hk (by decide) hw dX11_isAsked_43
theorem mb_121 : (Int8.ofInt 121).toInt32 = mm_I 121 := by decide
theorem mn_121 : n32 121 = 121 := by decide
def wp_X11_isPlace (a1 : Int) (s0 : mm_M) (post : Int → mm_M → Prop) : Prop :=
  ((n32 a1 < 0 → post 0 s0) ∧ (¬ n32 a1 < 0 → ((121 ≤ n32 (Int.tdiv (n32 a1) 10000) → post 0 s0) ∧ (¬ 121 ≤ n32 (Int.tdiv (n32 a1) 10000) → ((12 < n32 ((Int.tmod (n32 (Int.tdiv (n32 a1) 100)) 100) + (Int.tmod (n32 a1) 100)) → post 0 s0) ∧ (¬ 12 < n32 ((Int.tmod (n32 (Int.tdiv (n32 a1) 100)) 100) + (Int.tmod (n32 a1) 100)) → post 1 s0))))))
set_option maxRecDepth 100000 in
set_option maxHeartbeats 4000000 in
theorem c_X11_isPlace (l : Launch) (G : mm_G) (a1 : Int)  (s0 : mm_M) (post : Int → mm_M → Prop) (hw : wp_X11_isPlace a1 s0 post) : Met l yX11_isPlace (mm_wm yX11_isPlace cX11_isPlace 1 (some .boolean)) (mm_rm 1) (va_Pc [.int (mm_I a1)] (mm_pre G s0)) (mm_Qi G post) 0 0 (mm_A G) := by
  refine mm_met (own := RX11) (by decide) rfl (Nat.le_of_ble_eq_true rfl) ?_
  intro p e s m args below meth c C hr hk
  unfold wp_X11_isPlace at hw
  intro H locs ls w hl
  have hl : lv_has ls 1 [(0, .int (mm_I a1))] := hl
  refine lv_iload_n (pc := 0) C.1 C.2.1 dX11_isPlace_0 rfl (lv_at hl 0 rfl) ?_
  refine g_if_lt (pc := 1) (tgt := 35) C rfl dX11_isPlace_1 (by decide) (fun hc => ?_) (fun hc => ?_)
  · have hw := hw.1 hc
    refine lv_iconst (pc := 35) (v := mm_I 0) C.1 C.2.1 dX11_isPlace_35 rfl ?_
    exact g_zret (pc := 36) C w hr hk (by decide) hw dX11_isPlace_36
  · have hw := hw.2 hc
    refine lv_iload_n (pc := 4) C.1 C.2.1 dX11_isPlace_4 rfl (lv_at hl 0 rfl) ?_
    refine lv_sipush (pc := 5) C.1 C.2.1 dX11_isPlace_5 ms_10000 ?_
    refine g_idiv (pc := 8) C rfl mn_10000 (by decide) dX11_isPlace_8 ?_
    refine lv_bipush (pc := 9) C.1 C.2.1 dX11_isPlace_9 mb_121 ?_
    refine g_icmp_ge (pc := 11) (tgt := 35) C rfl mn_121 dX11_isPlace_11 (by decide) (fun hc => ?_) (fun hc => ?_)
    · have hw := hw.1 hc
      refine lv_iconst (pc := 35) (v := mm_I 0) C.1 C.2.1 dX11_isPlace_35 rfl ?_
      exact g_zret (pc := 36) C w hr hk (by decide) hw dX11_isPlace_36
    · have hw := hw.2 hc
      refine lv_iload_n (pc := 14) C.1 C.2.1 dX11_isPlace_14 rfl (lv_at hl 0 rfl) ?_
      refine lv_bipush (pc := 15) C.1 C.2.1 dX11_isPlace_15 mb_100 ?_
      refine g_idiv (pc := 17) C rfl mn_100 (by decide) dX11_isPlace_17 ?_
      refine lv_bipush (pc := 18) C.1 C.2.1 dX11_isPlace_18 mb_100 ?_
      refine g_irem (pc := 20) C rfl mn_100 (by decide) dX11_isPlace_20 ?_
      refine lv_iload_n (pc := 21) C.1 C.2.1 dX11_isPlace_21 rfl (lv_at hl 0 rfl) ?_
      refine lv_bipush (pc := 22) C.1 C.2.1 dX11_isPlace_22 mb_100 ?_
      refine g_irem (pc := 24) C rfl mn_100 (by decide) dX11_isPlace_24 ?_
      refine g_iadd (pc := 25) C dX11_isPlace_25 ?_
      refine lv_bipush (pc := 26) C.1 C.2.1 dX11_isPlace_26 mb_12 ?_
      refine g_icmp_gt (pc := 28) (tgt := 35) C rfl mn_12 dX11_isPlace_28 (by decide) (fun hc => ?_) (fun hc => ?_)
      · have hw := hw.1 hc
        refine lv_iconst (pc := 35) (v := mm_I 0) C.1 C.2.1 dX11_isPlace_35 rfl ?_
        exact g_zret (pc := 36) C w hr hk (by decide) hw dX11_isPlace_36
      · have hw := hw.2 hc
        refine lv_iconst (pc := 31) (v := mm_I 1) C.1 C.2.1 dX11_isPlace_31 rfl ?_
        refine lv_goto (pc := 32) (tgt := 36) C.1 C.2.1 dX11_isPlace_32 (by decide) ?_
        exact g_zret (pc := 36) C w hr hk (by decide) hw dX11_isPlace_36
theorem cv_X11_isAsked : mm_V yX11_isAsked cX11_isAsked 4 (some .boolean) 3 := ⟨(mt_8 17 rfl rfl), (mt_8 16 rfl rfl), (mp_6 9 rfl rfl), (mt_1 12 rfl rfl), by decide, by decide, by decide +kernel⟩
theorem ml_X11_461 : Cond.methodLink RX11 461 yX11_isAsked ∈ mm_ws := (mt_8 14 rfl rfl)
theorem cs_X11_isPlace : mm_S yX11_isPlace cX11_isPlace 1 (some .boolean) 1 := ⟨(mt_8 20 rfl rfl), (mt_8 19 rfl rfl), (mt_1 12 rfl rfl), by decide, by decide, by decide +kernel⟩
theorem ml_X11_464 : Cond.methodLink RX11 464 yX11_isPlace ∈ mm_ws := (mt_8 18 rfl rfl)
theorem cv_X11_works : mm_V yX11_works cX11_works 9 none 5 := ⟨(mt_8 24 rfl rfl), (mt_8 23 rfl rfl), (mp_6 10 rfl rfl), (mt_1 12 rfl rfl), by decide, by decide, by decide +kernel⟩
theorem ml_X11_467 : Cond.methodLink RX11 467 yX11_works ∈ mm_ws := (mt_8 21 rfl rfl)
theorem cv_X11_actAt : mm_V yX11_actAt cX11_actAt 6 (some .int) 3 := ⟨(mt_8 44 rfl rfl), (mt_8 43 rfl rfl), (mp_6 15 rfl rfl), (mt_1 12 rfl rfl), by decide, by decide, by decide +kernel⟩
theorem ml_X11_471 : Cond.methodLink RX11 471 yX11_actAt ∈ mm_ws := (mt_8 41 rfl rfl)
def wp_X11_value (this : Nat) (a1 : Int) (a2 : Int) (a3 : Int) (a4 : Int) (a5 : Int) (s0 : mm_M) (post : Int → mm_M → Prop) : Prop :=
  (wp_X11_isAsked this a1 a2 a4 s0 (fun r_2 s_1 => ((n32 r_2 = 0 → post (-2147483648) s_1) ∧ (¬ n32 r_2 = 0 → (wp_X11_isPlace a3 s_1 (fun r_4 s_3 => ((n32 r_4 = 0 → post (-2147483648) s_3) ∧ (¬ n32 r_4 = 0 → (wp_X11_in a5 0 1 s_3 (fun r_6 s_5 => ((¬ n32 r_6 = 0 → (∀ v6_7 : Int, v6_7 = Int.tdiv (n32 a3) 10000 → (wp_X11_works this a1 a2 a4 (s_5 this 17) v6_7 s_5 (fun s_8 => ((¬ n32 a5 = 0 → (wp_X11_actAt this v6_7 (Int.tmod (n32 (Int.tdiv (n32 a3) 100)) 100) (Int.tmod (n32 a3) 100) s_8 (fun r_11 s_10 => post r_11 s_10))) ∧ (n32 a5 = 0 → (wp_X11_worthAt this v6_7 (Int.tmod (n32 (Int.tdiv (n32 a3) 100)) 100) (Int.tmod (n32 a3) 100) s_8 (fun r_13 s_12 => post r_13 s_12)))))))) ∧ (n32 r_6 = 0 → post (-2147483648) s_5))))))))))))
set_option maxRecDepth 100000 in
set_option maxHeartbeats 4000000 in
theorem c_X11_value (l : Launch) (G : mm_G) (this : Nat) (a1 : Int) (a2 : Int) (a3 : Int) (a4 : Int) (a5 : Int) (h0 : mm_ok this 21 0) (s0 : mm_M) (post : Int → mm_M → Prop) (hw : wp_X11_value this a1 a2 a3 a4 a5 s0 post) : Met l yX11_value (mm_wm yX11_value cX11_value 7 (some .int)) (mm_rm 6) (va_Pc [.ref (mm_ad G this), .int (mm_I a1), .int (mm_I a2), .int (mm_I a3), .int (mm_I a4), .int (mm_I a5)] (mm_pre G s0)) (mm_Qi G post) 0 0 (mm_A G) := by
  refine mm_met (own := RX11) (by decide) rfl (Nat.le_of_ble_eq_true rfl) ?_
  intro p e s m args below meth c C hr hk
  unfold wp_X11_value at hw
  intro H locs ls w hl
  have hl : lv_has ls 7 [(0, .ref (mm_ad G this)), (1, .int (mm_I a1)), (2, .int (mm_I a2)), (3, .int (mm_I a3)), (4, .int (mm_I a4)), (5, .int (mm_I a5))] := hl
  refine lv_aload_n (pc := 0) C.1 C.2.1 dX11_value_0 rfl (lv_at hl 0 rfl) ?_
  refine lv_iload_n (pc := 1) C.1 C.2.1 dX11_value_1 rfl (lv_at hl 1 rfl) ?_
  refine lv_iload_n (pc := 2) C.1 C.2.1 dX11_value_2 rfl (lv_at hl 2 rfl) ?_
  refine lv_iload (pc := 3) C.1 C.2.1 dX11_value_3 (lv_at hl 4 rfl) ?_
  refine g_calli (pc := 5) w (mm_runV (ci := 11) (q := (RX11, TX11, 65)) (As := [.int (mm_I a1), .int (mm_I a2), .int (mm_I a4)]) (rest := []) C w (c_X11_isAsked l G this a1 a2 a4 h0 s0 _ hw) h0 rfl rfl cv_X11_isAsked ml_X11_461 ⟨Nat.le_of_ble_eq_true rfl, Nat.le_of_ble_eq_true rfl⟩ ⟨Nat.le_of_ble_eq_true rfl, Nat.le_of_ble_eq_true rfl⟩ rfl hl.1 rfl (Nat.le_of_ble_eq_true rfl) dX11_value_5) (fun r_2 s_1 H locs hw w => ?_)
  refine g_if_eq (pc := 8) (tgt := 28) C rfl dX11_value_8 (by decide) (fun hc => ?_) (fun hc => ?_)
  · have hw := hw.1 hc
    refine lv_ldcw (pc := 28) C.1 C.2.1 C.2.2.2.1 (C.2.2.2.2 _ lc_X11_284) dX11_value_28 ?_
    exact g_iret (pc := 31) C w hr hk hw dX11_value_31
  · have hw := hw.2 hc
    refine lv_iload_n (pc := 11) C.1 C.2.1 dX11_value_11 rfl (lv_at hl 3 rfl) ?_
    refine g_calli (pc := 12) w (mm_runS (As := [.int (mm_I a3)]) (rest := []) C w (c_X11_isPlace l G a3  s_1 _ hw) cs_X11_isPlace ml_X11_464 ⟨Nat.le_of_ble_eq_true rfl, Nat.le_of_ble_eq_true rfl⟩ ⟨Nat.le_of_ble_eq_true rfl, Nat.le_of_ble_eq_true rfl⟩ rfl hl.1 rfl (Nat.le_of_ble_eq_true rfl) dX11_value_12) (fun r_4 s_3 H locs hw w => ?_)
    refine g_if_eq (pc := 15) (tgt := 28) C rfl dX11_value_15 (by decide) (fun hc => ?_) (fun hc => ?_)
    · have hw := hw.1 hc
      refine lv_ldcw (pc := 28) C.1 C.2.1 C.2.2.2.1 (C.2.2.2.2 _ lc_X11_284) dX11_value_28 ?_
      exact g_iret (pc := 31) C w hr hk hw dX11_value_31
    · have hw := hw.2 hc
      refine lv_iload (pc := 18) C.1 C.2.1 dX11_value_18 (lv_at hl 5 rfl) ?_
      refine lv_iconst (pc := 20) (v := mm_I 0) C.1 C.2.1 dX11_value_20 rfl ?_
      refine lv_iconst (pc := 21) (v := mm_I 1) C.1 C.2.1 dX11_value_21 rfl ?_
      refine g_calli (pc := 22) w (mm_runS (As := [.int (mm_I a5), .int (mm_I 0), .int (mm_I 1)]) (rest := []) C w (c_X11_in l G a5 0 1  s_3 _ hw) cs_X11_in ml_X11_122 ⟨Nat.le_of_ble_eq_true rfl, Nat.le_of_ble_eq_true rfl⟩ ⟨Nat.le_of_ble_eq_true rfl, Nat.le_of_ble_eq_true rfl⟩ rfl hl.1 rfl (Nat.le_of_ble_eq_true rfl) dX11_value_22) (fun r_6 s_5 H locs hw w => ?_)
      refine g_if_ne (pc := 25) (tgt := 32) C rfl dX11_value_25 (by decide) (fun hc => ?_) (fun hc => ?_)
      · have hw := hw.1 hc
        refine lv_iload_n (pc := 32) C.1 C.2.1 dX11_value_32 rfl (lv_at hl 3 rfl) ?_
        refine lv_sipush (pc := 33) C.1 C.2.1 dX11_value_33 ms_10000 ?_
        refine g_idiv (pc := 36) C rfl mn_10000 (by decide) dX11_value_36 ?_
        refine g_istore (pc := 37) C dX11_value_37 hl (by decide) (fun v6_7 ev6_7 ls hl => ?_)
        have hw := hw v6_7 ev6_7
        have hl : lv_has ls 7 [(6, .int (mm_I v6_7)), (0, .ref (mm_ad G this)), (1, .int (mm_I a1)), (2, .int (mm_I a2)), (3, .int (mm_I a3)), (4, .int (mm_I a4)), (5, .int (mm_I a5))] := hl
        refine lv_aload_n (pc := 39) C.1 C.2.1 dX11_value_39 rfl (lv_at hl 1 rfl) ?_
        refine lv_iload_n (pc := 40) C.1 C.2.1 dX11_value_40 rfl (lv_at hl 2 rfl) ?_
        refine lv_iload_n (pc := 41) C.1 C.2.1 dX11_value_41 rfl (lv_at hl 3 rfl) ?_
        refine lv_iload (pc := 42) C.1 C.2.1 dX11_value_42 (lv_at hl 5 rfl) ?_
        refine lv_aload_n (pc := 44) C.1 C.2.1 dX11_value_44 rfl (lv_at hl 1 rfl) ?_
        refine g_geti (pc := 45) C w h0 ff_X11_17 lk_X11_297 dX11_value_45 ?_
        refine lv_iload (pc := 48) C.1 C.2.1 dX11_value_48 (lv_at hl 0 rfl) ?_
        refine g_callv (pc := 50) w (mm_runV (ci := 11) (q := (RX11, TX11, 65)) (As := [.int (mm_I a1), .int (mm_I a2), .int (mm_I a4), .int (mm_I (s_5 this 17)), .int (mm_I v6_7)]) (rest := []) C w (c_X11_works l G this a1 a2 a4 (s_5 this 17) v6_7 h0 s_5 _ hw) h0 rfl rfl cv_X11_works ml_X11_467 ⟨Nat.le_of_ble_eq_true rfl, Nat.le_of_ble_eq_true rfl⟩ ⟨Nat.le_of_ble_eq_true rfl, Nat.le_of_ble_eq_true rfl⟩ rfl hl.1 rfl (Nat.le_of_ble_eq_true rfl) dX11_value_50) (fun s_8 H locs hw w => ?_)
        refine lv_iload (pc := 53) C.1 C.2.1 dX11_value_53 (lv_at hl 6 rfl) ?_
        refine g_if_ne (pc := 55) (tgt := 78) C rfl dX11_value_55 (by decide) (fun hc => ?_) (fun hc => ?_)
        · have hw := hw.1 hc
          refine lv_aload_n (pc := 78) C.1 C.2.1 dX11_value_78 rfl (lv_at hl 1 rfl) ?_
          refine lv_iload (pc := 79) C.1 C.2.1 dX11_value_79 (lv_at hl 0 rfl) ?_
          refine lv_iload_n (pc := 81) C.1 C.2.1 dX11_value_81 rfl (lv_at hl 4 rfl) ?_
          refine lv_bipush (pc := 82) C.1 C.2.1 dX11_value_82 mb_100 ?_
          refine g_idiv (pc := 84) C rfl mn_100 (by decide) dX11_value_84 ?_
          refine lv_bipush (pc := 85) C.1 C.2.1 dX11_value_85 mb_100 ?_
          refine g_irem (pc := 87) C rfl mn_100 (by decide) dX11_value_87 ?_
          refine lv_iload_n (pc := 88) C.1 C.2.1 dX11_value_88 rfl (lv_at hl 4 rfl) ?_
          refine lv_bipush (pc := 89) C.1 C.2.1 dX11_value_89 mb_100 ?_
          refine g_irem (pc := 91) C rfl mn_100 (by decide) dX11_value_91 ?_
          refine g_calli (pc := 92) w (mm_runV (ci := 11) (q := (RX11, TX11, 65)) (As := [.int (mm_I v6_7), .int (mm_I (Int.tmod (n32 (Int.tdiv (n32 a3) 100)) 100)), .int (mm_I (Int.tmod (n32 a3) 100))]) (rest := []) C w (c_X11_actAt l G this v6_7 (Int.tmod (n32 (Int.tdiv (n32 a3) 100)) 100) (Int.tmod (n32 a3) 100) h0 s_8 _ hw) h0 rfl rfl cv_X11_actAt ml_X11_471 ⟨Nat.le_of_ble_eq_true rfl, Nat.le_of_ble_eq_true rfl⟩ ⟨Nat.le_of_ble_eq_true rfl, Nat.le_of_ble_eq_true rfl⟩ rfl hl.1 rfl (Nat.le_of_ble_eq_true rfl) dX11_value_92) (fun r_11 s_10 H locs hw w => ?_)
          exact g_iret (pc := 95) C w hr hk hw dX11_value_95
        · have hw := hw.2 hc
          refine lv_aload_n (pc := 58) C.1 C.2.1 dX11_value_58 rfl (lv_at hl 1 rfl) ?_
          refine lv_iload (pc := 59) C.1 C.2.1 dX11_value_59 (lv_at hl 0 rfl) ?_
          refine lv_iload_n (pc := 61) C.1 C.2.1 dX11_value_61 rfl (lv_at hl 4 rfl) ?_
          refine lv_bipush (pc := 62) C.1 C.2.1 dX11_value_62 mb_100 ?_
          refine g_idiv (pc := 64) C rfl mn_100 (by decide) dX11_value_64 ?_
          refine lv_bipush (pc := 65) C.1 C.2.1 dX11_value_65 mb_100 ?_
          refine g_irem (pc := 67) C rfl mn_100 (by decide) dX11_value_67 ?_
          refine lv_iload_n (pc := 68) C.1 C.2.1 dX11_value_68 rfl (lv_at hl 4 rfl) ?_
          refine lv_bipush (pc := 69) C.1 C.2.1 dX11_value_69 mb_100 ?_
          refine g_irem (pc := 71) C rfl mn_100 (by decide) dX11_value_71 ?_
          refine g_calli (pc := 72) w (mm_runV (ci := 11) (q := (RX11, TX11, 65)) (As := [.int (mm_I v6_7), .int (mm_I (Int.tmod (n32 (Int.tdiv (n32 a3) 100)) 100)), .int (mm_I (Int.tmod (n32 a3) 100))]) (rest := []) C w (c_X11_worthAt l G this v6_7 (Int.tmod (n32 (Int.tdiv (n32 a3) 100)) 100) (Int.tmod (n32 a3) 100) h0 s_8 _ hw) h0 rfl rfl cv_X11_worthAt ml_X11_433 ⟨Nat.le_of_ble_eq_true rfl, Nat.le_of_ble_eq_true rfl⟩ ⟨Nat.le_of_ble_eq_true rfl, Nat.le_of_ble_eq_true rfl⟩ rfl hl.1 rfl (Nat.le_of_ble_eq_true rfl) dX11_value_72) (fun r_13 s_12 H locs hw w => ?_)
          refine lv_goto (pc := 75) (tgt := 95) C.1 C.2.1 dX11_value_75 (by decide) ?_
          exact g_iret (pc := 95) C w hr hk hw dX11_value_95
      · have hw := hw.2 hc
        refine lv_ldcw (pc := 28) C.1 C.2.1 C.2.2.2.1 (C.2.2.2.2 _ lc_X11_284) dX11_value_28 ?_
        exact g_iret (pc := 31) C w hr hk hw dX11_value_31
def wp_X11_entering (this : Nat) (a1 : Int) (a2 : Int) (a3 : Int) (a4 : Int) (s0 : mm_M) (post : Int → mm_M → Prop) : Prop :=
  (wp_X11_isAsked this a1 a2 a4 s0 (fun r_2 s_1 => ((n32 r_2 = 0 → post (-2147483648) s_1) ∧ (¬ n32 r_2 = 0 → ((n32 a3 < 0 → post (-2147483648) s_1) ∧ (¬ n32 a3 < 0 → ((121 ≤ n32 (Int.tdiv (n32 a3) 100) → post (-2147483648) s_1) ∧ (¬ 121 ≤ n32 (Int.tdiv (n32 a3) 100) → ((n32 (Int.tmod (n32 a3) 100) ≤ 12 → (wp_X11_works this a1 a2 a4 (s_1 this 17) (Int.tdiv (n32 a3) 100) s_1 (fun s_3 => (wp_X11_worthAt this (Int.tdiv (n32 a3) 100) (Int.tmod (n32 a3) 100) 0 s_3 (fun r_6 s_5 => post (r_6 - (1000 * (s_5 this 17))) s_5))))) ∧ (¬ n32 (Int.tmod (n32 a3) 100) ≤ 12 → post (-2147483648) s_1))))))))))
set_option maxRecDepth 100000 in
set_option maxHeartbeats 4000000 in
theorem c_X11_entering (l : Launch) (G : mm_G) (this : Nat) (a1 : Int) (a2 : Int) (a3 : Int) (a4 : Int) (h0 : mm_ok this 21 0) (s0 : mm_M) (post : Int → mm_M → Prop) (hw : wp_X11_entering this a1 a2 a3 a4 s0 post) : Met l yX11_entering (mm_wm yX11_entering cX11_entering 5 (some .int)) (mm_rm 6) (va_Pc [.ref (mm_ad G this), .int (mm_I a1), .int (mm_I a2), .int (mm_I a3), .int (mm_I a4)] (mm_pre G s0)) (mm_Qi G post) 0 0 (mm_A G) := by
  refine mm_met (own := RX11) (by decide) rfl (Nat.le_of_ble_eq_true rfl) ?_
  intro p e s m args below meth c C hr hk
  unfold wp_X11_entering at hw
  intro H locs ls w hl
  have hl : lv_has ls 5 [(0, .ref (mm_ad G this)), (1, .int (mm_I a1)), (2, .int (mm_I a2)), (3, .int (mm_I a3)), (4, .int (mm_I a4))] := hl
  refine lv_aload_n (pc := 0) C.1 C.2.1 dX11_entering_0 rfl (lv_at hl 0 rfl) ?_
  refine lv_iload_n (pc := 1) C.1 C.2.1 dX11_entering_1 rfl (lv_at hl 1 rfl) ?_
  refine lv_iload_n (pc := 2) C.1 C.2.1 dX11_entering_2 rfl (lv_at hl 2 rfl) ?_
  refine lv_iload (pc := 3) C.1 C.2.1 dX11_entering_3 (lv_at hl 4 rfl) ?_
  refine g_calli (pc := 5) w (mm_runV (ci := 11) (q := (RX11, TX11, 65)) (As := [.int (mm_I a1), .int (mm_I a2), .int (mm_I a4)]) (rest := []) C w (c_X11_isAsked l G this a1 a2 a4 h0 s0 _ hw) h0 rfl rfl cv_X11_isAsked ml_X11_461 ⟨Nat.le_of_ble_eq_true rfl, Nat.le_of_ble_eq_true rfl⟩ ⟨Nat.le_of_ble_eq_true rfl, Nat.le_of_ble_eq_true rfl⟩ rfl hl.1 rfl (Nat.le_of_ble_eq_true rfl) dX11_entering_5) (fun r_2 s_1 H locs hw w => ?_)
  refine g_if_eq (pc := 8) (tgt := 33) C rfl dX11_entering_8 (by decide) (fun hc => ?_) (fun hc => ?_)
  · have hw := hw.1 hc
    refine lv_ldcw (pc := 33) C.1 C.2.1 C.2.2.2.1 (C.2.2.2.2 _ lc_X11_284) dX11_entering_33 ?_
    exact g_iret (pc := 36) C w hr hk hw dX11_entering_36
  · have hw := hw.2 hc
    refine lv_iload_n (pc := 11) C.1 C.2.1 dX11_entering_11 rfl (lv_at hl 3 rfl) ?_
    refine g_if_lt (pc := 12) (tgt := 33) C rfl dX11_entering_12 (by decide) (fun hc => ?_) (fun hc => ?_)
    · have hw := hw.1 hc
      refine lv_ldcw (pc := 33) C.1 C.2.1 C.2.2.2.1 (C.2.2.2.2 _ lc_X11_284) dX11_entering_33 ?_
      exact g_iret (pc := 36) C w hr hk hw dX11_entering_36
    · have hw := hw.2 hc
      refine lv_iload_n (pc := 15) C.1 C.2.1 dX11_entering_15 rfl (lv_at hl 3 rfl) ?_
      refine lv_bipush (pc := 16) C.1 C.2.1 dX11_entering_16 mb_100 ?_
      refine g_idiv (pc := 18) C rfl mn_100 (by decide) dX11_entering_18 ?_
      refine lv_bipush (pc := 19) C.1 C.2.1 dX11_entering_19 mb_121 ?_
      refine g_icmp_ge (pc := 21) (tgt := 33) C rfl mn_121 dX11_entering_21 (by decide) (fun hc => ?_) (fun hc => ?_)
      · have hw := hw.1 hc
        refine lv_ldcw (pc := 33) C.1 C.2.1 C.2.2.2.1 (C.2.2.2.2 _ lc_X11_284) dX11_entering_33 ?_
        exact g_iret (pc := 36) C w hr hk hw dX11_entering_36
      · have hw := hw.2 hc
        refine lv_iload_n (pc := 24) C.1 C.2.1 dX11_entering_24 rfl (lv_at hl 3 rfl) ?_
        refine lv_bipush (pc := 25) C.1 C.2.1 dX11_entering_25 mb_100 ?_
        refine g_irem (pc := 27) C rfl mn_100 (by decide) dX11_entering_27 ?_
        refine lv_bipush (pc := 28) C.1 C.2.1 dX11_entering_28 mb_12 ?_
        refine g_icmp_le (pc := 30) (tgt := 37) C rfl mn_12 dX11_entering_30 (by decide) (fun hc => ?_) (fun hc => ?_)
        · have hw := hw.1 hc
          refine lv_aload_n (pc := 37) C.1 C.2.1 dX11_entering_37 rfl (lv_at hl 0 rfl) ?_
          refine lv_iload_n (pc := 38) C.1 C.2.1 dX11_entering_38 rfl (lv_at hl 1 rfl) ?_
          refine lv_iload_n (pc := 39) C.1 C.2.1 dX11_entering_39 rfl (lv_at hl 2 rfl) ?_
          refine lv_iload (pc := 40) C.1 C.2.1 dX11_entering_40 (lv_at hl 4 rfl) ?_
          refine lv_aload_n (pc := 42) C.1 C.2.1 dX11_entering_42 rfl (lv_at hl 0 rfl) ?_
          refine g_geti (pc := 43) C w h0 ff_X11_17 lk_X11_297 dX11_entering_43 ?_
          refine lv_iload_n (pc := 46) C.1 C.2.1 dX11_entering_46 rfl (lv_at hl 3 rfl) ?_
          refine lv_bipush (pc := 47) C.1 C.2.1 dX11_entering_47 mb_100 ?_
          refine g_idiv (pc := 49) C rfl mn_100 (by decide) dX11_entering_49 ?_
          refine g_callv (pc := 50) w (mm_runV (ci := 11) (q := (RX11, TX11, 65)) (As := [.int (mm_I a1), .int (mm_I a2), .int (mm_I a4), .int (mm_I (s_1 this 17)), .int (mm_I (Int.tdiv (n32 a3) 100))]) (rest := []) C w (c_X11_works l G this a1 a2 a4 (s_1 this 17) (Int.tdiv (n32 a3) 100) h0 s_1 _ hw) h0 rfl rfl cv_X11_works ml_X11_467 ⟨Nat.le_of_ble_eq_true rfl, Nat.le_of_ble_eq_true rfl⟩ ⟨Nat.le_of_ble_eq_true rfl, Nat.le_of_ble_eq_true rfl⟩ rfl hl.1 rfl (Nat.le_of_ble_eq_true rfl) dX11_entering_50) (fun s_3 H locs hw w => ?_)
          refine lv_aload_n (pc := 53) C.1 C.2.1 dX11_entering_53 rfl (lv_at hl 0 rfl) ?_
          refine lv_iload_n (pc := 54) C.1 C.2.1 dX11_entering_54 rfl (lv_at hl 3 rfl) ?_
          refine lv_bipush (pc := 55) C.1 C.2.1 dX11_entering_55 mb_100 ?_
          refine g_idiv (pc := 57) C rfl mn_100 (by decide) dX11_entering_57 ?_
          refine lv_iload_n (pc := 58) C.1 C.2.1 dX11_entering_58 rfl (lv_at hl 3 rfl) ?_
          refine lv_bipush (pc := 59) C.1 C.2.1 dX11_entering_59 mb_100 ?_
          refine g_irem (pc := 61) C rfl mn_100 (by decide) dX11_entering_61 ?_
          refine lv_iconst (pc := 62) (v := mm_I 0) C.1 C.2.1 dX11_entering_62 rfl ?_
          refine g_calli (pc := 63) w (mm_runV (ci := 11) (q := (RX11, TX11, 65)) (As := [.int (mm_I (Int.tdiv (n32 a3) 100)), .int (mm_I (Int.tmod (n32 a3) 100)), .int (mm_I 0)]) (rest := []) C w (c_X11_worthAt l G this (Int.tdiv (n32 a3) 100) (Int.tmod (n32 a3) 100) 0 h0 s_3 _ hw) h0 rfl rfl cv_X11_worthAt ml_X11_433 ⟨Nat.le_of_ble_eq_true rfl, Nat.le_of_ble_eq_true rfl⟩ ⟨Nat.le_of_ble_eq_true rfl, Nat.le_of_ble_eq_true rfl⟩ rfl hl.1 rfl (Nat.le_of_ble_eq_true rfl) dX11_entering_63) (fun r_6 s_5 H locs hw w => ?_)
          refine lv_sipush (pc := 66) C.1 C.2.1 dX11_entering_66 ms_1000 ?_
          refine lv_aload_n (pc := 69) C.1 C.2.1 dX11_entering_69 rfl (lv_at hl 0 rfl) ?_
          refine g_geti (pc := 70) C w h0 ff_X11_17 lk_X11_297 dX11_entering_70 ?_
          refine g_imul (pc := 73) C dX11_entering_73 ?_
          refine g_isub (pc := 74) C dX11_entering_74 ?_
          exact g_iret (pc := 75) C w hr hk hw dX11_entering_75
        · have hw := hw.2 hc
          refine lv_ldcw (pc := 33) C.1 C.2.1 C.2.2.2.1 (C.2.2.2.2 _ lc_X11_284) dX11_entering_33 ?_
          exact g_iret (pc := 36) C w hr hk hw dX11_entering_36
