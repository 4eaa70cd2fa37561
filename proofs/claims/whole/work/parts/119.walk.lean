def wp_X11_count (this : Nat) (a1 : Int) (s0 : mm_M) (post : Int → mm_M → Prop) : Prop :=
  ∀ (L93 : Int → Int → mm_M → Prop), 
  (∀ (v2 : Int) (v3 : Int) (s1 : mm_M), ((30 ≤ n32 v3 → post v2 s1) ∧ (¬ 30 ≤ n32 v3 → ((n32 (s1 this 12) ≤ 0 → post v2 s1) ∧ (¬ n32 (s1 this 12) ≤ 0 → (wp_X11_of this v3 2 s1 (fun r_4 s_3 => ((¬ n32 r_4 = (-1) → (∀ v2_5 : Int, v2_5 = v2 + 1 → (∀ v3_6 : Int, v3_6 = v3 + 1 → L93 v2_5 v3_6 s_3))) ∧ (n32 r_4 = (-1) → (∀ v2_7 : Int, v2_7 = v2 + 0 → (∀ v3_8 : Int, v3_8 = v3 + 1 → L93 v2_7 v3_8 s_3)))))))))) → L93 v2 v3 s1) →
  ((n32 a1 = 0 → post (s0 this 12) s0) ∧ (¬ n32 a1 = 0 → ((n32 a1 = 1 → post (s0 this 14) s0) ∧ (¬ n32 a1 = 1 → ((n32 a1 = 2 → post (s0 this 28) s0) ∧ (¬ n32 a1 = 2 → ((n32 a1 = 3 → post (s0 this 16) s0) ∧ (¬ n32 a1 = 3 → ((n32 a1 = 4 → post (s0 this 17) s0) ∧ (¬ n32 a1 = 4 → ((n32 a1 = 5 → post (s0 this 18) s0) ∧ (¬ n32 a1 = 5 → ((n32 a1 = 6 → post (s0 this 24) s0) ∧ (¬ n32 a1 = 6 → ((n32 a1 = 7 → L93 0 0 s0) ∧ (¬ n32 a1 = 7 → ((n32 a1 = 8 → post (s0 this 38) s0) ∧ (¬ n32 a1 = 8 → ((n32 a1 = 9 → post (s0 this 1) s0) ∧ (¬ n32 a1 = 9 → post (-1) s0))))))))))))))))))))
set_option maxRecDepth 100000 in
set_option maxHeartbeats 4000000 in
theorem c_X11_count (l : Launch) (G : mm_G) (this : Nat) (a1 : Int) (h0 : mm_ok this 21 0) (s0 : mm_M) (post : Int → mm_M → Prop) (hw : wp_X11_count this a1 s0 post) : Met l yX11_count (mm_wm yX11_count cX11_count 4 (some .int)) (mm_rm 2) (va_Pc [.ref (mm_ad G this), .int (mm_I a1)] (mm_pre G s0)) (mm_Qi G post) 0 0 (mm_A G) := by
  refine mm_met (own := RX11) (by decide) rfl (Nat.le_of_ble_eq_true rfl) ?_
  intro p e s m args below meth c C hr hk
  unfold wp_X11_count at hw
  have hw := hw (fun (v2 : Int) (v3 : Int) (u : mm_M) => mm_X p l e (mm_rm 2) s m args below meth c (MQ below (mm_Qi G post) args s 0 0 (mm_A G)) G (mm_A G) 4 93 [(0, .ref (mm_ad G this)), (2, .int (mm_I v2)), (3, .int (mm_I v3))] [] u)
  have hw := hw (by
    intro v2 v3 s1 hw  H locs ls w hl
    refine lv_iload_n (pc := 93) C.1 C.2.1 dX11_count_93 rfl (lv_at hl 2 rfl) ?_
    refine lv_bipush (pc := 94) C.1 C.2.1 dX11_count_94 mb_30 ?_
    refine g_icmp_ge (pc := 96) (tgt := 130) C rfl mn_30 dX11_count_96 (by decide) (fun hc => ?_) (fun hc => ?_)
    · have hw := hw.1 hc
      refine lv_iload_n (pc := 130) C.1 C.2.1 dX11_count_130 rfl (lv_at hl 1 rfl) ?_
      exact g_iret (pc := 131) C w hr hk hw dX11_count_131
    · have hw := hw.2 hc
      refine lv_aload_n (pc := 99) C.1 C.2.1 dX11_count_99 rfl (lv_at hl 0 rfl) ?_
      refine g_geti (pc := 100) C w h0 ff_X11_12 lk_X11_288 dX11_count_100 ?_
      refine g_if_le (pc := 103) (tgt := 130) C rfl dX11_count_103 (by decide) (fun hc => ?_) (fun hc => ?_)
      · have hw := hw.1 hc
        refine lv_iload_n (pc := 130) C.1 C.2.1 dX11_count_130 rfl (lv_at hl 1 rfl) ?_
        exact g_iret (pc := 131) C w hr hk hw dX11_count_131
      · have hw := hw.2 hc
        refine lv_iload_n (pc := 106) C.1 C.2.1 dX11_count_106 rfl (lv_at hl 1 rfl) ?_
        refine lv_aload_n (pc := 107) C.1 C.2.1 dX11_count_107 rfl (lv_at hl 0 rfl) ?_
        refine lv_iload_n (pc := 108) C.1 C.2.1 dX11_count_108 rfl (lv_at hl 2 rfl) ?_
        refine lv_iconst (pc := 109) (v := mm_I 2) C.1 C.2.1 dX11_count_109 rfl ?_
        refine g_calli (pc := 110) w (mm_runV (ci := 11) (q := (RX11, TX11, 65)) (As := [.int (mm_I v3), .int (mm_I 2)]) (rest := [.int (mm_I v2)]) C w (c_X11_of l G this v3 2 h0 s1 _ hw) h0 rfl rfl cv_X11_of ml_X11_317 ⟨Nat.le_of_ble_eq_true rfl, Nat.le_of_ble_eq_true rfl⟩ ⟨Nat.le_of_ble_eq_true rfl, Nat.le_of_ble_eq_true rfl⟩ rfl hl.1 rfl (Nat.le_of_ble_eq_true rfl) dX11_count_110) (fun r_4 s_3 H locs hw w => ?_)
        refine lv_iconst (pc := 113) (v := mm_I (-1)) C.1 C.2.1 dX11_count_113 rfl ?_
        refine g_icmp_ne (pc := 114) (tgt := 121) C rfl mn_m1 dX11_count_114 (by decide) (fun hc => ?_) (fun hc => ?_)
        · have hw := hw.1 hc
          refine lv_iconst (pc := 121) (v := mm_I 1) C.1 C.2.1 dX11_count_121 rfl ?_
          refine g_iadd (pc := 122) C dX11_count_122 ?_
          refine g_istore_n (pc := 123) C dX11_count_123 rfl hl (by decide) (fun v2_5 ev2_5 ls hl => ?_)
          have hw := hw v2_5 ev2_5
          have hl : lv_has ls 4 [(2, .int (mm_I v2_5)), (0, .ref (mm_ad G this)), (3, .int (mm_I v3))] := hl
          refine g_iinc (pc := 124) (k := 2) C dX11_count_124 hl rfl (by decide) (fun v3_6 ev3_6 ls hl => ?_)
          have hw := hw v3_6 ev3_6
          have hl : lv_has ls 4 [(3, .int (mm_I v3_6)), (2, .int (mm_I v2_5)), (0, .ref (mm_ad G this))] := hl
          refine lv_goto (pc := 127) (tgt := 93) C.1 C.2.1 dX11_count_127 (by decide) ?_
          exact hw  _ _ _ w (lv_sub hl [2, 1, 0] rfl)
        · have hw := hw.2 hc
          refine lv_iconst (pc := 117) (v := mm_I 0) C.1 C.2.1 dX11_count_117 rfl ?_
          refine lv_goto (pc := 118) (tgt := 122) C.1 C.2.1 dX11_count_118 (by decide) ?_
          refine g_iadd (pc := 122) C dX11_count_122 ?_
          refine g_istore_n (pc := 123) C dX11_count_123 rfl hl (by decide) (fun v2_7 ev2_7 ls hl => ?_)
          have hw := hw v2_7 ev2_7
          have hl : lv_has ls 4 [(2, .int (mm_I v2_7)), (0, .ref (mm_ad G this)), (3, .int (mm_I v3))] := hl
          refine g_iinc (pc := 124) (k := 2) C dX11_count_124 hl rfl (by decide) (fun v3_8 ev3_8 ls hl => ?_)
          have hw := hw v3_8 ev3_8
          have hl : lv_has ls 4 [(3, .int (mm_I v3_8)), (2, .int (mm_I v2_7)), (0, .ref (mm_ad G this))] := hl
          refine lv_goto (pc := 127) (tgt := 93) C.1 C.2.1 dX11_count_127 (by decide) ?_
          exact hw  _ _ _ w (lv_sub hl [2, 1, 0] rfl))
  intro H locs ls w hl
  have hl : lv_has ls 4 [(0, .ref (mm_ad G this)), (1, .int (mm_I a1))] := hl
  refine lv_iconst (pc := 0) (v := mm_I 0) C.1 C.2.1 dX11_count_0 rfl ?_
  refine lv_istore_n (pc := 1) (lv' := [(2, .int (mm_I 0)), (0, .ref (mm_ad G this)), (1, .int (mm_I a1))]) C.1 C.2.1 dX11_count_1 rfl hl (by decide) rfl (fun ls hl => ?_)
  refine lv_iload_n (pc := 2) C.1 C.2.1 dX11_count_2 rfl (lv_at hl 2 rfl) ?_
  by_cases hc0 : n32 a1 = 0
  · have hw := hw.1 hc0
    refine lv_tableIn (pc := 3) (tgt := 56) C.1 C.2.1 dX11_count_3 (by rw [show (mm_I a1).toInt = 0 from hc0]; decide) (by rw [show (mm_I a1).toInt = 0 from hc0]; decide) (by rw [show (mm_I a1).toInt = 0 from hc0]; first | done | rfl) (by decide) ?_
    refine lv_aload_n (pc := 56) C.1 C.2.1 dX11_count_56 rfl (lv_at hl 1 rfl) ?_
    refine g_geti (pc := 57) C w h0 ff_X11_12 lk_X11_288 dX11_count_57 ?_
    exact g_iret (pc := 60) C w hr hk hw dX11_count_60
  have hw := hw.2 hc0
  by_cases hc1 : n32 a1 = 1
  · have hw := hw.1 hc1
    refine lv_tableIn (pc := 3) (tgt := 61) C.1 C.2.1 dX11_count_3 (by rw [show (mm_I a1).toInt = 1 from hc1]; decide) (by rw [show (mm_I a1).toInt = 1 from hc1]; decide) (by rw [show (mm_I a1).toInt = 1 from hc1]; first | done | rfl) (by decide) ?_
    refine lv_aload_n (pc := 61) C.1 C.2.1 dX11_count_61 rfl (lv_at hl 1 rfl) ?_
    refine g_geti (pc := 62) C w h0 ff_X11_14 lk_X11_291 dX11_count_62 ?_
    exact g_iret (pc := 65) C w hr hk hw dX11_count_65
  have hw := hw.2 hc1
  by_cases hc2 : n32 a1 = 2
  · have hw := hw.1 hc2
    refine lv_tableIn (pc := 3) (tgt := 66) C.1 C.2.1 dX11_count_3 (by rw [show (mm_I a1).toInt = 2 from hc2]; decide) (by rw [show (mm_I a1).toInt = 2 from hc2]; decide) (by rw [show (mm_I a1).toInt = 2 from hc2]; first | done | rfl) (by decide) ?_
    refine lv_aload_n (pc := 66) C.1 C.2.1 dX11_count_66 rfl (lv_at hl 1 rfl) ?_
    refine g_geti (pc := 67) C w h0 ff_X11_28 lk_X11_301 dX11_count_67 ?_
    exact g_iret (pc := 70) C w hr hk hw dX11_count_70
  have hw := hw.2 hc2
  by_cases hc3 : n32 a1 = 3
  · have hw := hw.1 hc3
    refine lv_tableIn (pc := 3) (tgt := 71) C.1 C.2.1 dX11_count_3 (by rw [show (mm_I a1).toInt = 3 from hc3]; decide) (by rw [show (mm_I a1).toInt = 3 from hc3]; decide) (by rw [show (mm_I a1).toInt = 3 from hc3]; first | done | rfl) (by decide) ?_
    refine lv_aload_n (pc := 71) C.1 C.2.1 dX11_count_71 rfl (lv_at hl 1 rfl) ?_
    refine g_geti (pc := 72) C w h0 ff_X11_16 lk_X11_294 dX11_count_72 ?_
    exact g_iret (pc := 75) C w hr hk hw dX11_count_75
  have hw := hw.2 hc3
  by_cases hc4 : n32 a1 = 4
  · have hw := hw.1 hc4
    refine lv_tableIn (pc := 3) (tgt := 76) C.1 C.2.1 dX11_count_3 (by rw [show (mm_I a1).toInt = 4 from hc4]; decide) (by rw [show (mm_I a1).toInt = 4 from hc4]; decide) (by rw [show (mm_I a1).toInt = 4 from hc4]; first | done | rfl) (by decide) ?_
    refine lv_aload_n (pc := 76) C.1 C.2.1 dX11_count_76 rfl (lv_at hl 1 rfl) ?_
    refine g_geti (pc := 77) C w h0 ff_X11_17 lk_X11_297 dX11_count_77 ?_
    exact g_iret (pc := 80) C w hr hk hw dX11_count_80
  have hw := hw.2 hc4
  by_cases hc5 : n32 a1 = 5
  · have hw := hw.1 hc5
    refine lv_tableIn (pc := 3) (tgt := 81) C.1 C.2.1 dX11_count_3 (by rw [show (mm_I a1).toInt = 5 from hc5]; decide) (by rw [show (mm_I a1).toInt = 5 from hc5]; decide) (by rw [show (mm_I a1).toInt = 5 from hc5]; first | done | rfl) (by decide) ?_
    refine lv_aload_n (pc := 81) C.1 C.2.1 dX11_count_81 rfl (lv_at hl 1 rfl) ?_
    refine g_geti (pc := 82) C w h0 ff_X11_18 lk_X11_299 dX11_count_82 ?_
    exact g_iret (pc := 85) C w hr hk hw dX11_count_85
  have hw := hw.2 hc5
  by_cases hc6 : n32 a1 = 6
  · have hw := hw.1 hc6
    refine lv_tableIn (pc := 3) (tgt := 86) C.1 C.2.1 dX11_count_3 (by rw [show (mm_I a1).toInt = 6 from hc6]; decide) (by rw [show (mm_I a1).toInt = 6 from hc6]; decide) (by rw [show (mm_I a1).toInt = 6 from hc6]; first | done | rfl) (by decide) ?_
    refine lv_aload_n (pc := 86) C.1 C.2.1 dX11_count_86 rfl (lv_at hl 1 rfl) ?_
    refine g_geti (pc := 87) C w h0 ff_X11_24 lk_X11_285 dX11_count_87 ?_
    exact g_iret (pc := 90) C w hr hk hw dX11_count_90
  have hw := hw.2 hc6
  by_cases hc7 : n32 a1 = 7
  · have hw := hw.1 hc7
    refine lv_tableIn (pc := 3) (tgt := 91) C.1 C.2.1 dX11_count_3 (by rw [show (mm_I a1).toInt = 7 from hc7]; decide) (by rw [show (mm_I a1).toInt = 7 from hc7]; decide) (by rw [show (mm_I a1).toInt = 7 from hc7]; first | done | rfl) (by decide) ?_
    refine lv_iconst (pc := 91) (v := mm_I 0) C.1 C.2.1 dX11_count_91 rfl ?_
    refine lv_istore_n (pc := 92) (lv' := [(3, .int (mm_I 0)), (2, .int (mm_I 0)), (0, .ref (mm_ad G this)), (1, .int (mm_I a1))]) C.1 C.2.1 dX11_count_92 rfl hl (by decide) rfl (fun ls hl => ?_)
    exact hw  _ _ _ w (lv_sub hl [2, 1, 0] rfl)
  have hw := hw.2 hc7
  by_cases hc8 : n32 a1 = 8
  · have hw := hw.1 hc8
    refine lv_tableIn (pc := 3) (tgt := 132) C.1 C.2.1 dX11_count_3 (by rw [show (mm_I a1).toInt = 8 from hc8]; decide) (by rw [show (mm_I a1).toInt = 8 from hc8]; decide) (by rw [show (mm_I a1).toInt = 8 from hc8]; first | done | rfl) (by decide) ?_
    refine lv_aload_n (pc := 132) C.1 C.2.1 dX11_count_132 rfl (lv_at hl 1 rfl) ?_
    refine g_geti (pc := 133) C w h0 ff_X11_38 lk_X11_409 dX11_count_133 ?_
    exact g_iret (pc := 136) C w hr hk hw dX11_count_136
  have hw := hw.2 hc8
  by_cases hc9 : n32 a1 = 9
  · have hw := hw.1 hc9
    refine lv_tableIn (pc := 3) (tgt := 137) C.1 C.2.1 dX11_count_3 (by rw [show (mm_I a1).toInt = 9 from hc9]; decide) (by rw [show (mm_I a1).toInt = 9 from hc9]; decide) (by rw [show (mm_I a1).toInt = 9 from hc9]; first | done | rfl) (by decide) ?_
    refine lv_aload_n (pc := 137) C.1 C.2.1 dX11_count_137 rfl (lv_at hl 1 rfl) ?_
    refine g_geti (pc := 138) C w h0 ff_X11_1 lk_X11_118 dX11_count_138 ?_
    exact g_iret (pc := 141) C w hr hk hw dX11_count_141
  have hw := hw.2 hc9
  refine lv_tableOut (pc := 3) (tgt := 142) C.1 C.2.1 dX11_count_3 (mo_0_9 hc0 hc1 hc2 hc3 hc4 hc5 hc6 hc7 hc8 hc9) (by decide) ?_
  refine lv_iconst (pc := 142) (v := mm_I (-1)) C.1 C.2.1 dX11_count_142 rfl ?_
  exact g_iret (pc := 143) C w hr hk hw dX11_count_143
