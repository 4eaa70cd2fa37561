theorem lk_X11_225 : Cond.fieldLink RX11 225 "LastServedModel" "waiting" "I" ∈ mm_ws := (mt_6 10 rfl rfl)
theorem ff_X11_46 : mm_F 11 46 0 RX11 TX11 65 := ⟨rfl, by decide, fk_X11, rfl, rfl⟩
theorem lk_X11_88 : Cond.fieldLink RX11 88 "LastServedModel" "waits" "[I" ∈ mm_ws := (mt_6 9 rfl rfl)
theorem ff_X11_45 : mm_F 11 45 1 RX11 TX11 65 := ⟨rfl, by decide, fk_X11, rfl, rfl⟩
theorem ro_X11_45 {i : Nat} (h : mm_ok i 21 0) : mm_ok (mm_rt i 45) 0 600 := by
  have q : ∀ i, i < mm_N → mm_kd i = 21 → mm_rt i 45 < mm_N ∧ mm_kd (mm_rt i 45) = 0 ∧ mm_ln (mm_rt i 45) = 600 := by decide +kernel
  exact q i h.1 h.2.1
theorem cs_X11_rank : mm_S yX11_rank cX11_rank 1 (some .int) 1 := ⟨(mt_7 47 rfl rfl), (mt_7 46 rfl rfl), (mt_1 12 rfl rfl), by decide, by decide, by decide +kernel⟩
theorem ml_X11_228 : Cond.methodLink RX11 228 yX11_rank ∈ mm_ws := (mt_7 45 rfl rfl)
theorem fw_X11_46 : mm_Fw 11 46 TX11 65 .int := ⟨⟨tyX11, tyX11_ok⟩, nmX11, rfl, by decide +kernel⟩
theorem cv_X11_lays : mm_V yX11_lays cX11_lays 3 none 2 := ⟨(mt_7 27 rfl rfl), (mt_7 26 rfl rfl), (mp_4 11 rfl rfl), (mt_1 12 rfl rfl), by decide, by decide, by decide +kernel⟩
theorem ml_X11_231 : Cond.methodLink RX11 231 yX11_lays ∈ mm_ws := (mt_7 24 rfl rfl)
def wp_X11_empties (this : Nat) (a1 : Int) (s0 : mm_M) (post : mm_M → Prop) : Prop :=
  ∀ (L0 : mm_M → Prop), 
  (∀  (s1 : mm_M), ((n32 (s1 this 46) ≤ 0 → post s1) ∧ (¬ n32 (s1 this 46) ≤ 0 → ((0 ≤ (s1 this 46) - 1 ∧ (s1 this 46) - 1 < 600) ∧ ((n32 (s1 (mm_rt this 45) ((s1 this 46) - 1)) = (-1) → post s1) ∧ (¬ n32 (s1 (mm_rt this 45) ((s1 this 46) - 1)) = (-1) → ((0 ≤ (s1 this 46) - 1 ∧ (s1 this 46) - 1 < 600) ∧ (wp_X11_rank (s1 (mm_rt this 45) ((s1 this 46) - 1)) s1 (fun r_2 s_1 => ((n32 r_2 < n32 a1 → post s_1) ∧ (¬ n32 r_2 < n32 a1 → (∀ s_3 : mm_M, s_3 = mm_up s_1 this 46 ((s_1 this 46) - 1) → ((0 ≤ s_3 this 46 ∧ s_3 this 46 < 600) ∧ (wp_X11_lays this (s_3 (mm_rt this 45) (s_3 this 46)) 0 s_3 (fun s_4 => L0 s_4)))))))))))))) → L0 s1) →
  L0 s0
set_option maxRecDepth 100000 in
set_option maxHeartbeats 4000000 in
theorem c_X11_empties (l : Launch) (G : mm_G) (this : Nat) (a1 : Int) (h0 : mm_ok this 21 0) (s0 : mm_M) (post : mm_M → Prop) (hw : wp_X11_empties this a1 s0 post) : Met l yX11_empties (mm_wm yX11_empties cX11_empties 2 none) (mm_rm 2) (va_Pc [.ref (mm_ad G this), .int (mm_I a1)] (mm_pre G s0)) (mm_Qv G post) 0 0 (mm_A G) := by
  refine mm_met (own := RX11) (by decide) rfl (Nat.le_of_ble_eq_true rfl) ?_
  intro p e s m args below meth c C hr hk
  unfold wp_X11_empties at hw
  have hw := hw (fun  (u : mm_M) => mm_X p l e (mm_rm 2) s m args below meth c (MQ below (mm_Qv G post) args s 0 0 (mm_A G)) G (mm_A G) 2 0 [(0, .ref (mm_ad G this)), (1, .int (mm_I a1))] [] u)
  have hw := hw (by
    intro  s1 hw  H locs ls w hl
    refine lv_aload_n (pc := 0) C.1 C.2.1 dX11_empties_0 rfl (lv_at hl 0 rfl) ?_
    refine g_geti (pc := 1) C w h0 ff_X11_46 lk_X11_225 dX11_empties_1 ?_
    refine g_if_le (pc := 4) (tgt := 67) C rfl dX11_empties_4 (by decide) (fun hc => ?_) (fun hc => ?_)
    · have hw := hw.1 hc
      exact g_vret (pc := 67) C w hr hk hw dX11_empties_67
    · have hw := hw.2 hc
      refine lv_aload_n (pc := 7) C.1 C.2.1 dX11_empties_7 rfl (lv_at hl 0 rfl) ?_
      refine g_getr (pc := 8) C w h0 ff_X11_45 lk_X11_88 dX11_empties_8 ?_
      refine lv_aload_n (pc := 11) C.1 C.2.1 dX11_empties_11 rfl (lv_at hl 0 rfl) ?_
      refine g_geti (pc := 12) C w h0 ff_X11_46 lk_X11_225 dX11_empties_12 ?_
      refine lv_iconst (pc := 15) (v := mm_I 1) C.1 C.2.1 dX11_empties_15 rfl ?_
      refine g_isub (pc := 16) C dX11_empties_16 ?_
      obtain ⟨hi, hw⟩ := hw
      refine g_iald (pc := 17) C w (ro_X11_45 h0) hi dX11_empties_17 ?_
      refine lv_iconst (pc := 18) (v := mm_I (-1)) C.1 C.2.1 dX11_empties_18 rfl ?_
      refine g_icmp_eq (pc := 19) (tgt := 67) C rfl mn_m1 dX11_empties_19 (by decide) (fun hc => ?_) (fun hc => ?_)
      · have hw := hw.1 hc
        exact g_vret (pc := 67) C w hr hk hw dX11_empties_67
      · have hw := hw.2 hc
        refine lv_aload_n (pc := 22) C.1 C.2.1 dX11_empties_22 rfl (lv_at hl 0 rfl) ?_
        refine g_getr (pc := 23) C w h0 ff_X11_45 lk_X11_88 dX11_empties_23 ?_
        refine lv_aload_n (pc := 26) C.1 C.2.1 dX11_empties_26 rfl (lv_at hl 0 rfl) ?_
        refine g_geti (pc := 27) C w h0 ff_X11_46 lk_X11_225 dX11_empties_27 ?_
        refine lv_iconst (pc := 30) (v := mm_I 1) C.1 C.2.1 dX11_empties_30 rfl ?_
        refine g_isub (pc := 31) C dX11_empties_31 ?_
        obtain ⟨hi, hw⟩ := hw
        refine g_iald (pc := 32) C w (ro_X11_45 h0) hi dX11_empties_32 ?_
        refine g_calli (pc := 33) w (mm_runS (As := [.int (mm_I (s1 (mm_rt this 45) ((s1 this 46) - 1)))]) (rest := []) C w (c_X11_rank l G (s1 (mm_rt this 45) ((s1 this 46) - 1))  s1 _ hw) cs_X11_rank ml_X11_228 ⟨Nat.le_of_ble_eq_true rfl, Nat.le_of_ble_eq_true rfl⟩ ⟨Nat.le_of_ble_eq_true rfl, Nat.le_of_ble_eq_true rfl⟩ rfl hl.1 rfl (Nat.le_of_ble_eq_true rfl) dX11_empties_33) (fun r_2 s_1 H locs hw w => ?_)
        refine lv_iload_n (pc := 36) C.1 C.2.1 dX11_empties_36 rfl (lv_at hl 1 rfl) ?_
        refine g_icmp_lt (pc := 37) (tgt := 67) C rfl rfl dX11_empties_37 (by decide) (fun hc => ?_) (fun hc => ?_)
        · have hw := hw.1 hc
          exact g_vret (pc := 67) C w hr hk hw dX11_empties_67
        · have hw := hw.2 hc
          refine lv_aload_n (pc := 40) C.1 C.2.1 dX11_empties_40 rfl (lv_at hl 0 rfl) ?_
          refine lv_dup (pc := 41) C.1 C.2.1 dX11_empties_41 rfl ?_
          refine g_geti (pc := 42) C w h0 ff_X11_46 lk_X11_225 dX11_empties_42 ?_
          refine lv_iconst (pc := 45) (v := mm_I 1) C.1 C.2.1 dX11_empties_45 rfl ?_
          refine g_isub (pc := 46) C dX11_empties_46 ?_
          refine g_puti (pc := 47) C w h0 ff_X11_46 fw_X11_46 lk_X11_225 dX11_empties_47 (fun s_3 H locs es_3 w => ?_)
          have hw := hw s_3 es_3
          refine lv_aload_n (pc := 50) C.1 C.2.1 dX11_empties_50 rfl (lv_at hl 0 rfl) ?_
          refine lv_aload_n (pc := 51) C.1 C.2.1 dX11_empties_51 rfl (lv_at hl 0 rfl) ?_
          refine g_getr (pc := 52) C w h0 ff_X11_45 lk_X11_88 dX11_empties_52 ?_
          refine lv_aload_n (pc := 55) C.1 C.2.1 dX11_empties_55 rfl (lv_at hl 0 rfl) ?_
          refine g_geti (pc := 56) C w h0 ff_X11_46 lk_X11_225 dX11_empties_56 ?_
          obtain ⟨hi, hw⟩ := hw
          refine g_iald (pc := 59) C w (ro_X11_45 h0) hi dX11_empties_59 ?_
          refine lv_iconst (pc := 60) (v := mm_I 0) C.1 C.2.1 dX11_empties_60 rfl ?_
          refine g_callv (pc := 61) w (mm_runV (ci := 11) (q := (RX11, TX11, 65)) (As := [.int (mm_I (s_3 (mm_rt this 45) (s_3 this 46))), .int (mm_I 0)]) (rest := []) C w (c_X11_lays l G this (s_3 (mm_rt this 45) (s_3 this 46)) 0 h0 s_3 _ hw) h0 rfl rfl cv_X11_lays ml_X11_231 ⟨Nat.le_of_ble_eq_true rfl, Nat.le_of_ble_eq_true rfl⟩ ⟨Nat.le_of_ble_eq_true rfl, Nat.le_of_ble_eq_true rfl⟩ rfl hl.1 rfl (Nat.le_of_ble_eq_true rfl) dX11_empties_61) (fun s_4 H locs hw w => ?_)
          refine lv_goto (pc := 64) (tgt := 0) C.1 C.2.1 dX11_empties_64 (by decide) ?_
          exact hw  _ _ _ w (lv_sub hl [0, 1] rfl))
  intro H locs ls w hl
  have hl : lv_has ls 2 [(0, .ref (mm_ad G this)), (1, .int (mm_I a1))] := hl
  exact hw  _ _ _ w (lv_sub hl [0, 1] rfl)
def wp_X11_waitsFor (this : Nat) (a1 : Int) (s0 : mm_M) (post : mm_M → Prop) : Prop :=
  ((0 ≤ s0 this 46 ∧ s0 this 46 < 600) ∧ (∀ s_1 : mm_M, s_1 = mm_up s0 (mm_rt this 45) (s0 this 46) a1 → (∀ s_2 : mm_M, s_2 = mm_up s_1 this 46 ((s_1 this 46) + 1) → (wp_X11_leads this s_2 (fun s_3 => post s_3)))))
set_option maxRecDepth 100000 in
set_option maxHeartbeats 4000000 in
theorem c_X11_waitsFor (l : Launch) (G : mm_G) (this : Nat) (a1 : Int) (h0 : mm_ok this 21 0) (s0 : mm_M) (post : mm_M → Prop) (hw : wp_X11_waitsFor this a1 s0 post) : Met l yX11_waitsFor (mm_wm yX11_waitsFor cX11_waitsFor 2 none) (mm_rm 3) (va_Pc [.ref (mm_ad G this), .int (mm_I a1)] (mm_pre G s0)) (mm_Qv G post) 0 0 (mm_A G) := by
  refine mm_met (own := RX11) (by decide) rfl (Nat.le_of_ble_eq_true rfl) ?_
  intro p e s m args below meth c C hr hk
  unfold wp_X11_waitsFor at hw
  intro H locs ls w hl
  have hl : lv_has ls 2 [(0, .ref (mm_ad G this)), (1, .int (mm_I a1))] := hl
  refine lv_aload_n (pc := 0) C.1 C.2.1 dX11_waitsFor_0 rfl (lv_at hl 0 rfl) ?_
  refine g_getr (pc := 1) C w h0 ff_X11_45 lk_X11_88 dX11_waitsFor_1 ?_
  refine lv_aload_n (pc := 4) C.1 C.2.1 dX11_waitsFor_4 rfl (lv_at hl 0 rfl) ?_
  refine g_geti (pc := 5) C w h0 ff_X11_46 lk_X11_225 dX11_waitsFor_5 ?_
  refine lv_iload_n (pc := 8) C.1 C.2.1 dX11_waitsFor_8 rfl (lv_at hl 1 rfl) ?_
  obtain ⟨hi, hw⟩ := hw
  refine g_iast (pc := 9) C w (ro_X11_45 h0) hi  dX11_waitsFor_9 (fun s_1 H locs es_1 w => ?_)
  have hw := hw s_1 es_1
  refine lv_aload_n (pc := 10) C.1 C.2.1 dX11_waitsFor_10 rfl (lv_at hl 0 rfl) ?_
  refine lv_dup (pc := 11) C.1 C.2.1 dX11_waitsFor_11 rfl ?_
  refine g_geti (pc := 12) C w h0 ff_X11_46 lk_X11_225 dX11_waitsFor_12 ?_
  refine lv_iconst (pc := 15) (v := mm_I 1) C.1 C.2.1 dX11_waitsFor_15 rfl ?_
  refine g_iadd (pc := 16) C dX11_waitsFor_16 ?_
  refine g_puti (pc := 17) C w h0 ff_X11_46 fw_X11_46 lk_X11_225 dX11_waitsFor_17 (fun s_2 H locs es_2 w => ?_)
  have hw := hw s_2 es_2
  refine lv_aload_n (pc := 20) C.1 C.2.1 dX11_waitsFor_20 rfl (lv_at hl 0 rfl) ?_
  refine g_callv (pc := 21) w (mm_runV (ci := 11) (q := (RX11, TX11, 65)) (As := []) (rest := []) C w (c_X11_leads l G this h0 s_2 _ hw) h0 rfl rfl cv_X11_leads ml_X11_172 ⟨Nat.le_of_ble_eq_true rfl, Nat.le_of_ble_eq_true rfl⟩ ⟨Nat.le_of_ble_eq_true rfl, Nat.le_of_ble_eq_true rfl⟩ rfl hl.1 rfl (Nat.le_of_ble_eq_true rfl) dX11_waitsFor_21) (fun s_3 H locs hw w => ?_)
  exact g_vret (pc := 24) C w hr hk hw dX11_waitsFor_24
def wp_X11_nameHere (this : Nat) (s0 : mm_M) (post : Int → mm_M → Prop) : Prop :=
  (wp_X11_isWord this 26 s0 (fun r_2 s_1 => ((n32 r_2 = 0 → (wp_X11_isWord this 27 s_1 (fun r_4 s_3 => ((n32 r_4 = 0 → (wp_X11_isWord this 19 s_3 (fun r_6 s_5 => ((n32 r_6 = 0 → (wp_X11_isWord this 28 s_5 (fun r_8 s_7 => ((n32 r_8 = 0 → (wp_X11_isWord this 29 s_7 (fun r_10 s_9 => ((n32 r_10 = 0 → (wp_X11_isWord this 30 s_9 (fun r_12 s_11 => ((n32 r_12 = 0 → (wp_X11_isWord this 31 s_11 (fun r_14 s_13 => ((n32 r_14 = 0 → (wp_X11_isWord this 32 s_13 (fun r_16 s_15 => ((n32 r_16 = 0 → (wp_X11_isWord this 33 s_15 (fun r_18 s_17 => ((n32 r_18 = 0 → (wp_X11_isWord this 34 s_17 (fun r_20 s_19 => ((n32 r_20 = 0 → post (-1) s_19) ∧ (¬ n32 r_20 = 0 → post 9 s_19))))) ∧ (¬ n32 r_18 = 0 → post 8 s_17))))) ∧ (¬ n32 r_16 = 0 → post 7 s_15))))) ∧ (¬ n32 r_14 = 0 → post 6 s_13))))) ∧ (¬ n32 r_12 = 0 → post 5 s_11))))) ∧ (¬ n32 r_10 = 0 → post 4 s_9))))) ∧ (¬ n32 r_8 = 0 → post 3 s_7))))) ∧ (¬ n32 r_6 = 0 → post 2 s_5))))) ∧ (¬ n32 r_4 = 0 → post 1 s_3))))) ∧ (¬ n32 r_2 = 0 → post 0 s_1))))
set_option maxRecDepth 100000 in
set_option maxHeartbeats 4000000 in
theorem c_X11_nameHere (l : Launch) (G : mm_G) (this : Nat) (h0 : mm_ok this 21 0) (s0 : mm_M) (post : Int → mm_M → Prop) (hw : wp_X11_nameHere this s0 post) : Met l yX11_nameHere (mm_wm yX11_nameHere cX11_nameHere 1 (some .int)) (mm_rm 7) (va_Pc [.ref (mm_ad G this)] (mm_pre G s0)) (mm_Qi G post) 0 0 (mm_A G) := by
  refine mm_met (own := RX11) (by decide) rfl (Nat.le_of_ble_eq_true rfl) ?_
  intro p e s m args below meth c C hr hk
  unfold wp_X11_nameHere at hw
  intro H locs ls w hl
  have hl : lv_has ls 1 [(0, .ref (mm_ad G this))] := hl
  refine lv_aload_n (pc := 0) C.1 C.2.1 dX11_nameHere_0 rfl (lv_at hl 0 rfl) ?_
  refine va_ldcS (pc := 1) C.1 C.2.1 C.2.2.2.1 (w.2.2.2.1.2.2.2.2 26 (by decide)).1 dX11_nameHere_1 ?_
  refine g_calli (pc := 3) w (mm_runV (ci := 11) (q := (RX11, TX11, 65)) (As := [.ref (G.2.2.2.1 26)]) (rest := []) C w (c_X11_isWord l G this 26 h0 (by decide) s0 _ hw) h0 rfl rfl cv_X11_isWord ml_X11_194 ⟨Nat.le_of_ble_eq_true rfl, Nat.le_of_ble_eq_true rfl⟩ ⟨Nat.le_of_ble_eq_true rfl, Nat.le_of_ble_eq_true rfl⟩ rfl hl.1 rfl (Nat.le_of_ble_eq_true rfl) dX11_nameHere_3) (fun r_2 s_1 H locs hw w => ?_)
  refine g_if_eq (pc := 6) (tgt := 13) C rfl dX11_nameHere_6 (by decide) (fun hc => ?_) (fun hc => ?_)
  · have hw := hw.1 hc
    refine lv_aload_n (pc := 13) C.1 C.2.1 dX11_nameHere_13 rfl (lv_at hl 0 rfl) ?_
    refine va_ldcS (pc := 14) C.1 C.2.1 C.2.2.2.1 (w.2.2.2.1.2.2.2.2 27 (by decide)).1 dX11_nameHere_14 ?_
    refine g_calli (pc := 16) w (mm_runV (ci := 11) (q := (RX11, TX11, 65)) (As := [.ref (G.2.2.2.1 27)]) (rest := []) C w (c_X11_isWord l G this 27 h0 (by decide) s_1 _ hw) h0 rfl rfl cv_X11_isWord ml_X11_194 ⟨Nat.le_of_ble_eq_true rfl, Nat.le_of_ble_eq_true rfl⟩ ⟨Nat.le_of_ble_eq_true rfl, Nat.le_of_ble_eq_true rfl⟩ rfl hl.1 rfl (Nat.le_of_ble_eq_true rfl) dX11_nameHere_16) (fun r_4 s_3 H locs hw w => ?_)
    refine g_if_eq (pc := 19) (tgt := 26) C rfl dX11_nameHere_19 (by decide) (fun hc => ?_) (fun hc => ?_)
    · have hw := hw.1 hc
      refine lv_aload_n (pc := 26) C.1 C.2.1 dX11_nameHere_26 rfl (lv_at hl 0 rfl) ?_
      refine va_ldcS (pc := 27) C.1 C.2.1 C.2.2.2.1 (w.2.2.2.1.2.2.2.2 19 (by decide)).1 dX11_nameHere_27 ?_
      refine g_calli (pc := 29) w (mm_runV (ci := 11) (q := (RX11, TX11, 65)) (As := [.ref (G.2.2.2.1 19)]) (rest := []) C w (c_X11_isWord l G this 19 h0 (by decide) s_3 _ hw) h0 rfl rfl cv_X11_isWord ml_X11_194 ⟨Nat.le_of_ble_eq_true rfl, Nat.le_of_ble_eq_true rfl⟩ ⟨Nat.le_of_ble_eq_true rfl, Nat.le_of_ble_eq_true rfl⟩ rfl hl.1 rfl (Nat.le_of_ble_eq_true rfl) dX11_nameHere_29) (fun r_6 s_5 H locs hw w => ?_)
      refine g_if_eq (pc := 32) (tgt := 39) C rfl dX11_nameHere_32 (by decide) (fun hc => ?_) (fun hc => ?_)
      · have hw := hw.1 hc
        refine lv_aload_n (pc := 39) C.1 C.2.1 dX11_nameHere_39 rfl (lv_at hl 0 rfl) ?_
        refine va_ldcS (pc := 40) C.1 C.2.1 C.2.2.2.1 (w.2.2.2.1.2.2.2.2 28 (by decide)).1 dX11_nameHere_40 ?_
        refine g_calli (pc := 42) w (mm_runV (ci := 11) (q := (RX11, TX11, 65)) (As := [.ref (G.2.2.2.1 28)]) (rest := []) C w (c_X11_isWord l G this 28 h0 (by decide) s_5 _ hw) h0 rfl rfl cv_X11_isWord ml_X11_194 ⟨Nat.le_of_ble_eq_true rfl, Nat.le_of_ble_eq_true rfl⟩ ⟨Nat.le_of_ble_eq_true rfl, Nat.le_of_ble_eq_true rfl⟩ rfl hl.1 rfl (Nat.le_of_ble_eq_true rfl) dX11_nameHere_42) (fun r_8 s_7 H locs hw w => ?_)
        refine g_if_eq (pc := 45) (tgt := 52) C rfl dX11_nameHere_45 (by decide) (fun hc => ?_) (fun hc => ?_)
        · have hw := hw.1 hc
          refine lv_aload_n (pc := 52) C.1 C.2.1 dX11_nameHere_52 rfl (lv_at hl 0 rfl) ?_
          refine va_ldcS (pc := 53) C.1 C.2.1 C.2.2.2.1 (w.2.2.2.1.2.2.2.2 29 (by decide)).1 dX11_nameHere_53 ?_
          refine g_calli (pc := 55) w (mm_runV (ci := 11) (q := (RX11, TX11, 65)) (As := [.ref (G.2.2.2.1 29)]) (rest := []) C w (c_X11_isWord l G this 29 h0 (by decide) s_7 _ hw) h0 rfl rfl cv_X11_isWord ml_X11_194 ⟨Nat.le_of_ble_eq_true rfl, Nat.le_of_ble_eq_true rfl⟩ ⟨Nat.le_of_ble_eq_true rfl, Nat.le_of_ble_eq_true rfl⟩ rfl hl.1 rfl (Nat.le_of_ble_eq_true rfl) dX11_nameHere_55) (fun r_10 s_9 H locs hw w => ?_)
          refine g_if_eq (pc := 58) (tgt := 65) C rfl dX11_nameHere_58 (by decide) (fun hc => ?_) (fun hc => ?_)
          · have hw := hw.1 hc
            refine lv_aload_n (pc := 65) C.1 C.2.1 dX11_nameHere_65 rfl (lv_at hl 0 rfl) ?_
            refine va_ldcS (pc := 66) C.1 C.2.1 C.2.2.2.1 (w.2.2.2.1.2.2.2.2 30 (by decide)).1 dX11_nameHere_66 ?_
            refine g_calli (pc := 68) w (mm_runV (ci := 11) (q := (RX11, TX11, 65)) (As := [.ref (G.2.2.2.1 30)]) (rest := []) C w (c_X11_isWord l G this 30 h0 (by decide) s_9 _ hw) h0 rfl rfl cv_X11_isWord ml_X11_194 ⟨Nat.le_of_ble_eq_true rfl, Nat.le_of_ble_eq_true rfl⟩ ⟨Nat.le_of_ble_eq_true rfl, Nat.le_of_ble_eq_true rfl⟩ rfl hl.1 rfl (Nat.le_of_ble_eq_true rfl) dX11_nameHere_68) (fun r_12 s_11 H locs hw w => ?_)
            refine g_if_eq (pc := 71) (tgt := 78) C rfl dX11_nameHere_71 (by decide) (fun hc => ?_) (fun hc => ?_)
            · have hw := hw.1 hc
              refine lv_aload_n (pc := 78) C.1 C.2.1 dX11_nameHere_78 rfl (lv_at hl 0 rfl) ?_
              refine va_ldcS (pc := 79) C.1 C.2.1 C.2.2.2.1 (w.2.2.2.1.2.2.2.2 31 (by decide)).1 dX11_nameHere_79 ?_
              refine g_calli (pc := 81) w (mm_runV (ci := 11) (q := (RX11, TX11, 65)) (As := [.ref (G.2.2.2.1 31)]) (rest := []) C w (c_X11_isWord l G this 31 h0 (by decide) s_11 _ hw) h0 rfl rfl cv_X11_isWord ml_X11_194 ⟨Nat.le_of_ble_eq_true rfl, Nat.le_of_ble_eq_true rfl⟩ ⟨Nat.le_of_ble_eq_true rfl, Nat.le_of_ble_eq_true rfl⟩ rfl hl.1 rfl (Nat.le_of_ble_eq_true rfl) dX11_nameHere_81) (fun r_14 s_13 H locs hw w => ?_)
              refine g_if_eq (pc := 84) (tgt := 92) C rfl dX11_nameHere_84 (by decide) (fun hc => ?_) (fun hc => ?_)
              · have hw := hw.1 hc
                refine lv_aload_n (pc := 92) C.1 C.2.1 dX11_nameHere_92 rfl (lv_at hl 0 rfl) ?_
                refine va_ldcS (pc := 93) C.1 C.2.1 C.2.2.2.1 (w.2.2.2.1.2.2.2.2 32 (by decide)).1 dX11_nameHere_93 ?_
                refine g_calli (pc := 95) w (mm_runV (ci := 11) (q := (RX11, TX11, 65)) (As := [.ref (G.2.2.2.1 32)]) (rest := []) C w (c_X11_isWord l G this 32 h0 (by decide) s_13 _ hw) h0 rfl rfl cv_X11_isWord ml_X11_194 ⟨Nat.le_of_ble_eq_true rfl, Nat.le_of_ble_eq_true rfl⟩ ⟨Nat.le_of_ble_eq_true rfl, Nat.le_of_ble_eq_true rfl⟩ rfl hl.1 rfl (Nat.le_of_ble_eq_true rfl) dX11_nameHere_95) (fun r_16 s_15 H locs hw w => ?_)
                refine g_if_eq (pc := 98) (tgt := 106) C rfl dX11_nameHere_98 (by decide) (fun hc => ?_) (fun hc => ?_)
                · have hw := hw.1 hc
                  refine lv_aload_n (pc := 106) C.1 C.2.1 dX11_nameHere_106 rfl (lv_at hl 0 rfl) ?_
                  refine va_ldcS (pc := 107) C.1 C.2.1 C.2.2.2.1 (w.2.2.2.1.2.2.2.2 33 (by decide)).1 dX11_nameHere_107 ?_
                  refine g_calli (pc := 109) w (mm_runV (ci := 11) (q := (RX11, TX11, 65)) (As := [.ref (G.2.2.2.1 33)]) (rest := []) C w (c_X11_isWord l G this 33 h0 (by decide) s_15 _ hw) h0 rfl rfl cv_X11_isWord ml_X11_194 ⟨Nat.le_of_ble_eq_true rfl, Nat.le_of_ble_eq_true rfl⟩ ⟨Nat.le_of_ble_eq_true rfl, Nat.le_of_ble_eq_true rfl⟩ rfl hl.1 rfl (Nat.le_of_ble_eq_true rfl) dX11_nameHere_109) (fun r_18 s_17 H locs hw w => ?_)
                  refine g_if_eq (pc := 112) (tgt := 120) C rfl dX11_nameHere_112 (by decide) (fun hc => ?_) (fun hc => ?_)
                  · have hw := hw.1 hc
                    refine lv_aload_n (pc := 120) C.1 C.2.1 dX11_nameHere_120 rfl (lv_at hl 0 rfl) ?_
                    refine va_ldcS (pc := 121) C.1 C.2.1 C.2.2.2.1 (w.2.2.2.1.2.2.2.2 34 (by decide)).1 dX11_nameHere_121 ?_
                    refine g_calli (pc := 123) w (mm_runV (ci := 11) (q := (RX11, TX11, 65)) (As := [.ref (G.2.2.2.1 34)]) (rest := []) C w (c_X11_isWord l G this 34 h0 (by decide) s_17 _ hw) h0 rfl rfl cv_X11_isWord ml_X11_194 ⟨Nat.le_of_ble_eq_true rfl, Nat.le_of_ble_eq_true rfl⟩ ⟨Nat.le_of_ble_eq_true rfl, Nat.le_of_ble_eq_true rfl⟩ rfl hl.1 rfl (Nat.le_of_ble_eq_true rfl) dX11_nameHere_123) (fun r_20 s_19 H locs hw w => ?_)
                    refine g_if_eq (pc := 126) (tgt := 134) C rfl dX11_nameHere_126 (by decide) (fun hc => ?_) (fun hc => ?_)
                    · have hw := hw.1 hc
                      refine lv_iconst (pc := 134) (v := mm_I (-1)) C.1 C.2.1 dX11_nameHere_134 rfl ?_
                      exact g_iret (pc := 135) C w hr hk hw dX11_nameHere_135
                    · have hw := hw.2 hc
                      refine lv_bipush (pc := 129) C.1 C.2.1 dX11_nameHere_129 mb_9 ?_
                      refine lv_goto (pc := 131) (tgt := 135) C.1 C.2.1 dX11_nameHere_131 (by decide) ?_
                      exact g_iret (pc := 135) C w hr hk hw dX11_nameHere_135
                  · have hw := hw.2 hc
                    refine lv_bipush (pc := 115) C.1 C.2.1 dX11_nameHere_115 mb_8 ?_
                    refine lv_goto (pc := 117) (tgt := 135) C.1 C.2.1 dX11_nameHere_117 (by decide) ?_
                    exact g_iret (pc := 135) C w hr hk hw dX11_nameHere_135
                · have hw := hw.2 hc
                  refine lv_bipush (pc := 101) C.1 C.2.1 dX11_nameHere_101 mb_7 ?_
                  refine lv_goto (pc := 103) (tgt := 135) C.1 C.2.1 dX11_nameHere_103 (by decide) ?_
                  exact g_iret (pc := 135) C w hr hk hw dX11_nameHere_135
              · have hw := hw.2 hc
                refine lv_bipush (pc := 87) C.1 C.2.1 dX11_nameHere_87 mb_6 ?_
                refine lv_goto (pc := 89) (tgt := 135) C.1 C.2.1 dX11_nameHere_89 (by decide) ?_
                exact g_iret (pc := 135) C w hr hk hw dX11_nameHere_135
            · have hw := hw.2 hc
              refine lv_iconst (pc := 74) (v := mm_I 5) C.1 C.2.1 dX11_nameHere_74 rfl ?_
              refine lv_goto (pc := 75) (tgt := 135) C.1 C.2.1 dX11_nameHere_75 (by decide) ?_
              exact g_iret (pc := 135) C w hr hk hw dX11_nameHere_135
          · have hw := hw.2 hc
            refine lv_iconst (pc := 61) (v := mm_I 4) C.1 C.2.1 dX11_nameHere_61 rfl ?_
            refine lv_goto (pc := 62) (tgt := 135) C.1 C.2.1 dX11_nameHere_62 (by decide) ?_
            exact g_iret (pc := 135) C w hr hk hw dX11_nameHere_135
        · have hw := hw.2 hc
          refine lv_iconst (pc := 48) (v := mm_I 3) C.1 C.2.1 dX11_nameHere_48 rfl ?_
          refine lv_goto (pc := 49) (tgt := 135) C.1 C.2.1 dX11_nameHere_49 (by decide) ?_
          exact g_iret (pc := 135) C w hr hk hw dX11_nameHere_135
      · have hw := hw.2 hc
        refine lv_iconst (pc := 35) (v := mm_I 2) C.1 C.2.1 dX11_nameHere_35 rfl ?_
        refine lv_goto (pc := 36) (tgt := 135) C.1 C.2.1 dX11_nameHere_36 (by decide) ?_
        exact g_iret (pc := 135) C w hr hk hw dX11_nameHere_135
    · have hw := hw.2 hc
      refine lv_iconst (pc := 22) (v := mm_I 1) C.1 C.2.1 dX11_nameHere_22 rfl ?_
      refine lv_goto (pc := 23) (tgt := 135) C.1 C.2.1 dX11_nameHere_23 (by decide) ?_
      exact g_iret (pc := 135) C w hr hk hw dX11_nameHere_135
  · have hw := hw.2 hc
    refine lv_iconst (pc := 9) (v := mm_I 0) C.1 C.2.1 dX11_nameHere_9 rfl ?_
    refine lv_goto (pc := 10) (tgt := 135) C.1 C.2.1 dX11_nameHere_10 (by decide) ?_
    exact g_iret (pc := 135) C w hr hk hw dX11_nameHere_135
theorem cv_X11_nameHere : mm_V yX11_nameHere cX11_nameHere 1 (some .int) 0 := ⟨(mt_7 31 rfl rfl), (mt_7 30 rfl rfl), (mp_4 12 rfl rfl), (mt_1 12 rfl rfl), by decide, by decide, by decide +kernel⟩
theorem ml_X11_251 : Cond.methodLink RX11 251 yX11_nameHere ∈ mm_ws := (mt_7 28 rfl rfl)
def wp_X11_factor (this : Nat) (s0 : mm_M) (post : Int → mm_M → Prop) : Prop :=
  ((¬ n32 (s0 this 3) = 2 → (wp_X11_nameHere this s0 (fun r_2 s_1 => (∀ v1_3 : Int, v1_3 = r_2 → ((¬ n32 v1_3 = (-1) → (wp_X11_lays this 1 v1_3 s_1 (fun s_4 => (wp_X11_leads this s_4 (fun s_6 => post 1 s_6))))) ∧ (n32 v1_3 = (-1) → post 0 s_1)))))) ∧ (n32 (s0 this 3) = 2 → (wp_X11_number this 0 9999 s0 (fun r_9 s_8 => ((¬ n32 r_9 = 0 → (wp_X11_lays this 0 (s_8 this 44) s_8 (fun s_10 => post 1 s_10))) ∧ (n32 r_9 = 0 → post 0 s_8))))))
set_option maxRecDepth 100000 in
set_option maxHeartbeats 4000000 in
theorem c_X11_factor (l : Launch) (G : mm_G) (this : Nat) (h0 : mm_ok this 21 0) (s0 : mm_M) (post : Int → mm_M → Prop) (hw : wp_X11_factor this s0 post) : Met l yX11_factor (mm_wm yX11_factor cX11_factor 2 (some .boolean)) (mm_rm 8) (va_Pc [.ref (mm_ad G this)] (mm_pre G s0)) (mm_Qi G post) 0 0 (mm_A G) := by
  refine mm_met (own := RX11) (by decide) rfl (Nat.le_of_ble_eq_true rfl) ?_
  intro p e s m args below meth c C hr hk
  unfold wp_X11_factor at hw
  intro H locs ls w hl
  have hl : lv_has ls 2 [(0, .ref (mm_ad G this))] := hl
  refine lv_aload_n (pc := 0) C.1 C.2.1 dX11_factor_0 rfl (lv_at hl 0 rfl) ?_
  refine g_geti (pc := 1) C w h0 ff_X11_3 lk_X11_136 dX11_factor_1 ?_
  refine lv_iconst (pc := 4) (v := mm_I 2) C.1 C.2.1 dX11_factor_4 rfl ?_
  refine g_icmp_ne (pc := 5) (tgt := 32) C rfl mn_2 dX11_factor_5 (by decide) (fun hc => ?_) (fun hc => ?_)
  · have hw := hw.1 hc
    refine lv_aload_n (pc := 32) C.1 C.2.1 dX11_factor_32 rfl (lv_at hl 0 rfl) ?_
    refine g_calli (pc := 33) w (mm_runV (ci := 11) (q := (RX11, TX11, 65)) (As := []) (rest := []) C w (c_X11_nameHere l G this h0 s0 _ hw) h0 rfl rfl cv_X11_nameHere ml_X11_251 ⟨Nat.le_of_ble_eq_true rfl, Nat.le_of_ble_eq_true rfl⟩ ⟨Nat.le_of_ble_eq_true rfl, Nat.le_of_ble_eq_true rfl⟩ rfl hl.1 rfl (Nat.le_of_ble_eq_true rfl) dX11_factor_33) (fun r_2 s_1 H locs hw w => ?_)
    refine g_istore_n (pc := 36) C dX11_factor_36 rfl hl (by decide) (fun v1_3 ev1_3 ls hl => ?_)
    have hw := hw v1_3 ev1_3
    have hl : lv_has ls 2 [(1, .int (mm_I v1_3)), (0, .ref (mm_ad G this))] := hl
    refine lv_iload_n (pc := 37) C.1 C.2.1 dX11_factor_37 rfl (lv_at hl 0 rfl) ?_
    refine lv_iconst (pc := 38) (v := mm_I (-1)) C.1 C.2.1 dX11_factor_38 rfl ?_
    refine g_icmp_ne (pc := 39) (tgt := 44) C rfl mn_m1 dX11_factor_39 (by decide) (fun hc => ?_) (fun hc => ?_)
    · have hw := hw.1 hc
      refine lv_aload_n (pc := 44) C.1 C.2.1 dX11_factor_44 rfl (lv_at hl 1 rfl) ?_
      refine lv_iconst (pc := 45) (v := mm_I 1) C.1 C.2.1 dX11_factor_45 rfl ?_
      refine lv_iload_n (pc := 46) C.1 C.2.1 dX11_factor_46 rfl (lv_at hl 0 rfl) ?_
      refine g_callv (pc := 47) w (mm_runV (ci := 11) (q := (RX11, TX11, 65)) (As := [.int (mm_I 1), .int (mm_I v1_3)]) (rest := []) C w (c_X11_lays l G this 1 v1_3 h0 s_1 _ hw) h0 rfl rfl cv_X11_lays ml_X11_231 ⟨Nat.le_of_ble_eq_true rfl, Nat.le_of_ble_eq_true rfl⟩ ⟨Nat.le_of_ble_eq_true rfl, Nat.le_of_ble_eq_true rfl⟩ rfl hl.1 rfl (Nat.le_of_ble_eq_true rfl) dX11_factor_47) (fun s_4 H locs hw w => ?_)
      refine lv_aload_n (pc := 50) C.1 C.2.1 dX11_factor_50 rfl (lv_at hl 1 rfl) ?_
      refine g_callv (pc := 51) w (mm_runV (ci := 11) (q := (RX11, TX11, 65)) (As := []) (rest := []) C w (c_X11_leads l G this h0 s_4 _ hw) h0 rfl rfl cv_X11_leads ml_X11_172 ⟨Nat.le_of_ble_eq_true rfl, Nat.le_of_ble_eq_true rfl⟩ ⟨Nat.le_of_ble_eq_true rfl, Nat.le_of_ble_eq_true rfl⟩ rfl hl.1 rfl (Nat.le_of_ble_eq_true rfl) dX11_factor_51) (fun s_6 H locs hw w => ?_)
      refine lv_iconst (pc := 54) (v := mm_I 1) C.1 C.2.1 dX11_factor_54 rfl ?_
      exact g_zret (pc := 55) C w hr hk (by decide) hw dX11_factor_55
    · have hw := hw.2 hc
      refine lv_iconst (pc := 42) (v := mm_I 0) C.1 C.2.1 dX11_factor_42 rfl ?_
      exact g_zret (pc := 43) C w hr hk (by decide) hw dX11_factor_43
  · have hw := hw.2 hc
    refine lv_aload_n (pc := 8) C.1 C.2.1 dX11_factor_8 rfl (lv_at hl 0 rfl) ?_
    refine lv_iconst (pc := 9) (v := mm_I 0) C.1 C.2.1 dX11_factor_9 rfl ?_
    refine lv_sipush (pc := 10) C.1 C.2.1 dX11_factor_10 ms_9999 ?_
    refine g_calli (pc := 13) w (mm_runV (ci := 11) (q := (RX11, TX11, 65)) (As := [.int (mm_I 0), .int (mm_I 9999)]) (rest := []) C w (c_X11_number l G this 0 9999 h0 s0 _ hw) h0 rfl rfl cv_X11_number ml_X11_181 ⟨Nat.le_of_ble_eq_true rfl, Nat.le_of_ble_eq_true rfl⟩ ⟨Nat.le_of_ble_eq_true rfl, Nat.le_of_ble_eq_true rfl⟩ rfl hl.1 rfl (Nat.le_of_ble_eq_true rfl) dX11_factor_13) (fun r_9 s_8 H locs hw w => ?_)
    refine g_if_ne (pc := 16) (tgt := 21) C rfl dX11_factor_16 (by decide) (fun hc => ?_) (fun hc => ?_)
    · have hw := hw.1 hc
      refine lv_aload_n (pc := 21) C.1 C.2.1 dX11_factor_21 rfl (lv_at hl 0 rfl) ?_
      refine lv_iconst (pc := 22) (v := mm_I 0) C.1 C.2.1 dX11_factor_22 rfl ?_
      refine lv_aload_n (pc := 23) C.1 C.2.1 dX11_factor_23 rfl (lv_at hl 0 rfl) ?_
      refine g_geti (pc := 24) C w h0 ff_X11_44 lk_X11_169 dX11_factor_24 ?_
      refine g_callv (pc := 27) w (mm_runV (ci := 11) (q := (RX11, TX11, 65)) (As := [.int (mm_I 0), .int (mm_I (s_8 this 44))]) (rest := []) C w (c_X11_lays l G this 0 (s_8 this 44) h0 s_8 _ hw) h0 rfl rfl cv_X11_lays ml_X11_231 ⟨Nat.le_of_ble_eq_true rfl, Nat.le_of_ble_eq_true rfl⟩ ⟨Nat.le_of_ble_eq_true rfl, Nat.le_of_ble_eq_true rfl⟩ rfl hl.1 rfl (Nat.le_of_ble_eq_true rfl) dX11_factor_27) (fun s_10 H locs hw w => ?_)
      refine lv_iconst (pc := 30) (v := mm_I 1) C.1 C.2.1 dX11_factor_30 rfl ?_
      exact g_zret (pc := 31) C w hr hk (by decide) hw dX11_factor_31
    · have hw := hw.2 hc
      refine lv_iconst (pc := 19) (v := mm_I 0) C.1 C.2.1 dX11_factor_19 rfl ?_
      exact g_zret (pc := 20) C w hr hk (by decide) hw dX11_factor_20
theorem cv_X11_empties : mm_V yX11_empties cX11_empties 2 none 1 := ⟨(mt_7 44 rfl rfl), (mt_7 43 rfl rfl), (mp_4 13 rfl rfl), (mt_1 12 rfl rfl), by decide, by decide, by decide +kernel⟩
theorem ml_X11_261 : Cond.methodLink RX11 261 yX11_empties ∈ mm_ws := (mt_7 41 rfl rfl)
theorem cv_X11_factor : mm_V yX11_factor cX11_factor 2 (some .boolean) 0 := ⟨(mt_7 23 rfl rfl), (mt_7 22 rfl rfl), (mp_4 10 rfl rfl), (mt_1 12 rfl rfl), by decide, by decide, by decide +kernel⟩
theorem ml_X11_258 : Cond.methodLink RX11 258 yX11_factor ∈ mm_ws := (mt_7 20 rfl rfl)
theorem lk_X11_91 : Cond.fieldLink RX11 91 "LastServedModel" "compares" "[Z" ∈ mm_ws := (mt_6 11 rfl rfl)
theorem ff_X11_47 : mm_F 11 47 1 RX11 TX11 65 := ⟨rfl, by decide, fk_X11, rfl, rfl⟩
theorem ro_X11_47 {i : Nat} (h : mm_ok i 21 0) : mm_ok (mm_rt i 47) 2 9 := by
  have q : ∀ i, i < mm_N → mm_kd i = 21 → mm_rt i 47 < mm_N ∧ mm_kd (mm_rt i 47) = 2 ∧ mm_ln (mm_rt i 47) = 9 := by decide +kernel
  exact q i h.1 h.2.1
theorem cv_X11_waitsFor : mm_V yX11_waitsFor cX11_waitsFor 2 none 1 := ⟨(mt_7 19 rfl rfl), (mt_7 18 rfl rfl), (mp_4 9 rfl rfl), (mt_1 12 rfl rfl), by decide, by decide, by decide +kernel⟩
theorem ml_X11_254 : Cond.methodLink RX11 254 yX11_waitsFor ∈ mm_ws := (mt_7 16 rfl rfl)
def wp_X11_sumHere (this : Nat) (s0 : mm_M) (post : Int → mm_M → Prop) : Prop :=
  ∀ (L9 : Int → Int → mm_M → Prop), ∀ (L13 : Int → mm_M → Prop), ∀ (L57 : Int → mm_M → Prop), ∀ (L95 : Int → mm_M → Prop), ∀ (L162 : Int → Int → mm_M → Prop), ∀ (L179 : Int → Int → Int → mm_M → Prop), ∀ (L201 : Int → Int → Int → mm_M → Prop), ∀ (L211 : Int → Int → Int → Int → mm_M → Prop), ∀ (L231 : Int → Int → Int → Int → mm_M → Prop), ∀ (L245 : Int → Int → Int → Int → mm_M → Prop), 
  (∀ (v1 : Int) (v2 : Int) (s1 : mm_M), ((n32 v2 = 0 → ((n32 v1 ≤ 0 → (wp_X11_empties this 0 s1 (fun s_4 => post 1 s_4))) ∧ (¬ n32 v1 ≤ 0 → post 0 s1))) ∧ (¬ n32 v2 = 0 → L13 v1 s1)) → L9 v1 v2 s1) →
  (∀ (v1 : Int) (s1 : mm_M), (wp_X11_isSign this 40 s1 (fun r_7 s_6 => ((n32 r_7 = 0 → (wp_X11_factor this s_6 (fun r_9 s_8 => ((¬ n32 r_9 = 0 → L57 v1 s_8) ∧ (n32 r_9 = 0 → post 0 s_8))))) ∧ (¬ n32 r_7 = 0 → ((¬ n32 v1 = 8 → (∀ v1_10 : Int, v1_10 = v1 + 1 → ((0 ≤ v1_10 ∧ v1_10 < 9) ∧ (∀ s_11 : mm_M, s_11 = mm_up s_6 (mm_rt this 47) v1_10 0 → (wp_X11_waitsFor this (-1) s_11 (fun s_12 => L13 v1_10 s_12)))))) ∧ (n32 v1 = 8 → post 0 s_6)))))) → L13 v1 s1) →
  (∀ (v1 : Int) (s1 : mm_M), (wp_X11_isSign this 41 s1 (fun r_15 s_14 => ((n32 r_15 = 0 → L95 v1 s_14) ∧ (¬ n32 r_15 = 0 → ((n32 v1 ≤ 0 → L95 v1 s_14) ∧ (¬ n32 v1 ≤ 0 → (wp_X11_empties this 0 s_14 (fun s_16 => (∀ s_18 : mm_M, s_18 = mm_up s_16 this 46 ((s_16 this 46) - 1) → (∀ v1_19 : Int, v1_19 = v1 + (-1) → (wp_X11_leads this s_18 (fun s_20 => L57 v1_19 s_20)))))))))))) → L57 v1 s1) →
  (∀ (v1 : Int) (s1 : mm_M), (wp_X11_isSign this 43 s1 (fun r_23 s_22 => ((n32 r_23 = 0 → (wp_X11_isSign this 45 s_22 (fun r_25 s_24 => ((n32 r_25 = 0 → (wp_X11_isSign this 42 s_24 (fun r_27 s_26 => ((n32 r_27 = 0 → (wp_X11_isSign this 60 s_26 (fun r_29 s_28 => ((n32 r_29 = 0 → (wp_X11_isSign this 61 s_28 (fun r_31 s_30 => ((n32 r_31 = 0 → L162 v1 (-1) s_30) ∧ (¬ n32 r_31 = 0 → L162 v1 6 s_30))))) ∧ (¬ n32 r_29 = 0 → L162 v1 5 s_28))))) ∧ (¬ n32 r_27 = 0 → L162 v1 4 s_26))))) ∧ (¬ n32 r_25 = 0 → L162 v1 3 s_24))))) ∧ (¬ n32 r_23 = 0 → L162 v1 2 s_22)))) → L95 v1 s1) →
  (∀ (v1 : Int) (q0 : Int) (s1 : mm_M), (∀ v3_32 : Int, v3_32 = q0 → ((n32 v3_32 = 5 → L179 v1 v3_32 1 s1) ∧ (¬ n32 v3_32 = 5 → ((¬ n32 v3_32 = 6 → L179 v1 v3_32 0 s1) ∧ (n32 v3_32 = 6 → L179 v1 v3_32 1 s1))))) → L162 v1 q0 s1) →
  (∀ (v1 : Int) (v3 : Int) (q0 : Int) (s1 : mm_M), (∀ v4_33 : Int, v4_33 = q0 → ((n32 v4_33 = 0 → L201 v1 v3 v4_33 s1) ∧ (¬ n32 v4_33 = 0 → ((n32 v1 = 0 → post 0 s1) ∧ (¬ n32 v1 = 0 → ((0 ≤ v1 ∧ v1 < 9) ∧ ((n32 (s1 (mm_rt this 47) v1) = 0 → L201 v1 v3 v4_33 s1) ∧ (¬ n32 (s1 (mm_rt this 47) v1) = 0 → post 0 s1)))))))) → L179 v1 v3 q0 s1) →
  (∀ (v1 : Int) (v3 : Int) (v4 : Int) (s1 : mm_M), ((n32 v3 = (-1) → L211 v1 v3 v4 0 s1) ∧ (¬ n32 v3 = (-1) → L211 v1 v3 v4 1 s1)) → L201 v1 v3 v4 s1) →
  (∀ (v1 : Int) (v3 : Int) (v4 : Int) (q0 : Int) (s1 : mm_M), (∀ v2_34 : Int, v2_34 = q0 → ((¬ n32 v2_34 = 0 → ((n32 v4 = 0 → L231 v1 v2_34 v3 v4 s1) ∧ (¬ n32 v4 = 0 → ((0 ≤ v1 ∧ v1 < 9) ∧ (∀ s_35 : mm_M, s_35 = mm_up s1 (mm_rt this 47) v1 1 → L231 v1 v2_34 v3 v4 s_35))))) ∧ (n32 v2_34 = 0 → L9 v1 v2_34 s1))) → L211 v1 v3 v4 q0 s1) →
  (∀ (v1 : Int) (v2 : Int) (v3 : Int) (v4 : Int) (s1 : mm_M), ((n32 v4 = 0 → (wp_X11_rank v3 s1 (fun r_37 s_36 => L245 v1 v2 v3 r_37 s_36))) ∧ (¬ n32 v4 = 0 → L245 v1 v2 v3 1 s1)) → L231 v1 v2 v3 v4 s1) →
  (∀ (v1 : Int) (v2 : Int) (v3 : Int) (q0 : Int) (s1 : mm_M), (wp_X11_empties this q0 s1 (fun s_38 => (wp_X11_waitsFor this v3 s_38 (fun s_40 => L9 v1 v2 s_40)))) → L245 v1 v2 v3 q0 s1) →
  (∀ s_1 : mm_M, s_1 = mm_up s0 this 46 0 → L9 0 1 s_1)
set_option maxRecDepth 100000 in
set_option maxHeartbeats 4000000 in
theorem c_X11_sumHere (l : Launch) (G : mm_G) (this : Nat) (h0 : mm_ok this 21 0) (s0 : mm_M) (post : Int → mm_M → Prop) (hw : wp_X11_sumHere this s0 post) : Met l yX11_sumHere (mm_wm yX11_sumHere cX11_sumHere 5 (some .boolean)) (mm_rm 9) (va_Pc [.ref (mm_ad G this)] (mm_pre G s0)) (mm_Qi G post) 0 0 (mm_A G) := by
  refine mm_met (own := RX11) (by decide) rfl (Nat.le_of_ble_eq_true rfl) ?_
  intro p e s m args below meth c C hr hk
  unfold wp_X11_sumHere at hw
  have hw := hw (fun (v1 : Int) (v2 : Int) (u : mm_M) => mm_X p l e (mm_rm 9) s m args below meth c (MQ below (mm_Qi G post) args s 0 0 (mm_A G)) G (mm_A G) 5 9 [(0, .ref (mm_ad G this)), (1, .int (mm_I v1)), (2, .int (mm_I v2))] [] u)
  have hw := hw (fun (v1 : Int) (u : mm_M) => mm_X p l e (mm_rm 9) s m args below meth c (MQ below (mm_Qi G post) args s 0 0 (mm_A G)) G (mm_A G) 5 13 [(0, .ref (mm_ad G this)), (1, .int (mm_I v1))] [] u)
  have hw := hw (fun (v1 : Int) (u : mm_M) => mm_X p l e (mm_rm 9) s m args below meth c (MQ below (mm_Qi G post) args s 0 0 (mm_A G)) G (mm_A G) 5 57 [(0, .ref (mm_ad G this)), (1, .int (mm_I v1))] [] u)
  have hw := hw (fun (v1 : Int) (u : mm_M) => mm_X p l e (mm_rm 9) s m args below meth c (MQ below (mm_Qi G post) args s 0 0 (mm_A G)) G (mm_A G) 5 95 [(0, .ref (mm_ad G this)), (1, .int (mm_I v1))] [] u)
  have hw := hw (fun (v1 : Int) (q0 : Int) (u : mm_M) => mm_X p l e (mm_rm 9) s m args below meth c (MQ below (mm_Qi G post) args s 0 0 (mm_A G)) G (mm_A G) 5 162 [(0, .ref (mm_ad G this)), (1, .int (mm_I v1))] [.int (mm_I q0)] u)
  have hw := hw (fun (v1 : Int) (v3 : Int) (q0 : Int) (u : mm_M) => mm_X p l e (mm_rm 9) s m args below meth c (MQ below (mm_Qi G post) args s 0 0 (mm_A G)) G (mm_A G) 5 179 [(0, .ref (mm_ad G this)), (1, .int (mm_I v1)), (3, .int (mm_I v3))] [.int (mm_I q0)] u)
  have hw := hw (fun (v1 : Int) (v3 : Int) (v4 : Int) (u : mm_M) => mm_X p l e (mm_rm 9) s m args below meth c (MQ below (mm_Qi G post) args s 0 0 (mm_A G)) G (mm_A G) 5 201 [(0, .ref (mm_ad G this)), (1, .int (mm_I v1)), (3, .int (mm_I v3)), (4, .int (mm_I v4))] [] u)
  have hw := hw (fun (v1 : Int) (v3 : Int) (v4 : Int) (q0 : Int) (u : mm_M) => mm_X p l e (mm_rm 9) s m args below meth c (MQ below (mm_Qi G post) args s 0 0 (mm_A G)) G (mm_A G) 5 211 [(0, .ref (mm_ad G this)), (1, .int (mm_I v1)), (3, .int (mm_I v3)), (4, .int (mm_I v4))] [.int (mm_I q0)] u)
  have hw := hw (fun (v1 : Int) (v2 : Int) (v3 : Int) (v4 : Int) (u : mm_M) => mm_X p l e (mm_rm 9) s m args below meth c (MQ below (mm_Qi G post) args s 0 0 (mm_A G)) G (mm_A G) 5 231 [(0, .ref (mm_ad G this)), (1, .int (mm_I v1)), (2, .int (mm_I v2)), (3, .int (mm_I v3)), (4, .int (mm_I v4))] [] u)
  have hw := hw (fun (v1 : Int) (v2 : Int) (v3 : Int) (q0 : Int) (u : mm_M) => mm_X p l e (mm_rm 9) s m args below meth c (MQ below (mm_Qi G post) args s 0 0 (mm_A G)) G (mm_A G) 5 245 [(0, .ref (mm_ad G this)), (1, .int (mm_I v1)), (2, .int (mm_I v2)), (3, .int (mm_I v3))] [.int (mm_I q0), .ref (mm_ad G this)] u)
  have hw := hw (by
    intro v1 v2 s1 hw  H locs ls w hl
    refine lv_iload_n (pc := 9) C.1 C.2.1 dX11_sumHere_9 rfl (lv_at hl 2 rfl) ?_
    refine g_if_eq (pc := 10) (tgt := 256) C rfl dX11_sumHere_10 (by decide) (fun hc => ?_) (fun hc => ?_)
    · have hw := hw.1 hc
      refine lv_iload_n (pc := 256) C.1 C.2.1 dX11_sumHere_256 rfl (lv_at hl 1 rfl) ?_
      refine g_if_le (pc := 257) (tgt := 262) C rfl dX11_sumHere_257 (by decide) (fun hc => ?_) (fun hc => ?_)
      · have hw := hw.1 hc
        refine lv_aload_n (pc := 262) C.1 C.2.1 dX11_sumHere_262 rfl (lv_at hl 0 rfl) ?_
        refine lv_iconst (pc := 263) (v := mm_I 0) C.1 C.2.1 dX11_sumHere_263 rfl ?_
        refine g_callv (pc := 264) w (mm_runV (ci := 11) (q := (RX11, TX11, 65)) (As := [.int (mm_I 0)]) (rest := []) C w (c_X11_empties l G this 0 h0 s1 _ hw) h0 rfl rfl cv_X11_empties ml_X11_261 ⟨Nat.le_of_ble_eq_true rfl, Nat.le_of_ble_eq_true rfl⟩ ⟨Nat.le_of_ble_eq_true rfl, Nat.le_of_ble_eq_true rfl⟩ rfl hl.1 rfl (Nat.le_of_ble_eq_true rfl) dX11_sumHere_264) (fun s_4 H locs hw w => ?_)
        refine lv_iconst (pc := 267) (v := mm_I 1) C.1 C.2.1 dX11_sumHere_267 rfl ?_
        exact g_zret (pc := 268) C w hr hk (by decide) hw dX11_sumHere_268
      · have hw := hw.2 hc
        refine lv_iconst (pc := 260) (v := mm_I 0) C.1 C.2.1 dX11_sumHere_260 rfl ?_
        exact g_zret (pc := 261) C w hr hk (by decide) hw dX11_sumHere_261
    · have hw := hw.2 hc
      exact hw  _ _ _ w (lv_sub hl [0, 1] rfl))
  have hw := hw (by
    intro v1 s1 hw  H locs ls w hl
    refine lv_aload_n (pc := 13) C.1 C.2.1 dX11_sumHere_13 rfl (lv_at hl 0 rfl) ?_
    refine lv_bipush (pc := 14) C.1 C.2.1 dX11_sumHere_14 mb_40 ?_
    refine g_calli (pc := 16) w (mm_runV (ci := 11) (q := (RX11, TX11, 65)) (As := [.int (mm_I 40)]) (rest := []) C w (c_X11_isSign l G this 40 h0 s1 _ hw) h0 rfl rfl cv_X11_isSign ml_X11_175 ⟨Nat.le_of_ble_eq_true rfl, Nat.le_of_ble_eq_true rfl⟩ ⟨Nat.le_of_ble_eq_true rfl, Nat.le_of_ble_eq_true rfl⟩ rfl hl.1 rfl (Nat.le_of_ble_eq_true rfl) dX11_sumHere_16) (fun r_7 s_6 H locs hw w => ?_)
    refine g_if_eq (pc := 19) (tgt := 48) C rfl dX11_sumHere_19 (by decide) (fun hc => ?_) (fun hc => ?_)
    · have hw := hw.1 hc
      refine lv_aload_n (pc := 48) C.1 C.2.1 dX11_sumHere_48 rfl (lv_at hl 0 rfl) ?_
      refine g_calli (pc := 49) w (mm_runV (ci := 11) (q := (RX11, TX11, 65)) (As := []) (rest := []) C w (c_X11_factor l G this h0 s_6 _ hw) h0 rfl rfl cv_X11_factor ml_X11_258 ⟨Nat.le_of_ble_eq_true rfl, Nat.le_of_ble_eq_true rfl⟩ ⟨Nat.le_of_ble_eq_true rfl, Nat.le_of_ble_eq_true rfl⟩ rfl hl.1 rfl (Nat.le_of_ble_eq_true rfl) dX11_sumHere_49) (fun r_9 s_8 H locs hw w => ?_)
      refine g_if_ne (pc := 52) (tgt := 57) C rfl dX11_sumHere_52 (by decide) (fun hc => ?_) (fun hc => ?_)
      · have hw := hw.1 hc
        exact hw  _ _ _ w (lv_sub hl [0, 1] rfl)
      · have hw := hw.2 hc
        refine lv_iconst (pc := 55) (v := mm_I 0) C.1 C.2.1 dX11_sumHere_55 rfl ?_
        exact g_zret (pc := 56) C w hr hk (by decide) hw dX11_sumHere_56
    · have hw := hw.2 hc
      refine lv_iload_n (pc := 22) C.1 C.2.1 dX11_sumHere_22 rfl (lv_at hl 1 rfl) ?_
      refine lv_bipush (pc := 23) C.1 C.2.1 dX11_sumHere_23 mb_8 ?_
      refine g_icmp_ne (pc := 25) (tgt := 30) C rfl mn_8 dX11_sumHere_25 (by decide) (fun hc => ?_) (fun hc => ?_)
      · have hw := hw.1 hc
        refine g_iinc (pc := 30) (k := 1) C dX11_sumHere_30 hl rfl (by decide) (fun v1_10 ev1_10 ls hl => ?_)
        have hw := hw v1_10 ev1_10
        have hl : lv_has ls 5 [(1, .int (mm_I v1_10)), (0, .ref (mm_ad G this))] := hl
        refine lv_aload_n (pc := 33) C.1 C.2.1 dX11_sumHere_33 rfl (lv_at hl 1 rfl) ?_
        refine g_getr (pc := 34) C w h0 ff_X11_47 lk_X11_91 dX11_sumHere_34 ?_
        refine lv_iload_n (pc := 37) C.1 C.2.1 dX11_sumHere_37 rfl (lv_at hl 0 rfl) ?_
        refine lv_iconst (pc := 38) (v := mm_I 0) C.1 C.2.1 dX11_sumHere_38 rfl ?_
        obtain ⟨hi, hw⟩ := hw
        refine g_zast (pc := 39) C w (ro_X11_47 h0) hi (by decide) dX11_sumHere_39 (fun s_11 H locs es_11 w => ?_)
        have hw := hw s_11 es_11
        refine lv_aload_n (pc := 40) C.1 C.2.1 dX11_sumHere_40 rfl (lv_at hl 1 rfl) ?_
        refine lv_iconst (pc := 41) (v := mm_I (-1)) C.1 C.2.1 dX11_sumHere_41 rfl ?_
        refine g_callv (pc := 42) w (mm_runV (ci := 11) (q := (RX11, TX11, 65)) (As := [.int (mm_I (-1))]) (rest := []) C w (c_X11_waitsFor l G this (-1) h0 s_11 _ hw) h0 rfl rfl cv_X11_waitsFor ml_X11_254 ⟨Nat.le_of_ble_eq_true rfl, Nat.le_of_ble_eq_true rfl⟩ ⟨Nat.le_of_ble_eq_true rfl, Nat.le_of_ble_eq_true rfl⟩ rfl hl.1 rfl (Nat.le_of_ble_eq_true rfl) dX11_sumHere_42) (fun s_12 H locs hw w => ?_)
        refine lv_goto (pc := 45) (tgt := 13) C.1 C.2.1 dX11_sumHere_45 (by decide) ?_
        exact hw  _ _ _ w (lv_sub hl [1, 0] rfl)
      · have hw := hw.2 hc
        refine lv_iconst (pc := 28) (v := mm_I 0) C.1 C.2.1 dX11_sumHere_28 rfl ?_
        exact g_zret (pc := 29) C w hr hk (by decide) hw dX11_sumHere_29)
  have hw := hw (by
    intro v1 s1 hw  H locs ls w hl
    refine lv_aload_n (pc := 57) C.1 C.2.1 dX11_sumHere_57 rfl (lv_at hl 0 rfl) ?_
    refine lv_bipush (pc := 58) C.1 C.2.1 dX11_sumHere_58 mb_41 ?_
    refine g_calli (pc := 60) w (mm_runV (ci := 11) (q := (RX11, TX11, 65)) (As := [.int (mm_I 41)]) (rest := []) C w (c_X11_isSign l G this 41 h0 s1 _ hw) h0 rfl rfl cv_X11_isSign ml_X11_175 ⟨Nat.le_of_ble_eq_true rfl, Nat.le_of_ble_eq_true rfl⟩ ⟨Nat.le_of_ble_eq_true rfl, Nat.le_of_ble_eq_true rfl⟩ rfl hl.1 rfl (Nat.le_of_ble_eq_true rfl) dX11_sumHere_60) (fun r_15 s_14 H locs hw w => ?_)
    refine g_if_eq (pc := 63) (tgt := 95) C rfl dX11_sumHere_63 (by decide) (fun hc => ?_) (fun hc => ?_)
    · have hw := hw.1 hc
      exact hw  _ _ _ w (lv_sub hl [0, 1] rfl)
    · have hw := hw.2 hc
      refine lv_iload_n (pc := 66) C.1 C.2.1 dX11_sumHere_66 rfl (lv_at hl 1 rfl) ?_
      refine g_if_le (pc := 67) (tgt := 95) C rfl dX11_sumHere_67 (by decide) (fun hc => ?_) (fun hc => ?_)
      · have hw := hw.1 hc
        exact hw  _ _ _ w (lv_sub hl [0, 1] rfl)
      · have hw := hw.2 hc
        refine lv_aload_n (pc := 70) C.1 C.2.1 dX11_sumHere_70 rfl (lv_at hl 0 rfl) ?_
        refine lv_iconst (pc := 71) (v := mm_I 0) C.1 C.2.1 dX11_sumHere_71 rfl ?_
        refine g_callv (pc := 72) w (mm_runV (ci := 11) (q := (RX11, TX11, 65)) (As := [.int (mm_I 0)]) (rest := []) C w (c_X11_empties l G this 0 h0 s_14 _ hw) h0 rfl rfl cv_X11_empties ml_X11_261 ⟨Nat.le_of_ble_eq_true rfl, Nat.le_of_ble_eq_true rfl⟩ ⟨Nat.le_of_ble_eq_true rfl, Nat.le_of_ble_eq_true rfl⟩ rfl hl.1 rfl (Nat.le_of_ble_eq_true rfl) dX11_sumHere_72) (fun s_16 H locs hw w => ?_)
        refine lv_aload_n (pc := 75) C.1 C.2.1 dX11_sumHere_75 rfl (lv_at hl 0 rfl) ?_
        refine lv_dup (pc := 76) C.1 C.2.1 dX11_sumHere_76 rfl ?_
        refine g_geti (pc := 77) C w h0 ff_X11_46 lk_X11_225 dX11_sumHere_77 ?_
        refine lv_iconst (pc := 80) (v := mm_I 1) C.1 C.2.1 dX11_sumHere_80 rfl ?_
        refine g_isub (pc := 81) C dX11_sumHere_81 ?_
        refine g_puti (pc := 82) C w h0 ff_X11_46 fw_X11_46 lk_X11_225 dX11_sumHere_82 (fun s_18 H locs es_18 w => ?_)
        have hw := hw s_18 es_18
        refine g_iinc (pc := 85) (k := 1) C dX11_sumHere_85 hl rfl (by decide) (fun v1_19 ev1_19 ls hl => ?_)
        have hw := hw v1_19 ev1_19
        have hl : lv_has ls 5 [(1, .int (mm_I v1_19)), (0, .ref (mm_ad G this))] := hl
        refine lv_aload_n (pc := 88) C.1 C.2.1 dX11_sumHere_88 rfl (lv_at hl 1 rfl) ?_
        refine g_callv (pc := 89) w (mm_runV (ci := 11) (q := (RX11, TX11, 65)) (As := []) (rest := []) C w (c_X11_leads l G this h0 s_18 _ hw) h0 rfl rfl cv_X11_leads ml_X11_172 ⟨Nat.le_of_ble_eq_true rfl, Nat.le_of_ble_eq_true rfl⟩ ⟨Nat.le_of_ble_eq_true rfl, Nat.le_of_ble_eq_true rfl⟩ rfl hl.1 rfl (Nat.le_of_ble_eq_true rfl) dX11_sumHere_89) (fun s_20 H locs hw w => ?_)
        refine lv_goto (pc := 92) (tgt := 57) C.1 C.2.1 dX11_sumHere_92 (by decide) ?_
        exact hw  _ _ _ w (lv_sub hl [1, 0] rfl))
  have hw := hw (by
    intro v1 s1 hw  H locs ls w hl
    refine lv_aload_n (pc := 95) C.1 C.2.1 dX11_sumHere_95 rfl (lv_at hl 0 rfl) ?_
    refine lv_bipush (pc := 96) C.1 C.2.1 dX11_sumHere_96 mb_43 ?_
    refine g_calli (pc := 98) w (mm_runV (ci := 11) (q := (RX11, TX11, 65)) (As := [.int (mm_I 43)]) (rest := []) C w (c_X11_isSign l G this 43 h0 s1 _ hw) h0 rfl rfl cv_X11_isSign ml_X11_175 ⟨Nat.le_of_ble_eq_true rfl, Nat.le_of_ble_eq_true rfl⟩ ⟨Nat.le_of_ble_eq_true rfl, Nat.le_of_ble_eq_true rfl⟩ rfl hl.1 rfl (Nat.le_of_ble_eq_true rfl) dX11_sumHere_98) (fun r_23 s_22 H locs hw w => ?_)
    refine g_if_eq (pc := 101) (tgt := 108) C rfl dX11_sumHere_101 (by decide) (fun hc => ?_) (fun hc => ?_)
    · have hw := hw.1 hc
      refine lv_aload_n (pc := 108) C.1 C.2.1 dX11_sumHere_108 rfl (lv_at hl 0 rfl) ?_
      refine lv_bipush (pc := 109) C.1 C.2.1 dX11_sumHere_109 mb_45 ?_
      refine g_calli (pc := 111) w (mm_runV (ci := 11) (q := (RX11, TX11, 65)) (As := [.int (mm_I 45)]) (rest := []) C w (c_X11_isSign l G this 45 h0 s_22 _ hw) h0 rfl rfl cv_X11_isSign ml_X11_175 ⟨Nat.le_of_ble_eq_true rfl, Nat.le_of_ble_eq_true rfl⟩ ⟨Nat.le_of_ble_eq_true rfl, Nat.le_of_ble_eq_true rfl⟩ rfl hl.1 rfl (Nat.le_of_ble_eq_true rfl) dX11_sumHere_111) (fun r_25 s_24 H locs hw w => ?_)
      refine g_if_eq (pc := 114) (tgt := 121) C rfl dX11_sumHere_114 (by decide) (fun hc => ?_) (fun hc => ?_)
      · have hw := hw.1 hc
        refine lv_aload_n (pc := 121) C.1 C.2.1 dX11_sumHere_121 rfl (lv_at hl 0 rfl) ?_
        refine lv_bipush (pc := 122) C.1 C.2.1 dX11_sumHere_122 mb_42 ?_
        refine g_calli (pc := 124) w (mm_runV (ci := 11) (q := (RX11, TX11, 65)) (As := [.int (mm_I 42)]) (rest := []) C w (c_X11_isSign l G this 42 h0 s_24 _ hw) h0 rfl rfl cv_X11_isSign ml_X11_175 ⟨Nat.le_of_ble_eq_true rfl, Nat.le_of_ble_eq_true rfl⟩ ⟨Nat.le_of_ble_eq_true rfl, Nat.le_of_ble_eq_true rfl⟩ rfl hl.1 rfl (Nat.le_of_ble_eq_true rfl) dX11_sumHere_124) (fun r_27 s_26 H locs hw w => ?_)
        refine g_if_eq (pc := 127) (tgt := 134) C rfl dX11_sumHere_127 (by decide) (fun hc => ?_) (fun hc => ?_)
        · have hw := hw.1 hc
          refine lv_aload_n (pc := 134) C.1 C.2.1 dX11_sumHere_134 rfl (lv_at hl 0 rfl) ?_
          refine lv_bipush (pc := 135) C.1 C.2.1 dX11_sumHere_135 mb_60 ?_
          refine g_calli (pc := 137) w (mm_runV (ci := 11) (q := (RX11, TX11, 65)) (As := [.int (mm_I 60)]) (rest := []) C w (c_X11_isSign l G this 60 h0 s_26 _ hw) h0 rfl rfl cv_X11_isSign ml_X11_175 ⟨Nat.le_of_ble_eq_true rfl, Nat.le_of_ble_eq_true rfl⟩ ⟨Nat.le_of_ble_eq_true rfl, Nat.le_of_ble_eq_true rfl⟩ rfl hl.1 rfl (Nat.le_of_ble_eq_true rfl) dX11_sumHere_137) (fun r_29 s_28 H locs hw w => ?_)
          refine g_if_eq (pc := 140) (tgt := 147) C rfl dX11_sumHere_140 (by decide) (fun hc => ?_) (fun hc => ?_)
          · have hw := hw.1 hc
            refine lv_aload_n (pc := 147) C.1 C.2.1 dX11_sumHere_147 rfl (lv_at hl 0 rfl) ?_
            refine lv_bipush (pc := 148) C.1 C.2.1 dX11_sumHere_148 mb_61 ?_
            refine g_calli (pc := 150) w (mm_runV (ci := 11) (q := (RX11, TX11, 65)) (As := [.int (mm_I 61)]) (rest := []) C w (c_X11_isSign l G this 61 h0 s_28 _ hw) h0 rfl rfl cv_X11_isSign ml_X11_175 ⟨Nat.le_of_ble_eq_true rfl, Nat.le_of_ble_eq_true rfl⟩ ⟨Nat.le_of_ble_eq_true rfl, Nat.le_of_ble_eq_true rfl⟩ rfl hl.1 rfl (Nat.le_of_ble_eq_true rfl) dX11_sumHere_150) (fun r_31 s_30 H locs hw w => ?_)
            refine g_if_eq (pc := 153) (tgt := 161) C rfl dX11_sumHere_153 (by decide) (fun hc => ?_) (fun hc => ?_)
            · have hw := hw.1 hc
              refine lv_iconst (pc := 161) (v := mm_I (-1)) C.1 C.2.1 dX11_sumHere_161 rfl ?_
              exact hw  _ _ _ w (lv_sub hl [0, 1] rfl)
            · have hw := hw.2 hc
              refine lv_bipush (pc := 156) C.1 C.2.1 dX11_sumHere_156 mb_6 ?_
              refine lv_goto (pc := 158) (tgt := 162) C.1 C.2.1 dX11_sumHere_158 (by decide) ?_
              exact hw  _ _ _ w (lv_sub hl [0, 1] rfl)
          · have hw := hw.2 hc
            refine lv_iconst (pc := 143) (v := mm_I 5) C.1 C.2.1 dX11_sumHere_143 rfl ?_
            refine lv_goto (pc := 144) (tgt := 162) C.1 C.2.1 dX11_sumHere_144 (by decide) ?_
            exact hw  _ _ _ w (lv_sub hl [0, 1] rfl)
        · have hw := hw.2 hc
          refine lv_iconst (pc := 130) (v := mm_I 4) C.1 C.2.1 dX11_sumHere_130 rfl ?_
          refine lv_goto (pc := 131) (tgt := 162) C.1 C.2.1 dX11_sumHere_131 (by decide) ?_
          exact hw  _ _ _ w (lv_sub hl [0, 1] rfl)
      · have hw := hw.2 hc
        refine lv_iconst (pc := 117) (v := mm_I 3) C.1 C.2.1 dX11_sumHere_117 rfl ?_
        refine lv_goto (pc := 118) (tgt := 162) C.1 C.2.1 dX11_sumHere_118 (by decide) ?_
        exact hw  _ _ _ w (lv_sub hl [0, 1] rfl)
    · have hw := hw.2 hc
      refine lv_iconst (pc := 104) (v := mm_I 2) C.1 C.2.1 dX11_sumHere_104 rfl ?_
      refine lv_goto (pc := 105) (tgt := 162) C.1 C.2.1 dX11_sumHere_105 (by decide) ?_
      exact hw  _ _ _ w (lv_sub hl [0, 1] rfl))
  have hw := hw (by
    intro v1 q0 s1 hw  H locs ls w hl
    refine g_istore_n (pc := 162) C dX11_sumHere_162 rfl hl (by decide) (fun v3_32 ev3_32 ls hl => ?_)
    have hw := hw v3_32 ev3_32
    have hl : lv_has ls 5 [(3, .int (mm_I v3_32)), (0, .ref (mm_ad G this)), (1, .int (mm_I v1))] := hl
    refine lv_iload_n (pc := 163) C.1 C.2.1 dX11_sumHere_163 rfl (lv_at hl 0 rfl) ?_
    refine lv_iconst (pc := 164) (v := mm_I 5) C.1 C.2.1 dX11_sumHere_164 rfl ?_
    refine g_icmp_eq (pc := 165) (tgt := 174) C rfl mn_5 dX11_sumHere_165 (by decide) (fun hc => ?_) (fun hc => ?_)
    · have hw := hw.1 hc
      refine lv_iconst (pc := 174) (v := mm_I 1) C.1 C.2.1 dX11_sumHere_174 rfl ?_
      refine lv_goto (pc := 175) (tgt := 179) C.1 C.2.1 dX11_sumHere_175 (by decide) ?_
      exact hw  _ _ _ w (lv_sub hl [1, 2, 0] rfl)
    · have hw := hw.2 hc
      refine lv_iload_n (pc := 168) C.1 C.2.1 dX11_sumHere_168 rfl (lv_at hl 0 rfl) ?_
      refine lv_bipush (pc := 169) C.1 C.2.1 dX11_sumHere_169 mb_6 ?_
      refine g_icmp_ne (pc := 171) (tgt := 178) C rfl mn_6 dX11_sumHere_171 (by decide) (fun hc => ?_) (fun hc => ?_)
      · have hw := hw.1 hc
        refine lv_iconst (pc := 178) (v := mm_I 0) C.1 C.2.1 dX11_sumHere_178 rfl ?_
        exact hw  _ _ _ w (lv_sub hl [1, 2, 0] rfl)
      · have hw := hw.2 hc
        refine lv_iconst (pc := 174) (v := mm_I 1) C.1 C.2.1 dX11_sumHere_174 rfl ?_
        refine lv_goto (pc := 175) (tgt := 179) C.1 C.2.1 dX11_sumHere_175 (by decide) ?_
        exact hw  _ _ _ w (lv_sub hl [1, 2, 0] rfl))
  have hw := hw (by
    intro v1 v3 q0 s1 hw  H locs ls w hl
    refine g_istore (pc := 179) C dX11_sumHere_179 hl (by decide) (fun v4_33 ev4_33 ls hl => ?_)
    have hw := hw v4_33 ev4_33
    have hl : lv_has ls 5 [(4, .int (mm_I v4_33)), (0, .ref (mm_ad G this)), (1, .int (mm_I v1)), (3, .int (mm_I v3))] := hl
    refine lv_iload (pc := 181) C.1 C.2.1 dX11_sumHere_181 (lv_at hl 0 rfl) ?_
    refine g_if_eq (pc := 183) (tgt := 201) C rfl dX11_sumHere_183 (by decide) (fun hc => ?_) (fun hc => ?_)
    · have hw := hw.1 hc
      exact hw  _ _ _ w (lv_sub hl [1, 2, 3, 0] rfl)
    · have hw := hw.2 hc
      refine lv_iload_n (pc := 186) C.1 C.2.1 dX11_sumHere_186 rfl (lv_at hl 2 rfl) ?_
      refine g_if_eq (pc := 187) (tgt := 199) C rfl dX11_sumHere_187 (by decide) (fun hc => ?_) (fun hc => ?_)
      · have hw := hw.1 hc
        refine lv_iconst (pc := 199) (v := mm_I 0) C.1 C.2.1 dX11_sumHere_199 rfl ?_
        exact g_zret (pc := 200) C w hr hk (by decide) hw dX11_sumHere_200
      · have hw := hw.2 hc
        refine lv_aload_n (pc := 190) C.1 C.2.1 dX11_sumHere_190 rfl (lv_at hl 1 rfl) ?_
        refine g_getr (pc := 191) C w h0 ff_X11_47 lk_X11_91 dX11_sumHere_191 ?_
        refine lv_iload_n (pc := 194) C.1 C.2.1 dX11_sumHere_194 rfl (lv_at hl 2 rfl) ?_
        obtain ⟨hi, hw⟩ := hw
        refine g_zald (pc := 195) C w (ro_X11_47 h0) hi dX11_sumHere_195 ?_
        refine g_if_eq (pc := 196) (tgt := 201) C rfl dX11_sumHere_196 (by decide) (fun hc => ?_) (fun hc => ?_)
        · have hw := hw.1 hc
          exact hw  _ _ _ w (lv_sub hl [1, 2, 3, 0] rfl)
        · have hw := hw.2 hc
          refine lv_iconst (pc := 199) (v := mm_I 0) C.1 C.2.1 dX11_sumHere_199 rfl ?_
          exact g_zret (pc := 200) C w hr hk (by decide) hw dX11_sumHere_200)
  have hw := hw (by
    intro v1 v3 v4 s1 hw  H locs ls w hl
    refine lv_iload_n (pc := 201) C.1 C.2.1 dX11_sumHere_201 rfl (lv_at hl 2 rfl) ?_
    refine lv_iconst (pc := 202) (v := mm_I (-1)) C.1 C.2.1 dX11_sumHere_202 rfl ?_
    refine g_icmp_eq (pc := 203) (tgt := 210) C rfl mn_m1 dX11_sumHere_203 (by decide) (fun hc => ?_) (fun hc => ?_)
    · have hw := hw.1 hc
      refine lv_iconst (pc := 210) (v := mm_I 0) C.1 C.2.1 dX11_sumHere_210 rfl ?_
      exact hw  _ _ _ w (lv_sub hl [0, 1, 2, 3] rfl)
    · have hw := hw.2 hc
      refine lv_iconst (pc := 206) (v := mm_I 1) C.1 C.2.1 dX11_sumHere_206 rfl ?_
      refine lv_goto (pc := 207) (tgt := 211) C.1 C.2.1 dX11_sumHere_207 (by decide) ?_
      exact hw  _ _ _ w (lv_sub hl [0, 1, 2, 3] rfl))
  have hw := hw (by
    intro v1 v3 v4 q0 s1 hw  H locs ls w hl
    refine g_istore_n (pc := 211) C dX11_sumHere_211 rfl hl (by decide) (fun v2_34 ev2_34 ls hl => ?_)
    have hw := hw v2_34 ev2_34
    have hl : lv_has ls 5 [(2, .int (mm_I v2_34)), (0, .ref (mm_ad G this)), (1, .int (mm_I v1)), (3, .int (mm_I v3)), (4, .int (mm_I v4))] := hl
    refine lv_iload_n (pc := 212) C.1 C.2.1 dX11_sumHere_212 rfl (lv_at hl 0 rfl) ?_
    refine g_if_ne (pc := 213) (tgt := 219) C rfl dX11_sumHere_213 (by decide) (fun hc => ?_) (fun hc => ?_)
    · have hw := hw.1 hc
      refine lv_iload (pc := 219) C.1 C.2.1 dX11_sumHere_219 (lv_at hl 4 rfl) ?_
      refine g_if_eq (pc := 221) (tgt := 231) C rfl dX11_sumHere_221 (by decide) (fun hc => ?_) (fun hc => ?_)
      · have hw := hw.1 hc
        exact hw  _ _ _ w (lv_sub hl [1, 2, 0, 3, 4] rfl)
      · have hw := hw.2 hc
        refine lv_aload_n (pc := 224) C.1 C.2.1 dX11_sumHere_224 rfl (lv_at hl 1 rfl) ?_
        refine g_getr (pc := 225) C w h0 ff_X11_47 lk_X11_91 dX11_sumHere_225 ?_
        refine lv_iload_n (pc := 228) C.1 C.2.1 dX11_sumHere_228 rfl (lv_at hl 2 rfl) ?_
        refine lv_iconst (pc := 229) (v := mm_I 1) C.1 C.2.1 dX11_sumHere_229 rfl ?_
        obtain ⟨hi, hw⟩ := hw
        refine g_zast (pc := 230) C w (ro_X11_47 h0) hi (by decide) dX11_sumHere_230 (fun s_35 H locs es_35 w => ?_)
        have hw := hw s_35 es_35
        exact hw  _ _ _ w (lv_sub hl [1, 2, 0, 3, 4] rfl)
    · have hw := hw.2 hc
      refine lv_goto (pc := 216) (tgt := 9) C.1 C.2.1 dX11_sumHere_216 (by decide) ?_
      exact hw  _ _ _ w (lv_sub hl [1, 2, 0] rfl))
  have hw := hw (by
    intro v1 v2 v3 v4 s1 hw  H locs ls w hl
    refine lv_aload_n (pc := 231) C.1 C.2.1 dX11_sumHere_231 rfl (lv_at hl 0 rfl) ?_
    refine lv_iload (pc := 232) C.1 C.2.1 dX11_sumHere_232 (lv_at hl 4 rfl) ?_
    refine g_if_eq (pc := 234) (tgt := 241) C rfl dX11_sumHere_234 (by decide) (fun hc => ?_) (fun hc => ?_)
    · have hw := hw.1 hc
      refine lv_iload_n (pc := 241) C.1 C.2.1 dX11_sumHere_241 rfl (lv_at hl 3 rfl) ?_
      refine g_calli (pc := 242) w (mm_runS (As := [.int (mm_I v3)]) (rest := [.ref (mm_ad G this)]) C w (c_X11_rank l G v3  s1 _ hw) cs_X11_rank ml_X11_228 ⟨Nat.le_of_ble_eq_true rfl, Nat.le_of_ble_eq_true rfl⟩ ⟨Nat.le_of_ble_eq_true rfl, Nat.le_of_ble_eq_true rfl⟩ rfl hl.1 rfl (Nat.le_of_ble_eq_true rfl) dX11_sumHere_242) (fun r_37 s_36 H locs hw w => ?_)
      exact hw  _ _ _ w (lv_sub hl [0, 1, 2, 3] rfl)
    · have hw := hw.2 hc
      refine lv_iconst (pc := 237) (v := mm_I 1) C.1 C.2.1 dX11_sumHere_237 rfl ?_
      refine lv_goto (pc := 238) (tgt := 245) C.1 C.2.1 dX11_sumHere_238 (by decide) ?_
      exact hw  _ _ _ w (lv_sub hl [0, 1, 2, 3] rfl))
  have hw := hw (by
    intro v1 v2 v3 q0 s1 hw  H locs ls w hl
    refine g_callv (pc := 245) w (mm_runV (ci := 11) (q := (RX11, TX11, 65)) (As := [.int (mm_I q0)]) (rest := []) C w (c_X11_empties l G this q0 h0 s1 _ hw) h0 rfl rfl cv_X11_empties ml_X11_261 ⟨Nat.le_of_ble_eq_true rfl, Nat.le_of_ble_eq_true rfl⟩ ⟨Nat.le_of_ble_eq_true rfl, Nat.le_of_ble_eq_true rfl⟩ rfl hl.1 rfl (Nat.le_of_ble_eq_true rfl) dX11_sumHere_245) (fun s_38 H locs hw w => ?_)
    refine lv_aload_n (pc := 248) C.1 C.2.1 dX11_sumHere_248 rfl (lv_at hl 0 rfl) ?_
    refine lv_iload_n (pc := 249) C.1 C.2.1 dX11_sumHere_249 rfl (lv_at hl 3 rfl) ?_
    refine g_callv (pc := 250) w (mm_runV (ci := 11) (q := (RX11, TX11, 65)) (As := [.int (mm_I v3)]) (rest := []) C w (c_X11_waitsFor l G this v3 h0 s_38 _ hw) h0 rfl rfl cv_X11_waitsFor ml_X11_254 ⟨Nat.le_of_ble_eq_true rfl, Nat.le_of_ble_eq_true rfl⟩ ⟨Nat.le_of_ble_eq_true rfl, Nat.le_of_ble_eq_true rfl⟩ rfl hl.1 rfl (Nat.le_of_ble_eq_true rfl) dX11_sumHere_250) (fun s_40 H locs hw w => ?_)
    refine lv_goto (pc := 253) (tgt := 9) C.1 C.2.1 dX11_sumHere_253 (by decide) ?_
    exact hw  _ _ _ w (lv_sub hl [0, 1, 2] rfl))
  intro H locs ls w hl
  have hl : lv_has ls 5 [(0, .ref (mm_ad G this))] := hl
  refine lv_aload_n (pc := 0) C.1 C.2.1 dX11_sumHere_0 rfl (lv_at hl 0 rfl) ?_
  refine lv_iconst (pc := 1) (v := mm_I 0) C.1 C.2.1 dX11_sumHere_1 rfl ?_
  refine g_puti (pc := 2) C w h0 ff_X11_46 fw_X11_46 lk_X11_225 dX11_sumHere_2 (fun s_1 H locs es_1 w => ?_)
  have hw := hw s_1 es_1
  refine lv_iconst (pc := 5) (v := mm_I 0) C.1 C.2.1 dX11_sumHere_5 rfl ?_
  refine lv_istore_n (pc := 6) (lv' := [(1, .int (mm_I 0)), (0, .ref (mm_ad G this))]) C.1 C.2.1 dX11_sumHere_6 rfl hl (by decide) rfl (fun ls hl => ?_)
  refine lv_iconst (pc := 7) (v := mm_I 1) C.1 C.2.1 dX11_sumHere_7 rfl ?_
  refine lv_istore_n (pc := 8) (lv' := [(2, .int (mm_I 1)), (1, .int (mm_I 0)), (0, .ref (mm_ad G this))]) C.1 C.2.1 dX11_sumHere_8 rfl hl (by decide) rfl (fun ls hl => ?_)
  exact hw  _ _ _ w (lv_sub hl [2, 1, 0] rfl)
theorem lk_X11_266 : Cond.fieldLink RX11 266 "LastServedModel" "newLaws" "I" ∈ mm_ws := (mt_5 223 rfl rfl)
theorem ff_X11_19 : mm_F 11 19 0 RX11 TX11 65 := ⟨rfl, by decide, fk_X11, rfl, rfl⟩
theorem lk_X11_39 : Cond.fieldLink RX11 39 "LastServedModel" "newMost" "[Z" ∈ mm_ws := (mt_5 227 rfl rfl)
theorem ff_X11_23 : mm_F 11 23 1 RX11 TX11 65 := ⟨rfl, by decide, fk_X11, rfl, rfl⟩
theorem ro_X11_23 {i : Nat} (h : mm_ok i 21 0) : mm_ok (mm_rt i 23) 2 5 := by
  have q : ∀ i, i < mm_N → mm_kd i = 21 → mm_rt i 23 < mm_N ∧ mm_kd (mm_rt i 23) = 2 ∧ mm_ln (mm_rt i 23) = 5 := by decide +kernel
  exact q i h.1 h.2.1
theorem lk_X11_36 : Cond.fieldLink RX11 36 "LastServedModel" "newFrom" "[I" ∈ mm_ws := (mt_5 226 rfl rfl)
theorem ff_X11_22 : mm_F 11 22 1 RX11 TX11 65 := ⟨rfl, by decide, fk_X11, rfl, rfl⟩
theorem ro_X11_22 {i : Nat} (h : mm_ok i 21 0) : mm_ok (mm_rt i 22) 0 6 := by
  have q : ∀ i, i < mm_N → mm_kd i = 21 → mm_rt i 22 < mm_N ∧ mm_kd (mm_rt i 22) = 0 ∧ mm_ln (mm_rt i 22) = 6 := by decide +kernel
  exact q i h.1 h.2.1
theorem cv_X11_sumHere : mm_V yX11_sumHere cX11_sumHere 5 (some .boolean) 0 := ⟨(mt_7 15 rfl rfl), (mt_7 14 rfl rfl), (mp_4 8 rfl rfl), (mt_1 12 rfl rfl), by decide, by decide, by decide +kernel⟩
theorem ml_X11_272 : Cond.methodLink RX11 272 yX11_sumHere ∈ mm_ws := (mt_7 12 rfl rfl)
theorem fw_X11_19 : mm_Fw 11 19 TX11 65 .int := ⟨⟨tyX11, tyX11_ok⟩, nmX11, rfl, by decide +kernel⟩
def wp_X11_lawLine (this : Nat) (s0 : mm_M) (post : Int → mm_M → Prop) : Prop :=
  ∀ (L46 : mm_M → Prop), 
  (∀  (s1 : mm_M), (wp_X11_isWord this 25 s1 (fun r_10 s_9 => ((0 ≤ s1 this 19 ∧ s1 this 19 < 5) ∧ ((r_10 = 0 ∨ r_10 = 1) ∧ (∀ s_11 : mm_M, s_11 = mm_up s_9 (mm_rt this 23) (s1 this 19) r_10 → ((0 ≤ s_11 this 19 ∧ s_11 this 19 < 6) ∧ (∀ s_12 : mm_M, s_12 = mm_up s_11 (mm_rt this 22) (s_11 this 19) (s_11 this 20) → (wp_X11_leads this s_12 (fun s_13 => (wp_X11_sumHere this s_13 (fun r_16 s_15 => ((¬ n32 r_16 = 0 → (∀ s_17 : mm_M, s_17 = mm_up s_15 this 19 ((s_15 this 19) + 1) → ((0 ≤ s_17 this 19 ∧ s_17 this 19 < 6) ∧ (∀ s_18 : mm_M, s_18 = mm_up s_17 (mm_rt this 22) (s_17 this 19) (s_17 this 20) → (wp_X11_ends this s_18 (fun r_20 s_19 => ((r_20 = 0 ∨ r_20 = 1) ∧ post r_20 s_19))))))) ∧ (n32 r_16 = 0 → post 0 s_15))))))))))))) → L46 s1) →
  (wp_X11_isWord this 23 s0 (fun r_2 s_1 => ((n32 r_2 = 0 → post 0 s_1) ∧ (¬ n32 r_2 = 0 → ((¬ n32 (s_1 this 19) = 5 → (wp_X11_leads this s_1 (fun s_3 => (wp_X11_isWord this 24 s_3 (fun r_6 s_5 => ((¬ n32 r_6 = 0 → L46 s_5) ∧ (n32 r_6 = 0 → (wp_X11_isWord this 25 s_5 (fun r_8 s_7 => ((¬ n32 r_8 = 0 → L46 s_7) ∧ (n32 r_8 = 0 → post 0 s_7))))))))))) ∧ (n32 (s_1 this 19) = 5 → post 0 s_1))))))
set_option maxRecDepth 100000 in
set_option maxHeartbeats 4000000 in
theorem c_X11_lawLine (l : Launch) (G : mm_G) (this : Nat) (h0 : mm_ok this 21 0) (s0 : mm_M) (post : Int → mm_M → Prop) (hw : wp_X11_lawLine this s0 post) : Met l yX11_lawLine (mm_wm yX11_lawLine cX11_lawLine 1 (some .boolean)) (mm_rm 10) (va_Pc [.ref (mm_ad G this)] (mm_pre G s0)) (mm_Qi G post) 0 0 (mm_A G) := by
  refine mm_met (own := RX11) (by decide) rfl (Nat.le_of_ble_eq_true rfl) ?_
  intro p e s m args below meth c C hr hk
  unfold wp_X11_lawLine at hw
  have hw := hw (fun  (u : mm_M) => mm_X p l e (mm_rm 10) s m args below meth c (MQ below (mm_Qi G post) args s 0 0 (mm_A G)) G (mm_A G) 1 46 [(0, .ref (mm_ad G this))] [] u)
  have hw := hw (by
    intro  s1 hw  H locs ls w hl
    refine lv_aload_n (pc := 46) C.1 C.2.1 dX11_lawLine_46 rfl (lv_at hl 0 rfl) ?_
    refine g_getr (pc := 47) C w h0 ff_X11_23 lk_X11_39 dX11_lawLine_47 ?_
    refine lv_aload_n (pc := 50) C.1 C.2.1 dX11_lawLine_50 rfl (lv_at hl 0 rfl) ?_
    refine g_geti (pc := 51) C w h0 ff_X11_19 lk_X11_266 dX11_lawLine_51 ?_
    refine lv_aload_n (pc := 54) C.1 C.2.1 dX11_lawLine_54 rfl (lv_at hl 0 rfl) ?_
    refine mm_ldcwS (pc := 55) C.1 C.2.1 C.2.2.2.1 (w.2.2.2.1.2.2.2.2 25 (by decide)).1 dX11_lawLine_55 ?_
    refine g_calli (pc := 58) w (mm_runV (ci := 11) (q := (RX11, TX11, 65)) (As := [.ref (G.2.2.2.1 25)]) (rest := [.int (mm_I (s1 this 19)), .ref (mm_ad G (mm_rt this 23))]) C w (c_X11_isWord l G this 25 h0 (by decide) s1 _ hw) h0 rfl rfl cv_X11_isWord ml_X11_194 ⟨Nat.le_of_ble_eq_true rfl, Nat.le_of_ble_eq_true rfl⟩ ⟨Nat.le_of_ble_eq_true rfl, Nat.le_of_ble_eq_true rfl⟩ rfl hl.1 rfl (Nat.le_of_ble_eq_true rfl) dX11_lawLine_58) (fun r_10 s_9 H locs hw w => ?_)
    obtain ⟨hi, hw⟩ := hw
    obtain ⟨hb, hw⟩ := hw
    refine g_zast (pc := 61) C w (ro_X11_23 h0) hi hb dX11_lawLine_61 (fun s_11 H locs es_11 w => ?_)
    have hw := hw s_11 es_11
    refine lv_aload_n (pc := 62) C.1 C.2.1 dX11_lawLine_62 rfl (lv_at hl 0 rfl) ?_
    refine g_getr (pc := 63) C w h0 ff_X11_22 lk_X11_36 dX11_lawLine_63 ?_
    refine lv_aload_n (pc := 66) C.1 C.2.1 dX11_lawLine_66 rfl (lv_at hl 0 rfl) ?_
    refine g_geti (pc := 67) C w h0 ff_X11_19 lk_X11_266 dX11_lawLine_67 ?_
    refine lv_aload_n (pc := 70) C.1 C.2.1 dX11_lawLine_70 rfl (lv_at hl 0 rfl) ?_
    refine g_geti (pc := 71) C w h0 ff_X11_20 lk_X11_222 dX11_lawLine_71 ?_
    obtain ⟨hi, hw⟩ := hw
    refine g_iast (pc := 74) C w (ro_X11_22 h0) hi  dX11_lawLine_74 (fun s_12 H locs es_12 w => ?_)
    have hw := hw s_12 es_12
    refine lv_aload_n (pc := 75) C.1 C.2.1 dX11_lawLine_75 rfl (lv_at hl 0 rfl) ?_
    refine g_callv (pc := 76) w (mm_runV (ci := 11) (q := (RX11, TX11, 65)) (As := []) (rest := []) C w (c_X11_leads l G this h0 s_12 _ hw) h0 rfl rfl cv_X11_leads ml_X11_172 ⟨Nat.le_of_ble_eq_true rfl, Nat.le_of_ble_eq_true rfl⟩ ⟨Nat.le_of_ble_eq_true rfl, Nat.le_of_ble_eq_true rfl⟩ rfl hl.1 rfl (Nat.le_of_ble_eq_true rfl) dX11_lawLine_76) (fun s_13 H locs hw w => ?_)
    refine lv_aload_n (pc := 79) C.1 C.2.1 dX11_lawLine_79 rfl (lv_at hl 0 rfl) ?_
    refine g_calli (pc := 80) w (mm_runV (ci := 11) (q := (RX11, TX11, 65)) (As := []) (rest := []) C w (c_X11_sumHere l G this h0 s_13 _ hw) h0 rfl rfl cv_X11_sumHere ml_X11_272 ⟨Nat.le_of_ble_eq_true rfl, Nat.le_of_ble_eq_true rfl⟩ ⟨Nat.le_of_ble_eq_true rfl, Nat.le_of_ble_eq_true rfl⟩ rfl hl.1 rfl (Nat.le_of_ble_eq_true rfl) dX11_lawLine_80) (fun r_16 s_15 H locs hw w => ?_)
    refine g_if_ne (pc := 83) (tgt := 88) C rfl dX11_lawLine_83 (by decide) (fun hc => ?_) (fun hc => ?_)
    · have hw := hw.1 hc
      refine lv_aload_n (pc := 88) C.1 C.2.1 dX11_lawLine_88 rfl (lv_at hl 0 rfl) ?_
      refine lv_dup (pc := 89) C.1 C.2.1 dX11_lawLine_89 rfl ?_
      refine g_geti (pc := 90) C w h0 ff_X11_19 lk_X11_266 dX11_lawLine_90 ?_
      refine lv_iconst (pc := 93) (v := mm_I 1) C.1 C.2.1 dX11_lawLine_93 rfl ?_
      refine g_iadd (pc := 94) C dX11_lawLine_94 ?_
      refine g_puti (pc := 95) C w h0 ff_X11_19 fw_X11_19 lk_X11_266 dX11_lawLine_95 (fun s_17 H locs es_17 w => ?_)
      have hw := hw s_17 es_17
      refine lv_aload_n (pc := 98) C.1 C.2.1 dX11_lawLine_98 rfl (lv_at hl 0 rfl) ?_
      refine g_getr (pc := 99) C w h0 ff_X11_22 lk_X11_36 dX11_lawLine_99 ?_
      refine lv_aload_n (pc := 102) C.1 C.2.1 dX11_lawLine_102 rfl (lv_at hl 0 rfl) ?_
      refine g_geti (pc := 103) C w h0 ff_X11_19 lk_X11_266 dX11_lawLine_103 ?_
      refine lv_aload_n (pc := 106) C.1 C.2.1 dX11_lawLine_106 rfl (lv_at hl 0 rfl) ?_
      refine g_geti (pc := 107) C w h0 ff_X11_20 lk_X11_222 dX11_lawLine_107 ?_
      obtain ⟨hi, hw⟩ := hw
      refine g_iast (pc := 110) C w (ro_X11_22 h0) hi  dX11_lawLine_110 (fun s_18 H locs es_18 w => ?_)
      have hw := hw s_18 es_18
      refine lv_aload_n (pc := 111) C.1 C.2.1 dX11_lawLine_111 rfl (lv_at hl 0 rfl) ?_
      refine g_calli (pc := 112) w (mm_runV (ci := 11) (q := (RX11, TX11, 65)) (As := []) (rest := []) C w (c_X11_ends l G this h0 s_18 _ hw) h0 rfl rfl cv_X11_ends ml_X11_185 ⟨Nat.le_of_ble_eq_true rfl, Nat.le_of_ble_eq_true rfl⟩ ⟨Nat.le_of_ble_eq_true rfl, Nat.le_of_ble_eq_true rfl⟩ rfl hl.1 rfl (Nat.le_of_ble_eq_true rfl) dX11_lawLine_112) (fun r_20 s_19 H locs hw w => ?_)
      obtain ⟨hb, hw⟩ := hw
      exact g_zret (pc := 115) C w hr hk hb hw dX11_lawLine_115
    · have hw := hw.2 hc
      refine lv_iconst (pc := 86) (v := mm_I 0) C.1 C.2.1 dX11_lawLine_86 rfl ?_
      exact g_zret (pc := 87) C w hr hk (by decide) hw dX11_lawLine_87)
  intro H locs ls w hl
  have hl : lv_has ls 1 [(0, .ref (mm_ad G this))] := hl
  refine lv_aload_n (pc := 0) C.1 C.2.1 dX11_lawLine_0 rfl (lv_at hl 0 rfl) ?_
  refine mm_ldcwS (pc := 1) C.1 C.2.1 C.2.2.2.1 (w.2.2.2.1.2.2.2.2 23 (by decide)).1 dX11_lawLine_1 ?_
  refine g_calli (pc := 4) w (mm_runV (ci := 11) (q := (RX11, TX11, 65)) (As := [.ref (G.2.2.2.1 23)]) (rest := []) C w (c_X11_isWord l G this 23 h0 (by decide) s0 _ hw) h0 rfl rfl cv_X11_isWord ml_X11_194 ⟨Nat.le_of_ble_eq_true rfl, Nat.le_of_ble_eq_true rfl⟩ ⟨Nat.le_of_ble_eq_true rfl, Nat.le_of_ble_eq_true rfl⟩ rfl hl.1 rfl (Nat.le_of_ble_eq_true rfl) dX11_lawLine_4) (fun r_2 s_1 H locs hw w => ?_)
  refine g_if_eq (pc := 7) (tgt := 18) C rfl dX11_lawLine_7 (by decide) (fun hc => ?_) (fun hc => ?_)
  · have hw := hw.1 hc
    refine lv_iconst (pc := 18) (v := mm_I 0) C.1 C.2.1 dX11_lawLine_18 rfl ?_
    exact g_zret (pc := 19) C w hr hk (by decide) hw dX11_lawLine_19
  · have hw := hw.2 hc
    refine lv_aload_n (pc := 10) C.1 C.2.1 dX11_lawLine_10 rfl (lv_at hl 0 rfl) ?_
    refine g_geti (pc := 11) C w h0 ff_X11_19 lk_X11_266 dX11_lawLine_11 ?_
    refine lv_iconst (pc := 14) (v := mm_I 5) C.1 C.2.1 dX11_lawLine_14 rfl ?_
    refine g_icmp_ne (pc := 15) (tgt := 20) C rfl mn_5 dX11_lawLine_15 (by decide) (fun hc => ?_) (fun hc => ?_)
    · have hw := hw.1 hc
      refine lv_aload_n (pc := 20) C.1 C.2.1 dX11_lawLine_20 rfl (lv_at hl 0 rfl) ?_
      refine g_callv (pc := 21) w (mm_runV (ci := 11) (q := (RX11, TX11, 65)) (As := []) (rest := []) C w (c_X11_leads l G this h0 s_1 _ hw) h0 rfl rfl cv_X11_leads ml_X11_172 ⟨Nat.le_of_ble_eq_true rfl, Nat.le_of_ble_eq_true rfl⟩ ⟨Nat.le_of_ble_eq_true rfl, Nat.le_of_ble_eq_true rfl⟩ rfl hl.1 rfl (Nat.le_of_ble_eq_true rfl) dX11_lawLine_21) (fun s_3 H locs hw w => ?_)
      refine lv_aload_n (pc := 24) C.1 C.2.1 dX11_lawLine_24 rfl (lv_at hl 0 rfl) ?_
      refine mm_ldcwS (pc := 25) C.1 C.2.1 C.2.2.2.1 (w.2.2.2.1.2.2.2.2 24 (by decide)).1 dX11_lawLine_25 ?_
      refine g_calli (pc := 28) w (mm_runV (ci := 11) (q := (RX11, TX11, 65)) (As := [.ref (G.2.2.2.1 24)]) (rest := []) C w (c_X11_isWord l G this 24 h0 (by decide) s_3 _ hw) h0 rfl rfl cv_X11_isWord ml_X11_194 ⟨Nat.le_of_ble_eq_true rfl, Nat.le_of_ble_eq_true rfl⟩ ⟨Nat.le_of_ble_eq_true rfl, Nat.le_of_ble_eq_true rfl⟩ rfl hl.1 rfl (Nat.le_of_ble_eq_true rfl) dX11_lawLine_28) (fun r_6 s_5 H locs hw w => ?_)
      refine g_if_ne (pc := 31) (tgt := 46) C rfl dX11_lawLine_31 (by decide) (fun hc => ?_) (fun hc => ?_)
      · have hw := hw.1 hc
        exact hw  _ _ _ w (lv_sub hl [0] rfl)
      · have hw := hw.2 hc
        refine lv_aload_n (pc := 34) C.1 C.2.1 dX11_lawLine_34 rfl (lv_at hl 0 rfl) ?_
        refine mm_ldcwS (pc := 35) C.1 C.2.1 C.2.2.2.1 (w.2.2.2.1.2.2.2.2 25 (by decide)).1 dX11_lawLine_35 ?_
        refine g_calli (pc := 38) w (mm_runV (ci := 11) (q := (RX11, TX11, 65)) (As := [.ref (G.2.2.2.1 25)]) (rest := []) C w (c_X11_isWord l G this 25 h0 (by decide) s_5 _ hw) h0 rfl rfl cv_X11_isWord ml_X11_194 ⟨Nat.le_of_ble_eq_true rfl, Nat.le_of_ble_eq_true rfl⟩ ⟨Nat.le_of_ble_eq_true rfl, Nat.le_of_ble_eq_true rfl⟩ rfl hl.1 rfl (Nat.le_of_ble_eq_true rfl) dX11_lawLine_38) (fun r_8 s_7 H locs hw w => ?_)
        refine g_if_ne (pc := 41) (tgt := 46) C rfl dX11_lawLine_41 (by decide) (fun hc => ?_) (fun hc => ?_)
        · have hw := hw.1 hc
          exact hw  _ _ _ w (lv_sub hl [0] rfl)
        · have hw := hw.2 hc
          refine lv_iconst (pc := 44) (v := mm_I 0) C.1 C.2.1 dX11_lawLine_44 rfl ?_
          exact g_zret (pc := 45) C w hr hk (by decide) hw dX11_lawLine_45
    · have hw := hw.2 hc
      refine lv_iconst (pc := 18) (v := mm_I 0) C.1 C.2.1 dX11_lawLine_18 rfl ?_
      exact g_zret (pc := 19) C w hr hk (by decide) hw dX11_lawLine_19
theorem cv_X11_lawLine : mm_V yX11_lawLine cX11_lawLine 1 (some .boolean) 0 := ⟨(mt_7 8 rfl rfl), (mt_7 7 rfl rfl), (mp_4 7 rfl rfl), (mt_1 12 rfl rfl), by decide, by decide, by decide +kernel⟩
theorem ml_X11_275 : Cond.methodLink RX11 275 yX11_lawLine ∈ mm_ws := (mt_7 5 rfl rfl)
def wp_X11_lawsFault (this : Nat) (s0 : mm_M) (post : Int → mm_M → Prop) : Prop :=
  ∀ (L19 : mm_M → Prop), 
  (∀  (s1 : mm_M), ((n32 (s1 this 3) = 0 → ((¬ n32 (s1 this 19) = 0 → post (-1) s1) ∧ (n32 (s1 this 19) = 0 → post (s1 this 4) s1))) ∧ (¬ n32 (s1 this 3) = 0 → (wp_X11_lawLine this s1 (fun r_7 s_6 => ((¬ n32 r_7 = 0 → L19 s_6) ∧ (n32 r_7 = 0 → post (s_6 this 4) s_6)))))) → L19 s1) →
  (∀ s_1 : mm_M, s_1 = mm_up s0 this 19 0 → (∀ s_2 : mm_M, s_2 = mm_up s_1 this 20 0 → (∀ s_3 : mm_M, s_3 = mm_up s_2 this 2 0 → (wp_X11_leads this s_3 (fun s_4 => L19 s_4)))))
set_option maxRecDepth 100000 in
set_option maxHeartbeats 4000000 in
theorem c_X11_lawsFault (l : Launch) (G : mm_G) (this : Nat) (h0 : mm_ok this 21 0) (s0 : mm_M) (post : Int → mm_M → Prop) (hw : wp_X11_lawsFault this s0 post) : Met l yX11_lawsFault (mm_wm yX11_lawsFault cX11_lawsFault 1 (some .int)) (mm_rm 11) (va_Pc [.ref (mm_ad G this)] (mm_pre G s0)) (mm_Qi G post) 0 0 (mm_A G) := by
  refine mm_met (own := RX11) (by decide) rfl (Nat.le_of_ble_eq_true rfl) ?_
  intro p e s m args below meth c C hr hk
  unfold wp_X11_lawsFault at hw
  have hw := hw (fun  (u : mm_M) => mm_X p l e (mm_rm 11) s m args below meth c (MQ below (mm_Qi G post) args s 0 0 (mm_A G)) G (mm_A G) 1 19 [(0, .ref (mm_ad G this))] [] u)
  have hw := hw (by
    intro  s1 hw  H locs ls w hl
    refine lv_aload_n (pc := 19) C.1 C.2.1 dX11_lawsFault_19 rfl (lv_at hl 0 rfl) ?_
    refine g_geti (pc := 20) C w h0 ff_X11_3 lk_X11_136 dX11_lawsFault_20 ?_
    refine g_if_eq (pc := 23) (tgt := 38) C rfl dX11_lawsFault_23 (by decide) (fun hc => ?_) (fun hc => ?_)
    · have hw := hw.1 hc
      refine lv_aload_n (pc := 38) C.1 C.2.1 dX11_lawsFault_38 rfl (lv_at hl 0 rfl) ?_
      refine g_geti (pc := 39) C w h0 ff_X11_19 lk_X11_266 dX11_lawsFault_39 ?_
      refine g_if_ne (pc := 42) (tgt := 52) C rfl dX11_lawsFault_42 (by decide) (fun hc => ?_) (fun hc => ?_)
      · have hw := hw.1 hc
        refine lv_iconst (pc := 52) (v := mm_I (-1)) C.1 C.2.1 dX11_lawsFault_52 rfl ?_
        exact g_iret (pc := 53) C w hr hk hw dX11_lawsFault_53
      · have hw := hw.2 hc
        refine lv_aload_n (pc := 45) C.1 C.2.1 dX11_lawsFault_45 rfl (lv_at hl 0 rfl) ?_
        refine g_geti (pc := 46) C w h0 ff_X11_4 lk_X11_129 dX11_lawsFault_46 ?_
        refine lv_goto (pc := 49) (tgt := 53) C.1 C.2.1 dX11_lawsFault_49 (by decide) ?_
        exact g_iret (pc := 53) C w hr hk hw dX11_lawsFault_53
    · have hw := hw.2 hc
      refine lv_aload_n (pc := 26) C.1 C.2.1 dX11_lawsFault_26 rfl (lv_at hl 0 rfl) ?_
      refine g_calli (pc := 27) w (mm_runV (ci := 11) (q := (RX11, TX11, 65)) (As := []) (rest := []) C w (c_X11_lawLine l G this h0 s1 _ hw) h0 rfl rfl cv_X11_lawLine ml_X11_275 ⟨Nat.le_of_ble_eq_true rfl, Nat.le_of_ble_eq_true rfl⟩ ⟨Nat.le_of_ble_eq_true rfl, Nat.le_of_ble_eq_true rfl⟩ rfl hl.1 rfl (Nat.le_of_ble_eq_true rfl) dX11_lawsFault_27) (fun r_7 s_6 H locs hw w => ?_)
      refine g_if_ne (pc := 30) (tgt := 19) C rfl dX11_lawsFault_30 (by decide) (fun hc => ?_) (fun hc => ?_)
      · have hw := hw.1 hc
        exact hw  _ _ _ w (lv_sub hl [0] rfl)
      · have hw := hw.2 hc
        refine lv_aload_n (pc := 33) C.1 C.2.1 dX11_lawsFault_33 rfl (lv_at hl 0 rfl) ?_
        refine g_geti (pc := 34) C w h0 ff_X11_4 lk_X11_129 dX11_lawsFault_34 ?_
        exact g_iret (pc := 37) C w hr hk hw dX11_lawsFault_37)
  intro H locs ls w hl
  have hl : lv_has ls 1 [(0, .ref (mm_ad G this))] := hl
  refine lv_aload_n (pc := 0) C.1 C.2.1 dX11_lawsFault_0 rfl (lv_at hl 0 rfl) ?_
  refine lv_iconst (pc := 1) (v := mm_I 0) C.1 C.2.1 dX11_lawsFault_1 rfl ?_
  refine g_puti (pc := 2) C w h0 ff_X11_19 fw_X11_19 lk_X11_266 dX11_lawsFault_2 (fun s_1 H locs es_1 w => ?_)
  have hw := hw s_1 es_1
  refine lv_aload_n (pc := 5) C.1 C.2.1 dX11_lawsFault_5 rfl (lv_at hl 0 rfl) ?_
  refine lv_iconst (pc := 6) (v := mm_I 0) C.1 C.2.1 dX11_lawsFault_6 rfl ?_
  refine g_puti (pc := 7) C w h0 ff_X11_20 fw_X11_20 lk_X11_222 dX11_lawsFault_7 (fun s_2 H locs es_2 w => ?_)
  have hw := hw s_2 es_2
  refine lv_aload_n (pc := 10) C.1 C.2.1 dX11_lawsFault_10 rfl (lv_at hl 0 rfl) ?_
  refine lv_iconst (pc := 11) (v := mm_I 0) C.1 C.2.1 dX11_lawsFault_11 rfl ?_
  refine g_puti (pc := 12) C w h0 ff_X11_2 fw_X11_2 lk_X11_126 dX11_lawsFault_12 (fun s_3 H locs es_3 w => ?_)
  have hw := hw s_3 es_3
  refine lv_aload_n (pc := 15) C.1 C.2.1 dX11_lawsFault_15 rfl (lv_at hl 0 rfl) ?_
  refine g_callv (pc := 16) w (mm_runV (ci := 11) (q := (RX11, TX11, 65)) (As := []) (rest := []) C w (c_X11_leads l G this h0 s_3 _ hw) h0 rfl rfl cv_X11_leads ml_X11_172 ⟨Nat.le_of_ble_eq_true rfl, Nat.le_of_ble_eq_true rfl⟩ ⟨Nat.le_of_ble_eq_true rfl, Nat.le_of_ble_eq_true rfl⟩ rfl hl.1 rfl (Nat.le_of_ble_eq_true rfl) dX11_lawsFault_16) (fun s_4 H locs hw w => ?_)
  exact hw  _ _ _ w (lv_sub hl [0] rfl)
theorem lc_X11_284 : Cond.constant RX11 284 (mm_I (-2147483648)) ∈ mm_ws := (mt_7 48 rfl rfl)
theorem cv_X11_lawsFault : mm_V yX11_lawsFault cX11_lawsFault 1 (some .int) 0 := ⟨(mt_7 4 rfl rfl), (mt_7 3 rfl rfl), (mp_4 6 rfl rfl), (mt_1 12 rfl rfl), by decide, by decide, by decide +kernel⟩
theorem ml_X11_281 : Cond.methodLink RX11 281 yX11_lawsFault ∈ mm_ws := (mt_7 1 rfl rfl)
theorem cv_X11_townFault : mm_V yX11_townFault cX11_townFault 2 (some .int) 0 := ⟨(mt_6 179 rfl rfl), (mt_6 178 rfl rfl), (mp_3 12 rfl rfl), (mt_1 12 rfl rfl), by decide, by decide, by decide +kernel⟩
theorem ml_X11_278 : Cond.methodLink RX11 278 yX11_townFault ∈ mm_ws := (mt_6 176 rfl rfl)
def wp_X11_fault (this : Nat) (a1 : Int) (s0 : mm_M) (post : Int → mm_M → Prop) : Prop :=
  ((¬ n32 a1 = 0 → ((¬ n32 a1 = 1 → post (-2147483648) s0) ∧ (n32 a1 = 1 → (wp_X11_lawsFault this s0 (fun r_2 s_1 => post r_2 s_1))))) ∧ (n32 a1 = 0 → (wp_X11_townFault this s0 (fun r_4 s_3 => post r_4 s_3))))
set_option maxRecDepth 100000 in
set_option maxHeartbeats 4000000 in
theorem c_X11_fault (l : Launch) (G : mm_G) (this : Nat) (a1 : Int) (h0 : mm_ok this 21 0) (s0 : mm_M) (post : Int → mm_M → Prop) (hw : wp_X11_fault this a1 s0 post) : Met l yX11_fault (mm_wm yX11_fault cX11_fault 2 (some .int)) (mm_rm 12) (va_Pc [.ref (mm_ad G this), .int (mm_I a1)] (mm_pre G s0)) (mm_Qi G post) 0 0 (mm_A G) := by
  refine mm_met (own := RX11) (by decide) rfl (Nat.le_of_ble_eq_true rfl) ?_
  intro p e s m args below meth c C hr hk
  unfold wp_X11_fault at hw
  intro H locs ls w hl
  have hl : lv_has ls 2 [(0, .ref (mm_ad G this)), (1, .int (mm_I a1))] := hl
  refine lv_iload_n (pc := 0) C.1 C.2.1 dX11_fault_0 rfl (lv_at hl 1 rfl) ?_
  refine g_if_ne (pc := 1) (tgt := 11) C rfl dX11_fault_1 (by decide) (fun hc => ?_) (fun hc => ?_)
  · have hw := hw.1 hc
    refine lv_iload_n (pc := 11) C.1 C.2.1 dX11_fault_11 rfl (lv_at hl 1 rfl) ?_
    refine lv_iconst (pc := 12) (v := mm_I 1) C.1 C.2.1 dX11_fault_12 rfl ?_
    refine g_icmp_ne (pc := 13) (tgt := 23) C rfl mn_1 dX11_fault_13 (by decide) (fun hc => ?_) (fun hc => ?_)
    · have hw := hw.1 hc
      refine lv_ldcw (pc := 23) C.1 C.2.1 C.2.2.2.1 (C.2.2.2.2 _ lc_X11_284) dX11_fault_23 ?_
      exact g_iret (pc := 26) C w hr hk hw dX11_fault_26
    · have hw := hw.2 hc
      refine lv_aload_n (pc := 16) C.1 C.2.1 dX11_fault_16 rfl (lv_at hl 0 rfl) ?_
      refine g_calli (pc := 17) w (mm_runV (ci := 11) (q := (RX11, TX11, 65)) (As := []) (rest := []) C w (c_X11_lawsFault l G this h0 s0 _ hw) h0 rfl rfl cv_X11_lawsFault ml_X11_281 ⟨Nat.le_of_ble_eq_true rfl, Nat.le_of_ble_eq_true rfl⟩ ⟨Nat.le_of_ble_eq_true rfl, Nat.le_of_ble_eq_true rfl⟩ rfl hl.1 rfl (Nat.le_of_ble_eq_true rfl) dX11_fault_17) (fun r_2 s_1 H locs hw w => ?_)
      refine lv_goto (pc := 20) (tgt := 26) C.1 C.2.1 dX11_fault_20 (by decide) ?_
      exact g_iret (pc := 26) C w hr hk hw dX11_fault_26
  · have hw := hw.2 hc
    refine lv_aload_n (pc := 4) C.1 C.2.1 dX11_fault_4 rfl (lv_at hl 0 rfl) ?_
    refine g_calli (pc := 5) w (mm_runV (ci := 11) (q := (RX11, TX11, 65)) (As := []) (rest := []) C w (c_X11_townFault l G this h0 s0 _ hw) h0 rfl rfl cv_X11_townFault ml_X11_278 ⟨Nat.le_of_ble_eq_true rfl, Nat.le_of_ble_eq_true rfl⟩ ⟨Nat.le_of_ble_eq_true rfl, Nat.le_of_ble_eq_true rfl⟩ rfl hl.1 rfl (Nat.le_of_ble_eq_true rfl) dX11_fault_5) (fun r_4 s_3 H locs hw w => ?_)
    refine lv_goto (pc := 8) (tgt := 26) C.1 C.2.1 dX11_fault_8 (by decide) ?_
    exact g_iret (pc := 26) C w hr hk hw dX11_fault_26
theorem lk_X11_285 : Cond.fieldLink RX11 285 "LastServedModel" "laws" "I" ∈ mm_ws := (mt_5 228 rfl rfl)
theorem ff_X11_24 : mm_F 11 24 0 RX11 TX11 65 := ⟨rfl, by decide, fk_X11, rfl, rfl⟩
theorem fw_X11_24 : mm_Fw 11 24 TX11 65 .int := ⟨⟨tyX11, tyX11_ok⟩, nmX11, rfl, by decide +kernel⟩
theorem lk_X11_43 : Cond.fieldLink RX11 43 "LastServedModel" "code" "[I" ∈ mm_ws := (mt_5 229 rfl rfl)
theorem ff_X11_25 : mm_F 11 25 1 RX11 TX11 65 := ⟨rfl, by decide, fk_X11, rfl, rfl⟩
theorem ro_X11_25 {i : Nat} (h : mm_ok i 21 0) : mm_ok (mm_rt i 25) 0 1200 := by
  have q : ∀ i, i < mm_N → mm_kd i = 21 → mm_rt i 25 < mm_N ∧ mm_kd (mm_rt i 25) = 0 ∧ mm_ln (mm_rt i 25) = 1200 := by decide +kernel
  exact q i h.1 h.2.1
theorem lk_X11_46 : Cond.fieldLink RX11 46 "LastServedModel" "from" "[I" ∈ mm_ws := (mt_5 230 rfl rfl)
theorem ff_X11_26 : mm_F 11 26 1 RX11 TX11 65 := ⟨rfl, by decide, fk_X11, rfl, rfl⟩
theorem ro_X11_26 {i : Nat} (h : mm_ok i 21 0) : mm_ok (mm_rt i 26) 0 6 := by
  have q : ∀ i, i < mm_N → mm_kd i = 21 → mm_rt i 26 < mm_N ∧ mm_kd (mm_rt i 26) = 0 ∧ mm_ln (mm_rt i 26) = 6 := by decide +kernel
  exact q i h.1 h.2.1
theorem lk_X11_49 : Cond.fieldLink RX11 49 "LastServedModel" "most" "[Z" ∈ mm_ws := (mt_5 231 rfl rfl)
theorem ff_X11_27 : mm_F 11 27 1 RX11 TX11 65 := ⟨rfl, by decide, fk_X11, rfl, rfl⟩
theorem ro_X11_27 {i : Nat} (h : mm_ok i 21 0) : mm_ok (mm_rt i 27) 2 5 := by
  have q : ∀ i, i < mm_N → mm_kd i = 21 → mm_rt i 27 < mm_N ∧ mm_kd (mm_rt i 27) = 2 ∧ mm_ln (mm_rt i 27) = 5 := by decide +kernel
  exact q i h.1 h.2.1
def wp_X11_laws (this : Nat) (s0 : mm_M) (post : Int → mm_M → Prop) : Prop :=
  ∀ (L20 : Int → mm_M → Prop), ∀ (L50 : Int → mm_M → Prop), ∀ (L75 : Int → mm_M → Prop), 
  (∀ (v1 : Int) (s1 : mm_M), ((n32 (2 * (s1 this 20)) ≤ n32 v1 → L50 0 s1) ∧ (¬ n32 (2 * (s1 this 20)) ≤ n32 v1 → ((0 ≤ v1 ∧ v1 < 1200) ∧ ((0 ≤ v1 ∧ v1 < 1200) ∧ (∀ s_6 : mm_M, s_6 = mm_up s1 (mm_rt this 25) v1 (s1 (mm_rt this 21) v1) → (∀ v1_7 : Int, v1_7 = v1 + 1 → L20 v1_7 s_6)))))) → L20 v1 s1) →
  (∀ (v1 : Int) (s1 : mm_M), ((5 < n32 v1 → L75 0 s1) ∧ (¬ 5 < n32 v1 → ((0 ≤ v1 ∧ v1 < 6) ∧ ((0 ≤ v1 ∧ v1 < 6) ∧ (∀ s_9 : mm_M, s_9 = mm_up s1 (mm_rt this 26) v1 (s1 (mm_rt this 22) v1) → (∀ v1_10 : Int, v1_10 = v1 + 1 → L50 v1_10 s_9)))))) → L50 v1 s1) →
  (∀ (v1 : Int) (s1 : mm_M), ((5 ≤ n32 v1 → (∀ s_11 : mm_M, s_11 = mm_up s1 this 1 0 → post (s_11 this 24) s_11)) ∧ (¬ 5 ≤ n32 v1 → ((0 ≤ v1 ∧ v1 < 5) ∧ ((0 ≤ v1 ∧ v1 < 5) ∧ ((s1 (mm_rt this 23) v1 = 0 ∨ s1 (mm_rt this 23) v1 = 1) ∧ (∀ s_12 : mm_M, s_12 = mm_up s1 (mm_rt this 27) v1 (s1 (mm_rt this 23) v1) → (∀ v1_13 : Int, v1_13 = v1 + 1 → L75 v1_13 s_12))))))) → L75 v1 s1) →
  (wp_X11_lawsFault this s0 (fun r_2 s_1 => ((n32 r_2 = (-1) → (∀ s_3 : mm_M, s_3 = mm_up s_1 this 24 (s_1 this 19) → L20 0 s_3)) ∧ (¬ n32 r_2 = (-1) → post (-1) s_1))))
set_option maxRecDepth 100000 in
set_option maxHeartbeats 4000000 in
theorem c_X11_laws (l : Launch) (G : mm_G) (this : Nat) (h0 : mm_ok this 21 0) (s0 : mm_M) (post : Int → mm_M → Prop) (hw : wp_X11_laws this s0 post) : Met l yX11_laws (mm_wm yX11_laws cX11_laws 2 (some .int)) (mm_rm 12) (va_Pc [.ref (mm_ad G this)] (mm_pre G s0)) (mm_Qi G post) 0 0 (mm_A G) := by
  refine mm_met (own := RX11) (by decide) rfl (Nat.le_of_ble_eq_true rfl) ?_
  intro p e s m args below meth c C hr hk
  unfold wp_X11_laws at hw
  have hw := hw (fun (v1 : Int) (u : mm_M) => mm_X p l e (mm_rm 12) s m args below meth c (MQ below (mm_Qi G post) args s 0 0 (mm_A G)) G (mm_A G) 2 20 [(0, .ref (mm_ad G this)), (1, .int (mm_I v1))] [] u)
  have hw := hw (fun (v1 : Int) (u : mm_M) => mm_X p l e (mm_rm 12) s m args below meth c (MQ below (mm_Qi G post) args s 0 0 (mm_A G)) G (mm_A G) 2 50 [(0, .ref (mm_ad G this)), (1, .int (mm_I v1))] [] u)
  have hw := hw (fun (v1 : Int) (u : mm_M) => mm_X p l e (mm_rm 12) s m args below meth c (MQ below (mm_Qi G post) args s 0 0 (mm_A G)) G (mm_A G) 2 75 [(0, .ref (mm_ad G this)), (1, .int (mm_I v1))] [] u)
  have hw := hw (by
    intro v1 s1 hw  H locs ls w hl
    refine lv_iload_n (pc := 20) C.1 C.2.1 dX11_laws_20 rfl (lv_at hl 1 rfl) ?_
    refine lv_iconst (pc := 21) (v := mm_I 2) C.1 C.2.1 dX11_laws_21 rfl ?_
    refine lv_aload_n (pc := 22) C.1 C.2.1 dX11_laws_22 rfl (lv_at hl 0 rfl) ?_
    refine g_geti (pc := 23) C w h0 ff_X11_20 lk_X11_222 dX11_laws_23 ?_
    refine g_imul (pc := 26) C dX11_laws_26 ?_
    refine g_icmp_ge (pc := 27) (tgt := 48) C rfl rfl dX11_laws_27 (by decide) (fun hc => ?_) (fun hc => ?_)
    · have hw := hw.1 hc
      refine lv_iconst (pc := 48) (v := mm_I 0) C.1 C.2.1 dX11_laws_48 rfl ?_
      refine lv_istore_n (pc := 49) (lv' := [(1, .int (mm_I 0)), (0, .ref (mm_ad G this))]) C.1 C.2.1 dX11_laws_49 rfl hl (by decide) rfl (fun ls hl => ?_)
      exact hw  _ _ _ w (lv_sub hl [1, 0] rfl)
    · have hw := hw.2 hc
      refine lv_aload_n (pc := 30) C.1 C.2.1 dX11_laws_30 rfl (lv_at hl 0 rfl) ?_
      refine g_getr (pc := 31) C w h0 ff_X11_25 lk_X11_43 dX11_laws_31 ?_
      refine lv_iload_n (pc := 34) C.1 C.2.1 dX11_laws_34 rfl (lv_at hl 1 rfl) ?_
      refine lv_aload_n (pc := 35) C.1 C.2.1 dX11_laws_35 rfl (lv_at hl 0 rfl) ?_
      refine g_getr (pc := 36) C w h0 ff_X11_21 lk_X11_33 dX11_laws_36 ?_
      refine lv_iload_n (pc := 39) C.1 C.2.1 dX11_laws_39 rfl (lv_at hl 1 rfl) ?_
      obtain ⟨hi, hw⟩ := hw
      refine g_iald (pc := 40) C w (ro_X11_21 h0) hi dX11_laws_40 ?_
      obtain ⟨hi, hw⟩ := hw
      refine g_iast (pc := 41) C w (ro_X11_25 h0) hi  dX11_laws_41 (fun s_6 H locs es_6 w => ?_)
      have hw := hw s_6 es_6
      refine g_iinc (pc := 42) (k := 1) C dX11_laws_42 hl rfl (by decide) (fun v1_7 ev1_7 ls hl => ?_)
      have hw := hw v1_7 ev1_7
      have hl : lv_has ls 2 [(1, .int (mm_I v1_7)), (0, .ref (mm_ad G this))] := hl
      refine lv_goto (pc := 45) (tgt := 20) C.1 C.2.1 dX11_laws_45 (by decide) ?_
      exact hw  _ _ _ w (lv_sub hl [1, 0] rfl))
  have hw := hw (by
    intro v1 s1 hw  H locs ls w hl
    refine lv_iload_n (pc := 50) C.1 C.2.1 dX11_laws_50 rfl (lv_at hl 1 rfl) ?_
    refine lv_iconst (pc := 51) (v := mm_I 5) C.1 C.2.1 dX11_laws_51 rfl ?_
    refine g_icmp_gt (pc := 52) (tgt := 73) C rfl mn_5 dX11_laws_52 (by decide) (fun hc => ?_) (fun hc => ?_)
    · have hw := hw.1 hc
      refine lv_iconst (pc := 73) (v := mm_I 0) C.1 C.2.1 dX11_laws_73 rfl ?_
      refine lv_istore_n (pc := 74) (lv' := [(1, .int (mm_I 0)), (0, .ref (mm_ad G this))]) C.1 C.2.1 dX11_laws_74 rfl hl (by decide) rfl (fun ls hl => ?_)
      exact hw  _ _ _ w (lv_sub hl [1, 0] rfl)
    · have hw := hw.2 hc
      refine lv_aload_n (pc := 55) C.1 C.2.1 dX11_laws_55 rfl (lv_at hl 0 rfl) ?_
      refine g_getr (pc := 56) C w h0 ff_X11_26 lk_X11_46 dX11_laws_56 ?_
      refine lv_iload_n (pc := 59) C.1 C.2.1 dX11_laws_59 rfl (lv_at hl 1 rfl) ?_
      refine lv_aload_n (pc := 60) C.1 C.2.1 dX11_laws_60 rfl (lv_at hl 0 rfl) ?_
      refine g_getr (pc := 61) C w h0 ff_X11_22 lk_X11_36 dX11_laws_61 ?_
      refine lv_iload_n (pc := 64) C.1 C.2.1 dX11_laws_64 rfl (lv_at hl 1 rfl) ?_
      obtain ⟨hi, hw⟩ := hw
      refine g_iald (pc := 65) C w (ro_X11_22 h0) hi dX11_laws_65 ?_
      obtain ⟨hi, hw⟩ := hw
      refine g_iast (pc := 66) C w (ro_X11_26 h0) hi  dX11_laws_66 (fun s_9 H locs es_9 w => ?_)
      have hw := hw s_9 es_9
      refine g_iinc (pc := 67) (k := 1) C dX11_laws_67 hl rfl (by decide) (fun v1_10 ev1_10 ls hl => ?_)
      have hw := hw v1_10 ev1_10
      have hl : lv_has ls 2 [(1, .int (mm_I v1_10)), (0, .ref (mm_ad G this))] := hl
      refine lv_goto (pc := 70) (tgt := 50) C.1 C.2.1 dX11_laws_70 (by decide) ?_
      exact hw  _ _ _ w (lv_sub hl [1, 0] rfl))
  have hw := hw (by
    intro v1 s1 hw  H locs ls w hl
    refine lv_iload_n (pc := 75) C.1 C.2.1 dX11_laws_75 rfl (lv_at hl 1 rfl) ?_
    refine lv_iconst (pc := 76) (v := mm_I 5) C.1 C.2.1 dX11_laws_76 rfl ?_
    refine g_icmp_ge (pc := 77) (tgt := 98) C rfl mn_5 dX11_laws_77 (by decide) (fun hc => ?_) (fun hc => ?_)
    · have hw := hw.1 hc
      refine lv_aload_n (pc := 98) C.1 C.2.1 dX11_laws_98 rfl (lv_at hl 0 rfl) ?_
      refine lv_iconst (pc := 99) (v := mm_I 0) C.1 C.2.1 dX11_laws_99 rfl ?_
      refine g_puti (pc := 100) C w h0 ff_X11_1 fw_X11_1 lk_X11_118 dX11_laws_100 (fun s_11 H locs es_11 w => ?_)
      have hw := hw s_11 es_11
      refine lv_aload_n (pc := 103) C.1 C.2.1 dX11_laws_103 rfl (lv_at hl 0 rfl) ?_
      refine g_geti (pc := 104) C w h0 ff_X11_24 lk_X11_285 dX11_laws_104 ?_
      exact g_iret (pc := 107) C w hr hk hw dX11_laws_107
    · have hw := hw.2 hc
      refine lv_aload_n (pc := 80) C.1 C.2.1 dX11_laws_80 rfl (lv_at hl 0 rfl) ?_
      refine g_getr (pc := 81) C w h0 ff_X11_27 lk_X11_49 dX11_laws_81 ?_
      refine lv_iload_n (pc := 84) C.1 C.2.1 dX11_laws_84 rfl (lv_at hl 1 rfl) ?_
      refine lv_aload_n (pc := 85) C.1 C.2.1 dX11_laws_85 rfl (lv_at hl 0 rfl) ?_
      refine g_getr (pc := 86) C w h0 ff_X11_23 lk_X11_39 dX11_laws_86 ?_
      refine lv_iload_n (pc := 89) C.1 C.2.1 dX11_laws_89 rfl (lv_at hl 1 rfl) ?_
      obtain ⟨hi, hw⟩ := hw
      refine g_zald (pc := 90) C w (ro_X11_23 h0) hi dX11_laws_90 ?_
      obtain ⟨hi, hw⟩ := hw
      obtain ⟨hb, hw⟩ := hw
      refine g_zast (pc := 91) C w (ro_X11_27 h0) hi hb dX11_laws_91 (fun s_12 H locs es_12 w => ?_)
      have hw := hw s_12 es_12
      refine g_iinc (pc := 92) (k := 1) C dX11_laws_92 hl rfl (by decide) (fun v1_13 ev1_13 ls hl => ?_)
      have hw := hw v1_13 ev1_13
      have hl : lv_has ls 2 [(1, .int (mm_I v1_13)), (0, .ref (mm_ad G this))] := hl
      refine lv_goto (pc := 95) (tgt := 75) C.1 C.2.1 dX11_laws_95 (by decide) ?_
      exact hw  _ _ _ w (lv_sub hl [1, 0] rfl))
  intro H locs ls w hl
  have hl : lv_has ls 2 [(0, .ref (mm_ad G this))] := hl
  refine lv_aload_n (pc := 0) C.1 C.2.1 dX11_laws_0 rfl (lv_at hl 0 rfl) ?_
  refine g_calli (pc := 1) w (mm_runV (ci := 11) (q := (RX11, TX11, 65)) (As := []) (rest := []) C w (c_X11_lawsFault l G this h0 s0 _ hw) h0 rfl rfl cv_X11_lawsFault ml_X11_281 ⟨Nat.le_of_ble_eq_true rfl, Nat.le_of_ble_eq_true rfl⟩ ⟨Nat.le_of_ble_eq_true rfl, Nat.le_of_ble_eq_true rfl⟩ rfl hl.1 rfl (Nat.le_of_ble_eq_true rfl) dX11_laws_1) (fun r_2 s_1 H locs hw w => ?_)
  refine lv_iconst (pc := 4) (v := mm_I (-1)) C.1 C.2.1 dX11_laws_4 rfl ?_
  refine g_icmp_eq (pc := 5) (tgt := 10) C rfl mn_m1 dX11_laws_5 (by decide) (fun hc => ?_) (fun hc => ?_)
  · have hw := hw.1 hc
    refine lv_aload_n (pc := 10) C.1 C.2.1 dX11_laws_10 rfl (lv_at hl 0 rfl) ?_
    refine lv_aload_n (pc := 11) C.1 C.2.1 dX11_laws_11 rfl (lv_at hl 0 rfl) ?_
    refine g_geti (pc := 12) C w h0 ff_X11_19 lk_X11_266 dX11_laws_12 ?_
    refine g_puti (pc := 15) C w h0 ff_X11_24 fw_X11_24 lk_X11_285 dX11_laws_15 (fun s_3 H locs es_3 w => ?_)
    have hw := hw s_3 es_3
    refine lv_iconst (pc := 18) (v := mm_I 0) C.1 C.2.1 dX11_laws_18 rfl ?_
    refine lv_istore_n (pc := 19) (lv' := [(1, .int (mm_I 0)), (0, .ref (mm_ad G this))]) C.1 C.2.1 dX11_laws_19 rfl hl (by decide) rfl (fun ls hl => ?_)
    exact hw  _ _ _ w (lv_sub hl [1, 0] rfl)
  · have hw := hw.2 hc
    refine lv_iconst (pc := 8) (v := mm_I (-1)) C.1 C.2.1 dX11_laws_8 rfl ?_
    exact g_iret (pc := 9) C w hr hk hw dX11_laws_9
theorem lk_X11_288 : Cond.fieldLink RX11 288 "LastServedModel" "counters" "I" ∈ mm_ws := (mt_5 216 rfl rfl)
theorem ff_X11_12 : mm_F 11 12 0 RX11 TX11 65 := ⟨rfl, by decide, fk_X11, rfl, rfl⟩
theorem fw_X11_12 : mm_Fw 11 12 TX11 65 .int := ⟨⟨tyX11, tyX11_ok⟩, nmX11, rfl, by decide +kernel⟩
theorem lk_X11_291 : Cond.fieldLink RX11 291 "LastServedModel" "sorts" "I" ∈ mm_ws := (mt_5 218 rfl rfl)
theorem ff_X11_14 : mm_F 11 14 0 RX11 TX11 65 := ⟨rfl, by decide, fk_X11, rfl, rfl⟩
theorem fw_X11_14 : mm_Fw 11 14 TX11 65 .int := ⟨⟨tyX11, tyX11_ok⟩, nmX11, rfl, by decide +kernel⟩
theorem mn_9 : n32 9 = 9 := by decide
theorem lk_X11_27 : Cond.fieldLink RX11 27 "LastServedModel" "counterRow" "[I" ∈ mm_ws := (mt_5 217 rfl rfl)
theorem ff_X11_13 : mm_F 11 13 1 RX11 TX11 65 := ⟨rfl, by decide, fk_X11, rfl, rfl⟩
theorem ro_X11_13 {i : Nat} (h : mm_ok i 21 0) : mm_ok (mm_rt i 13) 0 9 := by
  have q : ∀ i, i < mm_N → mm_kd i = 21 → mm_rt i 13 < mm_N ∧ mm_kd (mm_rt i 13) = 0 ∧ mm_ln (mm_rt i 13) = 9 := by decide +kernel
  exact q i h.1 h.2.1
theorem lk_X11_30 : Cond.fieldLink RX11 30 "LastServedModel" "sortRow" "[I" ∈ mm_ws := (mt_5 219 rfl rfl)
theorem ff_X11_15 : mm_F 11 15 1 RX11 TX11 65 := ⟨rfl, by decide, fk_X11, rfl, rfl⟩
theorem ro_X11_15 {i : Nat} (h : mm_ok i 21 0) : mm_ok (mm_rt i 15) 0 30 := by
  have q : ∀ i, i < mm_N → mm_kd i = 21 → mm_rt i 15 < mm_N ∧ mm_kd (mm_rt i 15) = 0 ∧ mm_ln (mm_rt i 15) = 30 := by decide +kernel
  exact q i h.1 h.2.1
theorem lk_X11_294 : Cond.fieldLink RX11 294 "LastServedModel" "closes" "I" ∈ mm_ws := (mt_5 220 rfl rfl)
theorem ff_X11_16 : mm_F 11 16 0 RX11 TX11 65 := ⟨rfl, by decide, fk_X11, rfl, rfl⟩
theorem fw_X11_16 : mm_Fw 11 16 TX11 65 .int := ⟨⟨tyX11, tyX11_ok⟩, nmX11, rfl, by decide +kernel⟩
theorem lk_X11_297 : Cond.fieldLink RX11 297 "LastServedModel" "fee" "I" ∈ mm_ws := (mt_5 221 rfl rfl)
theorem ff_X11_17 : mm_F 11 17 0 RX11 TX11 65 := ⟨rfl, by decide, fk_X11, rfl, rfl⟩
theorem fw_X11_17 : mm_Fw 11 17 TX11 65 .int := ⟨⟨tyX11, tyX11_ok⟩, nmX11, rfl, by decide +kernel⟩
theorem lk_X11_299 : Cond.fieldLink RX11 299 "LastServedModel" "bow" "I" ∈ mm_ws := (mt_5 222 rfl rfl)
theorem ff_X11_18 : mm_F 11 18 0 RX11 TX11 65 := ⟨rfl, by decide, fk_X11, rfl, rfl⟩
theorem fw_X11_18 : mm_Fw 11 18 TX11 65 .int := ⟨⟨tyX11, tyX11_ok⟩, nmX11, rfl, by decide +kernel⟩
theorem lk_X11_301 : Cond.fieldLink RX11 301 "LastServedModel" "minute" "I" ∈ mm_ws := (mt_5 232 rfl rfl)
theorem ff_X11_28 : mm_F 11 28 0 RX11 TX11 65 := ⟨rfl, by decide, fk_X11, rfl, rfl⟩
theorem fw_X11_28 : mm_Fw 11 28 TX11 65 .int := ⟨⟨tyX11, tyX11_ok⟩, nmX11, rfl, by decide +kernel⟩
theorem lk_X11_52 : Cond.fieldLink RX11 52 "LastServedModel" "stock" "[I" ∈ mm_ws := (mt_5 233 rfl rfl)
theorem ff_X11_29 : mm_F 11 29 1 RX11 TX11 65 := ⟨rfl, by decide, fk_X11, rfl, rfl⟩
theorem ro_X11_29 {i : Nat} (h : mm_ok i 21 0) : mm_ok (mm_rt i 29) 0 3 := by
  have q : ∀ i, i < mm_N → mm_kd i = 21 → mm_rt i 29 < mm_N ∧ mm_kd (mm_rt i 29) = 0 ∧ mm_ln (mm_rt i 29) = 3 := by decide +kernel
  exact q i h.1 h.2.1
theorem lk_X11_55 : Cond.fieldLink RX11 55 "LastServedModel" "busy" "[I" ∈ mm_ws := (mt_5 234 rfl rfl)
theorem ff_X11_30 : mm_F 11 30 1 RX11 TX11 65 := ⟨rfl, by decide, fk_X11, rfl, rfl⟩
theorem ro_X11_30 {i : Nat} (h : mm_ok i 21 0) : mm_ok (mm_rt i 30) 0 3 := by
  have q : ∀ i, i < mm_N → mm_kd i = 21 → mm_rt i 30 < mm_N ∧ mm_kd (mm_rt i 30) = 0 ∧ mm_ln (mm_rt i 30) = 3 := by decide +kernel
  exact q i h.1 h.2.1
theorem lk_X11_58 : Cond.fieldLink RX11 58 "LastServedModel" "many" "[I" ∈ mm_ws := (mt_5 235 rfl rfl)
theorem ff_X11_31 : mm_F 11 31 1 RX11 TX11 65 := ⟨rfl, by decide, fk_X11, rfl, rfl⟩
theorem ro_X11_31 {i : Nat} (h : mm_ok i 21 0) : mm_ok (mm_rt i 31) 0 3 := by
  have q : ∀ i, i < mm_N → mm_kd i = 21 → mm_rt i 31 < mm_N ∧ mm_kd (mm_rt i 31) = 0 ∧ mm_ln (mm_rt i 31) = 3 := by decide +kernel
  exact q i h.1 h.2.1
theorem lk_X11_64 : Cond.fieldLink RX11 64 "LastServedModel" "person" "[I" ∈ mm_ws := (mt_5 237 rfl rfl)
theorem ff_X11_33 : mm_F 11 33 1 RX11 TX11 65 := ⟨rfl, by decide, fk_X11, rfl, rfl⟩
theorem ro_X11_33 {i : Nat} (h : mm_ok i 21 0) : mm_ok (mm_rt i 33) 0 210 := by
  have q : ∀ i, i < mm_N → mm_kd i = 21 → mm_rt i 33 < mm_N ∧ mm_kd (mm_rt i 33) = 0 ∧ mm_ln (mm_rt i 33) = 210 := by decide +kernel
  exact q i h.1 h.2.1
theorem mn_35 : n32 35 = 35 := by decide
theorem lk_X11_303 : Cond.fieldLink RX11 303 "LastServedModel" "entries" "I" ∈ mm_ws := (mt_5 239 rfl rfl)
theorem ff_X11_35 : mm_F 11 35 0 RX11 TX11 65 := ⟨rfl, by decide, fk_X11, rfl, rfl⟩
theorem fw_X11_35 : mm_Fw 11 35 TX11 65 .int := ⟨⟨tyX11, tyX11_ok⟩, nmX11, rfl, by decide +kernel⟩
theorem lk_X11_306 : Cond.fieldLink RX11 306 "LastServedModel" "lot0" "J" ∈ mm_ws := (mt_6 1 rfl rfl)
theorem ff_X11_37 : mm_F 11 37 2 RX11 TX11 65 := ⟨rfl, by decide, fk_X11, rfl, rfl⟩
theorem fw_X11_37 : mm_Fw 11 37 TX11 65 .long := ⟨⟨tyX11, tyX11_ok⟩, nmX11, rfl, by decide +kernel⟩
theorem lk_X11_67 : Cond.fieldLink RX11 67 "LastServedModel" "told7" "[I" ∈ mm_ws := (mt_5 238 rfl rfl)
theorem ff_X11_34 : mm_F 11 34 1 RX11 TX11 65 := ⟨rfl, by decide, fk_X11, rfl, rfl⟩
theorem ro_X11_34 {i : Nat} (h : mm_ok i 21 0) : mm_ok (mm_rt i 34) 0 35 := by
  have q : ∀ i, i < mm_N → mm_kd i = 21 → mm_rt i 34 < mm_N ∧ mm_kd (mm_rt i 34) = 0 ∧ mm_ln (mm_rt i 34) = 35 := by decide +kernel
  exact q i h.1 h.2.1
theorem lk_X11_79 : Cond.fieldLink RX11 79 "LastServedModel" "isImage" "[Z" ∈ mm_ws := (mt_6 5 rfl rfl)
theorem ff_X11_41 : mm_F 11 41 1 RX11 TX11 65 := ⟨rfl, by decide, fk_X11, rfl, rfl⟩
theorem ro_X11_41 {i : Nat} (h : mm_ok i 21 0) : mm_ok (mm_rt i 41) 2 3 := by
  have q : ∀ i, i < mm_N → mm_kd i = 21 → mm_rt i 41 < mm_N ∧ mm_kd (mm_rt i 41) = 2 ∧ mm_ln (mm_rt i 41) = 3 := by decide +kernel
  exact q i h.1 h.2.1
def wp_X11_town (this : Nat) (s0 : mm_M) (post : Int → mm_M → Prop) : Prop :=
  ∀ (L28 : Int → mm_M → Prop), ∀ (L54 : Int → mm_M → Prop), ∀ (L100 : Int → mm_M → Prop), ∀ (L124 : Int → mm_M → Prop), ∀ (L158 : Int → mm_M → Prop), ∀ (L201 : Int → mm_M → Prop), ∀ (L227 : Int → mm_M → Prop), ∀ (L258 : Int → mm_M → Prop), 
  (∀ (v1 : Int) (s1 : mm_M), ((9 ≤ n32 v1 → L54 0 s1) ∧ (¬ 9 ≤ n32 v1 → ((0 ≤ v1 ∧ v1 < 9) ∧ ((0 ≤ v1 ∧ v1 < 9) ∧ (∀ s_7 : mm_M, s_7 = mm_up s1 (mm_rt this 13) v1 (s1 (mm_rt this 7) v1) → (∀ v1_8 : Int, v1_8 = v1 + 1 → L28 v1_8 s_7)))))) → L28 v1 s1) →
  (∀ (v1 : Int) (s1 : mm_M), ((30 ≤ n32 v1 → ((¬ n32 (s1 (mm_rt this 11) 0) = (-1) → L100 (s1 (mm_rt this 11) 0) s1) ∧ (n32 (s1 (mm_rt this 11) 0) = (-1) → L100 120 s1))) ∧ (¬ 30 ≤ n32 v1 → ((0 ≤ v1 ∧ v1 < 30) ∧ ((0 ≤ v1 ∧ v1 < 30) ∧ (∀ s_9 : mm_M, s_9 = mm_up s1 (mm_rt this 15) v1 (s1 (mm_rt this 10) v1) → (∀ v1_10 : Int, v1_10 = v1 + 1 → L54 v1_10 s_9)))))) → L54 v1 s1) →
  (∀ (q0 : Int) (s1 : mm_M), (∀ s_11 : mm_M, s_11 = mm_up s1 this 16 q0 → ((¬ n32 (s_11 (mm_rt this 11) 1) = (-1) → L124 (s_11 (mm_rt this 11) 1) s_11) ∧ (n32 (s_11 (mm_rt this 11) 1) = (-1) → L124 0 s_11))) → L100 q0 s1) →
  (∀ (q0 : Int) (s1 : mm_M), (∀ s_12 : mm_M, s_12 = mm_up s1 this 17 q0 → ((¬ n32 (s_12 (mm_rt this 11) 2) = (-1) → (∀ s_13 : mm_M, s_13 = mm_up s_12 this 18 (s_12 (mm_rt this 11) 2) → (∀ s_14 : mm_M, s_14 = mm_up s_13 this 28 0 → L158 0 s_14))) ∧ (n32 (s_12 (mm_rt this 11) 2) = (-1) → (∀ s_16 : mm_M, s_16 = mm_up s_12 this 18 0 → (∀ s_17 : mm_M, s_17 = mm_up s_16 this 28 0 → L158 0 s_17))))) → L124 q0 s1) →
  (∀ (v1 : Int) (s1 : mm_M), ((3 ≤ n32 v1 → L201 0 s1) ∧ (¬ 3 ≤ n32 v1 → ((0 ≤ (3 * v1) + 2 ∧ (3 * v1) + 2 < 9) ∧ ((0 ≤ v1 ∧ v1 < 3) ∧ (∀ s_20 : mm_M, s_20 = mm_up s1 (mm_rt this 29) v1 (s1 (mm_rt this 13) ((3 * v1) + 2)) → ((0 ≤ v1 ∧ v1 < 3) ∧ (∀ s_21 : mm_M, s_21 = mm_up s_20 (mm_rt this 30) v1 0 → ((0 ≤ v1 ∧ v1 < 3) ∧ (∀ s_22 : mm_M, s_22 = mm_up s_21 (mm_rt this 31) v1 0 → (∀ v1_23 : Int, v1_23 = v1 + 1 → L158 v1_23 s_22)))))))))) → L158 v1 s1) →
  (∀ (v1 : Int) (s1 : mm_M), ((30 ≤ n32 v1 → L227 0 s1) ∧ (¬ 30 ≤ n32 v1 → ((0 ≤ (7 * v1) + 2 ∧ (7 * v1) + 2 < 210) ∧ (∀ s_25 : mm_M, s_25 = mm_up s1 (mm_rt this 33) ((7 * v1) + 2) (-1) → (∀ v1_26 : Int, v1_26 = v1 + 1 → L201 v1_26 s_25))))) → L201 v1 s1) →
  (∀ (v1 : Int) (s1 : mm_M), ((35 ≤ n32 v1 → (∀ s_27 : mm_M, s_27 = mm_up s1 this 35 0 → (∀ s_28 : mm_M, s_28 = mm_up s_27 this 37 0 → L258 0 s_28))) ∧ (¬ 35 ≤ n32 v1 → ((0 ≤ v1 ∧ v1 < 35) ∧ (∀ s_30 : mm_M, s_30 = mm_up s1 (mm_rt this 34) v1 0 → (∀ v1_31 : Int, v1_31 = v1 + 1 → L227 v1_31 s_30))))) → L227 v1 s1) →
  (∀ (v1 : Int) (s1 : mm_M), ((3 ≤ n32 v1 → (∀ s_32 : mm_M, s_32 = mm_up s1 this 1 0 → post (s_32 this 12) s_32)) ∧ (¬ 3 ≤ n32 v1 → ((0 ≤ v1 ∧ v1 < 3) ∧ (∀ s_33 : mm_M, s_33 = mm_up s1 (mm_rt this 41) v1 0 → (∀ v1_34 : Int, v1_34 = v1 + 1 → L258 v1_34 s_33))))) → L258 v1 s1) →
  (wp_X11_townFault this s0 (fun r_2 s_1 => ((n32 r_2 = (-1) → (∀ s_3 : mm_M, s_3 = mm_up s_1 this 12 (s_1 this 6) → (∀ s_4 : mm_M, s_4 = mm_up s_3 this 14 (s_3 this 8) → L28 0 s_4))) ∧ (¬ n32 r_2 = (-1) → post (-1) s_1))))
set_option maxRecDepth 100000 in
set_option maxHeartbeats 4000000 in
theorem c_X11_town (l : Launch) (G : mm_G) (this : Nat) (h0 : mm_ok this 21 0) (s0 : mm_M) (post : Int → mm_M → Prop) (hw : wp_X11_town this s0 post) : Met l yX11_town (mm_wm yX11_town cX11_town 2 (some .int)) (mm_rm 10) (va_Pc [.ref (mm_ad G this)] (mm_pre G s0)) (mm_Qi G post) 0 0 (mm_A G) := by
  refine mm_met (own := RX11) (by decide) rfl (Nat.le_of_ble_eq_true rfl) ?_
  intro p e s m args below meth c C hr hk
  unfold wp_X11_town at hw
  have hw := hw (fun (v1 : Int) (u : mm_M) => mm_X p l e (mm_rm 10) s m args below meth c (MQ below (mm_Qi G post) args s 0 0 (mm_A G)) G (mm_A G) 2 28 [(0, .ref (mm_ad G this)), (1, .int (mm_I v1))] [] u)
  have hw := hw (fun (v1 : Int) (u : mm_M) => mm_X p l e (mm_rm 10) s m args below meth c (MQ below (mm_Qi G post) args s 0 0 (mm_A G)) G (mm_A G) 2 54 [(0, .ref (mm_ad G this)), (1, .int (mm_I v1))] [] u)
  have hw := hw (fun (q0 : Int) (u : mm_M) => mm_X p l e (mm_rm 10) s m args below meth c (MQ below (mm_Qi G post) args s 0 0 (mm_A G)) G (mm_A G) 2 100 [(0, .ref (mm_ad G this))] [.int (mm_I q0), .ref (mm_ad G this)] u)
  have hw := hw (fun (q0 : Int) (u : mm_M) => mm_X p l e (mm_rm 10) s m args below meth c (MQ below (mm_Qi G post) args s 0 0 (mm_A G)) G (mm_A G) 2 124 [(0, .ref (mm_ad G this))] [.int (mm_I q0), .ref (mm_ad G this)] u)
  have hw := hw (fun (v1 : Int) (u : mm_M) => mm_X p l e (mm_rm 10) s m args below meth c (MQ below (mm_Qi G post) args s 0 0 (mm_A G)) G (mm_A G) 2 158 [(0, .ref (mm_ad G this)), (1, .int (mm_I v1))] [] u)
  have hw := hw (fun (v1 : Int) (u : mm_M) => mm_X p l e (mm_rm 10) s m args below meth c (MQ below (mm_Qi G post) args s 0 0 (mm_A G)) G (mm_A G) 2 201 [(0, .ref (mm_ad G this)), (1, .int (mm_I v1))] [] u)
  have hw := hw (fun (v1 : Int) (u : mm_M) => mm_X p l e (mm_rm 10) s m args below meth c (MQ below (mm_Qi G post) args s 0 0 (mm_A G)) G (mm_A G) 2 227 [(0, .ref (mm_ad G this)), (1, .int (mm_I v1))] [] u)
  have hw := hw (fun (v1 : Int) (u : mm_M) => mm_X p l e (mm_rm 10) s m args below meth c (MQ below (mm_Qi G post) args s 0 0 (mm_A G)) G (mm_A G) 2 258 [(0, .ref (mm_ad G this)), (1, .int (mm_I v1))] [] u)
  have hw := hw (by
    intro v1 s1 hw  H locs ls w hl
    refine lv_iload_n (pc := 28) C.1 C.2.1 dX11_town_28 rfl (lv_at hl 1 rfl) ?_
    refine lv_bipush (pc := 29) C.1 C.2.1 dX11_town_29 mb_9 ?_
    refine g_icmp_ge (pc := 31) (tgt := 52) C rfl mn_9 dX11_town_31 (by decide) (fun hc => ?_) (fun hc => ?_)
    · have hw := hw.1 hc
      refine lv_iconst (pc := 52) (v := mm_I 0) C.1 C.2.1 dX11_town_52 rfl ?_
      refine lv_istore_n (pc := 53) (lv' := [(1, .int (mm_I 0)), (0, .ref (mm_ad G this))]) C.1 C.2.1 dX11_town_53 rfl hl (by decide) rfl (fun ls hl => ?_)
      exact hw  _ _ _ w (lv_sub hl [1, 0] rfl)
    · have hw := hw.2 hc
      refine lv_aload_n (pc := 34) C.1 C.2.1 dX11_town_34 rfl (lv_at hl 0 rfl) ?_
      refine g_getr (pc := 35) C w h0 ff_X11_13 lk_X11_27 dX11_town_35 ?_
      refine lv_iload_n (pc := 38) C.1 C.2.1 dX11_town_38 rfl (lv_at hl 1 rfl) ?_
      refine lv_aload_n (pc := 39) C.1 C.2.1 dX11_town_39 rfl (lv_at hl 0 rfl) ?_
      refine g_getr (pc := 40) C w h0 ff_X11_7 lk_X11_13 dX11_town_40 ?_
      refine lv_iload_n (pc := 43) C.1 C.2.1 dX11_town_43 rfl (lv_at hl 1 rfl) ?_
      obtain ⟨hi, hw⟩ := hw
      refine g_iald (pc := 44) C w (ro_X11_7 h0) hi dX11_town_44 ?_
      obtain ⟨hi, hw⟩ := hw
      refine g_iast (pc := 45) C w (ro_X11_13 h0) hi  dX11_town_45 (fun s_7 H locs es_7 w => ?_)
      have hw := hw s_7 es_7
      refine g_iinc (pc := 46) (k := 1) C dX11_town_46 hl rfl (by decide) (fun v1_8 ev1_8 ls hl => ?_)
      have hw := hw v1_8 ev1_8
      have hl : lv_has ls 2 [(1, .int (mm_I v1_8)), (0, .ref (mm_ad G this))] := hl
      refine lv_goto (pc := 49) (tgt := 28) C.1 C.2.1 dX11_town_49 (by decide) ?_
      exact hw  _ _ _ w (lv_sub hl [1, 0] rfl))
  have hw := hw (by
    intro v1 s1 hw  H locs ls w hl
    refine lv_iload_n (pc := 54) C.1 C.2.1 dX11_town_54 rfl (lv_at hl 1 rfl) ?_
    refine lv_bipush (pc := 55) C.1 C.2.1 dX11_town_55 mb_30 ?_
    refine g_icmp_ge (pc := 57) (tgt := 78) C rfl mn_30 dX11_town_57 (by decide) (fun hc => ?_) (fun hc => ?_)
    · have hw := hw.1 hc
      refine lv_aload_n (pc := 78) C.1 C.2.1 dX11_town_78 rfl (lv_at hl 0 rfl) ?_
      refine lv_aload_n (pc := 79) C.1 C.2.1 dX11_town_79 rfl (lv_at hl 0 rfl) ?_
      refine g_getr (pc := 80) C w h0 ff_X11_11 lk_X11_24 dX11_town_80 ?_
      refine lv_iconst (pc := 83) (v := mm_I 0) C.1 C.2.1 dX11_town_83 rfl ?_
      refine g_iald (pc := 84) C w (ro_X11_11 h0) ⟨by decide, by decide⟩ dX11_town_84 ?_
      refine lv_iconst (pc := 85) (v := mm_I (-1)) C.1 C.2.1 dX11_town_85 rfl ?_
      refine g_icmp_ne (pc := 86) (tgt := 94) C rfl mn_m1 dX11_town_86 (by decide) (fun hc => ?_) (fun hc => ?_)
      · have hw := hw.1 hc
        refine lv_aload_n (pc := 94) C.1 C.2.1 dX11_town_94 rfl (lv_at hl 0 rfl) ?_
        refine g_getr (pc := 95) C w h0 ff_X11_11 lk_X11_24 dX11_town_95 ?_
        refine lv_iconst (pc := 98) (v := mm_I 0) C.1 C.2.1 dX11_town_98 rfl ?_
        refine g_iald (pc := 99) C w (ro_X11_11 h0) ⟨by decide, by decide⟩ dX11_town_99 ?_
        exact hw  _ _ _ w (lv_sub hl [0] rfl)
      · have hw := hw.2 hc
        refine lv_bipush (pc := 89) C.1 C.2.1 dX11_town_89 mb_120 ?_
        refine lv_goto (pc := 91) (tgt := 100) C.1 C.2.1 dX11_town_91 (by decide) ?_
        exact hw  _ _ _ w (lv_sub hl [0] rfl)
    · have hw := hw.2 hc
      refine lv_aload_n (pc := 60) C.1 C.2.1 dX11_town_60 rfl (lv_at hl 0 rfl) ?_
      refine g_getr (pc := 61) C w h0 ff_X11_15 lk_X11_30 dX11_town_61 ?_
      refine lv_iload_n (pc := 64) C.1 C.2.1 dX11_town_64 rfl (lv_at hl 1 rfl) ?_
      refine lv_aload_n (pc := 65) C.1 C.2.1 dX11_town_65 rfl (lv_at hl 0 rfl) ?_
      refine g_getr (pc := 66) C w h0 ff_X11_10 lk_X11_21 dX11_town_66 ?_
      refine lv_iload_n (pc := 69) C.1 C.2.1 dX11_town_69 rfl (lv_at hl 1 rfl) ?_
      obtain ⟨hi, hw⟩ := hw
      refine g_iald (pc := 70) C w (ro_X11_10 h0) hi dX11_town_70 ?_
      obtain ⟨hi, hw⟩ := hw
      refine g_iast (pc := 71) C w (ro_X11_15 h0) hi  dX11_town_71 (fun s_9 H locs es_9 w => ?_)
      have hw := hw s_9 es_9
      refine g_iinc (pc := 72) (k := 1) C dX11_town_72 hl rfl (by decide) (fun v1_10 ev1_10 ls hl => ?_)
      have hw := hw v1_10 ev1_10
      have hl : lv_has ls 2 [(1, .int (mm_I v1_10)), (0, .ref (mm_ad G this))] := hl
      refine lv_goto (pc := 75) (tgt := 54) C.1 C.2.1 dX11_town_75 (by decide) ?_
      exact hw  _ _ _ w (lv_sub hl [1, 0] rfl))
  have hw := hw (by
    intro q0 s1 hw  H locs ls w hl
    refine g_puti (pc := 100) C w h0 ff_X11_16 fw_X11_16 lk_X11_294 dX11_town_100 (fun s_11 H locs es_11 w => ?_)
    have hw := hw s_11 es_11
    refine lv_aload_n (pc := 103) C.1 C.2.1 dX11_town_103 rfl (lv_at hl 0 rfl) ?_
    refine lv_aload_n (pc := 104) C.1 C.2.1 dX11_town_104 rfl (lv_at hl 0 rfl) ?_
    refine g_getr (pc := 105) C w h0 ff_X11_11 lk_X11_24 dX11_town_105 ?_
    refine lv_iconst (pc := 108) (v := mm_I 1) C.1 C.2.1 dX11_town_108 rfl ?_
    refine g_iald (pc := 109) C w (ro_X11_11 h0) ⟨by decide, by decide⟩ dX11_town_109 ?_
    refine lv_iconst (pc := 110) (v := mm_I (-1)) C.1 C.2.1 dX11_town_110 rfl ?_
    refine g_icmp_ne (pc := 111) (tgt := 118) C rfl mn_m1 dX11_town_111 (by decide) (fun hc => ?_) (fun hc => ?_)
    · have hw := hw.1 hc
      refine lv_aload_n (pc := 118) C.1 C.2.1 dX11_town_118 rfl (lv_at hl 0 rfl) ?_
      refine g_getr (pc := 119) C w h0 ff_X11_11 lk_X11_24 dX11_town_119 ?_
      refine lv_iconst (pc := 122) (v := mm_I 1) C.1 C.2.1 dX11_town_122 rfl ?_
      refine g_iald (pc := 123) C w (ro_X11_11 h0) ⟨by decide, by decide⟩ dX11_town_123 ?_
      exact hw  _ _ _ w (lv_sub hl [0] rfl)
    · have hw := hw.2 hc
      refine lv_iconst (pc := 114) (v := mm_I 0) C.1 C.2.1 dX11_town_114 rfl ?_
      refine lv_goto (pc := 115) (tgt := 124) C.1 C.2.1 dX11_town_115 (by decide) ?_
      exact hw  _ _ _ w (lv_sub hl [0] rfl))
  have hw := hw (by
    intro q0 s1 hw  H locs ls w hl
    refine g_puti (pc := 124) C w h0 ff_X11_17 fw_X11_17 lk_X11_297 dX11_town_124 (fun s_12 H locs es_12 w => ?_)
    have hw := hw s_12 es_12
    refine lv_aload_n (pc := 127) C.1 C.2.1 dX11_town_127 rfl (lv_at hl 0 rfl) ?_
    refine lv_aload_n (pc := 128) C.1 C.2.1 dX11_town_128 rfl (lv_at hl 0 rfl) ?_
    refine g_getr (pc := 129) C w h0 ff_X11_11 lk_X11_24 dX11_town_129 ?_
    refine lv_iconst (pc := 132) (v := mm_I 2) C.1 C.2.1 dX11_town_132 rfl ?_
    refine g_iald (pc := 133) C w (ro_X11_11 h0) ⟨by decide, by decide⟩ dX11_town_133 ?_
    refine lv_iconst (pc := 134) (v := mm_I (-1)) C.1 C.2.1 dX11_town_134 rfl ?_
    refine g_icmp_ne (pc := 135) (tgt := 142) C rfl mn_m1 dX11_town_135 (by decide) (fun hc => ?_) (fun hc => ?_)
    · have hw := hw.1 hc
      refine lv_aload_n (pc := 142) C.1 C.2.1 dX11_town_142 rfl (lv_at hl 0 rfl) ?_
      refine g_getr (pc := 143) C w h0 ff_X11_11 lk_X11_24 dX11_town_143 ?_
      refine lv_iconst (pc := 146) (v := mm_I 2) C.1 C.2.1 dX11_town_146 rfl ?_
      refine g_iald (pc := 147) C w (ro_X11_11 h0) ⟨by decide, by decide⟩ dX11_town_147 ?_
      refine g_puti (pc := 148) C w h0 ff_X11_18 fw_X11_18 lk_X11_299 dX11_town_148 (fun s_13 H locs es_13 w => ?_)
      have hw := hw s_13 es_13
      refine lv_aload_n (pc := 151) C.1 C.2.1 dX11_town_151 rfl (lv_at hl 0 rfl) ?_
      refine lv_iconst (pc := 152) (v := mm_I 0) C.1 C.2.1 dX11_town_152 rfl ?_
      refine g_puti (pc := 153) C w h0 ff_X11_28 fw_X11_28 lk_X11_301 dX11_town_153 (fun s_14 H locs es_14 w => ?_)
      have hw := hw s_14 es_14
      refine lv_iconst (pc := 156) (v := mm_I 0) C.1 C.2.1 dX11_town_156 rfl ?_
      refine lv_istore_n (pc := 157) (lv' := [(1, .int (mm_I 0)), (0, .ref (mm_ad G this))]) C.1 C.2.1 dX11_town_157 rfl hl (by decide) rfl (fun ls hl => ?_)
      exact hw  _ _ _ w (lv_sub hl [1, 0] rfl)
    · have hw := hw.2 hc
      refine lv_iconst (pc := 138) (v := mm_I 0) C.1 C.2.1 dX11_town_138 rfl ?_
      refine lv_goto (pc := 139) (tgt := 148) C.1 C.2.1 dX11_town_139 (by decide) ?_
      refine g_puti (pc := 148) C w h0 ff_X11_18 fw_X11_18 lk_X11_299 dX11_town_148 (fun s_16 H locs es_16 w => ?_)
      have hw := hw s_16 es_16
      refine lv_aload_n (pc := 151) C.1 C.2.1 dX11_town_151 rfl (lv_at hl 0 rfl) ?_
      refine lv_iconst (pc := 152) (v := mm_I 0) C.1 C.2.1 dX11_town_152 rfl ?_
      refine g_puti (pc := 153) C w h0 ff_X11_28 fw_X11_28 lk_X11_301 dX11_town_153 (fun s_17 H locs es_17 w => ?_)
      have hw := hw s_17 es_17
      refine lv_iconst (pc := 156) (v := mm_I 0) C.1 C.2.1 dX11_town_156 rfl ?_
      refine lv_istore_n (pc := 157) (lv' := [(1, .int (mm_I 0)), (0, .ref (mm_ad G this))]) C.1 C.2.1 dX11_town_157 rfl hl (by decide) rfl (fun ls hl => ?_)
      exact hw  _ _ _ w (lv_sub hl [1, 0] rfl))
  have hw := hw (by
    intro v1 s1 hw  H locs ls w hl
    refine lv_iload_n (pc := 158) C.1 C.2.1 dX11_town_158 rfl (lv_at hl 1 rfl) ?_
    refine lv_iconst (pc := 159) (v := mm_I 3) C.1 C.2.1 dX11_town_159 rfl ?_
    refine g_icmp_ge (pc := 160) (tgt := 199) C rfl mn_3 dX11_town_160 (by decide) (fun hc => ?_) (fun hc => ?_)
    · have hw := hw.1 hc
      refine lv_iconst (pc := 199) (v := mm_I 0) C.1 C.2.1 dX11_town_199 rfl ?_
      refine lv_istore_n (pc := 200) (lv' := [(1, .int (mm_I 0)), (0, .ref (mm_ad G this))]) C.1 C.2.1 dX11_town_200 rfl hl (by decide) rfl (fun ls hl => ?_)
      exact hw  _ _ _ w (lv_sub hl [1, 0] rfl)
    · have hw := hw.2 hc
      refine lv_aload_n (pc := 163) C.1 C.2.1 dX11_town_163 rfl (lv_at hl 0 rfl) ?_
      refine g_getr (pc := 164) C w h0 ff_X11_29 lk_X11_52 dX11_town_164 ?_
      refine lv_iload_n (pc := 167) C.1 C.2.1 dX11_town_167 rfl (lv_at hl 1 rfl) ?_
      refine lv_aload_n (pc := 168) C.1 C.2.1 dX11_town_168 rfl (lv_at hl 0 rfl) ?_
      refine g_getr (pc := 169) C w h0 ff_X11_13 lk_X11_27 dX11_town_169 ?_
      refine lv_iconst (pc := 172) (v := mm_I 3) C.1 C.2.1 dX11_town_172 rfl ?_
      refine lv_iload_n (pc := 173) C.1 C.2.1 dX11_town_173 rfl (lv_at hl 1 rfl) ?_
      refine g_imul (pc := 174) C dX11_town_174 ?_
      refine lv_iconst (pc := 175) (v := mm_I 2) C.1 C.2.1 dX11_town_175 rfl ?_
      refine g_iadd (pc := 176) C dX11_town_176 ?_
      obtain ⟨hi, hw⟩ := hw
      refine g_iald (pc := 177) C w (ro_X11_13 h0) hi dX11_town_177 ?_
      obtain ⟨hi, hw⟩ := hw
      refine g_iast (pc := 178) C w (ro_X11_29 h0) hi  dX11_town_178 (fun s_20 H locs es_20 w => ?_)
      have hw := hw s_20 es_20
      refine lv_aload_n (pc := 179) C.1 C.2.1 dX11_town_179 rfl (lv_at hl 0 rfl) ?_
      refine g_getr (pc := 180) C w h0 ff_X11_30 lk_X11_55 dX11_town_180 ?_
      refine lv_iload_n (pc := 183) C.1 C.2.1 dX11_town_183 rfl (lv_at hl 1 rfl) ?_
      refine lv_iconst (pc := 184) (v := mm_I 0) C.1 C.2.1 dX11_town_184 rfl ?_
      obtain ⟨hi, hw⟩ := hw
      refine g_iast (pc := 185) C w (ro_X11_30 h0) hi  dX11_town_185 (fun s_21 H locs es_21 w => ?_)
      have hw := hw s_21 es_21
      refine lv_aload_n (pc := 186) C.1 C.2.1 dX11_town_186 rfl (lv_at hl 0 rfl) ?_
      refine g_getr (pc := 187) C w h0 ff_X11_31 lk_X11_58 dX11_town_187 ?_
      refine lv_iload_n (pc := 190) C.1 C.2.1 dX11_town_190 rfl (lv_at hl 1 rfl) ?_
      refine lv_iconst (pc := 191) (v := mm_I 0) C.1 C.2.1 dX11_town_191 rfl ?_
      obtain ⟨hi, hw⟩ := hw
      refine g_iast (pc := 192) C w (ro_X11_31 h0) hi  dX11_town_192 (fun s_22 H locs es_22 w => ?_)
      have hw := hw s_22 es_22
      refine g_iinc (pc := 193) (k := 1) C dX11_town_193 hl rfl (by decide) (fun v1_23 ev1_23 ls hl => ?_)
      have hw := hw v1_23 ev1_23
      have hl : lv_has ls 2 [(1, .int (mm_I v1_23)), (0, .ref (mm_ad G this))] := hl
      refine lv_goto (pc := 196) (tgt := 158) C.1 C.2.1 dX11_town_196 (by decide) ?_
      exact hw  _ _ _ w (lv_sub hl [1, 0] rfl))
  have hw := hw (by
    intro v1 s1 hw  H locs ls w hl
    refine lv_iload_n (pc := 201) C.1 C.2.1 dX11_town_201 rfl (lv_at hl 1 rfl) ?_
    refine lv_bipush (pc := 202) C.1 C.2.1 dX11_town_202 mb_30 ?_
    refine g_icmp_ge (pc := 204) (tgt := 225) C rfl mn_30 dX11_town_204 (by decide) (fun hc => ?_) (fun hc => ?_)
    · have hw := hw.1 hc
      refine lv_iconst (pc := 225) (v := mm_I 0) C.1 C.2.1 dX11_town_225 rfl ?_
      refine lv_istore_n (pc := 226) (lv' := [(1, .int (mm_I 0)), (0, .ref (mm_ad G this))]) C.1 C.2.1 dX11_town_226 rfl hl (by decide) rfl (fun ls hl => ?_)
      exact hw  _ _ _ w (lv_sub hl [1, 0] rfl)
    · have hw := hw.2 hc
      refine lv_aload_n (pc := 207) C.1 C.2.1 dX11_town_207 rfl (lv_at hl 0 rfl) ?_
      refine g_getr (pc := 208) C w h0 ff_X11_33 lk_X11_64 dX11_town_208 ?_
      refine lv_bipush (pc := 211) C.1 C.2.1 dX11_town_211 mb_7 ?_
      refine lv_iload_n (pc := 213) C.1 C.2.1 dX11_town_213 rfl (lv_at hl 1 rfl) ?_
      refine g_imul (pc := 214) C dX11_town_214 ?_
      refine lv_iconst (pc := 215) (v := mm_I 2) C.1 C.2.1 dX11_town_215 rfl ?_
      refine g_iadd (pc := 216) C dX11_town_216 ?_
      refine lv_iconst (pc := 217) (v := mm_I (-1)) C.1 C.2.1 dX11_town_217 rfl ?_
      obtain ⟨hi, hw⟩ := hw
      refine g_iast (pc := 218) C w (ro_X11_33 h0) hi  dX11_town_218 (fun s_25 H locs es_25 w => ?_)
      have hw := hw s_25 es_25
      refine g_iinc (pc := 219) (k := 1) C dX11_town_219 hl rfl (by decide) (fun v1_26 ev1_26 ls hl => ?_)
      have hw := hw v1_26 ev1_26
      have hl : lv_has ls 2 [(1, .int (mm_I v1_26)), (0, .ref (mm_ad G this))] := hl
      refine lv_goto (pc := 222) (tgt := 201) C.1 C.2.1 dX11_town_222 (by decide) ?_
      exact hw  _ _ _ w (lv_sub hl [1, 0] rfl))
  have hw := hw (by
    intro v1 s1 hw  H locs ls w hl
    refine lv_iload_n (pc := 227) C.1 C.2.1 dX11_town_227 rfl (lv_at hl 1 rfl) ?_
    refine lv_bipush (pc := 228) C.1 C.2.1 dX11_town_228 mb_35 ?_
    refine g_icmp_ge (pc := 230) (tgt := 246) C rfl mn_35 dX11_town_230 (by decide) (fun hc => ?_) (fun hc => ?_)
    · have hw := hw.1 hc
      refine lv_aload_n (pc := 246) C.1 C.2.1 dX11_town_246 rfl (lv_at hl 0 rfl) ?_
      refine lv_iconst (pc := 247) (v := mm_I 0) C.1 C.2.1 dX11_town_247 rfl ?_
      refine g_puti (pc := 248) C w h0 ff_X11_35 fw_X11_35 lk_X11_303 dX11_town_248 (fun s_27 H locs es_27 w => ?_)
      have hw := hw s_27 es_27
      refine lv_aload_n (pc := 251) C.1 C.2.1 dX11_town_251 rfl (lv_at hl 0 rfl) ?_
      refine lv_lconst (pc := 252) (v := mm_L 0) C.1 C.2.1 dX11_town_252 rfl ?_
      refine g_putl (pc := 253) C w h0 ff_X11_37 fw_X11_37 lk_X11_306 dX11_town_253 (fun s_28 H locs es_28 w => ?_)
      have hw := hw s_28 es_28
      refine lv_iconst (pc := 256) (v := mm_I 0) C.1 C.2.1 dX11_town_256 rfl ?_
      refine lv_istore_n (pc := 257) (lv' := [(1, .int (mm_I 0)), (0, .ref (mm_ad G this))]) C.1 C.2.1 dX11_town_257 rfl hl (by decide) rfl (fun ls hl => ?_)
      exact hw  _ _ _ w (lv_sub hl [1, 0] rfl)
    · have hw := hw.2 hc
      refine lv_aload_n (pc := 233) C.1 C.2.1 dX11_town_233 rfl (lv_at hl 0 rfl) ?_
      refine g_getr (pc := 234) C w h0 ff_X11_34 lk_X11_67 dX11_town_234 ?_
      refine lv_iload_n (pc := 237) C.1 C.2.1 dX11_town_237 rfl (lv_at hl 1 rfl) ?_
      refine lv_iconst (pc := 238) (v := mm_I 0) C.1 C.2.1 dX11_town_238 rfl ?_
      obtain ⟨hi, hw⟩ := hw
      refine g_iast (pc := 239) C w (ro_X11_34 h0) hi  dX11_town_239 (fun s_30 H locs es_30 w => ?_)
      have hw := hw s_30 es_30
      refine g_iinc (pc := 240) (k := 1) C dX11_town_240 hl rfl (by decide) (fun v1_31 ev1_31 ls hl => ?_)
      have hw := hw v1_31 ev1_31
      have hl : lv_has ls 2 [(1, .int (mm_I v1_31)), (0, .ref (mm_ad G this))] := hl
      refine lv_goto (pc := 243) (tgt := 227) C.1 C.2.1 dX11_town_243 (by decide) ?_
      exact hw  _ _ _ w (lv_sub hl [1, 0] rfl))
  have hw := hw (by
    intro v1 s1 hw  H locs ls w hl
    refine lv_iload_n (pc := 258) C.1 C.2.1 dX11_town_258 rfl (lv_at hl 1 rfl) ?_
    refine lv_iconst (pc := 259) (v := mm_I 3) C.1 C.2.1 dX11_town_259 rfl ?_
    refine g_icmp_ge (pc := 260) (tgt := 276) C rfl mn_3 dX11_town_260 (by decide) (fun hc => ?_) (fun hc => ?_)
    · have hw := hw.1 hc
      refine lv_aload_n (pc := 276) C.1 C.2.1 dX11_town_276 rfl (lv_at hl 0 rfl) ?_
      refine lv_iconst (pc := 277) (v := mm_I 0) C.1 C.2.1 dX11_town_277 rfl ?_
      refine g_puti (pc := 278) C w h0 ff_X11_1 fw_X11_1 lk_X11_118 dX11_town_278 (fun s_32 H locs es_32 w => ?_)
      have hw := hw s_32 es_32
      refine lv_aload_n (pc := 281) C.1 C.2.1 dX11_town_281 rfl (lv_at hl 0 rfl) ?_
      refine g_geti (pc := 282) C w h0 ff_X11_12 lk_X11_288 dX11_town_282 ?_
      exact g_iret (pc := 285) C w hr hk hw dX11_town_285
    · have hw := hw.2 hc
      refine lv_aload_n (pc := 263) C.1 C.2.1 dX11_town_263 rfl (lv_at hl 0 rfl) ?_
      refine g_getr (pc := 264) C w h0 ff_X11_41 lk_X11_79 dX11_town_264 ?_
      refine lv_iload_n (pc := 267) C.1 C.2.1 dX11_town_267 rfl (lv_at hl 1 rfl) ?_
      refine lv_iconst (pc := 268) (v := mm_I 0) C.1 C.2.1 dX11_town_268 rfl ?_
      obtain ⟨hi, hw⟩ := hw
      refine g_zast (pc := 269) C w (ro_X11_41 h0) hi (by decide) dX11_town_269 (fun s_33 H locs es_33 w => ?_)
      have hw := hw s_33 es_33
      refine g_iinc (pc := 270) (k := 1) C dX11_town_270 hl rfl (by decide) (fun v1_34 ev1_34 ls hl => ?_)
      have hw := hw v1_34 ev1_34
      have hl : lv_has ls 2 [(1, .int (mm_I v1_34)), (0, .ref (mm_ad G this))] := hl
      refine lv_goto (pc := 273) (tgt := 258) C.1 C.2.1 dX11_town_273 (by decide) ?_
      exact hw  _ _ _ w (lv_sub hl [1, 0] rfl))
  intro H locs ls w hl
  have hl : lv_has ls 2 [(0, .ref (mm_ad G this))] := hl
  refine lv_aload_n (pc := 0) C.1 C.2.1 dX11_town_0 rfl (lv_at hl 0 rfl) ?_
  refine g_calli (pc := 1) w (mm_runV (ci := 11) (q := (RX11, TX11, 65)) (As := []) (rest := []) C w (c_X11_townFault l G this h0 s0 _ hw) h0 rfl rfl cv_X11_townFault ml_X11_278 ⟨Nat.le_of_ble_eq_true rfl, Nat.le_of_ble_eq_true rfl⟩ ⟨Nat.le_of_ble_eq_true rfl, Nat.le_of_ble_eq_true rfl⟩ rfl hl.1 rfl (Nat.le_of_ble_eq_true rfl) dX11_town_1) (fun r_2 s_1 H locs hw w => ?_)
  refine lv_iconst (pc := 4) (v := mm_I (-1)) C.1 C.2.1 dX11_town_4 rfl ?_
  refine g_icmp_eq (pc := 5) (tgt := 10) C rfl mn_m1 dX11_town_5 (by decide) (fun hc => ?_) (fun hc => ?_)
  · have hw := hw.1 hc
    refine lv_aload_n (pc := 10) C.1 C.2.1 dX11_town_10 rfl (lv_at hl 0 rfl) ?_
    refine lv_aload_n (pc := 11) C.1 C.2.1 dX11_town_11 rfl (lv_at hl 0 rfl) ?_
    refine g_geti (pc := 12) C w h0 ff_X11_6 lk_X11_178 dX11_town_12 ?_
    refine g_puti (pc := 15) C w h0 ff_X11_12 fw_X11_12 lk_X11_288 dX11_town_15 (fun s_3 H locs es_3 w => ?_)
    have hw := hw s_3 es_3
    refine lv_aload_n (pc := 18) C.1 C.2.1 dX11_town_18 rfl (lv_at hl 0 rfl) ?_
    refine lv_aload_n (pc := 19) C.1 C.2.1 dX11_town_19 rfl (lv_at hl 0 rfl) ?_
    refine g_geti (pc := 20) C w h0 ff_X11_8 lk_X11_189 dX11_town_20 ?_
    refine g_puti (pc := 23) C w h0 ff_X11_14 fw_X11_14 lk_X11_291 dX11_town_23 (fun s_4 H locs es_4 w => ?_)
    have hw := hw s_4 es_4
    refine lv_iconst (pc := 26) (v := mm_I 0) C.1 C.2.1 dX11_town_26 rfl ?_
    refine lv_istore_n (pc := 27) (lv' := [(1, .int (mm_I 0)), (0, .ref (mm_ad G this))]) C.1 C.2.1 dX11_town_27 rfl hl (by decide) rfl (fun ls hl => ?_)
    exact hw  _ _ _ w (lv_sub hl [1, 0] rfl)
  · have hw := hw.2 hc
    refine lv_iconst (pc := 8) (v := mm_I (-1)) C.1 C.2.1 dX11_town_8 rfl ?_
    exact g_iret (pc := 9) C w hr hk hw dX11_town_9
