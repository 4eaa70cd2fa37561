theorem ml_X11_155 : Cond.methodLink RX11 155 yJ0_length_8abf5 ∈ mm_ws := (mt_6 208 rfl rfl)
theorem ml_X11_161 : Cond.methodLink RX11 161 yJ0_charAt_5068e ∈ mm_ws := (mt_6 209 rfl rfl)
def wp_X11_packed (a1 : Nat) (s0 : mm_M) (post : Int → mm_M → Prop) : Prop :=
  ∀ (L4 : Int → Int → mm_M → Prop), 
  (∀ (v1 : Int) (v3 : Int) (s1 : mm_M), (wp_J0_length_8abf5 a1 s1 (fun r_4 s_3 => ((n32 r_4 ≤ n32 v3 → post v1 s_3) ∧ (¬ n32 r_4 ≤ n32 v3 → (wp_J0_charAt_5068e a1 v3 s_3 (fun r_6 s_5 => (∀ v1_7 : Int, v1_7 = mm_lorL (mm_lshl v1 8) (n32 r_6) → (∀ v3_8 : Int, v3_8 = v3 + 1 → L4 v1_7 v3_8 s_5)))))))) → L4 v1 v3 s1) →
  L4 0 0 s0
set_option maxRecDepth 100000 in
set_option maxHeartbeats 4000000 in
theorem c_X11_packed (l : Launch) (G : mm_G) (a1 : Nat) (k1 : a1 < mm_nS) (s0 : mm_M) (post : Int → mm_M → Prop) (hw : wp_X11_packed a1 s0 post) : Met l yX11_packed (mm_wm yX11_packed cX11_packed 4 (some .long)) (mm_rm 5) (va_Pc [.ref (G.2.2.2.1 a1)] (mm_pre G s0)) (mm_Ql G post) 0 0 (mm_A G) := by
  refine mm_met (own := RX11) (by decide) rfl (Nat.le_of_ble_eq_true rfl) ?_
  intro p e s m args below meth c C hr hk
  unfold wp_X11_packed at hw
  have hw := hw (fun (v1 : Int) (v3 : Int) (u : mm_M) => mm_X p l e (mm_rm 5) s m args below meth c (MQ below (mm_Ql G post) args s 0 0 (mm_A G)) G (mm_A G) 4 4 [(0, .ref (G.2.2.2.1 a1)), (1, .long (mm_L v1)), (3, .int (mm_I v3))] [] u)
  have hw := hw (by
    intro v1 v3 s1 hw  H locs ls w hl
    refine lv_iload_n (pc := 4) C.1 C.2.1 dX11_packed_4 rfl (lv_at hl 2 rfl) ?_
    refine lv_aload_n (pc := 5) C.1 C.2.1 dX11_packed_5 rfl (lv_at hl 0 rfl) ?_
    refine g_calli (pc := 6) w (mm_runT (As := []) (rest := [.int (mm_I v3)]) C w (c_J0_length_8abf5 l G a1 k1 s1 _ hw) k1 rfl cv_J0_length_8abf5 ml_X11_155 ⟨Nat.le_of_ble_eq_true rfl, Nat.le_of_ble_eq_true rfl⟩ ⟨Nat.le_of_ble_eq_true rfl, Nat.le_of_ble_eq_true rfl⟩ rfl hl.1 rfl (Nat.le_of_ble_eq_true rfl) dX11_packed_6) (fun r_4 s_3 H locs hw w => ?_)
    refine g_icmp_ge (pc := 9) (tgt := 30) C rfl rfl dX11_packed_9 (by decide) (fun hc => ?_) (fun hc => ?_)
    · have hw := hw.1 hc
      refine lv_lload_n (pc := 30) C.1 C.2.1 dX11_packed_30 rfl (lv_at hl 1 rfl) ?_
      exact g_lret (pc := 31) C w hr hk hw dX11_packed_31
    · have hw := hw.2 hc
      refine lv_lload_n (pc := 12) C.1 C.2.1 dX11_packed_12 rfl (lv_at hl 1 rfl) ?_
      refine lv_bipush (pc := 13) C.1 C.2.1 dX11_packed_13 mb_8 ?_
      refine g_lshl (pc := 15) C dX11_packed_15 ?_
      refine lv_aload_n (pc := 16) C.1 C.2.1 dX11_packed_16 rfl (lv_at hl 0 rfl) ?_
      refine lv_iload_n (pc := 17) C.1 C.2.1 dX11_packed_17 rfl (lv_at hl 2 rfl) ?_
      refine g_calli (pc := 18) w (mm_runT (As := [.int (mm_I v3)]) (rest := [.long (mm_L (mm_lshl v1 8))]) C w (c_J0_charAt_5068e l G a1 v3 k1 s_3 _ hw) k1 rfl cv_J0_charAt_5068e ml_X11_161 ⟨Nat.le_of_ble_eq_true rfl, Nat.le_of_ble_eq_true rfl⟩ ⟨Nat.le_of_ble_eq_true rfl, Nat.le_of_ble_eq_true rfl⟩ rfl hl.1 rfl (Nat.le_of_ble_eq_true rfl) dX11_packed_18) (fun r_6 s_5 H locs hw w => ?_)
      refine g_i2l (pc := 21) C rfl dX11_packed_21 ?_
      refine g_lor (pc := 22) C dX11_packed_22 ?_
      refine g_lstore_n (pc := 23) C dX11_packed_23 rfl hl (by decide) (fun v1_7 ev1_7 ls hl => ?_)
      have hw := hw v1_7 ev1_7
      have hl : lv_has ls 4 [(1, .long (mm_L v1_7)), (0, .ref (G.2.2.2.1 a1)), (3, .int (mm_I v3))] := hl
      refine g_iinc (pc := 24) (k := 2) C dX11_packed_24 hl rfl (by decide) (fun v3_8 ev3_8 ls hl => ?_)
      have hw := hw v3_8 ev3_8
      have hl : lv_has ls 4 [(3, .int (mm_I v3_8)), (1, .long (mm_L v1_7)), (0, .ref (G.2.2.2.1 a1))] := hl
      refine lv_goto (pc := 27) (tgt := 4) C.1 C.2.1 dX11_packed_27 (by decide) ?_
      exact hw  _ _ _ w (lv_sub hl [2, 1, 0] rfl))
  intro H locs ls w hl
  have hl : lv_has ls 4 [(0, .ref (G.2.2.2.1 a1))] := hl
  refine lv_lconst (pc := 0) (v := mm_L 0) C.1 C.2.1 dX11_packed_0 rfl ?_
  refine lv_lstore_n (pc := 1) (lv' := [(1, .long (mm_L 0)), (0, .ref (G.2.2.2.1 a1))]) C.1 C.2.1 dX11_packed_1 rfl hl (by decide) rfl (fun ls hl => ?_)
  refine lv_iconst (pc := 2) (v := mm_I 0) C.1 C.2.1 dX11_packed_2 rfl ?_
  refine lv_istore_n (pc := 3) (lv' := [(3, .int (mm_I 0)), (1, .long (mm_L 0)), (0, .ref (G.2.2.2.1 a1))]) C.1 C.2.1 dX11_packed_3 rfl hl (by decide) rfl (fun ls hl => ?_)
  exact hw  _ _ _ w (lv_sub hl [2, 1, 0] rfl)
theorem cs_X11_packed : mm_S yX11_packed cX11_packed 4 (some .long) 1 := ⟨(mt_6 207 rfl rfl), (mt_6 206 rfl rfl), (mt_1 12 rfl rfl), by decide, by decide, by decide +kernel⟩
theorem ml_X11_165 : Cond.methodLink RX11 165 yX11_packed ∈ mm_ws := (mt_6 205 rfl rfl)
def wp_X11_isWord (this : Nat) (a1 : Nat) (s0 : mm_M) (post : Int → mm_M → Prop) : Prop :=
  ((¬ n32 (s0 this 3) = 1 → post 0 s0) ∧ (n32 (s0 this 3) = 1 → (wp_X11_packed a1 s0 (fun r_2 s_1 => ((¬ n64 (s0 this 5) = n64 r_2 → post 0 s_1) ∧ (n64 (s0 this 5) = n64 r_2 → post 1 s_1))))))
set_option maxRecDepth 100000 in
set_option maxHeartbeats 4000000 in
theorem c_X11_isWord (l : Launch) (G : mm_G) (this : Nat) (a1 : Nat) (h0 : mm_ok this 21 0) (k1 : a1 < mm_nS) (s0 : mm_M) (post : Int → mm_M → Prop) (hw : wp_X11_isWord this a1 s0 post) : Met l yX11_isWord (mm_wm yX11_isWord cX11_isWord 2 (some .boolean)) (mm_rm 6) (va_Pc [.ref (mm_ad G this), .ref (G.2.2.2.1 a1)] (mm_pre G s0)) (mm_Qi G post) 0 0 (mm_A G) := by
  refine mm_met (own := RX11) (by decide) rfl (Nat.le_of_ble_eq_true rfl) ?_
  intro p e s m args below meth c C hr hk
  unfold wp_X11_isWord at hw
  intro H locs ls w hl
  have hl : lv_has ls 2 [(0, .ref (mm_ad G this)), (1, .ref (G.2.2.2.1 a1))] := hl
  refine lv_aload_n (pc := 0) C.1 C.2.1 dX11_isWord_0 rfl (lv_at hl 0 rfl) ?_
  refine g_geti (pc := 1) C w h0 ff_X11_3 lk_X11_136 dX11_isWord_1 ?_
  refine lv_iconst (pc := 4) (v := mm_I 1) C.1 C.2.1 dX11_isWord_4 rfl ?_
  refine g_icmp_ne (pc := 5) (tgt := 24) C rfl mn_1 dX11_isWord_5 (by decide) (fun hc => ?_) (fun hc => ?_)
  · have hw := hw.1 hc
    refine lv_iconst (pc := 24) (v := mm_I 0) C.1 C.2.1 dX11_isWord_24 rfl ?_
    exact g_zret (pc := 25) C w hr hk (by decide) hw dX11_isWord_25
  · have hw := hw.2 hc
    refine lv_aload_n (pc := 8) C.1 C.2.1 dX11_isWord_8 rfl (lv_at hl 0 rfl) ?_
    refine g_getl (pc := 9) C w h0 ff_X11_5 lk_X11_132 dX11_isWord_9 ?_
    refine lv_aload_n (pc := 12) C.1 C.2.1 dX11_isWord_12 rfl (lv_at hl 1 rfl) ?_
    refine g_calll (pc := 13) w (mm_runS (As := [.ref (G.2.2.2.1 a1)]) (rest := [.long (mm_L (s0 this 5))]) C w (c_X11_packed l G a1 k1 s0 _ hw) cs_X11_packed ml_X11_165 ⟨Nat.le_of_ble_eq_true rfl, Nat.le_of_ble_eq_true rfl⟩ ⟨Nat.le_of_ble_eq_true rfl, Nat.le_of_ble_eq_true rfl⟩ rfl hl.1 rfl (Nat.le_of_ble_eq_true rfl) dX11_isWord_13) (fun r_2 s_1 H locs hw w => ?_)
    refine g_lcmp (pc := 16) C dX11_isWord_16 ?_
    refine g_lif_ne (pc := 17) (tgt := 24) C rfl rfl dX11_isWord_17 (by decide) (fun hc => ?_) (fun hc => ?_)
    · have hw := hw.1 hc
      refine lv_iconst (pc := 24) (v := mm_I 0) C.1 C.2.1 dX11_isWord_24 rfl ?_
      exact g_zret (pc := 25) C w hr hk (by decide) hw dX11_isWord_25
    · have hw := hw.2 hc
      refine lv_iconst (pc := 20) (v := mm_I 1) C.1 C.2.1 dX11_isWord_20 rfl ?_
      refine lv_goto (pc := 21) (tgt := 25) C.1 C.2.1 dX11_isWord_21 (by decide) ?_
      exact g_zret (pc := 25) C w hr hk (by decide) hw dX11_isWord_25
def wp_X11_isSign (this : Nat) (a1 : Int) (s0 : mm_M) (post : Int → mm_M → Prop) : Prop :=
  ((¬ n32 (s0 this 3) = 3 → post 0 s0) ∧ (n32 (s0 this 3) = 3 → ((¬ n64 (s0 this 5) = n64 (n32 a1) → post 0 s0) ∧ (n64 (s0 this 5) = n64 (n32 a1) → post 1 s0))))
set_option maxRecDepth 100000 in
set_option maxHeartbeats 4000000 in
theorem c_X11_isSign (l : Launch) (G : mm_G) (this : Nat) (a1 : Int) (h0 : mm_ok this 21 0) (s0 : mm_M) (post : Int → mm_M → Prop) (hw : wp_X11_isSign this a1 s0 post) : Met l yX11_isSign (mm_wm yX11_isSign cX11_isSign 2 (some .boolean)) (mm_rm 1) (va_Pc [.ref (mm_ad G this), .int (mm_I a1)] (mm_pre G s0)) (mm_Qi G post) 0 0 (mm_A G) := by
  refine mm_met (own := RX11) (by decide) rfl (Nat.le_of_ble_eq_true rfl) ?_
  intro p e s m args below meth c C hr hk
  unfold wp_X11_isSign at hw
  intro H locs ls w hl
  have hl : lv_has ls 2 [(0, .ref (mm_ad G this)), (1, .int (mm_I a1))] := hl
  refine lv_aload_n (pc := 0) C.1 C.2.1 dX11_isSign_0 rfl (lv_at hl 0 rfl) ?_
  refine g_geti (pc := 1) C w h0 ff_X11_3 lk_X11_136 dX11_isSign_1 ?_
  refine lv_iconst (pc := 4) (v := mm_I 3) C.1 C.2.1 dX11_isSign_4 rfl ?_
  refine g_icmp_ne (pc := 5) (tgt := 22) C rfl mn_3 dX11_isSign_5 (by decide) (fun hc => ?_) (fun hc => ?_)
  · have hw := hw.1 hc
    refine lv_iconst (pc := 22) (v := mm_I 0) C.1 C.2.1 dX11_isSign_22 rfl ?_
    exact g_zret (pc := 23) C w hr hk (by decide) hw dX11_isSign_23
  · have hw := hw.2 hc
    refine lv_aload_n (pc := 8) C.1 C.2.1 dX11_isSign_8 rfl (lv_at hl 0 rfl) ?_
    refine g_getl (pc := 9) C w h0 ff_X11_5 lk_X11_132 dX11_isSign_9 ?_
    refine lv_iload_n (pc := 12) C.1 C.2.1 dX11_isSign_12 rfl (lv_at hl 1 rfl) ?_
    refine g_i2l (pc := 13) C rfl dX11_isSign_13 ?_
    refine g_lcmp (pc := 14) C dX11_isSign_14 ?_
    refine g_lif_ne (pc := 15) (tgt := 22) C rfl rfl dX11_isSign_15 (by decide) (fun hc => ?_) (fun hc => ?_)
    · have hw := hw.1 hc
      refine lv_iconst (pc := 22) (v := mm_I 0) C.1 C.2.1 dX11_isSign_22 rfl ?_
      exact g_zret (pc := 23) C w hr hk (by decide) hw dX11_isSign_23
    · have hw := hw.2 hc
      refine lv_iconst (pc := 18) (v := mm_I 1) C.1 C.2.1 dX11_isSign_18 rfl ?_
      refine lv_goto (pc := 19) (tgt := 23) C.1 C.2.1 dX11_isSign_19 (by decide) ?_
      exact g_zret (pc := 23) C w hr hk (by decide) hw dX11_isSign_23
theorem lk_X11_169 : Cond.fieldLink RX11 169 "LastServedModel" "told" "I" ∈ mm_ws := (mt_6 8 rfl rfl)
theorem ff_X11_44 : mm_F 11 44 0 RX11 TX11 65 := ⟨rfl, by decide, fk_X11, rfl, rfl⟩
theorem fw_X11_44 : mm_Fw 11 44 TX11 65 .int := ⟨⟨tyX11, tyX11_ok⟩, nmX11, rfl, by decide +kernel⟩
theorem cv_X11_leads : mm_V yX11_leads cX11_leads 2 none 0 := ⟨(mt_6 183 rfl rfl), (mt_6 182 rfl rfl), (mp_3 13 rfl rfl), (mt_1 12 rfl rfl), by decide, by decide, by decide +kernel⟩
theorem ml_X11_172 : Cond.methodLink RX11 172 yX11_leads ∈ mm_ws := (mt_6 180 rfl rfl)
def wp_X11_number (this : Nat) (a1 : Int) (a2 : Int) (s0 : mm_M) (post : Int → mm_M → Prop) : Prop :=
  ((¬ n32 (s0 this 3) = 2 → post 0 s0) ∧ (n32 (s0 this 3) = 2 → ((n64 (s0 this 5) < n64 (n32 a1) → post 0 s0) ∧ (¬ n64 (s0 this 5) < n64 (n32 a1) → ((n64 (s0 this 5) ≤ n64 (n32 a2) → (∀ s_1 : mm_M, s_1 = mm_up s0 this 44 (s0 this 5) → (wp_X11_leads this s_1 (fun s_2 => post 1 s_2)))) ∧ (¬ n64 (s0 this 5) ≤ n64 (n32 a2) → post 0 s0))))))
set_option maxRecDepth 100000 in
set_option maxHeartbeats 4000000 in
theorem c_X11_number (l : Launch) (G : mm_G) (this : Nat) (a1 : Int) (a2 : Int) (h0 : mm_ok this 21 0) (s0 : mm_M) (post : Int → mm_M → Prop) (hw : wp_X11_number this a1 a2 s0 post) : Met l yX11_number (mm_wm yX11_number cX11_number 3 (some .boolean)) (mm_rm 3) (va_Pc [.ref (mm_ad G this), .int (mm_I a1), .int (mm_I a2)] (mm_pre G s0)) (mm_Qi G post) 0 0 (mm_A G) := by
  refine mm_met (own := RX11) (by decide) rfl (Nat.le_of_ble_eq_true rfl) ?_
  intro p e s m args below meth c C hr hk
  unfold wp_X11_number at hw
  intro H locs ls w hl
  have hl : lv_has ls 3 [(0, .ref (mm_ad G this)), (1, .int (mm_I a1)), (2, .int (mm_I a2))] := hl
  refine lv_aload_n (pc := 0) C.1 C.2.1 dX11_number_0 rfl (lv_at hl 0 rfl) ?_
  refine g_geti (pc := 1) C w h0 ff_X11_3 lk_X11_136 dX11_number_1 ?_
  refine lv_iconst (pc := 4) (v := mm_I 2) C.1 C.2.1 dX11_number_4 rfl ?_
  refine g_icmp_ne (pc := 5) (tgt := 28) C rfl mn_2 dX11_number_5 (by decide) (fun hc => ?_) (fun hc => ?_)
  · have hw := hw.1 hc
    refine lv_iconst (pc := 28) (v := mm_I 0) C.1 C.2.1 dX11_number_28 rfl ?_
    exact g_zret (pc := 29) C w hr hk (by decide) hw dX11_number_29
  · have hw := hw.2 hc
    refine lv_aload_n (pc := 8) C.1 C.2.1 dX11_number_8 rfl (lv_at hl 0 rfl) ?_
    refine g_getl (pc := 9) C w h0 ff_X11_5 lk_X11_132 dX11_number_9 ?_
    refine lv_iload_n (pc := 12) C.1 C.2.1 dX11_number_12 rfl (lv_at hl 1 rfl) ?_
    refine g_i2l (pc := 13) C rfl dX11_number_13 ?_
    refine g_lcmp (pc := 14) C dX11_number_14 ?_
    refine g_lif_lt (pc := 15) (tgt := 28) C rfl rfl dX11_number_15 (by decide) (fun hc => ?_) (fun hc => ?_)
    · have hw := hw.1 hc
      refine lv_iconst (pc := 28) (v := mm_I 0) C.1 C.2.1 dX11_number_28 rfl ?_
      exact g_zret (pc := 29) C w hr hk (by decide) hw dX11_number_29
    · have hw := hw.2 hc
      refine lv_aload_n (pc := 18) C.1 C.2.1 dX11_number_18 rfl (lv_at hl 0 rfl) ?_
      refine g_getl (pc := 19) C w h0 ff_X11_5 lk_X11_132 dX11_number_19 ?_
      refine lv_iload_n (pc := 22) C.1 C.2.1 dX11_number_22 rfl (lv_at hl 2 rfl) ?_
      refine g_i2l (pc := 23) C rfl dX11_number_23 ?_
      refine g_lcmp (pc := 24) C dX11_number_24 ?_
      refine g_lif_le (pc := 25) (tgt := 30) C rfl rfl dX11_number_25 (by decide) (fun hc => ?_) (fun hc => ?_)
      · have hw := hw.1 hc
        refine lv_aload_n (pc := 30) C.1 C.2.1 dX11_number_30 rfl (lv_at hl 0 rfl) ?_
        refine lv_aload_n (pc := 31) C.1 C.2.1 dX11_number_31 rfl (lv_at hl 0 rfl) ?_
        refine g_getl (pc := 32) C w h0 ff_X11_5 lk_X11_132 dX11_number_32 ?_
        refine g_l2i (pc := 35) C dX11_number_35 ?_
        refine g_puti (pc := 36) C w h0 ff_X11_44 fw_X11_44 lk_X11_169 dX11_number_36 (fun s_1 H locs es_1 w => ?_)
        have hw := hw s_1 es_1
        refine lv_aload_n (pc := 39) C.1 C.2.1 dX11_number_39 rfl (lv_at hl 0 rfl) ?_
        refine g_callv (pc := 40) w (mm_runV (ci := 11) (q := (RX11, TX11, 65)) (As := []) (rest := []) C w (c_X11_leads l G this h0 s_1 _ hw) h0 rfl rfl cv_X11_leads ml_X11_172 ⟨Nat.le_of_ble_eq_true rfl, Nat.le_of_ble_eq_true rfl⟩ ⟨Nat.le_of_ble_eq_true rfl, Nat.le_of_ble_eq_true rfl⟩ rfl hl.1 rfl (Nat.le_of_ble_eq_true rfl) dX11_number_40) (fun s_2 H locs hw w => ?_)
        refine lv_iconst (pc := 43) (v := mm_I 1) C.1 C.2.1 dX11_number_43 rfl ?_
        exact g_zret (pc := 44) C w hr hk (by decide) hw dX11_number_44
      · have hw := hw.2 hc
        refine lv_iconst (pc := 28) (v := mm_I 0) C.1 C.2.1 dX11_number_28 rfl ?_
        exact g_zret (pc := 29) C w hr hk (by decide) hw dX11_number_29
theorem cv_X11_isSign : mm_V yX11_isSign cX11_isSign 2 (some .boolean) 1 := ⟨(mt_6 225 rfl rfl), (mt_6 224 rfl rfl), (mp_4 3 rfl rfl), (mt_1 12 rfl rfl), by decide, by decide, by decide +kernel⟩
theorem ml_X11_175 : Cond.methodLink RX11 175 yX11_isSign ∈ mm_ws := (mt_6 222 rfl rfl)
def wp_X11_ends (this : Nat) (s0 : mm_M) (post : Int → mm_M → Prop) : Prop :=
  (wp_X11_isSign this 59 s0 (fun r_2 s_1 => ((¬ n32 r_2 = 0 → (wp_X11_leads this s_1 (fun s_3 => post 1 s_3))) ∧ (n32 r_2 = 0 → post 0 s_1))))
set_option maxRecDepth 100000 in
set_option maxHeartbeats 4000000 in
theorem c_X11_ends (l : Launch) (G : mm_G) (this : Nat) (h0 : mm_ok this 21 0) (s0 : mm_M) (post : Int → mm_M → Prop) (hw : wp_X11_ends this s0 post) : Met l yX11_ends (mm_wm yX11_ends cX11_ends 1 (some .boolean)) (mm_rm 3) (va_Pc [.ref (mm_ad G this)] (mm_pre G s0)) (mm_Qi G post) 0 0 (mm_A G) := by
  refine mm_met (own := RX11) (by decide) rfl (Nat.le_of_ble_eq_true rfl) ?_
  intro p e s m args below meth c C hr hk
  unfold wp_X11_ends at hw
  intro H locs ls w hl
  have hl : lv_has ls 1 [(0, .ref (mm_ad G this))] := hl
  refine lv_aload_n (pc := 0) C.1 C.2.1 dX11_ends_0 rfl (lv_at hl 0 rfl) ?_
  refine lv_bipush (pc := 1) C.1 C.2.1 dX11_ends_1 mb_59 ?_
  refine g_calli (pc := 3) w (mm_runV (ci := 11) (q := (RX11, TX11, 65)) (As := [.int (mm_I 59)]) (rest := []) C w (c_X11_isSign l G this 59 h0 s0 _ hw) h0 rfl rfl cv_X11_isSign ml_X11_175 ⟨Nat.le_of_ble_eq_true rfl, Nat.le_of_ble_eq_true rfl⟩ ⟨Nat.le_of_ble_eq_true rfl, Nat.le_of_ble_eq_true rfl⟩ rfl hl.1 rfl (Nat.le_of_ble_eq_true rfl) dX11_ends_3) (fun r_2 s_1 H locs hw w => ?_)
  refine g_if_ne (pc := 6) (tgt := 11) C rfl dX11_ends_6 (by decide) (fun hc => ?_) (fun hc => ?_)
  · have hw := hw.1 hc
    refine lv_aload_n (pc := 11) C.1 C.2.1 dX11_ends_11 rfl (lv_at hl 0 rfl) ?_
    refine g_callv (pc := 12) w (mm_runV (ci := 11) (q := (RX11, TX11, 65)) (As := []) (rest := []) C w (c_X11_leads l G this h0 s_1 _ hw) h0 rfl rfl cv_X11_leads ml_X11_172 ⟨Nat.le_of_ble_eq_true rfl, Nat.le_of_ble_eq_true rfl⟩ ⟨Nat.le_of_ble_eq_true rfl, Nat.le_of_ble_eq_true rfl⟩ rfl hl.1 rfl (Nat.le_of_ble_eq_true rfl) dX11_ends_12) (fun s_3 H locs hw w => ?_)
    refine lv_iconst (pc := 15) (v := mm_I 1) C.1 C.2.1 dX11_ends_15 rfl ?_
    exact g_zret (pc := 16) C w hr hk (by decide) hw dX11_ends_16
  · have hw := hw.2 hc
    refine lv_iconst (pc := 9) (v := mm_I 0) C.1 C.2.1 dX11_ends_9 rfl ?_
    exact g_zret (pc := 10) C w hr hk (by decide) hw dX11_ends_10
theorem lk_X11_178 : Cond.fieldLink RX11 178 "LastServedModel" "newCounters" "I" ∈ mm_ws := (mt_5 210 rfl rfl)
theorem ff_X11_6 : mm_F 11 6 0 RX11 TX11 65 := ⟨rfl, by decide, fk_X11, rfl, rfl⟩
theorem fw_X11_6 : mm_Fw 11 6 TX11 65 .int := ⟨⟨tyX11, tyX11_ok⟩, nmX11, rfl, by decide +kernel⟩
theorem cv_X11_ends : mm_V yX11_ends cX11_ends 1 (some .boolean) 0 := ⟨(mt_6 221 rfl rfl), (mt_6 220 rfl rfl), (mp_4 2 rfl rfl), (mt_1 12 rfl rfl), by decide, by decide, by decide +kernel⟩
theorem ml_X11_185 : Cond.methodLink RX11 185 yX11_ends ∈ mm_ws := (mt_6 218 rfl rfl)
theorem cv_X11_number : mm_V yX11_number cX11_number 3 (some .boolean) 2 := ⟨(mt_6 217 rfl rfl), (mt_6 216 rfl rfl), (mp_4 1 rfl rfl), (mt_1 12 rfl rfl), by decide, by decide, by decide +kernel⟩
theorem ml_X11_181 : Cond.methodLink RX11 181 yX11_number ∈ mm_ws := (mt_6 214 rfl rfl)
theorem lk_X11_13 : Cond.fieldLink RX11 13 "LastServedModel" "newCounter" "[I" ∈ mm_ws := (mt_5 211 rfl rfl)
theorem ff_X11_7 : mm_F 11 7 1 RX11 TX11 65 := ⟨rfl, by decide, fk_X11, rfl, rfl⟩
theorem ro_X11_7 {i : Nat} (h : mm_ok i 21 0) : mm_ok (mm_rt i 7) 0 9 := by
  have q : ∀ i, i < mm_N → mm_kd i = 21 → mm_rt i 7 < mm_N ∧ mm_kd (mm_rt i 7) = 0 ∧ mm_ln (mm_rt i 7) = 9 := by decide +kernel
  exact q i h.1 h.2.1
def wp_X11_counterLine (this : Nat) (s0 : mm_M) (post : Int → mm_M → Prop) : Prop :=
  ∀ (L16 : Int → mm_M → Prop), ∀ (L32 : Int → Int → mm_M → Prop), ∀ (L53 : Int → Int → Int → mm_M → Prop), 
  (∀ (v1 : Int) (s1 : mm_M), ((3 ≤ n32 v1 → (∀ s_4 : mm_M, s_4 = mm_up s1 this 6 ((s1 this 6) + 1) → (wp_X11_ends this s_4 (fun r_6 s_5 => ((r_6 = 0 ∨ r_6 = 1) ∧ post r_6 s_5))))) ∧ (¬ 3 ≤ n32 v1 → ((¬ n32 v1 = 1 → L32 v1 0 s1) ∧ (n32 v1 = 1 → L32 v1 1 s1)))) → L16 v1 s1) →
  (∀ (v1 : Int) (q0 : Int) (s1 : mm_M), ((¬ n32 v1 = 0 → ((¬ n32 v1 = 1 → L53 v1 99 q0 s1) ∧ (n32 v1 = 1 → L53 v1 9 q0 s1))) ∧ (n32 v1 = 0 → L53 v1 8 q0 s1)) → L32 v1 q0 s1) →
  (∀ (v1 : Int) (q0 : Int) (q1 : Int) (s1 : mm_M), (wp_X11_number this q1 q0 s1 (fun r_8 s_7 => ((¬ n32 r_8 = 0 → ((0 ≤ (3 * (s_7 this 6)) + v1 ∧ (3 * (s_7 this 6)) + v1 < 9) ∧ (∀ s_9 : mm_M, s_9 = mm_up s_7 (mm_rt this 7) ((3 * (s_7 this 6)) + v1) (s_7 this 44) → (∀ v1_10 : Int, v1_10 = v1 + 1 → L16 v1_10 s_9)))) ∧ (n32 r_8 = 0 → post 0 s_7)))) → L53 v1 q0 q1 s1) →
  ((¬ n32 (s0 this 6) = 3 → (wp_X11_leads this s0 (fun s_1 => L16 0 s_1))) ∧ (n32 (s0 this 6) = 3 → post 0 s0))
set_option maxRecDepth 100000 in
set_option maxHeartbeats 4000000 in
theorem c_X11_counterLine (l : Launch) (G : mm_G) (this : Nat) (h0 : mm_ok this 21 0) (s0 : mm_M) (post : Int → mm_M → Prop) (hw : wp_X11_counterLine this s0 post) : Met l yX11_counterLine (mm_wm yX11_counterLine cX11_counterLine 2 (some .boolean)) (mm_rm 4) (va_Pc [.ref (mm_ad G this)] (mm_pre G s0)) (mm_Qi G post) 0 0 (mm_A G) := by
  refine mm_met (own := RX11) (by decide) rfl (Nat.le_of_ble_eq_true rfl) ?_
  intro p e s m args below meth c C hr hk
  unfold wp_X11_counterLine at hw
  have hw := hw (fun (v1 : Int) (u : mm_M) => mm_X p l e (mm_rm 4) s m args below meth c (MQ below (mm_Qi G post) args s 0 0 (mm_A G)) G (mm_A G) 2 16 [(0, .ref (mm_ad G this)), (1, .int (mm_I v1))] [] u)
  have hw := hw (fun (v1 : Int) (q0 : Int) (u : mm_M) => mm_X p l e (mm_rm 4) s m args below meth c (MQ below (mm_Qi G post) args s 0 0 (mm_A G)) G (mm_A G) 2 32 [(0, .ref (mm_ad G this)), (1, .int (mm_I v1))] [.int (mm_I q0), .ref (mm_ad G this)] u)
  have hw := hw (fun (v1 : Int) (q0 : Int) (q1 : Int) (u : mm_M) => mm_X p l e (mm_rm 4) s m args below meth c (MQ below (mm_Qi G post) args s 0 0 (mm_A G)) G (mm_A G) 2 53 [(0, .ref (mm_ad G this)), (1, .int (mm_I v1))] [.int (mm_I q0), .int (mm_I q1), .ref (mm_ad G this)] u)
  have hw := hw (by
    intro v1 s1 hw  H locs ls w hl
    refine lv_iload_n (pc := 16) C.1 C.2.1 dX11_counterLine_16 rfl (lv_at hl 1 rfl) ?_
    refine lv_iconst (pc := 17) (v := mm_I 3) C.1 C.2.1 dX11_counterLine_17 rfl ?_
    refine g_icmp_ge (pc := 18) (tgt := 84) C rfl mn_3 dX11_counterLine_18 (by decide) (fun hc => ?_) (fun hc => ?_)
    · have hw := hw.1 hc
      refine lv_aload_n (pc := 84) C.1 C.2.1 dX11_counterLine_84 rfl (lv_at hl 0 rfl) ?_
      refine lv_dup (pc := 85) C.1 C.2.1 dX11_counterLine_85 rfl ?_
      refine g_geti (pc := 86) C w h0 ff_X11_6 lk_X11_178 dX11_counterLine_86 ?_
      refine lv_iconst (pc := 89) (v := mm_I 1) C.1 C.2.1 dX11_counterLine_89 rfl ?_
      refine g_iadd (pc := 90) C dX11_counterLine_90 ?_
      refine g_puti (pc := 91) C w h0 ff_X11_6 fw_X11_6 lk_X11_178 dX11_counterLine_91 (fun s_4 H locs es_4 w => ?_)
      have hw := hw s_4 es_4
      refine lv_aload_n (pc := 94) C.1 C.2.1 dX11_counterLine_94 rfl (lv_at hl 0 rfl) ?_
      refine g_calli (pc := 95) w (mm_runV (ci := 11) (q := (RX11, TX11, 65)) (As := []) (rest := []) C w (c_X11_ends l G this h0 s_4 _ hw) h0 rfl rfl cv_X11_ends ml_X11_185 ⟨Nat.le_of_ble_eq_true rfl, Nat.le_of_ble_eq_true rfl⟩ ⟨Nat.le_of_ble_eq_true rfl, Nat.le_of_ble_eq_true rfl⟩ rfl hl.1 rfl (Nat.le_of_ble_eq_true rfl) dX11_counterLine_95) (fun r_6 s_5 H locs hw w => ?_)
      obtain ⟨hb, hw⟩ := hw
      exact g_zret (pc := 98) C w hr hk hb hw dX11_counterLine_98
    · have hw := hw.2 hc
      refine lv_aload_n (pc := 21) C.1 C.2.1 dX11_counterLine_21 rfl (lv_at hl 0 rfl) ?_
      refine lv_iload_n (pc := 22) C.1 C.2.1 dX11_counterLine_22 rfl (lv_at hl 1 rfl) ?_
      refine lv_iconst (pc := 23) (v := mm_I 1) C.1 C.2.1 dX11_counterLine_23 rfl ?_
      refine g_icmp_ne (pc := 24) (tgt := 31) C rfl mn_1 dX11_counterLine_24 (by decide) (fun hc => ?_) (fun hc => ?_)
      · have hw := hw.1 hc
        refine lv_iconst (pc := 31) (v := mm_I 0) C.1 C.2.1 dX11_counterLine_31 rfl ?_
        exact hw  _ _ _ w (lv_sub hl [0, 1] rfl)
      · have hw := hw.2 hc
        refine lv_iconst (pc := 27) (v := mm_I 1) C.1 C.2.1 dX11_counterLine_27 rfl ?_
        refine lv_goto (pc := 28) (tgt := 32) C.1 C.2.1 dX11_counterLine_28 (by decide) ?_
        exact hw  _ _ _ w (lv_sub hl [0, 1] rfl))
  have hw := hw (by
    intro v1 q0 s1 hw  H locs ls w hl
    refine lv_iload_n (pc := 32) C.1 C.2.1 dX11_counterLine_32 rfl (lv_at hl 1 rfl) ?_
    refine g_if_ne (pc := 33) (tgt := 41) C rfl dX11_counterLine_33 (by decide) (fun hc => ?_) (fun hc => ?_)
    · have hw := hw.1 hc
      refine lv_iload_n (pc := 41) C.1 C.2.1 dX11_counterLine_41 rfl (lv_at hl 1 rfl) ?_
      refine lv_iconst (pc := 42) (v := mm_I 1) C.1 C.2.1 dX11_counterLine_42 rfl ?_
      refine g_icmp_ne (pc := 43) (tgt := 51) C rfl mn_1 dX11_counterLine_43 (by decide) (fun hc => ?_) (fun hc => ?_)
      · have hw := hw.1 hc
        refine lv_bipush (pc := 51) C.1 C.2.1 dX11_counterLine_51 mb_99 ?_
        exact hw  _ _ _ w (lv_sub hl [0, 1] rfl)
      · have hw := hw.2 hc
        refine lv_bipush (pc := 46) C.1 C.2.1 dX11_counterLine_46 mb_9 ?_
        refine lv_goto (pc := 48) (tgt := 53) C.1 C.2.1 dX11_counterLine_48 (by decide) ?_
        exact hw  _ _ _ w (lv_sub hl [0, 1] rfl)
    · have hw := hw.2 hc
      refine lv_bipush (pc := 36) C.1 C.2.1 dX11_counterLine_36 mb_8 ?_
      refine lv_goto (pc := 38) (tgt := 53) C.1 C.2.1 dX11_counterLine_38 (by decide) ?_
      exact hw  _ _ _ w (lv_sub hl [0, 1] rfl))
  have hw := hw (by
    intro v1 q0 q1 s1 hw  H locs ls w hl
    refine g_calli (pc := 53) w (mm_runV (ci := 11) (q := (RX11, TX11, 65)) (As := [.int (mm_I q1), .int (mm_I q0)]) (rest := []) C w (c_X11_number l G this q1 q0 h0 s1 _ hw) h0 rfl rfl cv_X11_number ml_X11_181 ⟨Nat.le_of_ble_eq_true rfl, Nat.le_of_ble_eq_true rfl⟩ ⟨Nat.le_of_ble_eq_true rfl, Nat.le_of_ble_eq_true rfl⟩ rfl hl.1 rfl (Nat.le_of_ble_eq_true rfl) dX11_counterLine_53) (fun r_8 s_7 H locs hw w => ?_)
    refine g_if_ne (pc := 56) (tgt := 61) C rfl dX11_counterLine_56 (by decide) (fun hc => ?_) (fun hc => ?_)
    · have hw := hw.1 hc
      refine lv_aload_n (pc := 61) C.1 C.2.1 dX11_counterLine_61 rfl (lv_at hl 0 rfl) ?_
      refine g_getr (pc := 62) C w h0 ff_X11_7 lk_X11_13 dX11_counterLine_62 ?_
      refine lv_iconst (pc := 65) (v := mm_I 3) C.1 C.2.1 dX11_counterLine_65 rfl ?_
      refine lv_aload_n (pc := 66) C.1 C.2.1 dX11_counterLine_66 rfl (lv_at hl 0 rfl) ?_
      refine g_geti (pc := 67) C w h0 ff_X11_6 lk_X11_178 dX11_counterLine_67 ?_
      refine g_imul (pc := 70) C dX11_counterLine_70 ?_
      refine lv_iload_n (pc := 71) C.1 C.2.1 dX11_counterLine_71 rfl (lv_at hl 1 rfl) ?_
      refine g_iadd (pc := 72) C dX11_counterLine_72 ?_
      refine lv_aload_n (pc := 73) C.1 C.2.1 dX11_counterLine_73 rfl (lv_at hl 0 rfl) ?_
      refine g_geti (pc := 74) C w h0 ff_X11_44 lk_X11_169 dX11_counterLine_74 ?_
      obtain ⟨hi, hw⟩ := hw
      refine g_iast (pc := 77) C w (ro_X11_7 h0) hi  dX11_counterLine_77 (fun s_9 H locs es_9 w => ?_)
      have hw := hw s_9 es_9
      refine g_iinc (pc := 78) (k := 1) C dX11_counterLine_78 hl rfl (by decide) (fun v1_10 ev1_10 ls hl => ?_)
      have hw := hw v1_10 ev1_10
      have hl : lv_has ls 2 [(1, .int (mm_I v1_10)), (0, .ref (mm_ad G this))] := hl
      refine lv_goto (pc := 81) (tgt := 16) C.1 C.2.1 dX11_counterLine_81 (by decide) ?_
      exact hw  _ _ _ w (lv_sub hl [1, 0] rfl)
    · have hw := hw.2 hc
      refine lv_iconst (pc := 59) (v := mm_I 0) C.1 C.2.1 dX11_counterLine_59 rfl ?_
      exact g_zret (pc := 60) C w hr hk (by decide) hw dX11_counterLine_60)
  intro H locs ls w hl
  have hl : lv_has ls 2 [(0, .ref (mm_ad G this))] := hl
  refine lv_aload_n (pc := 0) C.1 C.2.1 dX11_counterLine_0 rfl (lv_at hl 0 rfl) ?_
  refine g_geti (pc := 1) C w h0 ff_X11_6 lk_X11_178 dX11_counterLine_1 ?_
  refine lv_iconst (pc := 4) (v := mm_I 3) C.1 C.2.1 dX11_counterLine_4 rfl ?_
  refine g_icmp_ne (pc := 5) (tgt := 10) C rfl mn_3 dX11_counterLine_5 (by decide) (fun hc => ?_) (fun hc => ?_)
  · have hw := hw.1 hc
    refine lv_aload_n (pc := 10) C.1 C.2.1 dX11_counterLine_10 rfl (lv_at hl 0 rfl) ?_
    refine g_callv (pc := 11) w (mm_runV (ci := 11) (q := (RX11, TX11, 65)) (As := []) (rest := []) C w (c_X11_leads l G this h0 s0 _ hw) h0 rfl rfl cv_X11_leads ml_X11_172 ⟨Nat.le_of_ble_eq_true rfl, Nat.le_of_ble_eq_true rfl⟩ ⟨Nat.le_of_ble_eq_true rfl, Nat.le_of_ble_eq_true rfl⟩ rfl hl.1 rfl (Nat.le_of_ble_eq_true rfl) dX11_counterLine_11) (fun s_1 H locs hw w => ?_)
    refine lv_iconst (pc := 14) (v := mm_I 0) C.1 C.2.1 dX11_counterLine_14 rfl ?_
    refine lv_istore_n (pc := 15) (lv' := [(1, .int (mm_I 0)), (0, .ref (mm_ad G this))]) C.1 C.2.1 dX11_counterLine_15 rfl hl (by decide) rfl (fun ls hl => ?_)
    exact hw  _ _ _ w (lv_sub hl [1, 0] rfl)
  · have hw := hw.2 hc
    refine lv_iconst (pc := 8) (v := mm_I 0) C.1 C.2.1 dX11_counterLine_8 rfl ?_
    exact g_zret (pc := 9) C w hr hk (by decide) hw dX11_counterLine_9
def wp_X11_mostOf (a1 : Int) (s0 : mm_M) (post : Int → mm_M → Prop) : Prop :=
  ((¬ n32 a1 = 0 → ((¬ n32 a1 = 1 → ((¬ n32 a1 = 2 → ((¬ n32 a1 = 5 → post 9 s0) ∧ (n32 a1 = 5 → post 2 s0))) ∧ (n32 a1 = 2 → post 240 s0))) ∧ (n32 a1 = 1 → post 99 s0))) ∧ (n32 a1 = 0 → post 16 s0))
set_option maxRecDepth 100000 in
set_option maxHeartbeats 4000000 in
theorem c_X11_mostOf (l : Launch) (G : mm_G) (a1 : Int)  (s0 : mm_M) (post : Int → mm_M → Prop) (hw : wp_X11_mostOf a1 s0 post) : Met l yX11_mostOf (mm_wm yX11_mostOf cX11_mostOf 1 (some .int)) (mm_rm 1) (va_Pc [.int (mm_I a1)] (mm_pre G s0)) (mm_Qi G post) 0 0 (mm_A G) := by
  refine mm_met (own := RX11) (by decide) rfl (Nat.le_of_ble_eq_true rfl) ?_
  intro p e s m args below meth c C hr hk
  unfold wp_X11_mostOf at hw
  intro H locs ls w hl
  have hl : lv_has ls 1 [(0, .int (mm_I a1))] := hl
  refine lv_iload_n (pc := 0) C.1 C.2.1 dX11_mostOf_0 rfl (lv_at hl 0 rfl) ?_
  refine g_if_ne (pc := 1) (tgt := 9) C rfl dX11_mostOf_1 (by decide) (fun hc => ?_) (fun hc => ?_)
  · have hw := hw.1 hc
    refine lv_iload_n (pc := 9) C.1 C.2.1 dX11_mostOf_9 rfl (lv_at hl 0 rfl) ?_
    refine lv_iconst (pc := 10) (v := mm_I 1) C.1 C.2.1 dX11_mostOf_10 rfl ?_
    refine g_icmp_ne (pc := 11) (tgt := 19) C rfl mn_1 dX11_mostOf_11 (by decide) (fun hc => ?_) (fun hc => ?_)
    · have hw := hw.1 hc
      refine lv_iload_n (pc := 19) C.1 C.2.1 dX11_mostOf_19 rfl (lv_at hl 0 rfl) ?_
      refine lv_iconst (pc := 20) (v := mm_I 2) C.1 C.2.1 dX11_mostOf_20 rfl ?_
      refine g_icmp_ne (pc := 21) (tgt := 30) C rfl mn_2 dX11_mostOf_21 (by decide) (fun hc => ?_) (fun hc => ?_)
      · have hw := hw.1 hc
        refine lv_iload_n (pc := 30) C.1 C.2.1 dX11_mostOf_30 rfl (lv_at hl 0 rfl) ?_
        refine lv_iconst (pc := 31) (v := mm_I 5) C.1 C.2.1 dX11_mostOf_31 rfl ?_
        refine g_icmp_ne (pc := 32) (tgt := 39) C rfl mn_5 dX11_mostOf_32 (by decide) (fun hc => ?_) (fun hc => ?_)
        · have hw := hw.1 hc
          refine lv_bipush (pc := 39) C.1 C.2.1 dX11_mostOf_39 mb_9 ?_
          exact g_iret (pc := 41) C w hr hk hw dX11_mostOf_41
        · have hw := hw.2 hc
          refine lv_iconst (pc := 35) (v := mm_I 2) C.1 C.2.1 dX11_mostOf_35 rfl ?_
          refine lv_goto (pc := 36) (tgt := 41) C.1 C.2.1 dX11_mostOf_36 (by decide) ?_
          exact g_iret (pc := 41) C w hr hk hw dX11_mostOf_41
      · have hw := hw.2 hc
        refine lv_sipush (pc := 24) C.1 C.2.1 dX11_mostOf_24 ms_240 ?_
        refine lv_goto (pc := 27) (tgt := 41) C.1 C.2.1 dX11_mostOf_27 (by decide) ?_
        exact g_iret (pc := 41) C w hr hk hw dX11_mostOf_41
    · have hw := hw.2 hc
      refine lv_bipush (pc := 14) C.1 C.2.1 dX11_mostOf_14 mb_99 ?_
      refine lv_goto (pc := 16) (tgt := 41) C.1 C.2.1 dX11_mostOf_16 (by decide) ?_
      exact g_iret (pc := 41) C w hr hk hw dX11_mostOf_41
  · have hw := hw.2 hc
    refine lv_bipush (pc := 4) C.1 C.2.1 dX11_mostOf_4 mb_16 ?_
    refine lv_goto (pc := 6) (tgt := 41) C.1 C.2.1 dX11_mostOf_6 (by decide) ?_
    exact g_iret (pc := 41) C w hr hk hw dX11_mostOf_41
theorem lk_X11_189 : Cond.fieldLink RX11 189 "LastServedModel" "newSorts" "I" ∈ mm_ws := (mt_5 212 rfl rfl)
theorem ff_X11_8 : mm_F 11 8 0 RX11 TX11 65 := ⟨rfl, by decide, fk_X11, rfl, rfl⟩
theorem cv_X11_isWord : mm_V yX11_isWord cX11_isWord 2 (some .boolean) 1 := ⟨(mt_6 204 rfl rfl), (mt_6 203 rfl rfl), (mp_3 15 rfl rfl), (mt_1 12 rfl rfl), by decide, by decide, by decide +kernel⟩
theorem ml_X11_194 : Cond.methodLink RX11 194 yX11_isWord ∈ mm_ws := (mt_6 201 rfl rfl)
theorem lk_X11_17 : Cond.fieldLink RX11 17 "LastServedModel" "newName" "[J" ∈ mm_ws := (mt_5 213 rfl rfl)
theorem ff_X11_9 : mm_F 11 9 1 RX11 TX11 65 := ⟨rfl, by decide, fk_X11, rfl, rfl⟩
theorem ro_X11_9 {i : Nat} (h : mm_ok i 21 0) : mm_ok (mm_rt i 9) 3 5 := by
  have q : ∀ i, i < mm_N → mm_kd i = 21 → mm_rt i 9 < mm_N ∧ mm_kd (mm_rt i 9) = 3 ∧ mm_ln (mm_rt i 9) = 5 := by decide +kernel
  exact q i h.1 h.2.1
theorem fw_X11_8 : mm_Fw 11 8 TX11 65 .int := ⟨⟨tyX11, tyX11_ok⟩, nmX11, rfl, by decide +kernel⟩
theorem cs_X11_mostOf : mm_S yX11_mostOf cX11_mostOf 1 (some .int) 1 := ⟨(mt_6 236 rfl rfl), (mt_6 235 rfl rfl), (mt_1 12 rfl rfl), by decide, by decide, by decide +kernel⟩
theorem ml_X11_206 : Cond.methodLink RX11 206 yX11_mostOf ∈ mm_ws := (mt_6 234 rfl rfl)
theorem lk_X11_21 : Cond.fieldLink RX11 21 "LastServedModel" "newSort" "[I" ∈ mm_ws := (mt_5 214 rfl rfl)
theorem ff_X11_10 : mm_F 11 10 1 RX11 TX11 65 := ⟨rfl, by decide, fk_X11, rfl, rfl⟩
theorem ro_X11_10 {i : Nat} (h : mm_ok i 21 0) : mm_ok (mm_rt i 10) 0 30 := by
  have q : ∀ i, i < mm_N → mm_kd i = 21 → mm_rt i 10 < mm_N ∧ mm_kd (mm_rt i 10) = 0 ∧ mm_ln (mm_rt i 10) = 30 := by decide +kernel
  exact q i h.1 h.2.1
def wp_X11_sortLine (this : Nat) (s0 : mm_M) (post : Int → mm_M → Prop) : Prop :=
  ∀ (L84 : Int → Int → mm_M → Prop), ∀ (L147 : Int → mm_M → Prop), ∀ (L164 : Int → Int → mm_M → Prop), 
  (∀ (v1 : Int) (v2 : Int) (s1 : mm_M), ((n32 (s1 this 8) ≤ n32 v2 → ((¬ n32 v1 = 0 → ((0 ≤ s1 this 8 ∧ s1 this 8 < 5) ∧ (∀ s_29 : mm_M, s_29 = mm_up s1 (mm_rt this 9) (s1 this 8) (s1 this 5) → (wp_X11_leads this s_29 (fun s_30 => L147 0 s_30))))) ∧ (n32 v1 = 0 → post 0 s1))) ∧ (¬ n32 (s1 this 8) ≤ n32 v2 → ((n32 v1 = 0 → (∀ v2_34 : Int, v2_34 = v2 + 1 → L84 0 v2_34 s1)) ∧ (¬ n32 v1 = 0 → ((0 ≤ v2 ∧ v2 < 5) ∧ ((n64 (s1 (mm_rt this 9) v2) = n64 (s1 this 5) → (∀ v2_36 : Int, v2_36 = v2 + 1 → L84 0 v2_36 s1)) ∧ (¬ n64 (s1 (mm_rt this 9) v2) = n64 (s1 this 5) → (∀ v2_38 : Int, v2_38 = v2 + 1 → L84 1 v2_38 s1)))))))) → L84 v1 v2 s1) →
  (∀ (v2 : Int) (s1 : mm_M), ((6 ≤ n32 v2 → (∀ s_39 : mm_M, s_39 = mm_up s1 this 8 ((s1 this 8) + 1) → (wp_X11_ends this s_39 (fun r_41 s_40 => ((r_41 = 0 ∨ r_41 = 1) ∧ post r_41 s_40))))) ∧ (¬ 6 ≤ n32 v2 → ((¬ n32 v2 = 2 → L164 v2 0 s1) ∧ (n32 v2 = 2 → L164 v2 1 s1)))) → L147 v2 s1) →
  (∀ (v2 : Int) (q0 : Int) (s1 : mm_M), (wp_X11_mostOf v2 s1 (fun r_43 s_42 => (wp_X11_number this q0 r_43 s_42 (fun r_45 s_44 => ((¬ n32 r_45 = 0 → ((0 ≤ (6 * (s_44 this 8)) + v2 ∧ (6 * (s_44 this 8)) + v2 < 30) ∧ (∀ s_46 : mm_M, s_46 = mm_up s_44 (mm_rt this 10) ((6 * (s_44 this 8)) + v2) (s_44 this 44) → (∀ v2_47 : Int, v2_47 = v2 + 1 → L147 v2_47 s_46)))) ∧ (n32 r_45 = 0 → post 0 s_44)))))) → L164 v2 q0 s1) →
  ((¬ n32 (s0 this 8) = 5 → (wp_X11_leads this s0 (fun s_1 => ((¬ n32 (s_1 this 3) = 1 → L84 0 0 s_1) ∧ (n32 (s_1 this 3) = 1 → ((n64 (s_1 this 5) = n64 0 → L84 0 0 s_1) ∧ (¬ n64 (s_1 this 5) = n64 0 → (wp_X11_isWord this 18 s_1 (fun r_8 s_7 => ((¬ n32 r_8 = 0 → L84 0 0 s_7) ∧ (n32 r_8 = 0 → (wp_X11_isWord this 19 s_7 (fun r_12 s_11 => ((¬ n32 r_12 = 0 → L84 0 0 s_11) ∧ (n32 r_12 = 0 → (wp_X11_isWord this 20 s_11 (fun r_16 s_15 => ((¬ n32 r_16 = 0 → L84 0 0 s_15) ∧ (n32 r_16 = 0 → (wp_X11_isWord this 21 s_15 (fun r_20 s_19 => ((¬ n32 r_20 = 0 → L84 0 0 s_19) ∧ (n32 r_20 = 0 → (wp_X11_isWord this 22 s_19 (fun r_24 s_23 => ((¬ n32 r_24 = 0 → L84 0 0 s_23) ∧ (n32 r_24 = 0 → L84 1 0 s_23))))))))))))))))))))))))))) ∧ (n32 (s0 this 8) = 5 → post 0 s0))
set_option maxRecDepth 100000 in
set_option maxHeartbeats 4000000 in
theorem c_X11_sortLine (l : Launch) (G : mm_G) (this : Nat) (h0 : mm_ok this 21 0) (s0 : mm_M) (post : Int → mm_M → Prop) (hw : wp_X11_sortLine this s0 post) : Met l yX11_sortLine (mm_wm yX11_sortLine cX11_sortLine 3 (some .boolean)) (mm_rm 7) (va_Pc [.ref (mm_ad G this)] (mm_pre G s0)) (mm_Qi G post) 0 0 (mm_A G) := by
  refine mm_met (own := RX11) (by decide) rfl (Nat.le_of_ble_eq_true rfl) ?_
  intro p e s m args below meth c C hr hk
  unfold wp_X11_sortLine at hw
  have hw := hw (fun (v1 : Int) (v2 : Int) (u : mm_M) => mm_X p l e (mm_rm 7) s m args below meth c (MQ below (mm_Qi G post) args s 0 0 (mm_A G)) G (mm_A G) 3 84 [(0, .ref (mm_ad G this)), (1, .int (mm_I v1)), (2, .int (mm_I v2))] [] u)
  have hw := hw (fun (v2 : Int) (u : mm_M) => mm_X p l e (mm_rm 7) s m args below meth c (MQ below (mm_Qi G post) args s 0 0 (mm_A G)) G (mm_A G) 3 147 [(0, .ref (mm_ad G this)), (2, .int (mm_I v2))] [] u)
  have hw := hw (fun (v2 : Int) (q0 : Int) (u : mm_M) => mm_X p l e (mm_rm 7) s m args below meth c (MQ below (mm_Qi G post) args s 0 0 (mm_A G)) G (mm_A G) 3 164 [(0, .ref (mm_ad G this)), (2, .int (mm_I v2))] [.int (mm_I q0), .ref (mm_ad G this)] u)
  have hw := hw (by
    intro v1 v2 s1 hw  H locs ls w hl
    refine lv_iload_n (pc := 84) C.1 C.2.1 dX11_sortLine_84 rfl (lv_at hl 2 rfl) ?_
    refine lv_aload_n (pc := 85) C.1 C.2.1 dX11_sortLine_85 rfl (lv_at hl 0 rfl) ?_
    refine g_geti (pc := 86) C w h0 ff_X11_8 lk_X11_189 dX11_sortLine_86 ?_
    refine g_icmp_ge (pc := 89) (tgt := 122) C rfl rfl dX11_sortLine_89 (by decide) (fun hc => ?_) (fun hc => ?_)
    · have hw := hw.1 hc
      refine lv_iload_n (pc := 122) C.1 C.2.1 dX11_sortLine_122 rfl (lv_at hl 1 rfl) ?_
      refine g_if_ne (pc := 123) (tgt := 128) C rfl dX11_sortLine_123 (by decide) (fun hc => ?_) (fun hc => ?_)
      · have hw := hw.1 hc
        refine lv_aload_n (pc := 128) C.1 C.2.1 dX11_sortLine_128 rfl (lv_at hl 0 rfl) ?_
        refine g_getr (pc := 129) C w h0 ff_X11_9 lk_X11_17 dX11_sortLine_129 ?_
        refine lv_aload_n (pc := 132) C.1 C.2.1 dX11_sortLine_132 rfl (lv_at hl 0 rfl) ?_
        refine g_geti (pc := 133) C w h0 ff_X11_8 lk_X11_189 dX11_sortLine_133 ?_
        refine lv_aload_n (pc := 136) C.1 C.2.1 dX11_sortLine_136 rfl (lv_at hl 0 rfl) ?_
        refine g_getl (pc := 137) C w h0 ff_X11_5 lk_X11_132 dX11_sortLine_137 ?_
        obtain ⟨hi, hw⟩ := hw
        refine g_last (pc := 140) C w (ro_X11_9 h0) hi  dX11_sortLine_140 (fun s_29 H locs es_29 w => ?_)
        have hw := hw s_29 es_29
        refine lv_aload_n (pc := 141) C.1 C.2.1 dX11_sortLine_141 rfl (lv_at hl 0 rfl) ?_
        refine g_callv (pc := 142) w (mm_runV (ci := 11) (q := (RX11, TX11, 65)) (As := []) (rest := []) C w (c_X11_leads l G this h0 s_29 _ hw) h0 rfl rfl cv_X11_leads ml_X11_172 ⟨Nat.le_of_ble_eq_true rfl, Nat.le_of_ble_eq_true rfl⟩ ⟨Nat.le_of_ble_eq_true rfl, Nat.le_of_ble_eq_true rfl⟩ rfl hl.1 rfl (Nat.le_of_ble_eq_true rfl) dX11_sortLine_142) (fun s_30 H locs hw w => ?_)
        refine lv_iconst (pc := 145) (v := mm_I 0) C.1 C.2.1 dX11_sortLine_145 rfl ?_
        refine lv_istore_n (pc := 146) (lv' := [(2, .int (mm_I 0)), (0, .ref (mm_ad G this)), (1, .int (mm_I v1))]) C.1 C.2.1 dX11_sortLine_146 rfl hl (by decide) rfl (fun ls hl => ?_)
        exact hw  _ _ _ w (lv_sub hl [1, 0] rfl)
      · have hw := hw.2 hc
        refine lv_iconst (pc := 126) (v := mm_I 0) C.1 C.2.1 dX11_sortLine_126 rfl ?_
        exact g_zret (pc := 127) C w hr hk (by decide) hw dX11_sortLine_127
    · have hw := hw.2 hc
      refine lv_iload_n (pc := 92) C.1 C.2.1 dX11_sortLine_92 rfl (lv_at hl 1 rfl) ?_
      refine g_if_eq (pc := 93) (tgt := 114) C rfl dX11_sortLine_93 (by decide) (fun hc => ?_) (fun hc => ?_)
      · have hw := hw.1 hc
        refine lv_iconst (pc := 114) (v := mm_I 0) C.1 C.2.1 dX11_sortLine_114 rfl ?_
        refine lv_istore_n (pc := 115) (lv' := [(1, .int (mm_I 0)), (0, .ref (mm_ad G this)), (2, .int (mm_I v2))]) C.1 C.2.1 dX11_sortLine_115 rfl hl (by decide) rfl (fun ls hl => ?_)
        refine g_iinc (pc := 116) (k := 2) C dX11_sortLine_116 hl rfl (by decide) (fun v2_34 ev2_34 ls hl => ?_)
        have hw := hw v2_34 ev2_34
        have hl : lv_has ls 3 [(2, .int (mm_I v2_34)), (1, .int (mm_I 0)), (0, .ref (mm_ad G this))] := hl
        refine lv_goto (pc := 119) (tgt := 84) C.1 C.2.1 dX11_sortLine_119 (by decide) ?_
        exact hw  _ _ _ w (lv_sub hl [2, 1, 0] rfl)
      · have hw := hw.2 hc
        refine lv_aload_n (pc := 96) C.1 C.2.1 dX11_sortLine_96 rfl (lv_at hl 0 rfl) ?_
        refine g_getr (pc := 97) C w h0 ff_X11_9 lk_X11_17 dX11_sortLine_97 ?_
        refine lv_iload_n (pc := 100) C.1 C.2.1 dX11_sortLine_100 rfl (lv_at hl 2 rfl) ?_
        obtain ⟨hi, hw⟩ := hw
        refine g_lald (pc := 101) C w (ro_X11_9 h0) hi dX11_sortLine_101 ?_
        refine lv_aload_n (pc := 102) C.1 C.2.1 dX11_sortLine_102 rfl (lv_at hl 0 rfl) ?_
        refine g_getl (pc := 103) C w h0 ff_X11_5 lk_X11_132 dX11_sortLine_103 ?_
        refine g_lcmp (pc := 106) C dX11_sortLine_106 ?_
        refine g_lif_eq (pc := 107) (tgt := 114) C rfl rfl dX11_sortLine_107 (by decide) (fun hc => ?_) (fun hc => ?_)
        · have hw := hw.1 hc
          refine lv_iconst (pc := 114) (v := mm_I 0) C.1 C.2.1 dX11_sortLine_114 rfl ?_
          refine lv_istore_n (pc := 115) (lv' := [(1, .int (mm_I 0)), (0, .ref (mm_ad G this)), (2, .int (mm_I v2))]) C.1 C.2.1 dX11_sortLine_115 rfl hl (by decide) rfl (fun ls hl => ?_)
          refine g_iinc (pc := 116) (k := 2) C dX11_sortLine_116 hl rfl (by decide) (fun v2_36 ev2_36 ls hl => ?_)
          have hw := hw v2_36 ev2_36
          have hl : lv_has ls 3 [(2, .int (mm_I v2_36)), (1, .int (mm_I 0)), (0, .ref (mm_ad G this))] := hl
          refine lv_goto (pc := 119) (tgt := 84) C.1 C.2.1 dX11_sortLine_119 (by decide) ?_
          exact hw  _ _ _ w (lv_sub hl [2, 1, 0] rfl)
        · have hw := hw.2 hc
          refine lv_iconst (pc := 110) (v := mm_I 1) C.1 C.2.1 dX11_sortLine_110 rfl ?_
          refine lv_goto (pc := 111) (tgt := 115) C.1 C.2.1 dX11_sortLine_111 (by decide) ?_
          refine lv_istore_n (pc := 115) (lv' := [(1, .int (mm_I 1)), (0, .ref (mm_ad G this)), (2, .int (mm_I v2))]) C.1 C.2.1 dX11_sortLine_115 rfl hl (by decide) rfl (fun ls hl => ?_)
          refine g_iinc (pc := 116) (k := 2) C dX11_sortLine_116 hl rfl (by decide) (fun v2_38 ev2_38 ls hl => ?_)
          have hw := hw v2_38 ev2_38
          have hl : lv_has ls 3 [(2, .int (mm_I v2_38)), (1, .int (mm_I 1)), (0, .ref (mm_ad G this))] := hl
          refine lv_goto (pc := 119) (tgt := 84) C.1 C.2.1 dX11_sortLine_119 (by decide) ?_
          exact hw  _ _ _ w (lv_sub hl [2, 1, 0] rfl))
  have hw := hw (by
    intro v2 s1 hw  H locs ls w hl
    refine lv_iload_n (pc := 147) C.1 C.2.1 dX11_sortLine_147 rfl (lv_at hl 1 rfl) ?_
    refine lv_bipush (pc := 148) C.1 C.2.1 dX11_sortLine_148 mb_6 ?_
    refine g_icmp_ge (pc := 150) (tgt := 200) C rfl mn_6 dX11_sortLine_150 (by decide) (fun hc => ?_) (fun hc => ?_)
    · have hw := hw.1 hc
      refine lv_aload_n (pc := 200) C.1 C.2.1 dX11_sortLine_200 rfl (lv_at hl 0 rfl) ?_
      refine lv_dup (pc := 201) C.1 C.2.1 dX11_sortLine_201 rfl ?_
      refine g_geti (pc := 202) C w h0 ff_X11_8 lk_X11_189 dX11_sortLine_202 ?_
      refine lv_iconst (pc := 205) (v := mm_I 1) C.1 C.2.1 dX11_sortLine_205 rfl ?_
      refine g_iadd (pc := 206) C dX11_sortLine_206 ?_
      refine g_puti (pc := 207) C w h0 ff_X11_8 fw_X11_8 lk_X11_189 dX11_sortLine_207 (fun s_39 H locs es_39 w => ?_)
      have hw := hw s_39 es_39
      refine lv_aload_n (pc := 210) C.1 C.2.1 dX11_sortLine_210 rfl (lv_at hl 0 rfl) ?_
      refine g_calli (pc := 211) w (mm_runV (ci := 11) (q := (RX11, TX11, 65)) (As := []) (rest := []) C w (c_X11_ends l G this h0 s_39 _ hw) h0 rfl rfl cv_X11_ends ml_X11_185 ⟨Nat.le_of_ble_eq_true rfl, Nat.le_of_ble_eq_true rfl⟩ ⟨Nat.le_of_ble_eq_true rfl, Nat.le_of_ble_eq_true rfl⟩ rfl hl.1 rfl (Nat.le_of_ble_eq_true rfl) dX11_sortLine_211) (fun r_41 s_40 H locs hw w => ?_)
      obtain ⟨hb, hw⟩ := hw
      exact g_zret (pc := 214) C w hr hk hb hw dX11_sortLine_214
    · have hw := hw.2 hc
      refine lv_aload_n (pc := 153) C.1 C.2.1 dX11_sortLine_153 rfl (lv_at hl 0 rfl) ?_
      refine lv_iload_n (pc := 154) C.1 C.2.1 dX11_sortLine_154 rfl (lv_at hl 1 rfl) ?_
      refine lv_iconst (pc := 155) (v := mm_I 2) C.1 C.2.1 dX11_sortLine_155 rfl ?_
      refine g_icmp_ne (pc := 156) (tgt := 163) C rfl mn_2 dX11_sortLine_156 (by decide) (fun hc => ?_) (fun hc => ?_)
      · have hw := hw.1 hc
        refine lv_iconst (pc := 163) (v := mm_I 0) C.1 C.2.1 dX11_sortLine_163 rfl ?_
        exact hw  _ _ _ w (lv_sub hl [0, 1] rfl)
      · have hw := hw.2 hc
        refine lv_iconst (pc := 159) (v := mm_I 1) C.1 C.2.1 dX11_sortLine_159 rfl ?_
        refine lv_goto (pc := 160) (tgt := 164) C.1 C.2.1 dX11_sortLine_160 (by decide) ?_
        exact hw  _ _ _ w (lv_sub hl [0, 1] rfl))
  have hw := hw (by
    intro v2 q0 s1 hw  H locs ls w hl
    refine lv_iload_n (pc := 164) C.1 C.2.1 dX11_sortLine_164 rfl (lv_at hl 1 rfl) ?_
    refine g_calli (pc := 165) w (mm_runS (As := [.int (mm_I v2)]) (rest := [.int (mm_I q0), .ref (mm_ad G this)]) C w (c_X11_mostOf l G v2  s1 _ hw) cs_X11_mostOf ml_X11_206 ⟨Nat.le_of_ble_eq_true rfl, Nat.le_of_ble_eq_true rfl⟩ ⟨Nat.le_of_ble_eq_true rfl, Nat.le_of_ble_eq_true rfl⟩ rfl hl.1 rfl (Nat.le_of_ble_eq_true rfl) dX11_sortLine_165) (fun r_43 s_42 H locs hw w => ?_)
    refine g_calli (pc := 168) w (mm_runV (ci := 11) (q := (RX11, TX11, 65)) (As := [.int (mm_I q0), .int (mm_I r_43)]) (rest := []) C w (c_X11_number l G this q0 r_43 h0 s_42 _ hw) h0 rfl rfl cv_X11_number ml_X11_181 ⟨Nat.le_of_ble_eq_true rfl, Nat.le_of_ble_eq_true rfl⟩ ⟨Nat.le_of_ble_eq_true rfl, Nat.le_of_ble_eq_true rfl⟩ rfl hl.1 rfl (Nat.le_of_ble_eq_true rfl) dX11_sortLine_168) (fun r_45 s_44 H locs hw w => ?_)
    refine g_if_ne (pc := 171) (tgt := 176) C rfl dX11_sortLine_171 (by decide) (fun hc => ?_) (fun hc => ?_)
    · have hw := hw.1 hc
      refine lv_aload_n (pc := 176) C.1 C.2.1 dX11_sortLine_176 rfl (lv_at hl 0 rfl) ?_
      refine g_getr (pc := 177) C w h0 ff_X11_10 lk_X11_21 dX11_sortLine_177 ?_
      refine lv_bipush (pc := 180) C.1 C.2.1 dX11_sortLine_180 mb_6 ?_
      refine lv_aload_n (pc := 182) C.1 C.2.1 dX11_sortLine_182 rfl (lv_at hl 0 rfl) ?_
      refine g_geti (pc := 183) C w h0 ff_X11_8 lk_X11_189 dX11_sortLine_183 ?_
      refine g_imul (pc := 186) C dX11_sortLine_186 ?_
      refine lv_iload_n (pc := 187) C.1 C.2.1 dX11_sortLine_187 rfl (lv_at hl 1 rfl) ?_
      refine g_iadd (pc := 188) C dX11_sortLine_188 ?_
      refine lv_aload_n (pc := 189) C.1 C.2.1 dX11_sortLine_189 rfl (lv_at hl 0 rfl) ?_
      refine g_geti (pc := 190) C w h0 ff_X11_44 lk_X11_169 dX11_sortLine_190 ?_
      obtain ⟨hi, hw⟩ := hw
      refine g_iast (pc := 193) C w (ro_X11_10 h0) hi  dX11_sortLine_193 (fun s_46 H locs es_46 w => ?_)
      have hw := hw s_46 es_46
      refine g_iinc (pc := 194) (k := 1) C dX11_sortLine_194 hl rfl (by decide) (fun v2_47 ev2_47 ls hl => ?_)
      have hw := hw v2_47 ev2_47
      have hl : lv_has ls 3 [(2, .int (mm_I v2_47)), (0, .ref (mm_ad G this))] := hl
      refine lv_goto (pc := 197) (tgt := 147) C.1 C.2.1 dX11_sortLine_197 (by decide) ?_
      exact hw  _ _ _ w (lv_sub hl [1, 0] rfl)
    · have hw := hw.2 hc
      refine lv_iconst (pc := 174) (v := mm_I 0) C.1 C.2.1 dX11_sortLine_174 rfl ?_
      exact g_zret (pc := 175) C w hr hk (by decide) hw dX11_sortLine_175)
  intro H locs ls w hl
  have hl : lv_has ls 3 [(0, .ref (mm_ad G this))] := hl
  refine lv_aload_n (pc := 0) C.1 C.2.1 dX11_sortLine_0 rfl (lv_at hl 0 rfl) ?_
  refine g_geti (pc := 1) C w h0 ff_X11_8 lk_X11_189 dX11_sortLine_1 ?_
  refine lv_iconst (pc := 4) (v := mm_I 5) C.1 C.2.1 dX11_sortLine_4 rfl ?_
  refine g_icmp_ne (pc := 5) (tgt := 10) C rfl mn_5 dX11_sortLine_5 (by decide) (fun hc => ?_) (fun hc => ?_)
  · have hw := hw.1 hc
    refine lv_aload_n (pc := 10) C.1 C.2.1 dX11_sortLine_10 rfl (lv_at hl 0 rfl) ?_
    refine g_callv (pc := 11) w (mm_runV (ci := 11) (q := (RX11, TX11, 65)) (As := []) (rest := []) C w (c_X11_leads l G this h0 s0 _ hw) h0 rfl rfl cv_X11_leads ml_X11_172 ⟨Nat.le_of_ble_eq_true rfl, Nat.le_of_ble_eq_true rfl⟩ ⟨Nat.le_of_ble_eq_true rfl, Nat.le_of_ble_eq_true rfl⟩ rfl hl.1 rfl (Nat.le_of_ble_eq_true rfl) dX11_sortLine_11) (fun s_1 H locs hw w => ?_)
    refine lv_aload_n (pc := 14) C.1 C.2.1 dX11_sortLine_14 rfl (lv_at hl 0 rfl) ?_
    refine g_geti (pc := 15) C w h0 ff_X11_3 lk_X11_136 dX11_sortLine_15 ?_
    refine lv_iconst (pc := 18) (v := mm_I 1) C.1 C.2.1 dX11_sortLine_18 rfl ?_
    refine g_icmp_ne (pc := 19) (tgt := 80) C rfl mn_1 dX11_sortLine_19 (by decide) (fun hc => ?_) (fun hc => ?_)
    · have hw := hw.1 hc
      refine lv_iconst (pc := 80) (v := mm_I 0) C.1 C.2.1 dX11_sortLine_80 rfl ?_
      refine lv_istore_n (pc := 81) (lv' := [(1, .int (mm_I 0)), (0, .ref (mm_ad G this))]) C.1 C.2.1 dX11_sortLine_81 rfl hl (by decide) rfl (fun ls hl => ?_)
      refine lv_iconst (pc := 82) (v := mm_I 0) C.1 C.2.1 dX11_sortLine_82 rfl ?_
      refine lv_istore_n (pc := 83) (lv' := [(2, .int (mm_I 0)), (1, .int (mm_I 0)), (0, .ref (mm_ad G this))]) C.1 C.2.1 dX11_sortLine_83 rfl hl (by decide) rfl (fun ls hl => ?_)
      exact hw  _ _ _ w (lv_sub hl [2, 1, 0] rfl)
    · have hw := hw.2 hc
      refine lv_aload_n (pc := 22) C.1 C.2.1 dX11_sortLine_22 rfl (lv_at hl 0 rfl) ?_
      refine g_getl (pc := 23) C w h0 ff_X11_5 lk_X11_132 dX11_sortLine_23 ?_
      refine lv_lconst (pc := 26) (v := mm_L 0) C.1 C.2.1 dX11_sortLine_26 rfl ?_
      refine g_lcmp (pc := 27) C dX11_sortLine_27 ?_
      refine g_lif_eq (pc := 28) (tgt := 80) C rfl rfl dX11_sortLine_28 (by decide) (fun hc => ?_) (fun hc => ?_)
      · have hw := hw.1 hc
        refine lv_iconst (pc := 80) (v := mm_I 0) C.1 C.2.1 dX11_sortLine_80 rfl ?_
        refine lv_istore_n (pc := 81) (lv' := [(1, .int (mm_I 0)), (0, .ref (mm_ad G this))]) C.1 C.2.1 dX11_sortLine_81 rfl hl (by decide) rfl (fun ls hl => ?_)
        refine lv_iconst (pc := 82) (v := mm_I 0) C.1 C.2.1 dX11_sortLine_82 rfl ?_
        refine lv_istore_n (pc := 83) (lv' := [(2, .int (mm_I 0)), (1, .int (mm_I 0)), (0, .ref (mm_ad G this))]) C.1 C.2.1 dX11_sortLine_83 rfl hl (by decide) rfl (fun ls hl => ?_)
        exact hw  _ _ _ w (lv_sub hl [2, 1, 0] rfl)
      · have hw := hw.2 hc
        refine lv_aload_n (pc := 31) C.1 C.2.1 dX11_sortLine_31 rfl (lv_at hl 0 rfl) ?_
        refine va_ldcS (pc := 32) C.1 C.2.1 C.2.2.2.1 (w.2.2.2.1.2.2.2.2 18 (by decide)).1 dX11_sortLine_32 ?_
        refine g_calli (pc := 34) w (mm_runV (ci := 11) (q := (RX11, TX11, 65)) (As := [.ref (G.2.2.2.1 18)]) (rest := []) C w (c_X11_isWord l G this 18 h0 (by decide) s_1 _ hw) h0 rfl rfl cv_X11_isWord ml_X11_194 ⟨Nat.le_of_ble_eq_true rfl, Nat.le_of_ble_eq_true rfl⟩ ⟨Nat.le_of_ble_eq_true rfl, Nat.le_of_ble_eq_true rfl⟩ rfl hl.1 rfl (Nat.le_of_ble_eq_true rfl) dX11_sortLine_34) (fun r_8 s_7 H locs hw w => ?_)
        refine g_if_ne (pc := 37) (tgt := 80) C rfl dX11_sortLine_37 (by decide) (fun hc => ?_) (fun hc => ?_)
        · have hw := hw.1 hc
          refine lv_iconst (pc := 80) (v := mm_I 0) C.1 C.2.1 dX11_sortLine_80 rfl ?_
          refine lv_istore_n (pc := 81) (lv' := [(1, .int (mm_I 0)), (0, .ref (mm_ad G this))]) C.1 C.2.1 dX11_sortLine_81 rfl hl (by decide) rfl (fun ls hl => ?_)
          refine lv_iconst (pc := 82) (v := mm_I 0) C.1 C.2.1 dX11_sortLine_82 rfl ?_
          refine lv_istore_n (pc := 83) (lv' := [(2, .int (mm_I 0)), (1, .int (mm_I 0)), (0, .ref (mm_ad G this))]) C.1 C.2.1 dX11_sortLine_83 rfl hl (by decide) rfl (fun ls hl => ?_)
          exact hw  _ _ _ w (lv_sub hl [2, 1, 0] rfl)
        · have hw := hw.2 hc
          refine lv_aload_n (pc := 40) C.1 C.2.1 dX11_sortLine_40 rfl (lv_at hl 0 rfl) ?_
          refine va_ldcS (pc := 41) C.1 C.2.1 C.2.2.2.1 (w.2.2.2.1.2.2.2.2 19 (by decide)).1 dX11_sortLine_41 ?_
          refine g_calli (pc := 43) w (mm_runV (ci := 11) (q := (RX11, TX11, 65)) (As := [.ref (G.2.2.2.1 19)]) (rest := []) C w (c_X11_isWord l G this 19 h0 (by decide) s_7 _ hw) h0 rfl rfl cv_X11_isWord ml_X11_194 ⟨Nat.le_of_ble_eq_true rfl, Nat.le_of_ble_eq_true rfl⟩ ⟨Nat.le_of_ble_eq_true rfl, Nat.le_of_ble_eq_true rfl⟩ rfl hl.1 rfl (Nat.le_of_ble_eq_true rfl) dX11_sortLine_43) (fun r_12 s_11 H locs hw w => ?_)
          refine g_if_ne (pc := 46) (tgt := 80) C rfl dX11_sortLine_46 (by decide) (fun hc => ?_) (fun hc => ?_)
          · have hw := hw.1 hc
            refine lv_iconst (pc := 80) (v := mm_I 0) C.1 C.2.1 dX11_sortLine_80 rfl ?_
            refine lv_istore_n (pc := 81) (lv' := [(1, .int (mm_I 0)), (0, .ref (mm_ad G this))]) C.1 C.2.1 dX11_sortLine_81 rfl hl (by decide) rfl (fun ls hl => ?_)
            refine lv_iconst (pc := 82) (v := mm_I 0) C.1 C.2.1 dX11_sortLine_82 rfl ?_
            refine lv_istore_n (pc := 83) (lv' := [(2, .int (mm_I 0)), (1, .int (mm_I 0)), (0, .ref (mm_ad G this))]) C.1 C.2.1 dX11_sortLine_83 rfl hl (by decide) rfl (fun ls hl => ?_)
            exact hw  _ _ _ w (lv_sub hl [2, 1, 0] rfl)
          · have hw := hw.2 hc
            refine lv_aload_n (pc := 49) C.1 C.2.1 dX11_sortLine_49 rfl (lv_at hl 0 rfl) ?_
            refine va_ldcS (pc := 50) C.1 C.2.1 C.2.2.2.1 (w.2.2.2.1.2.2.2.2 20 (by decide)).1 dX11_sortLine_50 ?_
            refine g_calli (pc := 52) w (mm_runV (ci := 11) (q := (RX11, TX11, 65)) (As := [.ref (G.2.2.2.1 20)]) (rest := []) C w (c_X11_isWord l G this 20 h0 (by decide) s_11 _ hw) h0 rfl rfl cv_X11_isWord ml_X11_194 ⟨Nat.le_of_ble_eq_true rfl, Nat.le_of_ble_eq_true rfl⟩ ⟨Nat.le_of_ble_eq_true rfl, Nat.le_of_ble_eq_true rfl⟩ rfl hl.1 rfl (Nat.le_of_ble_eq_true rfl) dX11_sortLine_52) (fun r_16 s_15 H locs hw w => ?_)
            refine g_if_ne (pc := 55) (tgt := 80) C rfl dX11_sortLine_55 (by decide) (fun hc => ?_) (fun hc => ?_)
            · have hw := hw.1 hc
              refine lv_iconst (pc := 80) (v := mm_I 0) C.1 C.2.1 dX11_sortLine_80 rfl ?_
              refine lv_istore_n (pc := 81) (lv' := [(1, .int (mm_I 0)), (0, .ref (mm_ad G this))]) C.1 C.2.1 dX11_sortLine_81 rfl hl (by decide) rfl (fun ls hl => ?_)
              refine lv_iconst (pc := 82) (v := mm_I 0) C.1 C.2.1 dX11_sortLine_82 rfl ?_
              refine lv_istore_n (pc := 83) (lv' := [(2, .int (mm_I 0)), (1, .int (mm_I 0)), (0, .ref (mm_ad G this))]) C.1 C.2.1 dX11_sortLine_83 rfl hl (by decide) rfl (fun ls hl => ?_)
              exact hw  _ _ _ w (lv_sub hl [2, 1, 0] rfl)
            · have hw := hw.2 hc
              refine lv_aload_n (pc := 58) C.1 C.2.1 dX11_sortLine_58 rfl (lv_at hl 0 rfl) ?_
              refine va_ldcS (pc := 59) C.1 C.2.1 C.2.2.2.1 (w.2.2.2.1.2.2.2.2 21 (by decide)).1 dX11_sortLine_59 ?_
              refine g_calli (pc := 61) w (mm_runV (ci := 11) (q := (RX11, TX11, 65)) (As := [.ref (G.2.2.2.1 21)]) (rest := []) C w (c_X11_isWord l G this 21 h0 (by decide) s_15 _ hw) h0 rfl rfl cv_X11_isWord ml_X11_194 ⟨Nat.le_of_ble_eq_true rfl, Nat.le_of_ble_eq_true rfl⟩ ⟨Nat.le_of_ble_eq_true rfl, Nat.le_of_ble_eq_true rfl⟩ rfl hl.1 rfl (Nat.le_of_ble_eq_true rfl) dX11_sortLine_61) (fun r_20 s_19 H locs hw w => ?_)
              refine g_if_ne (pc := 64) (tgt := 80) C rfl dX11_sortLine_64 (by decide) (fun hc => ?_) (fun hc => ?_)
              · have hw := hw.1 hc
                refine lv_iconst (pc := 80) (v := mm_I 0) C.1 C.2.1 dX11_sortLine_80 rfl ?_
                refine lv_istore_n (pc := 81) (lv' := [(1, .int (mm_I 0)), (0, .ref (mm_ad G this))]) C.1 C.2.1 dX11_sortLine_81 rfl hl (by decide) rfl (fun ls hl => ?_)
                refine lv_iconst (pc := 82) (v := mm_I 0) C.1 C.2.1 dX11_sortLine_82 rfl ?_
                refine lv_istore_n (pc := 83) (lv' := [(2, .int (mm_I 0)), (1, .int (mm_I 0)), (0, .ref (mm_ad G this))]) C.1 C.2.1 dX11_sortLine_83 rfl hl (by decide) rfl (fun ls hl => ?_)
                exact hw  _ _ _ w (lv_sub hl [2, 1, 0] rfl)
              · have hw := hw.2 hc
                refine lv_aload_n (pc := 67) C.1 C.2.1 dX11_sortLine_67 rfl (lv_at hl 0 rfl) ?_
                refine va_ldcS (pc := 68) C.1 C.2.1 C.2.2.2.1 (w.2.2.2.1.2.2.2.2 22 (by decide)).1 dX11_sortLine_68 ?_
                refine g_calli (pc := 70) w (mm_runV (ci := 11) (q := (RX11, TX11, 65)) (As := [.ref (G.2.2.2.1 22)]) (rest := []) C w (c_X11_isWord l G this 22 h0 (by decide) s_19 _ hw) h0 rfl rfl cv_X11_isWord ml_X11_194 ⟨Nat.le_of_ble_eq_true rfl, Nat.le_of_ble_eq_true rfl⟩ ⟨Nat.le_of_ble_eq_true rfl, Nat.le_of_ble_eq_true rfl⟩ rfl hl.1 rfl (Nat.le_of_ble_eq_true rfl) dX11_sortLine_70) (fun r_24 s_23 H locs hw w => ?_)
                refine g_if_ne (pc := 73) (tgt := 80) C rfl dX11_sortLine_73 (by decide) (fun hc => ?_) (fun hc => ?_)
                · have hw := hw.1 hc
                  refine lv_iconst (pc := 80) (v := mm_I 0) C.1 C.2.1 dX11_sortLine_80 rfl ?_
                  refine lv_istore_n (pc := 81) (lv' := [(1, .int (mm_I 0)), (0, .ref (mm_ad G this))]) C.1 C.2.1 dX11_sortLine_81 rfl hl (by decide) rfl (fun ls hl => ?_)
                  refine lv_iconst (pc := 82) (v := mm_I 0) C.1 C.2.1 dX11_sortLine_82 rfl ?_
                  refine lv_istore_n (pc := 83) (lv' := [(2, .int (mm_I 0)), (1, .int (mm_I 0)), (0, .ref (mm_ad G this))]) C.1 C.2.1 dX11_sortLine_83 rfl hl (by decide) rfl (fun ls hl => ?_)
                  exact hw  _ _ _ w (lv_sub hl [2, 1, 0] rfl)
                · have hw := hw.2 hc
                  refine lv_iconst (pc := 76) (v := mm_I 1) C.1 C.2.1 dX11_sortLine_76 rfl ?_
                  refine lv_goto (pc := 77) (tgt := 81) C.1 C.2.1 dX11_sortLine_77 (by decide) ?_
                  refine lv_istore_n (pc := 81) (lv' := [(1, .int (mm_I 1)), (0, .ref (mm_ad G this))]) C.1 C.2.1 dX11_sortLine_81 rfl hl (by decide) rfl (fun ls hl => ?_)
                  refine lv_iconst (pc := 82) (v := mm_I 0) C.1 C.2.1 dX11_sortLine_82 rfl ?_
                  refine lv_istore_n (pc := 83) (lv' := [(2, .int (mm_I 0)), (1, .int (mm_I 1)), (0, .ref (mm_ad G this))]) C.1 C.2.1 dX11_sortLine_83 rfl hl (by decide) rfl (fun ls hl => ?_)
                  exact hw  _ _ _ w (lv_sub hl [2, 1, 0] rfl)
  · have hw := hw.2 hc
    refine lv_iconst (pc := 8) (v := mm_I 0) C.1 C.2.1 dX11_sortLine_8 rfl ?_
    exact g_zret (pc := 9) C w hr hk (by decide) hw dX11_sortLine_9
theorem lk_X11_24 : Cond.fieldLink RX11 24 "LastServedModel" "newOnce" "[I" ∈ mm_ws := (mt_5 215 rfl rfl)
theorem ff_X11_11 : mm_F 11 11 1 RX11 TX11 65 := ⟨rfl, by decide, fk_X11, rfl, rfl⟩
theorem ro_X11_11 {i : Nat} (h : mm_ok i 21 0) : mm_ok (mm_rt i 11) 0 3 := by
  have q : ∀ i, i < mm_N → mm_kd i = 21 → mm_rt i 11 < mm_N ∧ mm_kd (mm_rt i 11) = 0 ∧ mm_ln (mm_rt i 11) = 3 := by decide +kernel
  exact q i h.1 h.2.1
def wp_X11_onceLine (this : Nat) (a1 : Int) (a2 : Int) (a3 : Int) (s0 : mm_M) (post : Int → mm_M → Prop) : Prop :=
  ((0 ≤ a1 ∧ a1 < 3) ∧ ((n32 (s0 (mm_rt this 11) a1) = (-1) → (wp_X11_leads this s0 (fun s_1 => (wp_X11_number this a2 a3 s_1 (fun r_4 s_3 => ((¬ n32 r_4 = 0 → ((0 ≤ a1 ∧ a1 < 3) ∧ (∀ s_5 : mm_M, s_5 = mm_up s_3 (mm_rt this 11) a1 (s_3 this 44) → (wp_X11_ends this s_5 (fun r_7 s_6 => ((r_7 = 0 ∨ r_7 = 1) ∧ post r_7 s_6)))))) ∧ (n32 r_4 = 0 → post 0 s_3))))))) ∧ (¬ n32 (s0 (mm_rt this 11) a1) = (-1) → post 0 s0)))
set_option maxRecDepth 100000 in
set_option maxHeartbeats 4000000 in
theorem c_X11_onceLine (l : Launch) (G : mm_G) (this : Nat) (a1 : Int) (a2 : Int) (a3 : Int) (h0 : mm_ok this 21 0) (s0 : mm_M) (post : Int → mm_M → Prop) (hw : wp_X11_onceLine this a1 a2 a3 s0 post) : Met l yX11_onceLine (mm_wm yX11_onceLine cX11_onceLine 4 (some .boolean)) (mm_rm 4) (va_Pc [.ref (mm_ad G this), .int (mm_I a1), .int (mm_I a2), .int (mm_I a3)] (mm_pre G s0)) (mm_Qi G post) 0 0 (mm_A G) := by
  refine mm_met (own := RX11) (by decide) rfl (Nat.le_of_ble_eq_true rfl) ?_
  intro p e s m args below meth c C hr hk
  unfold wp_X11_onceLine at hw
  intro H locs ls w hl
  have hl : lv_has ls 4 [(0, .ref (mm_ad G this)), (1, .int (mm_I a1)), (2, .int (mm_I a2)), (3, .int (mm_I a3))] := hl
  refine lv_aload_n (pc := 0) C.1 C.2.1 dX11_onceLine_0 rfl (lv_at hl 0 rfl) ?_
  refine g_getr (pc := 1) C w h0 ff_X11_11 lk_X11_24 dX11_onceLine_1 ?_
  refine lv_iload_n (pc := 4) C.1 C.2.1 dX11_onceLine_4 rfl (lv_at hl 1 rfl) ?_
  obtain ⟨hi, hw⟩ := hw
  refine g_iald (pc := 5) C w (ro_X11_11 h0) hi dX11_onceLine_5 ?_
  refine lv_iconst (pc := 6) (v := mm_I (-1)) C.1 C.2.1 dX11_onceLine_6 rfl ?_
  refine g_icmp_eq (pc := 7) (tgt := 12) C rfl mn_m1 dX11_onceLine_7 (by decide) (fun hc => ?_) (fun hc => ?_)
  · have hw := hw.1 hc
    refine lv_aload_n (pc := 12) C.1 C.2.1 dX11_onceLine_12 rfl (lv_at hl 0 rfl) ?_
    refine g_callv (pc := 13) w (mm_runV (ci := 11) (q := (RX11, TX11, 65)) (As := []) (rest := []) C w (c_X11_leads l G this h0 s0 _ hw) h0 rfl rfl cv_X11_leads ml_X11_172 ⟨Nat.le_of_ble_eq_true rfl, Nat.le_of_ble_eq_true rfl⟩ ⟨Nat.le_of_ble_eq_true rfl, Nat.le_of_ble_eq_true rfl⟩ rfl hl.1 rfl (Nat.le_of_ble_eq_true rfl) dX11_onceLine_13) (fun s_1 H locs hw w => ?_)
    refine lv_aload_n (pc := 16) C.1 C.2.1 dX11_onceLine_16 rfl (lv_at hl 0 rfl) ?_
    refine lv_iload_n (pc := 17) C.1 C.2.1 dX11_onceLine_17 rfl (lv_at hl 2 rfl) ?_
    refine lv_iload_n (pc := 18) C.1 C.2.1 dX11_onceLine_18 rfl (lv_at hl 3 rfl) ?_
    refine g_calli (pc := 19) w (mm_runV (ci := 11) (q := (RX11, TX11, 65)) (As := [.int (mm_I a2), .int (mm_I a3)]) (rest := []) C w (c_X11_number l G this a2 a3 h0 s_1 _ hw) h0 rfl rfl cv_X11_number ml_X11_181 ⟨Nat.le_of_ble_eq_true rfl, Nat.le_of_ble_eq_true rfl⟩ ⟨Nat.le_of_ble_eq_true rfl, Nat.le_of_ble_eq_true rfl⟩ rfl hl.1 rfl (Nat.le_of_ble_eq_true rfl) dX11_onceLine_19) (fun r_4 s_3 H locs hw w => ?_)
    refine g_if_ne (pc := 22) (tgt := 27) C rfl dX11_onceLine_22 (by decide) (fun hc => ?_) (fun hc => ?_)
    · have hw := hw.1 hc
      refine lv_aload_n (pc := 27) C.1 C.2.1 dX11_onceLine_27 rfl (lv_at hl 0 rfl) ?_
      refine g_getr (pc := 28) C w h0 ff_X11_11 lk_X11_24 dX11_onceLine_28 ?_
      refine lv_iload_n (pc := 31) C.1 C.2.1 dX11_onceLine_31 rfl (lv_at hl 1 rfl) ?_
      refine lv_aload_n (pc := 32) C.1 C.2.1 dX11_onceLine_32 rfl (lv_at hl 0 rfl) ?_
      refine g_geti (pc := 33) C w h0 ff_X11_44 lk_X11_169 dX11_onceLine_33 ?_
      obtain ⟨hi, hw⟩ := hw
      refine g_iast (pc := 36) C w (ro_X11_11 h0) hi  dX11_onceLine_36 (fun s_5 H locs es_5 w => ?_)
      have hw := hw s_5 es_5
      refine lv_aload_n (pc := 37) C.1 C.2.1 dX11_onceLine_37 rfl (lv_at hl 0 rfl) ?_
      refine g_calli (pc := 38) w (mm_runV (ci := 11) (q := (RX11, TX11, 65)) (As := []) (rest := []) C w (c_X11_ends l G this h0 s_5 _ hw) h0 rfl rfl cv_X11_ends ml_X11_185 ⟨Nat.le_of_ble_eq_true rfl, Nat.le_of_ble_eq_true rfl⟩ ⟨Nat.le_of_ble_eq_true rfl, Nat.le_of_ble_eq_true rfl⟩ rfl hl.1 rfl (Nat.le_of_ble_eq_true rfl) dX11_onceLine_38) (fun r_7 s_6 H locs hw w => ?_)
      obtain ⟨hb, hw⟩ := hw
      exact g_zret (pc := 41) C w hr hk hb hw dX11_onceLine_41
    · have hw := hw.2 hc
      refine lv_iconst (pc := 25) (v := mm_I 0) C.1 C.2.1 dX11_onceLine_25 rfl ?_
      exact g_zret (pc := 26) C w hr hk (by decide) hw dX11_onceLine_26
  · have hw := hw.2 hc
    refine lv_iconst (pc := 10) (v := mm_I 0) C.1 C.2.1 dX11_onceLine_10 rfl ?_
    exact g_zret (pc := 11) C w hr hk (by decide) hw dX11_onceLine_11
theorem cv_X11_onceLine : mm_V yX11_onceLine cX11_onceLine 4 (some .boolean) 3 := ⟨(mt_7 0 rfl rfl), (mt_6 239 rfl rfl), (mp_4 5 rfl rfl), (mt_1 12 rfl rfl), by decide, by decide, by decide +kernel⟩
theorem ml_X11_216 : Cond.methodLink RX11 216 yX11_onceLine ∈ mm_ws := (mt_6 237 rfl rfl)
theorem cv_X11_sortLine : mm_V yX11_sortLine cX11_sortLine 3 (some .boolean) 0 := ⟨(mt_6 230 rfl rfl), (mt_6 229 rfl rfl), (mp_4 4 rfl rfl), (mt_1 12 rfl rfl), by decide, by decide, by decide +kernel⟩
theorem ml_X11_213 : Cond.methodLink RX11 213 yX11_sortLine ∈ mm_ws := (mt_6 227 rfl rfl)
theorem cv_X11_counterLine : mm_V yX11_counterLine cX11_counterLine 2 (some .boolean) 0 := ⟨(mt_6 213 rfl rfl), (mt_6 212 rfl rfl), (mp_4 0 rfl rfl), (mt_1 12 rfl rfl), by decide, by decide, by decide +kernel⟩
theorem ml_X11_210 : Cond.methodLink RX11 210 yX11_counterLine ∈ mm_ws := (mt_6 210 rfl rfl)
def wp_X11_townLine (this : Nat) (s0 : mm_M) (post : Int → mm_M → Prop) : Prop :=
  (wp_X11_isWord this 18 s0 (fun r_2 s_1 => ((n32 r_2 = 0 → (wp_X11_isWord this 19 s_1 (fun r_4 s_3 => ((n32 r_4 = 0 → (wp_X11_isWord this 20 s_3 (fun r_6 s_5 => ((n32 r_6 = 0 → (wp_X11_isWord this 21 s_5 (fun r_8 s_7 => ((n32 r_8 = 0 → (wp_X11_isWord this 22 s_7 (fun r_10 s_9 => ((n32 r_10 = 0 → post 0 s_9) ∧ (¬ n32 r_10 = 0 → (wp_X11_onceLine this 2 0 9 s_9 (fun r_12 s_11 => ((n32 r_12 = 0 → post 0 s_11) ∧ (¬ n32 r_12 = 0 → post 1 s_11))))))))) ∧ (¬ n32 r_8 = 0 → (wp_X11_onceLine this 1 0 99 s_7 (fun r_14 s_13 => ((r_14 = 0 ∨ r_14 = 1) ∧ post r_14 s_13)))))))) ∧ (¬ n32 r_6 = 0 → (wp_X11_onceLine this 0 10 240 s_5 (fun r_16 s_15 => ((r_16 = 0 ∨ r_16 = 1) ∧ post r_16 s_15)))))))) ∧ (¬ n32 r_4 = 0 → (wp_X11_sortLine this s_3 (fun r_18 s_17 => ((r_18 = 0 ∨ r_18 = 1) ∧ post r_18 s_17)))))))) ∧ (¬ n32 r_2 = 0 → (wp_X11_counterLine this s_1 (fun r_20 s_19 => ((r_20 = 0 ∨ r_20 = 1) ∧ post r_20 s_19)))))))
set_option maxRecDepth 100000 in
set_option maxHeartbeats 4000000 in
theorem c_X11_townLine (l : Launch) (G : mm_G) (this : Nat) (h0 : mm_ok this 21 0) (s0 : mm_M) (post : Int → mm_M → Prop) (hw : wp_X11_townLine this s0 post) : Met l yX11_townLine (mm_wm yX11_townLine cX11_townLine 1 (some .boolean)) (mm_rm 8) (va_Pc [.ref (mm_ad G this)] (mm_pre G s0)) (mm_Qi G post) 0 0 (mm_A G) := by
  refine mm_met (own := RX11) (by decide) rfl (Nat.le_of_ble_eq_true rfl) ?_
  intro p e s m args below meth c C hr hk
  unfold wp_X11_townLine at hw
  intro H locs ls w hl
  have hl : lv_has ls 1 [(0, .ref (mm_ad G this))] := hl
  refine lv_aload_n (pc := 0) C.1 C.2.1 dX11_townLine_0 rfl (lv_at hl 0 rfl) ?_
  refine va_ldcS (pc := 1) C.1 C.2.1 C.2.2.2.1 (w.2.2.2.1.2.2.2.2 18 (by decide)).1 dX11_townLine_1 ?_
  refine g_calli (pc := 3) w (mm_runV (ci := 11) (q := (RX11, TX11, 65)) (As := [.ref (G.2.2.2.1 18)]) (rest := []) C w (c_X11_isWord l G this 18 h0 (by decide) s0 _ hw) h0 rfl rfl cv_X11_isWord ml_X11_194 ⟨Nat.le_of_ble_eq_true rfl, Nat.le_of_ble_eq_true rfl⟩ ⟨Nat.le_of_ble_eq_true rfl, Nat.le_of_ble_eq_true rfl⟩ rfl hl.1 rfl (Nat.le_of_ble_eq_true rfl) dX11_townLine_3) (fun r_2 s_1 H locs hw w => ?_)
  refine g_if_eq (pc := 6) (tgt := 14) C rfl dX11_townLine_6 (by decide) (fun hc => ?_) (fun hc => ?_)
  · have hw := hw.1 hc
    refine lv_aload_n (pc := 14) C.1 C.2.1 dX11_townLine_14 rfl (lv_at hl 0 rfl) ?_
    refine va_ldcS (pc := 15) C.1 C.2.1 C.2.2.2.1 (w.2.2.2.1.2.2.2.2 19 (by decide)).1 dX11_townLine_15 ?_
    refine g_calli (pc := 17) w (mm_runV (ci := 11) (q := (RX11, TX11, 65)) (As := [.ref (G.2.2.2.1 19)]) (rest := []) C w (c_X11_isWord l G this 19 h0 (by decide) s_1 _ hw) h0 rfl rfl cv_X11_isWord ml_X11_194 ⟨Nat.le_of_ble_eq_true rfl, Nat.le_of_ble_eq_true rfl⟩ ⟨Nat.le_of_ble_eq_true rfl, Nat.le_of_ble_eq_true rfl⟩ rfl hl.1 rfl (Nat.le_of_ble_eq_true rfl) dX11_townLine_17) (fun r_4 s_3 H locs hw w => ?_)
    refine g_if_eq (pc := 20) (tgt := 28) C rfl dX11_townLine_20 (by decide) (fun hc => ?_) (fun hc => ?_)
    · have hw := hw.1 hc
      refine lv_aload_n (pc := 28) C.1 C.2.1 dX11_townLine_28 rfl (lv_at hl 0 rfl) ?_
      refine va_ldcS (pc := 29) C.1 C.2.1 C.2.2.2.1 (w.2.2.2.1.2.2.2.2 20 (by decide)).1 dX11_townLine_29 ?_
      refine g_calli (pc := 31) w (mm_runV (ci := 11) (q := (RX11, TX11, 65)) (As := [.ref (G.2.2.2.1 20)]) (rest := []) C w (c_X11_isWord l G this 20 h0 (by decide) s_3 _ hw) h0 rfl rfl cv_X11_isWord ml_X11_194 ⟨Nat.le_of_ble_eq_true rfl, Nat.le_of_ble_eq_true rfl⟩ ⟨Nat.le_of_ble_eq_true rfl, Nat.le_of_ble_eq_true rfl⟩ rfl hl.1 rfl (Nat.le_of_ble_eq_true rfl) dX11_townLine_31) (fun r_6 s_5 H locs hw w => ?_)
      refine g_if_eq (pc := 34) (tgt := 48) C rfl dX11_townLine_34 (by decide) (fun hc => ?_) (fun hc => ?_)
      · have hw := hw.1 hc
        refine lv_aload_n (pc := 48) C.1 C.2.1 dX11_townLine_48 rfl (lv_at hl 0 rfl) ?_
        refine va_ldcS (pc := 49) C.1 C.2.1 C.2.2.2.1 (w.2.2.2.1.2.2.2.2 21 (by decide)).1 dX11_townLine_49 ?_
        refine g_calli (pc := 51) w (mm_runV (ci := 11) (q := (RX11, TX11, 65)) (As := [.ref (G.2.2.2.1 21)]) (rest := []) C w (c_X11_isWord l G this 21 h0 (by decide) s_5 _ hw) h0 rfl rfl cv_X11_isWord ml_X11_194 ⟨Nat.le_of_ble_eq_true rfl, Nat.le_of_ble_eq_true rfl⟩ ⟨Nat.le_of_ble_eq_true rfl, Nat.le_of_ble_eq_true rfl⟩ rfl hl.1 rfl (Nat.le_of_ble_eq_true rfl) dX11_townLine_51) (fun r_8 s_7 H locs hw w => ?_)
        refine g_if_eq (pc := 54) (tgt := 66) C rfl dX11_townLine_54 (by decide) (fun hc => ?_) (fun hc => ?_)
        · have hw := hw.1 hc
          refine lv_aload_n (pc := 66) C.1 C.2.1 dX11_townLine_66 rfl (lv_at hl 0 rfl) ?_
          refine va_ldcS (pc := 67) C.1 C.2.1 C.2.2.2.1 (w.2.2.2.1.2.2.2.2 22 (by decide)).1 dX11_townLine_67 ?_
          refine g_calli (pc := 69) w (mm_runV (ci := 11) (q := (RX11, TX11, 65)) (As := [.ref (G.2.2.2.1 22)]) (rest := []) C w (c_X11_isWord l G this 22 h0 (by decide) s_7 _ hw) h0 rfl rfl cv_X11_isWord ml_X11_194 ⟨Nat.le_of_ble_eq_true rfl, Nat.le_of_ble_eq_true rfl⟩ ⟨Nat.le_of_ble_eq_true rfl, Nat.le_of_ble_eq_true rfl⟩ rfl hl.1 rfl (Nat.le_of_ble_eq_true rfl) dX11_townLine_69) (fun r_10 s_9 H locs hw w => ?_)
          refine g_if_eq (pc := 72) (tgt := 90) C rfl dX11_townLine_72 (by decide) (fun hc => ?_) (fun hc => ?_)
          · have hw := hw.1 hc
            refine lv_iconst (pc := 90) (v := mm_I 0) C.1 C.2.1 dX11_townLine_90 rfl ?_
            exact g_zret (pc := 91) C w hr hk (by decide) hw dX11_townLine_91
          · have hw := hw.2 hc
            refine lv_aload_n (pc := 75) C.1 C.2.1 dX11_townLine_75 rfl (lv_at hl 0 rfl) ?_
            refine lv_iconst (pc := 76) (v := mm_I 2) C.1 C.2.1 dX11_townLine_76 rfl ?_
            refine lv_iconst (pc := 77) (v := mm_I 0) C.1 C.2.1 dX11_townLine_77 rfl ?_
            refine lv_bipush (pc := 78) C.1 C.2.1 dX11_townLine_78 mb_9 ?_
            refine g_calli (pc := 80) w (mm_runV (ci := 11) (q := (RX11, TX11, 65)) (As := [.int (mm_I 2), .int (mm_I 0), .int (mm_I 9)]) (rest := []) C w (c_X11_onceLine l G this 2 0 9 h0 s_9 _ hw) h0 rfl rfl cv_X11_onceLine ml_X11_216 ⟨Nat.le_of_ble_eq_true rfl, Nat.le_of_ble_eq_true rfl⟩ ⟨Nat.le_of_ble_eq_true rfl, Nat.le_of_ble_eq_true rfl⟩ rfl hl.1 rfl (Nat.le_of_ble_eq_true rfl) dX11_townLine_80) (fun r_12 s_11 H locs hw w => ?_)
            refine g_if_eq (pc := 83) (tgt := 90) C rfl dX11_townLine_83 (by decide) (fun hc => ?_) (fun hc => ?_)
            · have hw := hw.1 hc
              refine lv_iconst (pc := 90) (v := mm_I 0) C.1 C.2.1 dX11_townLine_90 rfl ?_
              exact g_zret (pc := 91) C w hr hk (by decide) hw dX11_townLine_91
            · have hw := hw.2 hc
              refine lv_iconst (pc := 86) (v := mm_I 1) C.1 C.2.1 dX11_townLine_86 rfl ?_
              refine lv_goto (pc := 87) (tgt := 91) C.1 C.2.1 dX11_townLine_87 (by decide) ?_
              exact g_zret (pc := 91) C w hr hk (by decide) hw dX11_townLine_91
        · have hw := hw.2 hc
          refine lv_aload_n (pc := 57) C.1 C.2.1 dX11_townLine_57 rfl (lv_at hl 0 rfl) ?_
          refine lv_iconst (pc := 58) (v := mm_I 1) C.1 C.2.1 dX11_townLine_58 rfl ?_
          refine lv_iconst (pc := 59) (v := mm_I 0) C.1 C.2.1 dX11_townLine_59 rfl ?_
          refine lv_bipush (pc := 60) C.1 C.2.1 dX11_townLine_60 mb_99 ?_
          refine g_calli (pc := 62) w (mm_runV (ci := 11) (q := (RX11, TX11, 65)) (As := [.int (mm_I 1), .int (mm_I 0), .int (mm_I 99)]) (rest := []) C w (c_X11_onceLine l G this 1 0 99 h0 s_7 _ hw) h0 rfl rfl cv_X11_onceLine ml_X11_216 ⟨Nat.le_of_ble_eq_true rfl, Nat.le_of_ble_eq_true rfl⟩ ⟨Nat.le_of_ble_eq_true rfl, Nat.le_of_ble_eq_true rfl⟩ rfl hl.1 rfl (Nat.le_of_ble_eq_true rfl) dX11_townLine_62) (fun r_14 s_13 H locs hw w => ?_)
          obtain ⟨hb, hw⟩ := hw
          exact g_zret (pc := 65) C w hr hk hb hw dX11_townLine_65
      · have hw := hw.2 hc
        refine lv_aload_n (pc := 37) C.1 C.2.1 dX11_townLine_37 rfl (lv_at hl 0 rfl) ?_
        refine lv_iconst (pc := 38) (v := mm_I 0) C.1 C.2.1 dX11_townLine_38 rfl ?_
        refine lv_bipush (pc := 39) C.1 C.2.1 dX11_townLine_39 mb_10 ?_
        refine lv_sipush (pc := 41) C.1 C.2.1 dX11_townLine_41 ms_240 ?_
        refine g_calli (pc := 44) w (mm_runV (ci := 11) (q := (RX11, TX11, 65)) (As := [.int (mm_I 0), .int (mm_I 10), .int (mm_I 240)]) (rest := []) C w (c_X11_onceLine l G this 0 10 240 h0 s_5 _ hw) h0 rfl rfl cv_X11_onceLine ml_X11_216 ⟨Nat.le_of_ble_eq_true rfl, Nat.le_of_ble_eq_true rfl⟩ ⟨Nat.le_of_ble_eq_true rfl, Nat.le_of_ble_eq_true rfl⟩ rfl hl.1 rfl (Nat.le_of_ble_eq_true rfl) dX11_townLine_44) (fun r_16 s_15 H locs hw w => ?_)
        obtain ⟨hb, hw⟩ := hw
        exact g_zret (pc := 47) C w hr hk hb hw dX11_townLine_47
    · have hw := hw.2 hc
      refine lv_aload_n (pc := 23) C.1 C.2.1 dX11_townLine_23 rfl (lv_at hl 0 rfl) ?_
      refine g_calli (pc := 24) w (mm_runV (ci := 11) (q := (RX11, TX11, 65)) (As := []) (rest := []) C w (c_X11_sortLine l G this h0 s_3 _ hw) h0 rfl rfl cv_X11_sortLine ml_X11_213 ⟨Nat.le_of_ble_eq_true rfl, Nat.le_of_ble_eq_true rfl⟩ ⟨Nat.le_of_ble_eq_true rfl, Nat.le_of_ble_eq_true rfl⟩ rfl hl.1 rfl (Nat.le_of_ble_eq_true rfl) dX11_townLine_24) (fun r_18 s_17 H locs hw w => ?_)
      obtain ⟨hb, hw⟩ := hw
      exact g_zret (pc := 27) C w hr hk hb hw dX11_townLine_27
  · have hw := hw.2 hc
    refine lv_aload_n (pc := 9) C.1 C.2.1 dX11_townLine_9 rfl (lv_at hl 0 rfl) ?_
    refine g_calli (pc := 10) w (mm_runV (ci := 11) (q := (RX11, TX11, 65)) (As := []) (rest := []) C w (c_X11_counterLine l G this h0 s_1 _ hw) h0 rfl rfl cv_X11_counterLine ml_X11_210 ⟨Nat.le_of_ble_eq_true rfl, Nat.le_of_ble_eq_true rfl⟩ ⟨Nat.le_of_ble_eq_true rfl, Nat.le_of_ble_eq_true rfl⟩ rfl hl.1 rfl (Nat.le_of_ble_eq_true rfl) dX11_townLine_10) (fun r_20 s_19 H locs hw w => ?_)
    obtain ⟨hb, hw⟩ := hw
    exact g_zret (pc := 13) C w hr hk hb hw dX11_townLine_13
theorem cv_X11_townLine : mm_V yX11_townLine cX11_townLine 1 (some .boolean) 0 := ⟨(mt_6 199 rfl rfl), (mt_6 198 rfl rfl), (mp_3 14 rfl rfl), (mt_1 12 rfl rfl), by decide, by decide, by decide +kernel⟩
theorem ml_X11_219 : Cond.methodLink RX11 219 yX11_townLine ∈ mm_ws := (mt_6 196 rfl rfl)
def wp_X11_townFault (this : Nat) (s0 : mm_M) (post : Int → mm_M → Prop) : Prop :=
  ∀ (L12 : Int → mm_M → Prop), ∀ (L39 : mm_M → Prop), 
  (∀ (v1 : Int) (s1 : mm_M), ((3 ≤ n32 v1 → (∀ s_4 : mm_M, s_4 = mm_up s1 this 2 0 → (wp_X11_leads this s_4 (fun s_5 => L39 s_5)))) ∧ (¬ 3 ≤ n32 v1 → ((0 ≤ v1 ∧ v1 < 3) ∧ (∀ s_7 : mm_M, s_7 = mm_up s1 (mm_rt this 11) v1 (-1) → (∀ v1_8 : Int, v1_8 = v1 + 1 → L12 v1_8 s_7))))) → L12 v1 s1) →
  (∀  (s1 : mm_M), ((n32 (s1 this 3) = 0 → ((n32 (s1 this 6) = 0 → post (s1 this 4) s1) ∧ (¬ n32 (s1 this 6) = 0 → ((¬ n32 (s1 this 8) = 0 → post (-1) s1) ∧ (n32 (s1 this 8) = 0 → post (s1 this 4) s1))))) ∧ (¬ n32 (s1 this 3) = 0 → (wp_X11_townLine this s1 (fun r_10 s_9 => ((¬ n32 r_10 = 0 → L39 s_9) ∧ (n32 r_10 = 0 → post (s_9 this 4) s_9)))))) → L39 s1) →
  (∀ s_1 : mm_M, s_1 = mm_up s0 this 6 0 → (∀ s_2 : mm_M, s_2 = mm_up s_1 this 8 0 → L12 0 s_2))
set_option maxRecDepth 100000 in
set_option maxHeartbeats 4000000 in
theorem c_X11_townFault (l : Launch) (G : mm_G) (this : Nat) (h0 : mm_ok this 21 0) (s0 : mm_M) (post : Int → mm_M → Prop) (hw : wp_X11_townFault this s0 post) : Met l yX11_townFault (mm_wm yX11_townFault cX11_townFault 2 (some .int)) (mm_rm 9) (va_Pc [.ref (mm_ad G this)] (mm_pre G s0)) (mm_Qi G post) 0 0 (mm_A G) := by
  refine mm_met (own := RX11) (by decide) rfl (Nat.le_of_ble_eq_true rfl) ?_
  intro p e s m args below meth c C hr hk
  unfold wp_X11_townFault at hw
  have hw := hw (fun (v1 : Int) (u : mm_M) => mm_X p l e (mm_rm 9) s m args below meth c (MQ below (mm_Qi G post) args s 0 0 (mm_A G)) G (mm_A G) 2 12 [(0, .ref (mm_ad G this)), (1, .int (mm_I v1))] [] u)
  have hw := hw (fun  (u : mm_M) => mm_X p l e (mm_rm 9) s m args below meth c (MQ below (mm_Qi G post) args s 0 0 (mm_A G)) G (mm_A G) 2 39 [(0, .ref (mm_ad G this))] [] u)
  have hw := hw (by
    intro v1 s1 hw  H locs ls w hl
    refine lv_iload_n (pc := 12) C.1 C.2.1 dX11_townFault_12 rfl (lv_at hl 1 rfl) ?_
    refine lv_iconst (pc := 13) (v := mm_I 3) C.1 C.2.1 dX11_townFault_13 rfl ?_
    refine g_icmp_ge (pc := 14) (tgt := 30) C rfl mn_3 dX11_townFault_14 (by decide) (fun hc => ?_) (fun hc => ?_)
    · have hw := hw.1 hc
      refine lv_aload_n (pc := 30) C.1 C.2.1 dX11_townFault_30 rfl (lv_at hl 0 rfl) ?_
      refine lv_iconst (pc := 31) (v := mm_I 0) C.1 C.2.1 dX11_townFault_31 rfl ?_
      refine g_puti (pc := 32) C w h0 ff_X11_2 fw_X11_2 lk_X11_126 dX11_townFault_32 (fun s_4 H locs es_4 w => ?_)
      have hw := hw s_4 es_4
      refine lv_aload_n (pc := 35) C.1 C.2.1 dX11_townFault_35 rfl (lv_at hl 0 rfl) ?_
      refine g_callv (pc := 36) w (mm_runV (ci := 11) (q := (RX11, TX11, 65)) (As := []) (rest := []) C w (c_X11_leads l G this h0 s_4 _ hw) h0 rfl rfl cv_X11_leads ml_X11_172 ⟨Nat.le_of_ble_eq_true rfl, Nat.le_of_ble_eq_true rfl⟩ ⟨Nat.le_of_ble_eq_true rfl, Nat.le_of_ble_eq_true rfl⟩ rfl hl.1 rfl (Nat.le_of_ble_eq_true rfl) dX11_townFault_36) (fun s_5 H locs hw w => ?_)
      exact hw  _ _ _ w (lv_sub hl [0] rfl)
    · have hw := hw.2 hc
      refine lv_aload_n (pc := 17) C.1 C.2.1 dX11_townFault_17 rfl (lv_at hl 0 rfl) ?_
      refine g_getr (pc := 18) C w h0 ff_X11_11 lk_X11_24 dX11_townFault_18 ?_
      refine lv_iload_n (pc := 21) C.1 C.2.1 dX11_townFault_21 rfl (lv_at hl 1 rfl) ?_
      refine lv_iconst (pc := 22) (v := mm_I (-1)) C.1 C.2.1 dX11_townFault_22 rfl ?_
      obtain ⟨hi, hw⟩ := hw
      refine g_iast (pc := 23) C w (ro_X11_11 h0) hi  dX11_townFault_23 (fun s_7 H locs es_7 w => ?_)
      have hw := hw s_7 es_7
      refine g_iinc (pc := 24) (k := 1) C dX11_townFault_24 hl rfl (by decide) (fun v1_8 ev1_8 ls hl => ?_)
      have hw := hw v1_8 ev1_8
      have hl : lv_has ls 2 [(1, .int (mm_I v1_8)), (0, .ref (mm_ad G this))] := hl
      refine lv_goto (pc := 27) (tgt := 12) C.1 C.2.1 dX11_townFault_27 (by decide) ?_
      exact hw  _ _ _ w (lv_sub hl [1, 0] rfl))
  have hw := hw (by
    intro  s1 hw  H locs ls w hl
    refine lv_aload_n (pc := 39) C.1 C.2.1 dX11_townFault_39 rfl (lv_at hl 0 rfl) ?_
    refine g_geti (pc := 40) C w h0 ff_X11_3 lk_X11_136 dX11_townFault_40 ?_
    refine g_if_eq (pc := 43) (tgt := 58) C rfl dX11_townFault_43 (by decide) (fun hc => ?_) (fun hc => ?_)
    · have hw := hw.1 hc
      refine lv_aload_n (pc := 58) C.1 C.2.1 dX11_townFault_58 rfl (lv_at hl 0 rfl) ?_
      refine g_geti (pc := 59) C w h0 ff_X11_6 lk_X11_178 dX11_townFault_59 ?_
      refine g_if_eq (pc := 62) (tgt := 72) C rfl dX11_townFault_62 (by decide) (fun hc => ?_) (fun hc => ?_)
      · have hw := hw.1 hc
        refine lv_aload_n (pc := 72) C.1 C.2.1 dX11_townFault_72 rfl (lv_at hl 0 rfl) ?_
        refine g_geti (pc := 73) C w h0 ff_X11_4 lk_X11_129 dX11_townFault_73 ?_
        refine lv_goto (pc := 76) (tgt := 80) C.1 C.2.1 dX11_townFault_76 (by decide) ?_
        exact g_iret (pc := 80) C w hr hk hw dX11_townFault_80
      · have hw := hw.2 hc
        refine lv_aload_n (pc := 65) C.1 C.2.1 dX11_townFault_65 rfl (lv_at hl 0 rfl) ?_
        refine g_geti (pc := 66) C w h0 ff_X11_8 lk_X11_189 dX11_townFault_66 ?_
        refine g_if_ne (pc := 69) (tgt := 79) C rfl dX11_townFault_69 (by decide) (fun hc => ?_) (fun hc => ?_)
        · have hw := hw.1 hc
          refine lv_iconst (pc := 79) (v := mm_I (-1)) C.1 C.2.1 dX11_townFault_79 rfl ?_
          exact g_iret (pc := 80) C w hr hk hw dX11_townFault_80
        · have hw := hw.2 hc
          refine lv_aload_n (pc := 72) C.1 C.2.1 dX11_townFault_72 rfl (lv_at hl 0 rfl) ?_
          refine g_geti (pc := 73) C w h0 ff_X11_4 lk_X11_129 dX11_townFault_73 ?_
          refine lv_goto (pc := 76) (tgt := 80) C.1 C.2.1 dX11_townFault_76 (by decide) ?_
          exact g_iret (pc := 80) C w hr hk hw dX11_townFault_80
    · have hw := hw.2 hc
      refine lv_aload_n (pc := 46) C.1 C.2.1 dX11_townFault_46 rfl (lv_at hl 0 rfl) ?_
      refine g_calli (pc := 47) w (mm_runV (ci := 11) (q := (RX11, TX11, 65)) (As := []) (rest := []) C w (c_X11_townLine l G this h0 s1 _ hw) h0 rfl rfl cv_X11_townLine ml_X11_219 ⟨Nat.le_of_ble_eq_true rfl, Nat.le_of_ble_eq_true rfl⟩ ⟨Nat.le_of_ble_eq_true rfl, Nat.le_of_ble_eq_true rfl⟩ rfl hl.1 rfl (Nat.le_of_ble_eq_true rfl) dX11_townFault_47) (fun r_10 s_9 H locs hw w => ?_)
      refine g_if_ne (pc := 50) (tgt := 39) C rfl dX11_townFault_50 (by decide) (fun hc => ?_) (fun hc => ?_)
      · have hw := hw.1 hc
        exact hw  _ _ _ w (lv_sub hl [0] rfl)
      · have hw := hw.2 hc
        refine lv_aload_n (pc := 53) C.1 C.2.1 dX11_townFault_53 rfl (lv_at hl 0 rfl) ?_
        refine g_geti (pc := 54) C w h0 ff_X11_4 lk_X11_129 dX11_townFault_54 ?_
        exact g_iret (pc := 57) C w hr hk hw dX11_townFault_57)
  intro H locs ls w hl
  have hl : lv_has ls 2 [(0, .ref (mm_ad G this))] := hl
  refine lv_aload_n (pc := 0) C.1 C.2.1 dX11_townFault_0 rfl (lv_at hl 0 rfl) ?_
  refine lv_iconst (pc := 1) (v := mm_I 0) C.1 C.2.1 dX11_townFault_1 rfl ?_
  refine g_puti (pc := 2) C w h0 ff_X11_6 fw_X11_6 lk_X11_178 dX11_townFault_2 (fun s_1 H locs es_1 w => ?_)
  have hw := hw s_1 es_1
  refine lv_aload_n (pc := 5) C.1 C.2.1 dX11_townFault_5 rfl (lv_at hl 0 rfl) ?_
  refine lv_iconst (pc := 6) (v := mm_I 0) C.1 C.2.1 dX11_townFault_6 rfl ?_
  refine g_puti (pc := 7) C w h0 ff_X11_8 fw_X11_8 lk_X11_189 dX11_townFault_7 (fun s_2 H locs es_2 w => ?_)
  have hw := hw s_2 es_2
  refine lv_iconst (pc := 10) (v := mm_I 0) C.1 C.2.1 dX11_townFault_10 rfl ?_
  refine lv_istore_n (pc := 11) (lv' := [(1, .int (mm_I 0)), (0, .ref (mm_ad G this))]) C.1 C.2.1 dX11_townFault_11 rfl hl (by decide) rfl (fun ls hl => ?_)
  exact hw  _ _ _ w (lv_sub hl [1, 0] rfl)
theorem lk_X11_33 : Cond.fieldLink RX11 33 "LastServedModel" "newCode" "[I" ∈ mm_ws := (mt_5 225 rfl rfl)
theorem ff_X11_21 : mm_F 11 21 1 RX11 TX11 65 := ⟨rfl, by decide, fk_X11, rfl, rfl⟩
theorem ro_X11_21 {i : Nat} (h : mm_ok i 21 0) : mm_ok (mm_rt i 21) 0 1200 := by
  have q : ∀ i, i < mm_N → mm_kd i = 21 → mm_rt i 21 < mm_N ∧ mm_kd (mm_rt i 21) = 0 ∧ mm_ln (mm_rt i 21) = 1200 := by decide +kernel
  exact q i h.1 h.2.1
theorem lk_X11_222 : Cond.fieldLink RX11 222 "LastServedModel" "newCodes" "I" ∈ mm_ws := (mt_5 224 rfl rfl)
theorem ff_X11_20 : mm_F 11 20 0 RX11 TX11 65 := ⟨rfl, by decide, fk_X11, rfl, rfl⟩
theorem fw_X11_20 : mm_Fw 11 20 TX11 65 .int := ⟨⟨tyX11, tyX11_ok⟩, nmX11, rfl, by decide +kernel⟩
def wp_X11_lays (this : Nat) (a1 : Int) (a2 : Int) (s0 : mm_M) (post : mm_M → Prop) : Prop :=
  ((0 ≤ 2 * (s0 this 20) ∧ 2 * (s0 this 20) < 1200) ∧ (∀ s_1 : mm_M, s_1 = mm_up s0 (mm_rt this 21) (2 * (s0 this 20)) a1 → ((0 ≤ (2 * (s_1 this 20)) + 1 ∧ (2 * (s_1 this 20)) + 1 < 1200) ∧ (∀ s_2 : mm_M, s_2 = mm_up s_1 (mm_rt this 21) ((2 * (s_1 this 20)) + 1) a2 → (∀ s_3 : mm_M, s_3 = mm_up s_2 this 20 ((s_2 this 20) + 1) → post s_3)))))
set_option maxRecDepth 100000 in
set_option maxHeartbeats 4000000 in
theorem c_X11_lays (l : Launch) (G : mm_G) (this : Nat) (a1 : Int) (a2 : Int) (h0 : mm_ok this 21 0) (s0 : mm_M) (post : mm_M → Prop) (hw : wp_X11_lays this a1 a2 s0 post) : Met l yX11_lays (mm_wm yX11_lays cX11_lays 3 none) (mm_rm 1) (va_Pc [.ref (mm_ad G this), .int (mm_I a1), .int (mm_I a2)] (mm_pre G s0)) (mm_Qv G post) 0 0 (mm_A G) := by
  refine mm_met (own := RX11) (by decide) rfl (Nat.le_of_ble_eq_true rfl) ?_
  intro p e s m args below meth c C hr hk
  unfold wp_X11_lays at hw
  intro H locs ls w hl
  have hl : lv_has ls 3 [(0, .ref (mm_ad G this)), (1, .int (mm_I a1)), (2, .int (mm_I a2))] := hl
  refine lv_aload_n (pc := 0) C.1 C.2.1 dX11_lays_0 rfl (lv_at hl 0 rfl) ?_
  refine g_getr (pc := 1) C w h0 ff_X11_21 lk_X11_33 dX11_lays_1 ?_
  refine lv_iconst (pc := 4) (v := mm_I 2) C.1 C.2.1 dX11_lays_4 rfl ?_
  refine lv_aload_n (pc := 5) C.1 C.2.1 dX11_lays_5 rfl (lv_at hl 0 rfl) ?_
  refine g_geti (pc := 6) C w h0 ff_X11_20 lk_X11_222 dX11_lays_6 ?_
  refine g_imul (pc := 9) C dX11_lays_9 ?_
  refine lv_iload_n (pc := 10) C.1 C.2.1 dX11_lays_10 rfl (lv_at hl 1 rfl) ?_
  obtain ⟨hi, hw⟩ := hw
  refine g_iast (pc := 11) C w (ro_X11_21 h0) hi  dX11_lays_11 (fun s_1 H locs es_1 w => ?_)
  have hw := hw s_1 es_1
  refine lv_aload_n (pc := 12) C.1 C.2.1 dX11_lays_12 rfl (lv_at hl 0 rfl) ?_
  refine g_getr (pc := 13) C w h0 ff_X11_21 lk_X11_33 dX11_lays_13 ?_
  refine lv_iconst (pc := 16) (v := mm_I 2) C.1 C.2.1 dX11_lays_16 rfl ?_
  refine lv_aload_n (pc := 17) C.1 C.2.1 dX11_lays_17 rfl (lv_at hl 0 rfl) ?_
  refine g_geti (pc := 18) C w h0 ff_X11_20 lk_X11_222 dX11_lays_18 ?_
  refine g_imul (pc := 21) C dX11_lays_21 ?_
  refine lv_iconst (pc := 22) (v := mm_I 1) C.1 C.2.1 dX11_lays_22 rfl ?_
  refine g_iadd (pc := 23) C dX11_lays_23 ?_
  refine lv_iload_n (pc := 24) C.1 C.2.1 dX11_lays_24 rfl (lv_at hl 2 rfl) ?_
  obtain ⟨hi, hw⟩ := hw
  refine g_iast (pc := 25) C w (ro_X11_21 h0) hi  dX11_lays_25 (fun s_2 H locs es_2 w => ?_)
  have hw := hw s_2 es_2
  refine lv_aload_n (pc := 26) C.1 C.2.1 dX11_lays_26 rfl (lv_at hl 0 rfl) ?_
  refine lv_dup (pc := 27) C.1 C.2.1 dX11_lays_27 rfl ?_
  refine g_geti (pc := 28) C w h0 ff_X11_20 lk_X11_222 dX11_lays_28 ?_
  refine lv_iconst (pc := 31) (v := mm_I 1) C.1 C.2.1 dX11_lays_31 rfl ?_
  refine g_iadd (pc := 32) C dX11_lays_32 ?_
  refine g_puti (pc := 33) C w h0 ff_X11_20 fw_X11_20 lk_X11_222 dX11_lays_33 (fun s_3 H locs es_3 w => ?_)
  have hw := hw s_3 es_3
  exact g_vret (pc := 36) C w hr hk hw dX11_lays_36
def wp_X11_rank (a1 : Int) (s0 : mm_M) (post : Int → mm_M → Prop) : Prop :=
  ((¬ n32 a1 = 4 → ((n32 a1 = 2 → post 1 s0) ∧ (¬ n32 a1 = 2 → ((¬ n32 a1 = 3 → post 0 s0) ∧ (n32 a1 = 3 → post 1 s0))))) ∧ (n32 a1 = 4 → post 2 s0))
set_option maxRecDepth 100000 in
set_option maxHeartbeats 4000000 in
theorem c_X11_rank (l : Launch) (G : mm_G) (a1 : Int)  (s0 : mm_M) (post : Int → mm_M → Prop) (hw : wp_X11_rank a1 s0 post) : Met l yX11_rank (mm_wm yX11_rank cX11_rank 1 (some .int)) (mm_rm 1) (va_Pc [.int (mm_I a1)] (mm_pre G s0)) (mm_Qi G post) 0 0 (mm_A G) := by
  refine mm_met (own := RX11) (by decide) rfl (Nat.le_of_ble_eq_true rfl) ?_
  intro p e s m args below meth c C hr hk
  unfold wp_X11_rank at hw
  intro H locs ls w hl
  have hl : lv_has ls 1 [(0, .int (mm_I a1))] := hl
  refine lv_iload_n (pc := 0) C.1 C.2.1 dX11_rank_0 rfl (lv_at hl 0 rfl) ?_
  refine lv_iconst (pc := 1) (v := mm_I 4) C.1 C.2.1 dX11_rank_1 rfl ?_
  refine g_icmp_ne (pc := 2) (tgt := 9) C rfl mn_4 dX11_rank_2 (by decide) (fun hc => ?_) (fun hc => ?_)
  · have hw := hw.1 hc
    refine lv_iload_n (pc := 9) C.1 C.2.1 dX11_rank_9 rfl (lv_at hl 0 rfl) ?_
    refine lv_iconst (pc := 10) (v := mm_I 2) C.1 C.2.1 dX11_rank_10 rfl ?_
    refine g_icmp_eq (pc := 11) (tgt := 19) C rfl mn_2 dX11_rank_11 (by decide) (fun hc => ?_) (fun hc => ?_)
    · have hw := hw.1 hc
      refine lv_iconst (pc := 19) (v := mm_I 1) C.1 C.2.1 dX11_rank_19 rfl ?_
      refine lv_goto (pc := 20) (tgt := 24) C.1 C.2.1 dX11_rank_20 (by decide) ?_
      exact g_iret (pc := 24) C w hr hk hw dX11_rank_24
    · have hw := hw.2 hc
      refine lv_iload_n (pc := 14) C.1 C.2.1 dX11_rank_14 rfl (lv_at hl 0 rfl) ?_
      refine lv_iconst (pc := 15) (v := mm_I 3) C.1 C.2.1 dX11_rank_15 rfl ?_
      refine g_icmp_ne (pc := 16) (tgt := 23) C rfl mn_3 dX11_rank_16 (by decide) (fun hc => ?_) (fun hc => ?_)
      · have hw := hw.1 hc
        refine lv_iconst (pc := 23) (v := mm_I 0) C.1 C.2.1 dX11_rank_23 rfl ?_
        exact g_iret (pc := 24) C w hr hk hw dX11_rank_24
      · have hw := hw.2 hc
        refine lv_iconst (pc := 19) (v := mm_I 1) C.1 C.2.1 dX11_rank_19 rfl ?_
        refine lv_goto (pc := 20) (tgt := 24) C.1 C.2.1 dX11_rank_20 (by decide) ?_
        exact g_iret (pc := 24) C w hr hk hw dX11_rank_24
  · have hw := hw.2 hc
    refine lv_iconst (pc := 5) (v := mm_I 2) C.1 C.2.1 dX11_rank_5 rfl ?_
    refine lv_goto (pc := 6) (tgt := 24) C.1 C.2.1 dX11_rank_6 (by decide) ?_
    exact g_iret (pc := 24) C w hr hk hw dX11_rank_24
