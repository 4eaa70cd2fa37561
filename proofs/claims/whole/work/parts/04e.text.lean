/-! text constants: the JDK's own members on them -/
section
variable {p : Program} {l : Launch} {e : Env} {R : Room} {s : State} {m : MethodId} {args : Array Value} {below : List Frame} {meth : Method} {c : Code} {H : Heap} {locs : List Loc} {cells slots : Nat} {Q : State → Prop} {cc : ByteArray} {nL pc : Nat} {own : String} {ls : Array Slot} {rest st : List Value} {G : mm_G} {A : Nat → Prop} {σ : mm_M}
theorem mm_ldcwS (hexec : p.tables.exec = Jvm.exec) (hb : c.code = cc) {own tx : String} {index q : Nat} (hown : s.vm.findClass own = some m.cls) (hZ : vk_R own index tx q s) (hdg : decode cc pc = .ok (.ldc_w index, 3))
    (k : W p l e R s m args below meth c H locs cells slots Q (F0 m (pc + 3) ls (.ref q :: rest))) : W p l e R s m args below meth c H locs cells slots Q (F0 m pc ls rest) := by
  intro T hT X
  obtain ⟨t, a1, b1⟩ := k T hT X
  refine ⟨t, ?_, b1⟩
  obtain ⟨k0, cf, i, a', hk, hcf, hcp, -, hr, hev'⟩ := Cond.stringRef_spec hown hZ.1
  cases hZ.2.symm.trans hev'
  obtain ⟨k', hk', he⟩ := X.warmed.alike.2.2 _ _ hk
  have hr' : k'.resolved[index]? = some (some (.string q)) := by
    rcases X.warmed.entry hk hk' index with h | ⟨h, -⟩
    · rw [h]; exact hr
    · rw [hr] at h; cases h
  jvm_step X.here [hexec, hb, hdg, ldc_w.wp_string (e := e) (s := T) (f := F0 m pc ls rest) X.here.top hk' (by rw [he]; exact hcf) hcp hr']
  exact a1
theorem g_tret (C : mm_C p m c cc nL s args own) (w : mm_Wd G (mm_A G) σ s H locs) {ty : FieldType} (hr : meth.sig.returnType = some ty) (hk : meth.locks = false) {post : Int → mm_M → Prop} {x : Int} (hx : narrow ty (.int (mm_I x)) = .int (mm_I x)) (hw : post x σ) (hdg : decode cc pc = .ok (.ireturn, 1)) : W p l e R s m args below meth c H locs 0 0 (MQ below (mm_Qi G post) args s 0 0 (mm_A G)) (F0 m pc ls [.int (mm_I x)]) :=
  W.zret C.1 C.2.1 hr hx (fun t ht hW => ⟨⟨_, σ, rfl, ⟨x, rfl, hw⟩, by unfold mm_Bw; rw [ht]; exact w.2.2.1⟩, w.2.2.2.2.F ht⟩) w.2.2.2.2.2.2 hdg hk
theorem mm_runT (C : mm_C p m c cc nL s args own) (w : mm_Wd G A σ s H locs) {y : MethodName} {bytes : ByteArray} {maxL d k n index : Nat} {ret : Option FieldType} {As : List Value} {Qc : Array Value → State → Outcome → State → Prop}
    (hM : Met l y (mm_wm y bytes maxL ret) (mm_rm d) (va_Pc (.ref (G.2.2.2.1 k) :: As) (mm_pre G σ)) Qc 0 0 (mm_A G)) (hk : k < mm_nS) (hq : "java/lang/String" = y.cls) (V : mm_V y bytes maxL ret n) (hml : Cond.methodLink own index y ∈ mm_ws)
    (hR : d + 1 ≤ R.frames ∧ 8 + (maxL + 11) + 64 * d ≤ R.locals) (hR2 : cells ≤ R.cells ∧ slots ≤ R.slots) (hn : As.length = n) (hls : ls.size = nL) (hst : st = As.reverse ++ .ref (G.2.2.2.1 k) :: rest) (hW : (rest.map fun v => v.category).sum ≤ 8) (hdg : decode cc pc = .ok (.invokevirtual index, 3)) :
    va_Run p l e R s m args below meth c H locs cells slots 0 0 (F0 m pc ls st) rest (Qc (.ref (G.2.2.2.1 k) :: As).toArray) (mm_A G) := by
  have h := C.2.2.2.2
  refine va_runV (C := y.cls) (b := G.2.2.2.1 k) (As := As) C hM ⟨callB_of n h (mm_good V.1) rfl rfl rfl (h _ V.2.2.2.1) (h _ hml) V.2.2.2.2 hR, h _ V.2.1, h _ V.2.2.1⟩ ⟨mm_blind, ?_, mm_enter w⟩ rfl hn hls hst (lv_room hW) hdg hR2
  rw [← hq]
  obtain ⟨cell, h1, h2, h3, -⟩ := (w.2.2.2.1.2.2.2.2 k hk).2.1.kept w.2.2.2.2.2.1
  exact ⟨cell, h1, h2, h3⟩
end
theorem lk_J0_38 : Cond.fieldLink RJ0 38 "java/lang/String" "COMPACT_STRINGS" "Z" ∈ mm_ws := (mt_2 215 rfl rfl)
theorem lk_J0_15 : Cond.fieldLink RJ0 15 "java/lang/String" "coder" "B" ∈ mm_ws := (mt_8 91 rfl rfl)
theorem lk_J0_9 : Cond.fieldLink RJ0 9 "java/lang/String" "value" "[B" ∈ mm_ws := (mt_8 90 rfl rfl)
theorem lk_J0_1053 : Cond.fieldLink RJ0 1053 "jdk/internal/util/Preconditions" "SIOOBE_FORMATTER" "Ljava/util/function/BiFunction;" ∈ mm_ws := (mt_2 231 rfl rfl)
theorem ml_J0_335 : Cond.methodLink RJ0 335 yJ0_coder_7d493 ∈ mm_ws := (mt_2 211 rfl rfl)
theorem ml_J0_492 : Cond.methodLink RJ0 492 yJ0_isLatin1_aae02 ∈ mm_ws := (mt_2 221 rfl rfl)
theorem ml_J0_495 : Cond.methodLink RJ0 495 yJ1_charAt_3b067 ∈ mm_ws := (mt_2 225 rfl rfl)
theorem ml_J1_9 : Cond.methodLink RJ1 9 yJ0_checkIndex_df160 ∈ mm_ws := (mt_2 228 rfl rfl)
theorem ml_J0_1059 : Cond.methodLink RJ0 1059 yJ3_checkIndex_8e157 ∈ mm_ws := (mt_2 233 rfl rfl)
theorem cv_J0_coder : mm_V yJ0_coder_7d493 cJ0_coder_7d493 1 (some .byte) 0 := ⟨(mt_2 214 rfl rfl), (mt_2 212 rfl rfl), (mt_2 213 rfl rfl), (mt_1 13 rfl rfl), by decide, by decide, by decide +kernel⟩
theorem cv_J0_isLatin1 : mm_V yJ0_isLatin1_aae02 cJ0_isLatin1_aae02 1 (some .boolean) 0 := ⟨(mt_2 224 rfl rfl), (mt_2 222 rfl rfl), (mt_2 223 rfl rfl), (mt_1 13 rfl rfl), by decide, by decide, by decide +kernel⟩
theorem cs_J1_charAt : mm_S yJ1_charAt_3b067 cJ1_charAt_3b067 2 (some .char) 2 := ⟨(mt_2 227 rfl rfl), (mt_2 226 rfl rfl), (mt_1 14 rfl rfl), by decide, by decide, by decide +kernel⟩
theorem cs_J0_checkIndex : mm_S yJ0_checkIndex_df160 cJ0_checkIndex_df160 2 none 2 := ⟨(mt_2 230 rfl rfl), (mt_2 229 rfl rfl), (mt_1 13 rfl rfl), by decide, by decide, by decide +kernel⟩
theorem cs_J3_checkIndex : mm_S yJ3_checkIndex_8e157 cJ3_checkIndex_8e157 3 (some .int) 3 := ⟨(mt_2 235 rfl rfl), (mt_2 234 rfl rfl), (mt_1 15 rfl rfl), by decide, by decide, by decide +kernel⟩
theorem mm_n1 : n32 1 = 1 := rfl
set_option maxRecDepth 100000 in
theorem c_J0_coder (l : Launch) (G : mm_G) (this : Nat) (k0 : this < mm_nS) (s0 : mm_M) (post : Int → mm_M → Prop) (hw : post 0 s0) : Met l yJ0_coder_7d493 (mm_wm yJ0_coder_7d493 cJ0_coder_7d493 1 (some .byte)) (mm_rm 1) (va_Pc [.ref (G.2.2.2.1 this)] (mm_pre G s0)) (mm_Qi G post) 0 0 (mm_A G) := by
  refine mm_met (own := RJ0) (by decide) rfl (Nat.le_of_ble_eq_true rfl) ?_
  intro p e s m args below meth c C hr hk H locs ls w hl
  have hl : lv_has ls 1 [(0, .ref (G.2.2.2.1 this))] := hl
  refine va_gets (pc := 0) C.1 C.2.1 w.2.2.2.1.2.2.1 w.2.2.2.2 C.2.2.2.1 (C.2.2.2.2 _ lk_J0_38) (fun _ h => h) dJ0_coder_7d493_0 ?_
  refine g_if_eq (pc := 3) (tgt := 13) C mm_n1 dJ0_coder_7d493_3 (by decide) (fun h => absurd h (by decide)) (fun _ => ?_)
  refine lv_aload_n (pc := 6) C.1 C.2.1 dJ0_coder_7d493_6 rfl (lv_at hl 0 rfl) ?_
  refine vk_getf (pc := 7) C.1 C.2.1 (w.2.2.2.1.2.2.2.2 this k0).2.2.1 w.2.2.2.2 C.2.2.2.1 (C.2.2.2.2 _ lk_J0_15) (fun _ h => h) dJ0_coder_7d493_7 ?_
  refine lv_goto (pc := 10) (tgt := 14) C.1 C.2.1 dJ0_coder_7d493_10 (by decide) ?_
  exact g_tret (pc := 14) C w hr hk rfl hw dJ0_coder_7d493_14
set_option maxRecDepth 100000 in
theorem c_J0_isLatin1 (l : Launch) (G : mm_G) (this : Nat) (k0 : this < mm_nS) (s0 : mm_M) (post : Int → mm_M → Prop) (hw : post 1 s0) : Met l yJ0_isLatin1_aae02 (mm_wm yJ0_isLatin1_aae02 cJ0_isLatin1_aae02 1 (some .boolean)) (mm_rm 1) (va_Pc [.ref (G.2.2.2.1 this)] (mm_pre G s0)) (mm_Qi G post) 0 0 (mm_A G) := by
  refine mm_met (own := RJ0) (by decide) rfl (Nat.le_of_ble_eq_true rfl) ?_
  intro p e s m args below meth c C hr hk H locs ls w hl
  have hl : lv_has ls 1 [(0, .ref (G.2.2.2.1 this))] := hl
  refine va_gets (pc := 0) C.1 C.2.1 w.2.2.2.1.2.2.1 w.2.2.2.2 C.2.2.2.1 (C.2.2.2.2 _ lk_J0_38) (fun _ h => h) dJ0_isLatin1_aae02_0 ?_
  refine g_if_eq (pc := 3) (tgt := 17) C mm_n1 dJ0_isLatin1_aae02_3 (by decide) (fun h => absurd h (by decide)) (fun _ => ?_)
  refine lv_aload_n (pc := 6) C.1 C.2.1 dJ0_isLatin1_aae02_6 rfl (lv_at hl 0 rfl) ?_
  refine vk_getf (pc := 7) C.1 C.2.1 (w.2.2.2.1.2.2.2.2 this k0).2.2.1 w.2.2.2.2 C.2.2.2.1 (C.2.2.2.2 _ lk_J0_15) (fun _ h => h) dJ0_isLatin1_aae02_7 ?_
  refine g_if_ne (pc := 10) (tgt := 17) C mm_n0 dJ0_isLatin1_aae02_10 (by decide) (fun h => absurd rfl h) (fun _ => ?_)
  refine lv_iconst (pc := 13) (v := mm_I 1) C.1 C.2.1 dJ0_isLatin1_aae02_13 rfl ?_
  refine lv_goto (pc := 14) (tgt := 18) C.1 C.2.1 dJ0_isLatin1_aae02_14 (by decide) ?_
  exact g_zret (pc := 18) C w hr hk (by decide) hw dJ0_isLatin1_aae02_18
theorem mm_sl_lt : ∀ k, k < mm_nS → mm_shr (mm_sl k) 0 = mm_sl k ∧ mm_sl k < 100 ∧ ∀ j, j < mm_sl k → mm_byt k j < 128 := by decide +kernel
def wp_J0_length_8abf5 (this : Nat) (s0 : mm_M) (post : Int → mm_M → Prop) : Prop := post (mm_sl this) s0
set_option maxRecDepth 100000 in
theorem c_J0_length_8abf5 (l : Launch) (G : mm_G) (this : Nat) (k0 : this < mm_nS) (s0 : mm_M) (post : Int → mm_M → Prop) (hw : wp_J0_length_8abf5 this s0 post) : Met l yJ0_length_8abf5 (mm_wm yJ0_length_8abf5 cJ0_length_8abf5 1 (some .int)) (mm_rm 2) (va_Pc [.ref (G.2.2.2.1 this)] (mm_pre G s0)) (mm_Qi G post) 0 0 (mm_A G) := by
  refine mm_met (own := RJ0) (by decide) rfl (Nat.le_of_ble_eq_true rfl) ?_
  intro p e s m args below meth c C hr hk H locs ls w hl
  have hl : lv_has ls 1 [(0, .ref (G.2.2.2.1 this))] := hl
  obtain ⟨e1, e2, -⟩ := mm_sl_lt this k0
  refine lv_aload_n (pc := 0) C.1 C.2.1 dJ0_length_8abf5_0 rfl (lv_at hl 0 rfl) ?_
  refine vk_getf (pc := 1) C.1 C.2.1 (w.2.2.2.1.2.2.2.2 this k0).2.2.2.1 w.2.2.2.2 C.2.2.2.1 (C.2.2.2.2 _ lk_J0_9) (fun _ h => h) dJ0_length_8abf5_1 ?_
  refine va_tlen (pc := 4) (v := mm_I (mm_sl this)) C.1 C.2.1 (w.2.2.2.1.2.2.2.2 this k0).2.2.2.2 w.2.2.2.2 rfl dJ0_length_8abf5_4 ?_
  refine lv_aload_n (pc := 5) C.1 C.2.1 dJ0_length_8abf5_5 rfl (lv_at hl 0 rfl) ?_
  refine g_calli (pc := 6) w (mm_runT (As := []) (rest := [.int (mm_I (mm_sl this))]) C w (c_J0_coder l G this k0 s0 (fun x u => x = 0 ∧ u = s0) ⟨rfl, rfl⟩) k0 rfl cv_J0_coder ml_J0_335 ⟨Nat.le_of_ble_eq_true rfl, Nat.le_of_ble_eq_true rfl⟩ ⟨Nat.le_of_ble_eq_true rfl, Nat.le_of_ble_eq_true rfl⟩ rfl hl.1 rfl (Nat.le_of_ble_eq_true rfl) dJ0_length_8abf5_6) (fun x u H locs hp w1 => ?_)
  obtain ⟨ex, eu⟩ := hp
  have w : mm_Wd G (mm_A G) s0 s H locs := by rw [← eu]; exact w1
  rw [ex]
  have hw2 : post (mm_shr (mm_sl this) 0) s0 := by rw [e1]; exact hw
  refine g_ishr (pc := 9) C dJ0_length_8abf5_9 ?_
  exact g_iret (pc := 10) C w hr hk hw2 dJ0_length_8abf5_10
set_option maxRecDepth 100000 in
theorem c_J3_checkIndex (l : Launch) (G : mm_G) (a1 a2 : Int) (v : Value) (hv : v = .null ∨ ∃ a, v = .ref a) (s0 : mm_M) (post : Int → mm_M → Prop) (hc : 0 ≤ n32 a1 ∧ n32 a1 < n32 a2) (hw : post a1 s0) : Met l yJ3_checkIndex_8e157 (mm_wm yJ3_checkIndex_8e157 cJ3_checkIndex_8e157 3 (some .int)) (mm_rm 1) (va_Pc [.int (mm_I a1), .int (mm_I a2), v] (mm_pre G s0)) (mm_Qi G post) 0 0 (mm_A G) := by
  refine mm_met (own := RJ3) (by decide) rfl (by rcases hv with rfl | ⟨a, rfl⟩ <;> exact Nat.le_of_ble_eq_true rfl) ?_
  intro p e s m args below meth c C hr hk H locs ls w hl
  have hl : lv_has ls 3 [(0, .int (mm_I a1)), (1, .int (mm_I a2)), (2, v)] := hl
  refine lv_iload_n (pc := 0) C.1 C.2.1 dJ3_checkIndex_8e157_0 rfl (lv_at hl 0 rfl) ?_
  refine g_if_lt (pc := 1) (tgt := 9) C rfl dJ3_checkIndex_8e157_1 (by decide) (fun h => absurd h (by omega)) (fun _ => ?_)
  refine lv_iload_n (pc := 4) C.1 C.2.1 dJ3_checkIndex_8e157_4 rfl (lv_at hl 0 rfl) ?_
  refine lv_iload_n (pc := 5) C.1 C.2.1 dJ3_checkIndex_8e157_5 rfl (lv_at hl 1 rfl) ?_
  refine g_icmp_lt (pc := 6) (tgt := 16) C rfl rfl dJ3_checkIndex_8e157_6 (by decide) (fun _ => ?_) (fun h => absurd hc.2 h)
  refine lv_iload_n (pc := 16) C.1 C.2.1 dJ3_checkIndex_8e157_16 rfl (lv_at hl 0 rfl) ?_
  exact g_iret (pc := 17) C w hr hk hw dJ3_checkIndex_8e157_17
set_option maxRecDepth 100000 in
theorem c_J0_checkIndex (l : Launch) (G : mm_G) (a1 a2 : Int) (s0 : mm_M) (post : mm_M → Prop) (hc : 0 ≤ n32 a1 ∧ n32 a1 < n32 a2) (hw : post s0) : Met l yJ0_checkIndex_df160 (mm_wm yJ0_checkIndex_df160 cJ0_checkIndex_df160 2 none) (mm_rm 2) (va_Pc [.int (mm_I a1), .int (mm_I a2)] (mm_pre G s0)) (mm_Qv G post) 0 0 (mm_A G) := by
  refine mm_met (own := RJ0) (by decide) rfl (Nat.le_of_ble_eq_true rfl) ?_
  intro p e s m args below meth c C hr hk H locs ls w hl
  have hl : lv_has ls 2 [(0, .int (mm_I a1)), (1, .int (mm_I a2))] := hl
  obtain ⟨v, hv, hz⟩ := w.2.2.2.1.2.2.2.1
  refine lv_iload_n (pc := 0) C.1 C.2.1 dJ0_checkIndex_df160_0 rfl (lv_at hl 0 rfl) ?_
  refine lv_iload_n (pc := 1) C.1 C.2.1 dJ0_checkIndex_df160_1 rfl (lv_at hl 1 rfl) ?_
  refine va_gets (pc := 2) C.1 C.2.1 hz w.2.2.2.2 C.2.2.2.1 (C.2.2.2.2 _ lk_J0_1053) (fun _ h => h) dJ0_checkIndex_df160_2 ?_
  refine g_calli (pc := 5) w (mm_runS (As := [.int (mm_I a1), .int (mm_I a2), v]) (rest := []) C w (c_J3_checkIndex l G a1 a2 v hv s0 (fun x u => u = s0) hc rfl) cs_J3_checkIndex ml_J0_1059 ⟨Nat.le_of_ble_eq_true rfl, Nat.le_of_ble_eq_true rfl⟩ ⟨Nat.le_of_ble_eq_true rfl, Nat.le_of_ble_eq_true rfl⟩ rfl hl.1 rfl (Nat.le_of_ble_eq_true rfl) dJ0_checkIndex_df160_5) (fun x u H locs eu w1 => ?_)
  have w : mm_Wd G (mm_A G) s0 s H locs := by rw [← eu]; exact w1
  refine lv_pop (pc := 8) C.1 C.2.1 dJ0_checkIndex_df160_8 rfl ?_
  exact g_vret (pc := 9) C w hr hk hw dJ0_checkIndex_df160_9
theorem mm_chr : ∀ b : Nat, b < 128 → ((mm_I (mm_and b 255)).toUInt32 % 65536).toInt32 = mm_I b ∧ narrow .char (.int (mm_I b)) = .int (mm_I b) := by decide +kernel
set_option maxRecDepth 100000 in
theorem c_J1_charAt (l : Launch) (G : mm_G) (this : Nat) (a1 : Int) (k0 : this < mm_nS) (s0 : mm_M) (post : Int → mm_M → Prop) (hc : 0 ≤ a1 ∧ a1 < mm_sl this) (hw : post (mm_byt this a1.toNat) s0) : Met l yJ1_charAt_3b067 (mm_wm yJ1_charAt_3b067 cJ1_charAt_3b067 2 (some .char)) (mm_rm 3) (va_Pc [.ref (G.2.2.2.2 this), .int (mm_I a1)] (mm_pre G s0)) (mm_Qi G post) 0 0 (mm_A G) := by
  refine mm_met (own := RJ1) (by decide) rfl (Nat.le_of_ble_eq_true rfl) ?_
  intro p e s m args below meth c C hr hk H locs ls w hl
  have hl : lv_has ls 2 [(0, .ref (G.2.2.2.2 this)), (1, .int (mm_I a1))] := hl
  obtain ⟨e1, e2, e3⟩ := mm_sl_lt this k0
  obtain ⟨f1, f2⟩ := mm_chr _ (e3 a1.toNat (by omega))
  obtain ⟨g1, g2⟩ := mm_in (n := mm_sl this) (by omega) hc
  refine lv_iload_n (pc := 0) C.1 C.2.1 dJ1_charAt_3b067_0 rfl (lv_at hl 1 rfl) ?_
  refine lv_aload_n (pc := 1) C.1 C.2.1 dJ1_charAt_3b067_1 rfl (lv_at hl 0 rfl) ?_
  refine va_tlen (pc := 2) (v := mm_I (mm_sl this)) C.1 C.2.1 (w.2.2.2.1.2.2.2.2 this k0).2.2.2.2 w.2.2.2.2 rfl dJ1_charAt_3b067_2 ?_
  refine g_callv (pc := 3) w (mm_runS (As := [.int (mm_I a1), .int (mm_I (mm_sl this))]) (rest := []) C w (c_J0_checkIndex l G a1 (mm_sl this) s0 (fun u => u = s0) (by rw [n32_id (by omega) (by omega), n32_id (by omega) (by omega)]; exact hc) rfl) cs_J0_checkIndex ml_J1_9 ⟨Nat.le_of_ble_eq_true rfl, Nat.le_of_ble_eq_true rfl⟩ ⟨Nat.le_of_ble_eq_true rfl, Nat.le_of_ble_eq_true rfl⟩ rfl hl.1 rfl (Nat.le_of_ble_eq_true rfl) dJ1_charAt_3b067_3) (fun u H locs eu w1 => ?_)
  have w : mm_Wd G (mm_A G) s0 s H locs := by rw [← eu]; exact w1
  refine lv_aload_n (pc := 6) C.1 C.2.1 dJ1_charAt_3b067_6 rfl (lv_at hl 0 rfl) ?_
  refine lv_iload_n (pc := 7) C.1 C.2.1 dJ1_charAt_3b067_7 rfl (lv_at hl 1 rfl) ?_
  refine va_tb (pc := 8) (v := .int (mm_I (mm_byt this a1.toNat))) C.1 C.2.1 (w.2.2.2.1.2.2.2.2 this k0).2.2.2.2 w.2.2.2.2 g1 (by rw [g2]) dJ1_charAt_3b067_8 ?_
  refine lv_sipush (pc := 9) (v := mm_I 255) C.1 C.2.1 dJ1_charAt_3b067_9 (by decide) ?_
  refine g_iand (pc := 12) C dJ1_charAt_3b067_12 ?_
  refine lv_i2c (pc := 13) C.1 C.2.1 dJ1_charAt_3b067_13 f1 ?_
  exact g_tret (pc := 14) C w hr hk f2 hw dJ1_charAt_3b067_14
def wp_J0_charAt_5068e (this : Nat) (a1 : Int) (s0 : mm_M) (post : Int → mm_M → Prop) : Prop := (0 ≤ a1 ∧ a1 < mm_sl this) ∧ post (mm_byt this a1.toNat) s0
set_option maxRecDepth 100000 in
theorem c_J0_charAt_5068e (l : Launch) (G : mm_G) (this : Nat) (a1 : Int) (k0 : this < mm_nS) (s0 : mm_M) (post : Int → mm_M → Prop) (hw : wp_J0_charAt_5068e this a1 s0 post) : Met l yJ0_charAt_5068e (mm_wm yJ0_charAt_5068e cJ0_charAt_5068e 2 (some .char)) (mm_rm 4) (va_Pc [.ref (G.2.2.2.1 this), .int (mm_I a1)] (mm_pre G s0)) (mm_Qi G post) 0 0 (mm_A G) := by
  refine mm_met (own := RJ0) (by decide) rfl (Nat.le_of_ble_eq_true rfl) ?_
  intro p e s m args below meth c C hr hk H locs ls w hl
  have hl : lv_has ls 2 [(0, .ref (G.2.2.2.1 this)), (1, .int (mm_I a1))] := hl
  obtain ⟨hc, hw⟩ := hw
  obtain ⟨e1, e2, e3⟩ := mm_sl_lt this k0
  obtain ⟨f1, f2⟩ := mm_chr _ (e3 a1.toNat (by omega))
  refine lv_aload_n (pc := 0) C.1 C.2.1 dJ0_charAt_5068e_0 rfl (lv_at hl 0 rfl) ?_
  refine g_calli (pc := 1) w (mm_runT (As := []) (rest := []) C w (c_J0_isLatin1 l G this k0 s0 (fun x u => x = 1 ∧ u = s0) ⟨rfl, rfl⟩) k0 rfl cv_J0_isLatin1 ml_J0_492 ⟨Nat.le_of_ble_eq_true rfl, Nat.le_of_ble_eq_true rfl⟩ ⟨Nat.le_of_ble_eq_true rfl, Nat.le_of_ble_eq_true rfl⟩ rfl hl.1 rfl (Nat.le_of_ble_eq_true rfl) dJ0_charAt_5068e_1) (fun x u H locs hp w1 => ?_)
  obtain ⟨ex, eu⟩ := hp
  have w : mm_Wd G (mm_A G) s0 s H locs := by rw [← eu]; exact w1
  rw [ex]
  refine g_if_eq (pc := 4) (tgt := 16) C mm_n1 dJ0_charAt_5068e_4 (by decide) (fun h => absurd h (by decide)) (fun _ => ?_)
  refine lv_aload_n (pc := 7) C.1 C.2.1 dJ0_charAt_5068e_7 rfl (lv_at hl 0 rfl) ?_
  refine vk_getf (pc := 8) C.1 C.2.1 (w.2.2.2.1.2.2.2.2 this k0).2.2.2.1 w.2.2.2.2 C.2.2.2.1 (C.2.2.2.2 _ lk_J0_9) (fun _ h => h) dJ0_charAt_5068e_8 ?_
  refine lv_iload_n (pc := 11) C.1 C.2.1 dJ0_charAt_5068e_11 rfl (lv_at hl 1 rfl) ?_
  refine g_calli (pc := 12) w (mm_runS (As := [.ref (G.2.2.2.2 this), .int (mm_I a1)]) (rest := []) C w (c_J1_charAt l G this a1 k0 s0 (fun x v => x = mm_byt this a1.toNat ∧ v = s0) hc ⟨rfl, rfl⟩) cs_J1_charAt ml_J0_495 ⟨Nat.le_of_ble_eq_true rfl, Nat.le_of_ble_eq_true rfl⟩ ⟨Nat.le_of_ble_eq_true rfl, Nat.le_of_ble_eq_true rfl⟩ rfl hl.1 rfl (Nat.le_of_ble_eq_true rfl) dJ0_charAt_5068e_12) (fun x v H locs hp w1 => ?_)
  obtain ⟨ex, eu⟩ := hp
  have w : mm_Wd G (mm_A G) s0 s H locs := by rw [← eu]; exact w1
  rw [ex]
  exact g_tret (pc := 15) C w hr hk f2 hw dJ0_charAt_5068e_15
