theorem kv_X10 : k_V yX10_init cX10_init 3 0 := ⟨rfl, (mt_1 24 rfl rfl), (mt_1 23 rfl rfl), (mt_1 1 rfl rfl), by decide, by decide, by decide +kernel⟩
theorem kv_X11 : k_V yX11_init cX11_init 1 0 := ⟨rfl, (mt_5 202 rfl rfl), (mt_5 201 rfl rfl), (mt_1 12 rfl rfl), by decide, by decide, by decide +kernel⟩
theorem ml_L_9 : Cond.methodLink RL 9 yX10_init ∈ mm_ws := (mt_1 22 rfl rfl)
theorem ml_L_12 : Cond.methodLink RL 12 yX11_init ∈ mm_ws := (mt_5 200 rfl rfl)
theorem kn_L_7 : Cond.classLink RL 7 "LastServed" ∈ mm_ws ∧ Cond.instantiable "LastServed" 10 ∈ mm_ws ∧ Cond.initialized "LastServed" ∈ mm_ws := ⟨(mt_1 20 rfl rfl), (mt_1 21 rfl rfl), (mt_1 1 rfl rfl)⟩
theorem kn_L_10 : Cond.classLink RL 10 "LastServedModel" ∈ mm_ws ∧ Cond.instantiable "LastServedModel" 65 ∈ mm_ws ∧ Cond.initialized "LastServedModel" ∈ mm_ws := ⟨(mt_5 198 rfl rfl), (mt_5 199 rfl rfl), (mt_1 12 rfl rfl)⟩
set_option maxRecDepth 100000 in
set_option maxHeartbeats 4000000 in
/-- the law from its entry, where the plain loop holds for every script -/
theorem start_open (HW : ∀ (sx : Int → Int) (L : Nat), L ≤ 3072 → (∀ j, -2147483648 ≤ sx j ∧ sx j ≤ 2147483647) → wp_law sx L mm_s0) {p : Program} {e : Env} {s : State} {m : MethodId} {below : List Frame} {meth : Method} {c : Code} (l : Launch) {b L : Nat} {xs : Nat → Int32} (hL : L ≤ 3072) (C0 : lw_At p s m meth c b L xs) : W p l e room_1 s m #[Value.ref b] below meth c s.heap [] 0 0 (lw_Z below #[Value.ref b] s) (entryFrame m ([Value.ref b] : List Value).toArray 4) := by
  obtain ⟨hx, hb, hr, hml, hown, hts, hX, hbl, hlocks, hgv⟩ := C0
  obtain ⟨G, hG, hE⟩ := ks_E hts hgv
  have C : mm_C p m c code 4 s #[Value.ref b] RL := ⟨hx, hb, hml, hown, ks_sub hts⟩
  have k : kw G s.heap.size 0 (fun _ => .inl (0, 0, .inl (fun _ => 0))) s s.heap [] 0 := ⟨hG, rfl, Nat.le_refl _, fun k q h => by simp [kw_W] at h, hE, ⟨va_AO.of (hts _ ks_11.1), va_AO.of (hts _ ks_11.2.1), va_AO.of (hts _ ks_11.2.2)⟩, va_S.rf⟩
  have hl := lv_entry ([.ref b]) (n := 4) (Nat.le_of_ble_eq_true rfl)
  rw [lg_entry_eq]
  generalize (lg_sl ([.ref b]) ++ List.replicate (4 - (lg_sl ([.ref b])).length) Slot.unset).toArray = ls at hl ⊢
  have hl : lv_has ls 4 [(0, .ref b)] := hl
  refine k_new (pc := 0) (fs := [.null, .null, .null, .null, .null, .null, .null, .null, .null, .null]) (ci := 10) (C0 := RX10) (T := TX10) (N := 10) C k rfl fk_X10 tyX10 tyX10_ok kd_X10 kn_L_7 ⟨Nat.le_of_ble_eq_true rfl, Nat.le_of_ble_eq_true rfl⟩ dL_law_0 (fun H k => ?_)
  refine lv_dup (pc := 3) C.1 C.2.1 dL_law_3 rfl ?_
  refine k_call (pc := 4) (b := mm_ad G 0) (As := []) (rest := [.ref (mm_ad G 0)]) C k (ci_X10 l G s.heap.size _ kw_eq) (by decide) rfl kv_X10 ml_L_9 ⟨Nat.le_of_ble_eq_true rfl, Nat.le_of_ble_eq_true rfl⟩ ⟨Nat.le_of_ble_eq_true rfl, Nat.le_of_ble_eq_true rfl⟩ rfl hl.1 rfl (Nat.le_of_ble_eq_true rfl) dL_law_4 (fun H locs k => ?_)
  refine lv_astore_n (pc := 7) (lv' := [(1, .ref (mm_ad G 0)), (0, .ref b)]) C.1 C.2.1 dL_law_7 rfl hl (by decide) rfl (fun ls hl => ?_)
  refine k_new (pc := 8) (fs := [.null, .int 0, .int 0, .int 0, .int 0, .long 0, .int 0, .null, .int 0, .null, .null, .null, .int 0, .null, .int 0, .null, .int 0, .int 0, .int 0, .int 0, .int 0, .null, .null, .null, .int 0, .null, .null, .null, .int 0, .null, .null, .null, .null, .null, .null, .int 0, .null, .long 0, .int 0, .null, .null, .null, .null, .null, .int 0, .null, .int 0, .null, .null, .null, .null, .int 0, .null, .null, .int 0, .int 0, .null, .null, .null, .int 0, .int 0, .int 0, .int 0, .int 0, .int 0]) (ci := 11) (C0 := RX11) (T := TX11) (N := 65) C k rfl fk_X11 tyX11 tyX11_ok kd_X11 kn_L_10 ⟨Nat.le_of_ble_eq_true rfl, Nat.le_of_ble_eq_true rfl⟩ dL_law_8 (fun H k => ?_)
  refine lv_dup (pc := 11) C.1 C.2.1 dL_law_11 rfl ?_
  refine k_call (pc := 12) (b := mm_ad G 211) (As := []) (rest := [.ref (mm_ad G 211)]) C k (ci_X11 l G s.heap.size 212 211 _ (by decide) kw_eq) (by decide) rfl kv_X11 ml_L_12 ⟨Nat.le_of_ble_eq_true rfl, Nat.le_of_ble_eq_true rfl⟩ ⟨Nat.le_of_ble_eq_true rfl, Nat.le_of_ble_eq_true rfl⟩ rfl hl.1 rfl (Nat.le_of_ble_eq_true rfl) dL_law_12 (fun H locs k => ?_)
  refine lv_astore_n (pc := 15) (lv' := [(2, .ref (mm_ad G 211)), (1, .ref (mm_ad G 0)), (0, .ref b)]) C.1 C.2.1 dL_law_15 rfl hl (by decide) rfl (fun ls hl => ?_)
  refine lv_iconst (pc := 16) (v := mm_I 0) C.1 C.2.1 dL_law_16 rfl ?_
  refine lv_istore_n (pc := 17) (lv' := [(3, .int (mm_I 0)), (2, .ref (mm_ad G 211)), (1, .ref (mm_ad G 0)), (0, .ref b)]) C.1 C.2.1 dL_law_17 rfl hl (by decide) rfl (fun ls hl => ?_)
  have w := fin_W (τ := fun _ => .inl (0, 0, .inl (fun _ => 0))) k
  exact law_loop hL C hr hlocks hX hbl rfl (HW _ L hL (fun j => ⟨Int32.le_toInt _, Int.le_of_lt_add_one (Int32.toInt_lt _)⟩)) H locs ls w (lv_sub hl [3, 2, 1, 0] rfl)
