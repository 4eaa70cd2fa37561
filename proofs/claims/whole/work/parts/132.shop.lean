theorem ko_X7_3 : Cond.methodLink RX7 3 Lib.objectInit ∈ mm_ws := (mt_1 169 rfl rfl)
theorem kq_X7_9 : Cond.classLink RX7 9 "LastServed$Person" ∈ mm_ws := (mt_1 170 rfl rfl)
theorem kq_X7_17 : Cond.classLink RX7 17 "LastServed$Desk" ∈ mm_ws := (mt_1 172 rfl rfl)
theorem kn_X7_27 : Cond.classLink RX7 27 "LastServed$Book" ∈ mm_ws ∧ Cond.instantiable "LastServed$Book" 2 ∈ mm_ws ∧ Cond.initialized "LastServed$Book" ∈ mm_ws := ⟨(mt_1 174 rfl rfl), (mt_1 175 rfl rfl), (mt_1 7 rfl rfl)⟩
theorem kv_X0 : k_V yX0_init cX0_init 1 0 := ⟨rfl, (mt_1 178 rfl rfl), (mt_1 177 rfl rfl), (mt_1 7 rfl rfl), by decide, by decide, by decide +kernel⟩
theorem ml_X7_29 : Cond.methodLinkNest RX7 29 yX0_init "LastServed" ∈ mm_nest := by decide +kernel
theorem ml_X7_46 : Cond.methodLinkNest RX7 46 yX5_init "LastServed" ∈ mm_nest := by decide +kernel
theorem ml_X7_47 : Cond.methodLinkNest RX7 47 yX2_init "LastServed" ∈ mm_nest := by decide +kernel
theorem kv_X5 : k_V yX5_init cX5_init 1 0 := ⟨rfl, (mt_1 192 rfl rfl), (mt_1 191 rfl rfl), (mt_1 8 rfl rfl), by decide, by decide, by decide +kernel⟩
theorem kv_X2 : k_V yX2_init cX2_init 1 0 := ⟨rfl, (mt_1 227 rfl rfl), (mt_1 226 rfl rfl), (mt_1 9 rfl rfl), by decide, by decide, by decide +kernel⟩
theorem kn_X7_17 : Cond.classLink RX7 17 "LastServed$Desk" ∈ mm_ws ∧ Cond.instantiable "LastServed$Desk" 4 ∈ mm_ws ∧ Cond.initialized "LastServed$Desk" ∈ mm_ws := ⟨(mt_1 172 rfl rfl), (mt_1 224 rfl rfl), (mt_1 9 rfl rfl)⟩
theorem kn_X7_9 : Cond.classLink RX7 9 "LastServed$Person" ∈ mm_ws ∧ Cond.instantiable "LastServed$Person" 7 ∈ mm_ws ∧ Cond.initialized "LastServed$Person" ∈ mm_ws := ⟨(mt_1 170 rfl rfl), (mt_1 189 rfl rfl), (mt_1 8 rfl rfl)⟩
/-- the cells behind a Shop's constructor, with kp people and kd desks made -/
def kS (G : mm_G) (n kp kd : Nat) (fs : List Value) (i : Nat) (τ : Nat → va_E) : Nat → va_E := fun j =>
  if j = i then .inr (7, fs)
  else if j < n then τ j
  else if j = n then .inl (G.2.1 5, 30, .inr (.inr (.inr (.inr (fun r => if r < kp then some (mm_ad G (n + 5 + r)) else none)))))
  else if j = n + 1 then .inl (G.2.1 6, 3, .inr (.inr (.inr (.inr (fun r => if r < kd then some (mm_ad G (n + 35 + 2 * r)) else none)))))
  else if j = n + 2 then .inl (G.2.1 0, 35, .inl (fun _ => 0))
  else if j = n + 3 then .inr (0, [.ref (mm_ad G (n + 4)), .int 0])
  else if j = n + 4 then .inl (G.2.1 0, 100, .inl (fun _ => 0))
  else if j < n + 35 then .inr (5, [.int (mm_I (-1)), .int 0, .int 0, .int 0, .int 0, .int 0, .int 0])
  else if (j - (n + 35)) % 2 = 0 then .inr (2, [.ref (mm_ad G (j + 1)), .int 0, .int 0, .int 0])
  else .inl (G.2.1 0, 30, .inl (fun _ => 0))
theorem kS_i {G : mm_G} {n kp kd i : Nat} {fs : List Value} {τ : Nat → va_E} : kS G n kp kd fs i τ i = .inr (7, fs) := by unfold kS; rw [if_pos rfl]
theorem kS_n {G : mm_G} {n kp kd i : Nat} {fs : List Value} {τ : Nat → va_E} (hi : i < n) : kS G n kp kd fs i τ n = .inl (G.2.1 5, 30, .inr (.inr (.inr (.inr (fun r => if r < kp then some (mm_ad G (n + 5 + r)) else none))))) := by unfold kS; rw [if_neg (by omega), if_neg (by omega), if_pos rfl]
theorem kS_n1 {G : mm_G} {n kp kd i : Nat} {fs : List Value} {τ : Nat → va_E} (hi : i < n) : kS G n kp kd fs i τ (n + 1) = .inl (G.2.1 6, 3, .inr (.inr (.inr (.inr (fun r => if r < kd then some (mm_ad G (n + 35 + 2 * r)) else none))))) := by unfold kS; rw [if_neg (by omega), if_neg (by omega), if_neg (by omega), if_pos rfl]
theorem kS_o {G : mm_G} {n kp kd kp2 kd2 i j : Nat} {fs : List Value} {τ : Nat → va_E} (h1 : j ≠ n) (h2 : j ≠ n + 1) : kS G n kp kd fs i τ j = kS G n kp2 kd2 fs i τ j := by unfold kS; rw [if_neg h1, if_neg h1, if_neg h2, if_neg h2]
theorem kS_p {G : mm_G} {n kp kd i r : Nat} {fs : List Value} {τ : Nat → va_E} (hi : i < n) (hr : r < 30) : kS G n kp kd fs i τ (n + 5 + r) = .inr (5, [.int (mm_I (-1)), .int 0, .int 0, .int 0, .int 0, .int 0, .int 0]) := by
  unfold kS
  rw [if_neg (by omega), if_neg (by omega), if_neg (by omega), if_neg (by omega), if_neg (by omega), if_neg (by omega), if_neg (by omega), if_pos (by omega)]
theorem kS_d {G : mm_G} {n kp kd i r : Nat} {fs : List Value} {τ : Nat → va_E} (hi : i < n) : kS G n kp kd fs i τ (n + 35 + 2 * r) = .inr (2, [.ref (mm_ad G (n + 35 + 2 * r + 1)), .int 0, .int 0, .int 0]) := by
  unfold kS
  rw [if_neg (by omega), if_neg (by omega), if_neg (by omega), if_neg (by omega), if_neg (by omega), if_neg (by omega), if_neg (by omega), if_neg (by omega), if_pos (by omega)]
theorem kS_w {G : mm_G} {n kp kd i r : Nat} {fs : List Value} {τ : Nat → va_E} (hi : i < n) : kS G n kp kd fs i τ (n + 35 + 2 * r + 1) = .inl (G.2.1 0, 30, .inl (fun _ => 0)) := by
  unfold kS
  rw [if_neg (by omega), if_neg (by omega), if_neg (by omega), if_neg (by omega), if_neg (by omega), if_neg (by omega), if_neg (by omega), if_neg (by omega), if_neg (by omega)]
theorem kS_fp {G : mm_G} {n k : Nat} : va_up (fun r => if r < k then some (mm_ad G (n + 5 + r)) else none) (k : Int).toNat (some (mm_ad G (n + 5 + k))) = (fun r => if r < k + 1 then some (mm_ad G (n + 5 + r)) else none) := by
  funext r
  simp only [va_up, Int.toNat_natCast]
  by_cases h : r = k
  · subst h
    rw [if_pos rfl, if_pos (by omega)]
  · rw [if_neg h]
    by_cases h2 : r < k
    · rw [if_pos h2, if_pos (by omega)]
    · rw [if_neg h2, if_neg (by omega)]
theorem kS_fd {G : mm_G} {n k : Nat} : va_up (fun r => if r < k then some (mm_ad G (n + 35 + 2 * r)) else none) (k : Int).toNat (some (mm_ad G (n + 35 + 2 * k))) = (fun r => if r < k + 1 then some (mm_ad G (n + 35 + 2 * r)) else none) := by
  funext r
  simp only [va_up, Int.toNat_natCast]
  by_cases h : r = k
  · subst h
    rw [if_pos rfl, if_pos (by omega)]
  · rw [if_neg h]
    by_cases h2 : r < k
    · rw [if_pos h2, if_pos (by omega)]
    · rw [if_neg h2, if_neg (by omega)]
set_option maxHeartbeats 4000000 in
theorem kS_0 {G : mm_G} {n i t1 t2 t3 : Nat} {τ : Nat → va_E} (hi : i < n) : ∀ j, j < n + 5 → (va_up (va_up (va_up (va_up (va_up (va_up (va_up (va_up (va_up (va_up (va_up (va_up (va_up τ n (.inl (G.2.1 5, 30, .inr (.inr (.inr (.inr (fun _ => none))))))) i (.inr (7, [.null, .null, .null, .ref (mm_ad G n), .null, .null, .null, .int 0, .int 0]))) (n + 1) (.inl (G.2.1 6, 3, .inr (.inr (.inr (.inr (fun _ => none))))))) i (.inr (7, [.null, .null, .null, .ref (mm_ad G n), .ref (mm_ad G (n + 1)), .null, .null, .int 0, .int 0]))) (n + 2) (.inl (G.2.1 0, 35, .inl (fun _ => 0)))) i (.inr (7, [.null, .null, .null, .ref (mm_ad G n), .ref (mm_ad G (n + 1)), .ref (mm_ad G (n + 2)), .null, .int 0, .int 0]))) (n + 3) (.inr (0, [.null, .int 0]))) (n + 4) (.inl (G.2.1 0, 100, .inl (fun _ => 0)))) (n + 3) (.inr (0, [.ref (mm_ad G (n + 4)), .int 0]))) i (.inr (7, [.null, .null, .null, .ref (mm_ad G n), .ref (mm_ad G (n + 1)), .ref (mm_ad G (n + 2)), .ref (mm_ad G (n + 3)), .int 0, .int 0]))) i (.inr (7, [.ref t1, .null, .null, .ref (mm_ad G n), .ref (mm_ad G (n + 1)), .ref (mm_ad G (n + 2)), .ref (mm_ad G (n + 3)), .int 0, .int 0]))) i (.inr (7, [.ref t1, .ref t2, .null, .ref (mm_ad G n), .ref (mm_ad G (n + 1)), .ref (mm_ad G (n + 2)), .ref (mm_ad G (n + 3)), .int 0, .int 0]))) i (.inr (7, [.ref t1, .ref t2, .ref t3, .ref (mm_ad G n), .ref (mm_ad G (n + 1)), .ref (mm_ad G (n + 2)), .ref (mm_ad G (n + 3)), .int 0, .int 0]))) j = kS G n 0 0 [.ref t1, .ref t2, .ref t3, .ref (mm_ad G n), .ref (mm_ad G (n + 1)), .ref (mm_ad G (n + 2)), .ref (mm_ad G (n + 3)), .int 0, .int 0] i τ j := by
  intro j hj
  by_cases h0 : j = i
  · subst h0
    rw [kS_i]
    simp [va_up]
  · by_cases h1 : j < n
    · unfold kS
      rw [if_neg h0, if_pos h1]
      simp only [va_up]
      repeat' (rw [if_neg (by omega)])
    · rcases (show j = n ∨ j = n + 1 ∨ j = n + 2 ∨ j = n + 3 ∨ j = n + 4 by omega) with h | h | h | h | h
      · subst h; rw [kS_n hi]; simp [va_up, h0]
      · subst h; rw [kS_n1 hi]; simp [va_up, h0]
      · subst h; simp [va_up, h0, kS]; intro hx; omega
      · subst h; simp [va_up, h0, kS]; intro hx; omega
      · subst h; simp [va_up, h0, kS]; intro hx; omega
set_option maxRecDepth 100000 in
set_option maxHeartbeats 4000000 in
theorem kS_loop2 {p : Program} {l : Launch} {e : Env} {s : State} {m : MethodId} {args : Array Value} {below : List Frame} {meth : Method} {c : Code} {G : mm_G} {sz n i t1 t2 t3 : Nat} {τ : Nat → va_E} (C : mm_C p m c cX7_init 5 s args RX7) (hr : meth.sig.returnType = none) (hk : meth.locks = false) (hi : i < n) : ∀ (f r : Nat), f + r = 3 → ∀ (H : Heap) (locs : List Loc) (ls : Array Slot), kw G sz (n + 35 + 2 * r) (kS G n 30 r [.ref t1, .ref t2, .ref t3, .ref (mm_ad G n), .ref (mm_ad G (n + 1)), .ref (mm_ad G (n + 2)), .ref (mm_ad G (n + 3)), .int 0, .int 0] i τ) s H locs (35 + 2 * r) → lv_has ls 5 [(4, .int (mm_I (r : Int))), (0, .ref (mm_ad G i)), (1, .ref t1), (2, .ref t2), (3, .ref t3)] → W p l e (k_rm 3 41 482) s m args below meth c H locs (35 + 2 * r) (380 + 34 * r) (MQ below (k_Q G sz (n + 41) (kS G n 30 3 [.ref t1, .ref t2, .ref t3, .ref (mm_ad G n), .ref (mm_ad G (n + 1)), .ref (mm_ad G (n + 2)), .ref (mm_ad G (n + 3)), .int 0, .int 0] i τ)) args s 41 482 (kw_A sz)) (F0 m 88 ls []) := by
  intro f
  induction f with
  | zero =>
    intro r hf H locs ls k hl
    have hr3 : r = 3 := by omega
    subst hr3
    refine lv_iload (pc := 88) C.1 C.2.1 dX7_init_88 (lv_at hl 0 rfl) ?_
    refine lv_iconst (pc := 90) (v := mm_I 3) C.1 C.2.1 dX7_init_90 rfl ?_
    refine g_icmp_ge (pc := 91) (tgt := 114) C (n32_id (by omega) (by omega)) mn_3 dX7_init_91 (by decide) (fun _ => ?_) (fun h => absurd (Int.le_refl 3) h)
    exact k_ret (pc := 114) C k hr hk (fun _ _ => rfl) dX7_init_114
  | succ f ih =>
    intro r hf H locs ls k hl
    refine lv_iload (pc := 88) C.1 C.2.1 dX7_init_88 (lv_at hl 0 rfl) ?_
    refine lv_iconst (pc := 90) (v := mm_I 3) C.1 C.2.1 dX7_init_90 rfl ?_
    refine g_icmp_ge (pc := 91) (tgt := 114) C (n32_id (by omega) (by omega)) mn_3 dX7_init_91 (by decide) (fun h => absurd h (by omega)) (fun _ => ?_)
    refine lv_aload_n (pc := 94) C.1 C.2.1 dX7_init_94 rfl (lv_at hl 1 rfl) ?_
    refine k_get (pc := 95) (ci := 7) (f := 4) (C0 := RX7) (T := TX7) (N := 9) (fs := [.ref t1, .ref t2, .ref t3, .ref (mm_ad G n), .ref (mm_ad G (n + 1)), .ref (mm_ad G (n + 2)), .ref (mm_ad G (n + 3)), .int 0, .int 0]) C k (by omega) kS_i rfl fk_X7 (by decide) lk_X7_19 rfl dX7_init_95 ?_
    refine lv_iload (pc := 98) C.1 C.2.1 dX7_init_98 (lv_at hl 0 rfl) ?_
    refine k_new (pc := 100) (fs := [.null, .int 0, .int 0, .int 0]) (ci := 2) (C0 := RX2) (T := TX2) (N := 4) C k rfl fk_X2 tyX2 tyX2_ok kd_X2 kn_X7_17 ⟨by show _ ≤ 41; omega, by show _ ≤ 482; omega⟩ dX7_init_100 (fun H k => ?_)
    refine lv_dup (pc := 103) C.1 C.2.1 dX7_init_103 rfl ?_
    refine k_callN (pc := 104) (b := mm_ad G (n + 35 + 2 * r)) (As := []) (rest := [.ref (mm_ad G (n + 35 + 2 * r)), .int (mm_I (r : Int)), .ref (mm_ad G (n + 1))]) C k (ci_X2 l G sz (n + 35 + 2 * r + 1) (n + 35 + 2 * r) _ (by omega) kw_eq) (by omega) rfl kv_X2 ml_X7_47 ⟨Nat.le_of_ble_eq_true rfl, Nat.le_of_ble_eq_true rfl⟩ ⟨by show _ ≤ 41; omega, by show _ ≤ 482; omega⟩ rfl hl.1 rfl (Nat.le_of_ble_eq_true rfl) dX7_init_104 (fun H locs k => ?_)
    refine k_ast (pc := 107) (i := n + 1) (v := n + 35 + 2 * r) (ci := 2) (j := 6) (N' := 3) (x := (r : Int)) (r := (RX2, TX2, 4)) (f := fun q => if q < r then some (mm_ad G (n + 35 + 2 * q)) else none) (f' := fun q => if q < r + 1 then some (mm_ad G (n + 35 + 2 * q)) else none) C k (by omega) (by omega) ((kw_ne (by omega)).trans ((kw_ne (by omega)).trans ((kw_ne (by omega)).trans (kS_n1 hi)))) kw_eq rfl rfl ⟨by omega, by omega⟩ (by omega) kS_fd dX7_init_107 (fun H locs k => ?_)
    refine lv_iinc (pc := 108) (v := mm_I ((r + 1 : Nat) : Int)) (k := 0) (lv' := [(4, .int (mm_I ((r + 1 : Nat) : Int))), (0, .ref (mm_ad G i)), (1, .ref t1), (2, .ref t2), (3, .ref t3)]) C.1 C.2.1 dX7_init_108 hl rfl (by rw [Int.natCast_add, mm_I_add]; rfl) (by decide) rfl (fun ls hl => ?_)
    refine lv_goto (pc := 111) (tgt := 88) C.1 C.2.1 dX7_init_111 (by decide) ?_
    refine k_cs (cells' := 35 + 2 * (r + 1)) (slots' := 380 + 34 * (r + 1)) (by omega) (by omega) ?_
    refine ih (r + 1) (by omega) H locs ls ?_ hl
    have k : kw G sz (n + 35 + 2 * (r + 1)) _ s H locs (35 + 2 * (r + 1)) := k
    refine k.to (fun j hj => ?_)
    by_cases h1 : j = n + 1
    · subst h1
      rw [kw_eq, kS_n1 hi]
    · rw [kw_ne h1]
      by_cases h2 : j = n + 35 + 2 * r
      · subst h2
        rw [kw_eq, kS_d hi]
      · rw [kw_ne h2]
        by_cases h3 : j = n + 35 + 2 * r + 1
        · subst h3
          rw [kw_eq, kS_w hi]
        · rw [kw_ne h3, kw_ne h2]
          by_cases h4 : j = n
          · subst h4; rw [kS_n hi, kS_n hi]
          · exact kS_o h4 h1
set_option maxRecDepth 100000 in
set_option maxHeartbeats 4000000 in
theorem kS_loop1 {p : Program} {l : Launch} {e : Env} {s : State} {m : MethodId} {args : Array Value} {below : List Frame} {meth : Method} {c : Code} {G : mm_G} {sz n i t1 t2 t3 : Nat} {τ : Nat → va_E} (C : mm_C p m c cX7_init 5 s args RX7) (hr : meth.sig.returnType = none) (hk : meth.locks = false) (hi : i < n) : ∀ (f r : Nat), f + r = 30 → ∀ (H : Heap) (locs : List Loc) (ls : Array Slot), kw G sz (n + 5 + r) (kS G n r 0 [.ref t1, .ref t2, .ref t3, .ref (mm_ad G n), .ref (mm_ad G (n + 1)), .ref (mm_ad G (n + 2)), .ref (mm_ad G (n + 3)), .int 0, .int 0] i τ) s H locs (5 + r) → lv_has ls 5 [(4, .int (mm_I (r : Int))), (0, .ref (mm_ad G i)), (1, .ref t1), (2, .ref t2), (3, .ref t3)] → W p l e (k_rm 3 41 482) s m args below meth c H locs (5 + r) (170 + 7 * r) (MQ below (k_Q G sz (n + 41) (kS G n 30 3 [.ref t1, .ref t2, .ref t3, .ref (mm_ad G n), .ref (mm_ad G (n + 1)), .ref (mm_ad G (n + 2)), .ref (mm_ad G (n + 3)), .int 0, .int 0] i τ)) args s 41 482 (kw_A sz)) (F0 m 58 ls []) := by
  intro f
  induction f with
  | zero =>
    intro r hf H locs ls k hl
    have hr3 : r = 30 := by omega
    subst hr3
    refine lv_iload (pc := 58) C.1 C.2.1 dX7_init_58 (lv_at hl 0 rfl) ?_
    refine lv_bipush (pc := 60) C.1 C.2.1 dX7_init_60 mb_30 ?_
    refine g_icmp_ge (pc := 62) (tgt := 85) C (n32_id (by omega) (by omega)) mn_30 dX7_init_62 (by decide) (fun _ => ?_) (fun h => absurd (Int.le_refl 30) h)
    refine lv_iconst (pc := 85) (v := mm_I 0) C.1 C.2.1 dX7_init_85 rfl ?_
    refine lv_istore (pc := 86) (lv' := [(4, .int (mm_I ((0 : Nat) : Int))), (0, .ref (mm_ad G i)), (1, .ref t1), (2, .ref t2), (3, .ref t3)]) C.1 C.2.1 dX7_init_86 hl (by decide) rfl (fun ls hl => ?_)
    exact kS_loop2 C hr hk hi 3 0 rfl H locs ls k hl
  | succ f ih =>
    intro r hf H locs ls k hl
    refine lv_iload (pc := 58) C.1 C.2.1 dX7_init_58 (lv_at hl 0 rfl) ?_
    refine lv_bipush (pc := 60) C.1 C.2.1 dX7_init_60 mb_30 ?_
    refine g_icmp_ge (pc := 62) (tgt := 85) C (n32_id (by omega) (by omega)) mn_30 dX7_init_62 (by decide) (fun h => absurd h (by omega)) (fun _ => ?_)
    refine lv_aload_n (pc := 65) C.1 C.2.1 dX7_init_65 rfl (lv_at hl 1 rfl) ?_
    refine k_get (pc := 66) (ci := 7) (f := 3) (C0 := RX7) (T := TX7) (N := 9) (fs := [.ref t1, .ref t2, .ref t3, .ref (mm_ad G n), .ref (mm_ad G (n + 1)), .ref (mm_ad G (n + 2)), .ref (mm_ad G (n + 3)), .int 0, .int 0]) C k (by omega) kS_i rfl fk_X7 (by decide) lk_X7_11 rfl dX7_init_66 ?_
    refine lv_iload (pc := 69) C.1 C.2.1 dX7_init_69 (lv_at hl 0 rfl) ?_
    refine k_new (pc := 71) (fs := [.int 0, .int 0, .int 0, .int 0, .int 0, .int 0, .int 0]) (ci := 5) (C0 := RX5) (T := TX5) (N := 7) C k rfl fk_X5 tyX5 tyX5_ok kd_X5 kn_X7_9 ⟨by show _ ≤ 41; omega, by show _ ≤ 482; omega⟩ dX7_init_71 (fun H k => ?_)
    refine lv_dup (pc := 74) C.1 C.2.1 dX7_init_74 rfl ?_
    refine k_callN (pc := 75) (b := mm_ad G (n + 5 + r)) (As := []) (rest := [.ref (mm_ad G (n + 5 + r)), .int (mm_I (r : Int)), .ref (mm_ad G n)]) C k (ci_X5 l G sz (n + 5 + r + 1) (n + 5 + r) _ (by omega) kw_eq) (by omega) rfl kv_X5 ml_X7_46 ⟨Nat.le_of_ble_eq_true rfl, Nat.le_of_ble_eq_true rfl⟩ ⟨by show _ ≤ 41; omega, by show _ ≤ 482; omega⟩ rfl hl.1 rfl (Nat.le_of_ble_eq_true rfl) dX7_init_75 (fun H locs k => ?_)
    refine k_ast (pc := 78) (i := n) (v := n + 5 + r) (ci := 5) (j := 5) (N' := 30) (x := (r : Int)) (r := (RX5, TX5, 7)) (f := fun q => if q < r then some (mm_ad G (n + 5 + q)) else none) (f' := fun q => if q < r + 1 then some (mm_ad G (n + 5 + q)) else none) C k (by omega) (by omega) ((kw_ne (by omega)).trans ((kw_ne (by omega)).trans (kS_n hi))) kw_eq rfl rfl ⟨by omega, by omega⟩ (by omega) kS_fp dX7_init_78 (fun H locs k => ?_)
    refine lv_iinc (pc := 79) (v := mm_I ((r + 1 : Nat) : Int)) (k := 0) (lv' := [(4, .int (mm_I ((r + 1 : Nat) : Int))), (0, .ref (mm_ad G i)), (1, .ref t1), (2, .ref t2), (3, .ref t3)]) C.1 C.2.1 dX7_init_79 hl rfl (by rw [Int.natCast_add, mm_I_add]; rfl) (by decide) rfl (fun ls hl => ?_)
    refine lv_goto (pc := 82) (tgt := 58) C.1 C.2.1 dX7_init_82 (by decide) ?_
    refine k_cs (cells' := 5 + (r + 1)) (slots' := 170 + 7 * (r + 1)) (by omega) (by omega) ?_
    refine ih (r + 1) (by omega) H locs ls ?_ hl
    have k : kw G sz (n + 5 + (r + 1)) _ s H locs (5 + (r + 1)) := k
    refine k.to (fun j hj => ?_)
    by_cases h1 : j = n
    · subst h1
      rw [kw_eq, kS_n hi]
    · rw [kw_ne h1]
      by_cases h2 : j = n + 5 + r
      · subst h2
        rw [kw_eq, kS_p hi (by omega)]
      · rw [kw_ne h2, kw_ne h2]
        by_cases h4 : j = n + 1
        · subst h4; rw [kS_n1 hi, kS_n1 hi]
        · exact kS_o h1 h4
set_option maxRecDepth 100000 in
set_option maxHeartbeats 4000000 in
theorem ci_X7 (l : Launch) (G : mm_G) (sz n i : Nat) (t1 t2 t3 : Nat) (τ : Nat → va_E) (hi : i < n) (hτ : τ i = .inr (7, [.null, .null, .null, .null, .null, .null, .null, .int 0, .int 0])) : Met l yX7_init (mm_wm yX7_init cX7_init 5 none) (k_rm 3 41 482) (va_Pc [.ref (mm_ad G i), .ref t1, .ref t2, .ref t3] (k_pre G sz n τ)) (k_Q G sz (n + 41) (kS G n 30 3 [.ref t1, .ref t2, .ref t3, .ref (mm_ad G n), .ref (mm_ad G (n + 1)), .ref (mm_ad G (n + 2)), .ref (mm_ad G (n + 3)), .int 0, .int 0] i τ)) 41 482 (kw_A sz) := by
  refine k_met (own := RX7) (by decide) rfl rfl (Nat.le_of_ble_eq_true rfl) ?_
  intro p e s m args below meth c C hr hk hnm H locs ls k hl
  have hl : lv_has ls 5 [(0, .ref (mm_ad G i)), (1, .ref t1), (2, .ref t2), (3, .ref t3)] := hl
  refine lv_aload_n (pc := 0) C.1 C.2.1 dX7_init_0 rfl (lv_at hl 0 rfl) ?_
  refine W.objInit (g := F0 m 1 ls [.ref (mm_ad G i)]) C.1 C.2.1 C.2.2.2.1 (C.2.2.2.2 _ ko_X7_3) (C.2.2.2.2 _ ko_inst) (C.2.2.2.2 _ ko_code) rfl (hl.1.trans C.2.2.1.symm) rfl dX7_init_1 (Nat.le_of_ble_eq_true rfl) (Nat.le_of_ble_eq_true rfl) ?_
  refine W.eq (g2 := F0 m 4 ls []) rfl ?_
  refine lv_aload_n (pc := 4) C.1 C.2.1 dX7_init_4 rfl (lv_at hl 0 rfl) ?_
  refine lv_bipush (pc := 5) C.1 C.2.1 dX7_init_5 mb_30 ?_
  refine k_newq (pc := 7) (j := 5) (N' := 30) C k rfl kq_X7_9 k.2.2.2.2.2.1.2.1 rfl (by decide) ⟨Nat.le_of_ble_eq_true rfl, Nat.le_of_ble_eq_true rfl⟩ dX7_init_7 (fun H k => ?_)
  refine k_putF (pc := 10) (ci := 7) (f := 3) (C0 := RX7) (T := TX7) (N := 9) (fs := [.null, .null, .null, .null, .null, .null, .null, .int 0, .int 0]) (fs' := [.null, .null, .null, .ref (mm_ad G n), .null, .null, .null, .int 0, .int 0]) (ft := (.array (.object "LastServed$Person"))) C k (by omega) ((kw_ne (by omega)).trans (hτ)) rfl fk_X7 tyX7 tyX7_ok nmX7 (by decide) lk_X7_11 rfl hnm rfl (by decide +kernel) rfl rfl (Nat.le_of_ble_eq_true rfl) rfl dX7_init_10 (fun H locs k => ?_)
  refine lv_aload_n (pc := 13) C.1 C.2.1 dX7_init_13 rfl (lv_at hl 0 rfl) ?_
  refine lv_iconst (pc := 14) (v := mm_I 3) C.1 C.2.1 dX7_init_14 rfl ?_
  refine k_newq (pc := 15) (j := 6) (N' := 3) C k rfl kq_X7_17 k.2.2.2.2.2.1.2.2 rfl (by decide) ⟨Nat.le_of_ble_eq_true rfl, Nat.le_of_ble_eq_true rfl⟩ dX7_init_15 (fun H k => ?_)
  refine k_putF (pc := 18) (ci := 7) (f := 4) (C0 := RX7) (T := TX7) (N := 9) (fs := [.null, .null, .null, .ref (mm_ad G n), .null, .null, .null, .int 0, .int 0]) (fs' := [.null, .null, .null, .ref (mm_ad G n), .ref (mm_ad G (n + 1)), .null, .null, .int 0, .int 0]) (ft := (.array (.object "LastServed$Desk"))) C k (by omega) ((kw_ne (by omega)).trans (kw_eq)) rfl fk_X7 tyX7 tyX7_ok nmX7 (by decide) lk_X7_19 rfl hnm rfl (by decide +kernel) rfl rfl (Nat.le_of_ble_eq_true rfl) rfl dX7_init_18 (fun H locs k => ?_)
  refine lv_aload_n (pc := 21) C.1 C.2.1 dX7_init_21 rfl (lv_at hl 0 rfl) ?_
  refine lv_bipush (pc := 22) C.1 C.2.1 dX7_init_22 mb_35 ?_
  refine k_newa (pc := 24) (ty := .int) (j := 0) (N' := 35) (a0 := (35, .inl (fun _ => 0))) C k rfl kc_0 rfl (fun x y hx hy => Option.some.inj (hx.symm.trans hy)) (fun _ => rfl) rfl (by decide) (by decide) ⟨Nat.le_of_ble_eq_true rfl, Nat.le_of_ble_eq_true rfl⟩ dX7_init_24 (fun H k => ?_)
  refine k_putF (pc := 26) (ci := 7) (f := 5) (C0 := RX7) (T := TX7) (N := 9) (fs := [.null, .null, .null, .ref (mm_ad G n), .ref (mm_ad G (n + 1)), .null, .null, .int 0, .int 0]) (fs' := [.null, .null, .null, .ref (mm_ad G n), .ref (mm_ad G (n + 1)), .ref (mm_ad G (n + 2)), .null, .int 0, .int 0]) (ft := (.array .int)) C k (by omega) ((kw_ne (by omega)).trans (kw_eq)) rfl fk_X7 tyX7 tyX7_ok nmX7 (by decide) lk_X7_23 rfl hnm rfl (by decide +kernel) rfl rfl (Nat.le_of_ble_eq_true rfl) rfl dX7_init_26 (fun H locs k => ?_)
  refine lv_aload_n (pc := 29) C.1 C.2.1 dX7_init_29 rfl (lv_at hl 0 rfl) ?_
  refine k_new (pc := 30) (fs := [.null, .int 0]) (ci := 0) (C0 := RX0) (T := TX0) (N := 2) C k rfl fk_X0 tyX0 tyX0_ok kd_X0 kn_X7_27 ⟨Nat.le_of_ble_eq_true rfl, Nat.le_of_ble_eq_true rfl⟩ dX7_init_30 (fun H k => ?_)
  refine lv_dup (pc := 33) C.1 C.2.1 dX7_init_33 rfl ?_
  refine k_callN (pc := 34) (b := mm_ad G (n + 3)) (As := []) (rest := [.ref (mm_ad G (n + 3)), .ref (mm_ad G i)]) C k (ci_X0 l G sz (n + 4) (n + 3)  _ (by omega) kw_eq) (by omega) rfl kv_X0 ml_X7_29 ⟨Nat.le_of_ble_eq_true rfl, Nat.le_of_ble_eq_true rfl⟩ ⟨Nat.le_of_ble_eq_true rfl, Nat.le_of_ble_eq_true rfl⟩ rfl hl.1 rfl (Nat.le_of_ble_eq_true rfl) dX7_init_34 (fun H locs k => ?_)
  refine k_putF (pc := 37) (ci := 7) (f := 6) (C0 := RX7) (T := TX7) (N := 9) (fs := [.null, .null, .null, .ref (mm_ad G n), .ref (mm_ad G (n + 1)), .ref (mm_ad G (n + 2)), .null, .int 0, .int 0]) (fs' := [.null, .null, .null, .ref (mm_ad G n), .ref (mm_ad G (n + 1)), .ref (mm_ad G (n + 2)), .ref (mm_ad G (n + 3)), .int 0, .int 0]) (ft := (.object "LastServed$Book")) C k (by omega) ((kw_ne (by omega)).trans ((kw_ne (by omega)).trans ((kw_ne (by omega)).trans (kw_eq)))) rfl fk_X7 tyX7 tyX7_ok nmX7 (by decide) lk_X7_30 rfl hnm rfl (by decide +kernel) rfl rfl (Nat.le_of_ble_eq_true rfl) rfl dX7_init_37 (fun H locs k => ?_)
  refine lv_aload_n (pc := 40) C.1 C.2.1 dX7_init_40 rfl (lv_at hl 0 rfl) ?_
  refine lv_aload_n (pc := 41) C.1 C.2.1 dX7_init_41 rfl (lv_at hl 1 rfl) ?_
  refine k_putF (pc := 42) (ci := 7) (f := 0) (C0 := RX7) (T := TX7) (N := 9) (fs := [.null, .null, .null, .ref (mm_ad G n), .ref (mm_ad G (n + 1)), .ref (mm_ad G (n + 2)), .ref (mm_ad G (n + 3)), .int 0, .int 0]) (fs' := [.ref t1, .null, .null, .ref (mm_ad G n), .ref (mm_ad G (n + 1)), .ref (mm_ad G (n + 2)), .ref (mm_ad G (n + 3)), .int 0, .int 0]) (ft := (.object "LastServed$Town")) C k (by omega) kw_eq rfl fk_X7 tyX7 tyX7_ok nmX7 (by decide) lk_X7_34 rfl hnm rfl (by decide +kernel) rfl rfl (Nat.le_of_ble_eq_true rfl) rfl dX7_init_42 (fun H locs k => ?_)
  refine lv_aload_n (pc := 45) C.1 C.2.1 dX7_init_45 rfl (lv_at hl 0 rfl) ?_
  refine lv_aload_n (pc := 46) C.1 C.2.1 dX7_init_46 rfl (lv_at hl 2 rfl) ?_
  refine k_putF (pc := 47) (ci := 7) (f := 1) (C0 := RX7) (T := TX7) (N := 9) (fs := [.ref t1, .null, .null, .ref (mm_ad G n), .ref (mm_ad G (n + 1)), .ref (mm_ad G (n + 2)), .ref (mm_ad G (n + 3)), .int 0, .int 0]) (fs' := [.ref t1, .ref t2, .null, .ref (mm_ad G n), .ref (mm_ad G (n + 1)), .ref (mm_ad G (n + 2)), .ref (mm_ad G (n + 3)), .int 0, .int 0]) (ft := (.object "LastServed$Laws")) C k (by omega) kw_eq rfl fk_X7 tyX7 tyX7_ok nmX7 (by decide) lk_X7_38 rfl hnm rfl (by decide +kernel) rfl rfl (Nat.le_of_ble_eq_true rfl) rfl dX7_init_47 (fun H locs k => ?_)
  refine lv_aload_n (pc := 50) C.1 C.2.1 dX7_init_50 rfl (lv_at hl 0 rfl) ?_
  refine lv_aload_n (pc := 51) C.1 C.2.1 dX7_init_51 rfl (lv_at hl 3 rfl) ?_
  refine k_putF (pc := 52) (ci := 7) (f := 2) (C0 := RX7) (T := TX7) (N := 9) (fs := [.ref t1, .ref t2, .null, .ref (mm_ad G n), .ref (mm_ad G (n + 1)), .ref (mm_ad G (n + 2)), .ref (mm_ad G (n + 3)), .int 0, .int 0]) (fs' := [.ref t1, .ref t2, .ref t3, .ref (mm_ad G n), .ref (mm_ad G (n + 1)), .ref (mm_ad G (n + 2)), .ref (mm_ad G (n + 3)), .int 0, .int 0]) (ft := (.object "LastServed$Crowd")) C k (by omega) kw_eq rfl fk_X7 tyX7 tyX7_ok nmX7 (by decide) lk_X7_42 rfl hnm rfl (by decide +kernel) rfl rfl (Nat.le_of_ble_eq_true rfl) rfl dX7_init_52 (fun H locs k => ?_)
  refine lv_iconst (pc := 55) (v := mm_I 0) C.1 C.2.1 dX7_init_55 rfl ?_
  refine lv_istore (pc := 56) (lv' := [(4, .int (mm_I ((0 : Nat) : Int))), (0, .ref (mm_ad G i)), (1, .ref t1), (2, .ref t2), (3, .ref t3)]) C.1 C.2.1 dX7_init_56 hl (by decide) rfl (fun ls hl => ?_)
  exact kS_loop1 C hr hk hi 30 0 rfl H locs ls (k.to (kS_0 hi)) hl
