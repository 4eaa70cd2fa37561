
theorem mu_1 {w : Cond} (i : Nat) (h : tables_1_1[i]? = some w) : w ∈ lw_tbl := List.mem_append_right _ (show w ∈ tables_1 from List.mem_append_left _ (List.mem_of_getElem? h))
theorem mu_2 {w : Cond} (i : Nat) (h : tables_1_2[i]? = some w) : w ∈ lw_tbl := List.mem_append_right _ (show w ∈ tables_1 from List.mem_append_right _ (List.mem_append_left _ (List.mem_of_getElem? h)))
theorem mu_3 {w : Cond} (i : Nat) (h : tables_1_3[i]? = some w) : w ∈ lw_tbl := List.mem_append_right _ (show w ∈ tables_1 from List.mem_append_right _ (List.mem_append_right _ (List.mem_append_left _ (List.mem_of_getElem? h))))
theorem mu_4 {w : Cond} (i : Nat) (h : tables_1_4[i]? = some w) : w ∈ lw_tbl := List.mem_append_right _ (show w ∈ tables_1 from List.mem_append_right _ (List.mem_append_right _ (List.mem_append_right _ (List.mem_append_left _ (List.mem_of_getElem? h)))))
theorem mu_5 {w : Cond} (i : Nat) (h : tables_1_5[i]? = some w) : w ∈ lw_tbl := List.mem_append_right _ (show w ∈ tables_1 from List.mem_append_right _ (List.mem_append_right _ (List.mem_append_right _ (List.mem_append_right _ (List.mem_append_left _ (List.mem_of_getElem? h))))))
theorem mu_6 {w : Cond} (i : Nat) (h : tables_1_6[i]? = some w) : w ∈ lw_tbl := List.mem_append_right _ (show w ∈ tables_1 from List.mem_append_right _ (List.mem_append_right _ (List.mem_append_right _ (List.mem_append_right _ (List.mem_append_right _ (List.mem_append_left _ (List.mem_of_getElem? h)))))))
theorem mu_7 {w : Cond} (i : Nat) (h : tables_1_7[i]? = some w) : w ∈ lw_tbl := List.mem_append_right _ (show w ∈ tables_1 from List.mem_append_right _ (List.mem_append_right _ (List.mem_append_right _ (List.mem_append_right _ (List.mem_append_right _ (List.mem_append_right _ (List.mem_append_left _ (List.mem_of_getElem? h))))))))
theorem mu_8 {w : Cond} (i : Nat) (h : tables_1_8[i]? = some w) : w ∈ lw_tbl := List.mem_append_right _ (show w ∈ tables_1 from List.mem_append_right _ (List.mem_append_right _ (List.mem_append_right _ (List.mem_append_right _ (List.mem_append_right _ (List.mem_append_right _ (List.mem_append_right _ (List.mem_of_getElem? h))))))))
theorem kl_1 : Cond.laysStatic "java/lang/String" "COMPACT_STRINGS" "Z" ∈ lw_tbl := (mu_2 216 rfl)
theorem kl_2 : Cond.initialized "java/lang/String" ∈ mm_ws := (mt_1 13 rfl rfl)
theorem kl_3 : Cond.laysStatic "jdk/internal/util/Preconditions" "SIOOBE_FORMATTER" "Ljava/util/function/BiFunction;" ∈ lw_tbl := (mu_2 232 rfl)
theorem kl_4 : Cond.initialized "jdk/internal/util/Preconditions" ∈ mm_ws := (mt_1 15 rfl rfl)
/-! the entry: what the Statement gives makes the environment -/
theorem ks_of {args : Array Value} {s : State} {A : Nat → Prop} (hgv : (Jvm.Cond.and given_1 narrow_1).before args s = true) (hA : ∀ a : Nat, a < s.heap.size → ¬ A a) (k : Nat) (hk : k < mm_nS) : ∃ a v : Nat, (ks_t k).eval args s none [] s = some (.ref a) ∧ va_O "java/lang/String" a A s s.heap ∧ va_OF "java/lang/String" "coder" "B" (.int (mm_I 0)) a A s s.heap ∧ va_OF "java/lang/String" "value" "[B" (.ref v) a A s s.heap ∧ va_T .byte v (mm_sl k) (fun j => .int (mm_I (mm_byt k j))) A s s.heap := by
  have hs := flat_of_before _ hgv
  obtain ⟨-, hsl, -⟩ := mm_sl_lt k hk
  have hg : ∀ j, j < mm_sl k → ((List.range (mm_sl k)).map (fun j => Int32.ofNat (mm_byt k j))).getD j 0 = Int32.ofNat (mm_byt k j) := by
    intro j hj
    rw [List.getD_eq_getElem?_getD, List.getElem?_map, List.getElem?_range hj]
    rfl
  obtain ⟨adK, adV, hS, he⟩ := vk_Sof (N := 1) (tm := fun _ => ks_t k) (len := [mm_sl k]) (byt := [(List.range (mm_sl k)).map (fun j => Int32.ofNat (mm_byt k j))]) (A := A) (args := args) (s := s)
    (fun i hi => by rcases (show i = 0 by omega) with rfl; show mm_sl k < 2 ^ 31; omega) (fun i _ => hs _ (ks_1 k hk)) (fun i _ => hs _ (ks_2 k hk)) (fun i _ => hs _ (ks_3 k hk))
    (fun i hi => by rcases (show i = 0 by omega) with rfl; exact hs _ (ks_4 k hk))
    (fun i hi j hj => by
      rcases (show i = 0 by omega) with rfl
      have hj : j < mm_sl k := hj
      show (Cond.eq (.elem (ks_v k) (.int (Int32.ofNat j))) (.int (((List.range (mm_sl k)).map (fun j => Int32.ofNat (mm_byt k j))).getD j 0))).before args s = true
      rw [hg j hj]
      exact hs _ (ks_5 k hk j hj))
    (fun i j hi hj h => absurd (by omega) h) hA
  obtain ⟨h1, h2, h3, h4⟩ := hS.1 0 (by omega)
  refine ⟨adK 0, adV 0, he 0 (by omega), h1, h2, h3, ?_⟩
  obtain ⟨cell, q1, q2, q3, q4, q5, q6, q7⟩ := h4
  have q4 : mm_sl k ≤ cell.slots.size := q4
  exact ⟨cell, q1, q2, q3, q4, q5, fun j hj => by
    rw [q6 j hj]
    show some (Value.int (((List.range (mm_sl k)).map (fun j => Int32.ofNat (mm_byt k j))).getD j 0)) = _
    rw [hg j hj]
    rfl, q7⟩
theorem ks_sub {args : Array Value} {s : State} (hts : ∀ w ∈ lw_tbl, w.before args s = true) : ∀ w ∈ mm_ws, w.before args s = true := fun w h => hts w (List.mem_filter.mp h).1
def ks_ty (j : Nat) : Option FieldType := ([.int, .byte, .boolean, .long, .object "LastServed$Shop", .object "LastServed$Person", .object "LastServed$Desk"] : List FieldType)[j]?
theorem ks_ct {args : Array Value} {s : State} (hts : ∀ w ∈ lw_tbl, w.before args s = true) : ∀ j : Nat, ∃ cA : ClassId, ∀ ty, ks_ty j = some ty → ArrOfT s cA ty ∧ va_RA s cA ty := by
  have hm := ks_sub hts
  have prim : ∀ ty : FieldType, Cond.arrayClass ty ∈ mm_ws → (∀ cA : ClassId, s.vm.findClass ("[" ++ ty.toString) = some cA → va_RA s cA ty) → ∃ cA : ClassId, ∀ t, some ty = some t → ArrOfT s cA t ∧ va_RA s cA t := by
    intro ty hw hr
    obtain ⟨cA, kA, comp, h1, h2, h3⟩ := Cond.arrayClass_spec (hm _ hw)
    refine ⟨cA, fun t ht => ?_⟩
    cases ht
    exact ⟨fun n z => ⟨fun k h => (by cases h), kA, h2, comp, h3⟩, hr cA h1⟩
  have obj : ∀ C : String, Cond.arrayOver (.object C) ∈ lw_tbl → ∃ cA : ClassId, ∀ t, some (FieldType.object C) = some t → ArrOfT s cA t ∧ va_RA s cA t := by
    intro C hw
    obtain ⟨comp, cA, kA, h1, h2, h3, h4, h5⟩ := Cond.arrayOver_spec (hts _ hw)
    refine ⟨cA, fun t ht => ?_⟩
    cases ht
    exact ⟨fun n z => ⟨fun k h => (by cases h), kA, h3, comp, h4⟩, kA, comp, h3, h4, h1, h5⟩
  intro j
  match j with
  | 0 => exact prim .int kc_0 (fun _ h => h)
  | 1 => exact prim .byte kc_1 (fun _ h => h)
  | 2 => exact prim .boolean kc_2 (fun _ h => h)
  | 3 => exact prim .long kc_3 (fun _ h => h)
  | 4 => exact obj _ ks_11.1
  | 5 => exact obj _ ks_11.2.1
  | 6 => exact obj _ ks_11.2.2
  | j + 7 => exact ⟨0, fun ty h => by simp [ks_ty] at h⟩
theorem ks_kn {args : Array Value} {s : State} (hts : ∀ w ∈ lw_tbl, w.before args s = true) : ∀ k : Nat, ∃ q : ClassId × (Nat → Nat), ∀ r : vw_C, vwCl[k]? = some r → u_Kn s r.1 r.2.1 r.2.2 q.1 q.2 := by
  have hm := ks_sub hts
  intro k
  match k with
  | 0 => obtain ⟨a, b, h⟩ := u_known (C := RX0) (T := TX0) (N := 2) (n := 2) hm fk_X0 (hm _ (mt_1 175 rfl rfl)); exact ⟨(a, b), fun r hr => by cases hr; exact h⟩
  | 1 => obtain ⟨a, b, h⟩ := u_known (C := RX1) (T := TX1) (N := 8) (n := 8) hm fk_X1 (hm _ (mt_1 29 rfl rfl)); exact ⟨(a, b), fun r hr => by cases hr; exact h⟩
  | 2 => obtain ⟨a, b, h⟩ := u_known (C := RX2) (T := TX2) (N := 4) (n := 4) hm fk_X2 (hm _ (mt_1 224 rfl rfl)); exact ⟨(a, b), fun r hr => by cases hr; exact h⟩
  | 3 => obtain ⟨a, b, h⟩ := u_known (C := RX3) (T := TX3) (N := 7) (n := 7) hm fk_X3 (hm _ (mt_1 135 rfl rfl)); exact ⟨(a, b), fun r hr => by cases hr; exact h⟩
  | 4 => obtain ⟨a, b, h⟩ := u_known (C := RX4) (T := TX4) (N := 12) (n := 12) hm fk_X4 (hm _ (mt_2 76 rfl rfl)); exact ⟨(a, b), fun r hr => by cases hr; exact h⟩
  | 5 => obtain ⟨a, b, h⟩ := u_known (C := RX5) (T := TX5) (N := 7) (n := 7) hm fk_X5 (hm _ (mt_1 189 rfl rfl)); exact ⟨(a, b), fun r hr => by cases hr; exact h⟩
  | 6 => obtain ⟨a, b, h⟩ := u_known (C := RX6) (T := TX6) (N := 9) (n := 9) hm fk_X6 (hm _ (mt_2 41 rfl rfl)); exact ⟨(a, b), fun r hr => by cases hr; exact h⟩
  | 7 => obtain ⟨a, b, h⟩ := u_known (C := RX7) (T := TX7) (N := 9) (n := 9) hm fk_X7 (hm _ (mt_1 165 rfl rfl)); exact ⟨(a, b), fun r hr => by cases hr; exact h⟩
  | 8 => obtain ⟨a, b, h⟩ := u_known (C := RX8) (T := TX8) (N := 7) (n := 7) hm fk_X8 (hm _ (mt_1 62 rfl rfl)); exact ⟨(a, b), fun r hr => by cases hr; exact h⟩
  | 9 => obtain ⟨a, b, h⟩ := u_known (C := RX9) (T := TX9) (N := 9) (n := 9) hm fk_X9 (hm _ (mt_1 98 rfl rfl)); exact ⟨(a, b), fun r hr => by cases hr; exact h⟩
  | 10 => obtain ⟨a, b, h⟩ := u_known (C := RX10) (T := TX10) (N := 10) (n := 10) hm fk_X10 (hm _ (mt_1 21 rfl rfl)); exact ⟨(a, b), fun r hr => by cases hr; exact h⟩
  | 11 => obtain ⟨a, b, h⟩ := u_known (C := RX11) (T := TX11) (N := 65) (n := 65) hm fk_X11 (hm _ (mt_5 199 rfl rfl)); exact ⟨(a, b), fun r hr => by cases hr; exact h⟩
  | k + 12 => exact ⟨(0, fun _ => 0), fun r h => by simp [vwCl] at h⟩
theorem ks_E {args : Array Value} {s : State} (hts : ∀ w ∈ lw_tbl, w.before args s = true) (hgv : (Jvm.Cond.and given_1 narrow_1).before args s = true) : ∃ G : mm_G, (∀ i, mm_ad G i = s.heap.size + i) ∧ mm_E G (kw_A s.heap.size) s s.heap := by
  have hs := flat_of_before _ hgv
  have hA : ∀ a : Nat, a < s.heap.size → ¬ kw_A s.heap.size a := fun a h q => absurd q (Nat.not_le.mpr h)
  obtain ⟨dD, hD⟩ := Classical.axiomOfChoice (ks_kn hts)
  obtain ⟨ct, hct⟩ := Classical.axiomOfChoice (ks_ct hts)
  have hst : ∀ k : Nat, ∃ q : Nat × Nat, k < mm_nS → ((ks_t k).eval args s none [] s = some (.ref q.1) ∧ va_O "java/lang/String" q.1 (kw_A s.heap.size) s s.heap ∧ va_OF "java/lang/String" "coder" "B" (.int (mm_I 0)) q.1 (kw_A s.heap.size) s s.heap ∧ va_OF "java/lang/String" "value" "[B" (.ref q.2) q.1 (kw_A s.heap.size) s s.heap ∧ va_T .byte q.2 (mm_sl k) (fun j => .int (mm_I (mm_byt k j))) (kw_A s.heap.size) s s.heap) := by
    intro k
    by_cases hk : k < mm_nS
    · obtain ⟨a, v, h⟩ := ks_of hgv hA k hk
      exact ⟨(a, v), fun _ => h⟩
    · exact ⟨(0, 0), fun h => absurd h hk⟩
  obtain ⟨sq, hsq⟩ := Classical.axiomOfChoice hst
  refine ⟨((fun k => (dD k).1, fun k => (dD k).2), ct, fun i => s.heap.size + i, fun k => (sq k).1, fun k => (sq k).2), fun _ => rfl, ⟨fun c q h => hD c q h, fun k q h => ?_⟩, fun w hw => va_Nw.of (ks_10 w hw) (hts w (ks_9 w hw)), ?_, ?_, fun k hk => ?_⟩
  · match k, h with
    | 0, h => cases h; exact hct 0 _ rfl
    | 1, h => cases h; exact hct 1 _ rfl
    | 2, h => cases h; exact hct 2 _ rfl
    | 3, h => cases h; exact hct 3 _ rfl
    | 4, h => cases h; exact hct 4 _ rfl
    | 5, h => cases h; exact hct 5 _ rfl
    | 6, h => cases h; exact hct 6 _ rfl
    | k + 7, h => simp [mm_tys] at h
  · exact va_Zof (hts _ kl_1) (ks_sub hts _ kl_2) (va_eqi (hs _ ks_7)) hA
  · obtain ⟨v, h1, h2⟩ := Cond.isRef_spec (hs _ ks_8)
    refine ⟨v, ?_, va_Zof (hts _ kl_3) (ks_sub hts _ kl_4) h1 hA⟩
    cases v with
    | null => exact Or.inl rfl
    | ref a => exact Or.inr ⟨a, rfl⟩
    | _ => simp [Value.isRef] at h2
  · obtain ⟨h1, h2, h3, h4, h5⟩ := hsq k hk
    exact ⟨vk_R.of (A := args) (hts _ (ks_6 k hk)) h1, h2, h3, h4, h5⟩

