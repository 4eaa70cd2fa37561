/-! a method's start, its ends, calls -/
def mm_pre (G : mm_G) (σ : mm_M) : State → Prop := fun U => mm_inj G ∧ va_P G.1 vwCl (mm_W G σ) U.heap ∧ mm_E G (mm_A G) U U.heap
def mm_wm (y : MethodName) (cc : ByteArray) (n : Nat) (r : Option FieldType) : List Cond := .code y cc n r :: mm_ws
def mm_rm (d : Nat) : Room := { frames := d, cells := 0, slots := 0, locals := 64 * d }
def mm_Bw (G : mm_G) (u : mm_M) (t : State) : Prop := va_P G.1 vwCl (mm_W G u) t.heap
abbrev mm_Qi (G : mm_G) (post : Int → mm_M → Prop) : Array Value → State → Outcome → State → Prop := va_Qi (S := mm_M) (fun r u => ∃ x, r = mm_I x ∧ post x u) (mm_Bw G) (mm_A G)
abbrev mm_Ql (G : mm_G) (post : Int → mm_M → Prop) : Array Value → State → Outcome → State → Prop := va_Ql (S := mm_M) (fun r u => ∃ x, r = mm_L x ∧ post x u) (mm_Bw G) (mm_A G)
abbrev mm_Qv (G : mm_G) (post : mm_M → Prop) : Array Value → State → Outcome → State → Prop := va_Qv (S := mm_M) post (mm_Bw G) (mm_A G)
abbrev mm_Qq (G : mm_G) (ok : Nat → Prop) (post : Option Nat → mm_M → Prop) : Array Value → State → Outcome → State → Prop := va_Qq (S := mm_M) (fun r u => ∃ t : Option Nat, r = t.map (mm_ad G) ∧ (∀ i, t = some i → ok i) ∧ post t u) (mm_Bw G) (mm_A G)
theorem mm_met {l : Launch} {y : MethodName} {cc : ByteArray} {maxL : Nat} {ret : Option FieldType} {own : String} {d : Nat} {G : mm_G} {σ : mm_M} {vals : List Value} {Qc : Array Value → State → Outcome → State → Prop} (hy : plainName y.cls = true) (ho : y.cls = own) (hlen : (lg_sl vals).length ≤ maxL)
    (body : ∀ (p : Program) (e : Env) (s : State) (m : MethodId) (args : Array Value) (below : List Frame) (meth : Method) (c : Code), mm_C p m c cc maxL s args own → meth.sig.returnType = ret → meth.locks = false → mm_X p l e (mm_rm d) s m args below meth c (MQ below Qc args s 0 0 (mm_A G)) G (mm_A G) maxL 0 (lv_args 0 vals) [] σ) : Met l y (mm_wm y cc maxL ret) (mm_rm d) (va_Pc vals (mm_pre G σ)) Qc 0 0 (mm_A G) := by
  refine Met.ofW (cc := cc) (maxL := maxL) (ret := ret) hy rfl ?_
  intro p e s m args below meth c s₁ B hml hv
  obtain ⟨rfl, hj, hP, hE⟩ := hv
  have hts := atoms_spec (ws := mm_wm y cc maxL ret) B.pre
  have hown := findClass_of_methodNamed B.named
  rw [ho] at hown
  rw [lg_entry_eq]
  exact body p e s m _ below meth c ⟨B.exec, B.bytes, hml, hown, fun w h => hts w (List.mem_cons_of_mem _ h)⟩ B.returns B.notSynchronized s.heap [] _ ⟨hj, fun i hi => ⟨i, hi, rfl⟩, hP, hE, va_S.rf⟩ (lv_entry vals hlen)
section
variable {p : Program} {l : Launch} {e : Env} {R : Room} {s : State} {m : MethodId} {args : Array Value} {below : List Frame} {meth : Method} {c : Code} {H : Heap} {locs : List Loc} {cells slots : Nat} {Q : State → Prop} {cc : ByteArray} {nL pc : Nat} {own : String} {ls : Array Slot} {rest st : List Value} {G : mm_G} {A : Nat → Prop} {σ : mm_M}
theorem g_iret (C : mm_C p m c cc nL s args own) (w : mm_Wd G (mm_A G) σ s H locs) (hr : meth.sig.returnType = some .int) (hk : meth.locks = false) {post : Int → mm_M → Prop} {x : Int} (hw : post x σ) (hdg : decode cc pc = .ok (.ireturn, 1)) : W p l e R s m args below meth c H locs 0 0 (MQ below (mm_Qi G post) args s 0 0 (mm_A G)) (F0 m pc ls [.int (mm_I x)]) :=
  W.iret C.1 C.2.1 hr (fun t ht hW => ⟨⟨_, σ, rfl, ⟨x, rfl, hw⟩, by unfold mm_Bw; rw [ht]; exact w.2.2.1⟩, w.2.2.2.2.F ht⟩) w.2.2.2.2.2.2 hdg hk
theorem g_zret (C : mm_C p m c cc nL s args own) (w : mm_Wd G (mm_A G) σ s H locs) (hr : meth.sig.returnType = some .boolean) (hk : meth.locks = false) {post : Int → mm_M → Prop} {x : Int} (hx : x = 0 ∨ x = 1) (hw : post x σ) (hdg : decode cc pc = .ok (.ireturn, 1)) : W p l e R s m args below meth c H locs 0 0 (MQ below (mm_Qi G post) args s 0 0 (mm_A G)) (F0 m pc ls [.int (mm_I x)]) :=
  W.zret C.1 C.2.1 hr (by rcases hx with h | h <;> subst h <;> rfl) (fun t ht hW => ⟨⟨_, σ, rfl, ⟨x, rfl, hw⟩, by unfold mm_Bw; rw [ht]; exact w.2.2.1⟩, w.2.2.2.2.F ht⟩) w.2.2.2.2.2.2 hdg hk
theorem g_lret (C : mm_C p m c cc nL s args own) (w : mm_Wd G (mm_A G) σ s H locs) (hr : meth.sig.returnType = some .long) (hk : meth.locks = false) {post : Int → mm_M → Prop} {x : Int} (hw : post x σ) (hdg : decode cc pc = .ok (.lreturn, 1)) : W p l e R s m args below meth c H locs 0 0 (MQ below (mm_Ql G post) args s 0 0 (mm_A G)) (F0 m pc ls [.long (mm_L x)]) :=
  W.lret C.1 C.2.1 hr (fun t ht hW => ⟨⟨_, σ, rfl, ⟨x, rfl, hw⟩, by unfold mm_Bw; rw [ht]; exact w.2.2.1⟩, w.2.2.2.2.F ht⟩) w.2.2.2.2.2.2 hdg hk
theorem g_vret (C : mm_C p m c cc nL s args own) (w : mm_Wd G (mm_A G) σ s H locs) (hr : meth.sig.returnType = none) (hk : meth.locks = false) {post : mm_M → Prop} (hw : post σ) (hdg : decode cc pc = .ok (.return_, 1)) : W p l e R s m args below meth c H locs 0 0 (MQ below (mm_Qv G post) args s 0 0 (mm_A G)) (F0 m pc ls []) :=
  W.vret C.1 C.2.1 hr (fun t ht hW => ⟨⟨σ, rfl, hw, by unfold mm_Bw; rw [ht]; exact w.2.2.1⟩, w.2.2.2.2.F ht⟩) w.2.2.2.2.2.2 hdg hk
theorem g_aret (C : mm_C p m c cc nL s args own) (w : mm_Wd G (mm_A G) σ s H locs) {C0 : String} (hr : meth.sig.returnType = some (.object C0)) (hk : meth.locks = false) {ok : Nat → Prop} {post : Option Nat → mm_M → Prop} {t : Nat} (ht : ok t) (hw : post (some t) σ) (hdg : decode cc pc = .ok (.areturn, 1)) : W p l e R s m args below meth c H locs 0 0 (MQ below (mm_Qq G ok post) args s 0 0 (mm_A G)) (F0 m pc ls [.ref (mm_ad G t)]) :=
  W.aret C.1 C.2.1 hr (Or.inl ⟨_, rfl⟩) (Or.inr ⟨_, rfl⟩) (fun t1 ht1 hW => ⟨⟨some (mm_ad G t), σ, rfl, ⟨some t, rfl, fun i q => by cases q; exact ht, hw⟩, by unfold mm_Bw; rw [ht1]; exact w.2.2.1⟩, w.2.2.2.2.F ht1⟩) w.2.2.2.2.2.2 hdg hk
theorem g_nret (C : mm_C p m c cc nL s args own) (w : mm_Wd G (mm_A G) σ s H locs) {C0 : String} (hr : meth.sig.returnType = some (.object C0)) (hk : meth.locks = false) {ok : Nat → Prop} {post : Option Nat → mm_M → Prop} (hw : post none σ) (hdg : decode cc pc = .ok (.areturn, 1)) : W p l e R s m args below meth c H locs 0 0 (MQ below (mm_Qq G ok post) args s 0 0 (mm_A G)) (F0 m pc ls [.null]) :=
  W.aret C.1 C.2.1 hr (Or.inl ⟨_, rfl⟩) (Or.inl rfl) (fun t1 ht1 hW => ⟨⟨none, σ, rfl, ⟨none, rfl, fun i q => (by cases q), hw⟩, by unfold mm_Bw; rw [ht1]; exact w.2.2.1⟩, w.2.2.2.2.F ht1⟩) w.2.2.2.2.2.2 hdg hk
theorem mm_good {y : MethodName} {bytes : ByteArray} {maxL : Nat} {ret : Option FieldType} (h : Cond.code y bytes maxL ret ∈ mm_ws) : GoodIn mm_ws (mm_wm y bytes maxL ret) := by
  intro w hw
  have hm : w ∈ mm_ws := by
    rcases List.mem_cons.mp hw with q | q
    · rw [q]; exact h
    · exact q
  exact ⟨hm, good_of_word (List.mem_filter.mp hm).2⟩
theorem mm_blind {vals : List Value} : FrameBlind (va_Pc vals (mm_pre G σ)) := fun a U g mk q => by
  obtain ⟨q0, q1, qP, qE⟩ := q
  exact ⟨q0, q1, qP, mm_E.go (U := U.calling g mk a) qE va_S.rf (State.WarmedH.refl U) rfl (fun _ h => h)⟩
theorem mm_enter {vals : List Value} (w : mm_Wd G A σ s H locs) : ∀ U : State, U.heap = H → s.WarmedH U.vm → va_Pc vals (mm_pre G σ) vals.toArray U := fun U hU hW =>
  ⟨rfl, w.1, by rw [hU]; exact w.2.2.1, mm_E.go w.2.2.2.1 w.2.2.2.2 hW hU (fun q h => by obtain ⟨i, hi, rfl⟩ := h; exact w.2.1 i hi)⟩
/-- what a call needs of the tables: an instance method -/
def mm_V (y : MethodName) (bytes : ByteArray) (maxL : Nat) (ret : Option FieldType) (n : Nat) : Prop := Cond.code y bytes maxL ret ∈ mm_ws ∧ Cond.instanceMethod y ∈ mm_ws ∧ Cond.selects y.cls y y ∈ mm_ws ∧ Cond.initialized y.cls ∈ mm_ws ∧ y.cls ≠ "java/lang/invoke/MethodHandle" ∧ y.cls ≠ "java/lang/invoke/VarHandle" ∧ (parseMethodDescriptor y.desc).map (fun d => d.parameters.length) = some n
def mm_S (y : MethodName) (bytes : ByteArray) (maxL : Nat) (ret : Option FieldType) (n : Nat) : Prop := Cond.code y bytes maxL ret ∈ mm_ws ∧ Cond.static y ∈ mm_ws ∧ Cond.initialized y.cls ∈ mm_ws ∧ y.cls ≠ "java/lang/invoke/MethodHandle" ∧ y.cls ≠ "java/lang/invoke/VarHandle" ∧ (parseMethodDescriptor y.desc).map (fun d => d.parameters.length) = some n
theorem mm_runV (C : mm_C p m c cc nL s args own) (w : mm_Wd G A σ s H locs) {y : MethodName} {bytes : ByteArray} {maxL d b ci n index : Nat} {ret : Option FieldType} {As : List Value} {Qc : Array Value → State → Outcome → State → Prop} {q : vw_C}
    (hM : Met l y (mm_wm y bytes maxL ret) (mm_rm d) (va_Pc (.ref (mm_ad G b) :: As) (mm_pre G σ)) Qc 0 0 (mm_A G)) (hb : mm_ok b (10 + ci) 0) (hc : vwCl[ci]? = some q) (hq : q.1 = y.cls) (V : mm_V y bytes maxL ret n) (hml : Cond.methodLink own index y ∈ mm_ws)
    (hR : d + 1 ≤ R.frames ∧ 8 + (maxL + 11) + 64 * d ≤ R.locals) (hR2 : cells ≤ R.cells ∧ slots ≤ R.slots) (hn : As.length = n) (hls : ls.size = nL) (hst : st = As.reverse ++ .ref (mm_ad G b) :: rest) (hW : (rest.map fun v => v.category).sum ≤ 8) (hdg : decode cc pc = .ok (.invokevirtual index, 3)) :
    va_Run p l e R s m args below meth c H locs cells slots 0 0 (F0 m pc ls st) rest (Qc (.ref (mm_ad G b) :: As).toArray) (mm_A G) := by
  have h := C.2.2.2.2
  refine va_runV (C := y.cls) (b := mm_ad G b) (As := As) C hM ⟨callB_of n h (mm_good V.1) rfl rfl rfl (h _ V.2.2.2.1) (h _ hml) V.2.2.2.2 hR, h _ V.2.1, h _ V.2.2.1⟩ ⟨mm_blind, ?_, mm_enter w⟩ rfl hn hls hst (lv_room hW) hdg hR2
  rw [← hq]
  exact va_recv w.2.2.2.1.1 w.2.2.1 hc ((mm_W_at hb.1).trans (by rw [mm_cO hb]))
theorem mm_runS (C : mm_C p m c cc nL s args own) (w : mm_Wd G A σ s H locs) {y : MethodName} {bytes : ByteArray} {maxL d n index : Nat} {ret : Option FieldType} {As : List Value} {Qc : Array Value → State → Outcome → State → Prop}
    (hM : Met l y (mm_wm y bytes maxL ret) (mm_rm d) (va_Pc As (mm_pre G σ)) Qc 0 0 (mm_A G)) (V : mm_S y bytes maxL ret n) (hml : Cond.methodLink own index y ∈ mm_ws)
    (hR : d + 1 ≤ R.frames ∧ 8 + (maxL + 11) + 64 * d ≤ R.locals) (hR2 : cells ≤ R.cells ∧ slots ≤ R.slots) (hn : As.length = n) (hls : ls.size = nL) (hst : st = As.reverse ++ rest) (hW : (rest.map fun v => v.category).sum ≤ 8) (hdg : decode cc pc = .ok (.invokestatic index, 3)) :
    va_Run p l e R s m args below meth c H locs cells slots 0 0 (F0 m pc ls st) rest (Qc As.toArray) (mm_A G) := by
  have h := C.2.2.2.2
  exact va_runS (As := As) C hM ⟨callB_of n h (mm_good V.1) rfl rfl rfl (h _ V.2.2.1) (h _ hml) V.2.2.2 hR, h _ V.2.1⟩ ⟨mm_blind, mm_enter w⟩ rfl hn hls hst (lv_room hW) hdg hR2
theorem mm_runSN (C : mm_C p m c cc nL s args own) (w : mm_Wd G A σ s H locs) {y : MethodName} {bytes : ByteArray} {maxL d n index : Nat} {ret : Option FieldType} {As : List Value} {Qc : Array Value → State → Outcome → State → Prop} {host : String}
    (hM : Met l y (mm_wm y bytes maxL ret) (mm_rm d) (va_Pc As (mm_pre G σ)) Qc 0 0 (mm_A G)) (V : mm_S y bytes maxL ret n) (hml : Cond.methodLinkNest own index y host ∈ mm_nest)
    (hR : d + 1 ≤ R.frames ∧ 8 + (maxL + 11) + 64 * d ≤ R.locals) (hR2 : cells ≤ R.cells ∧ slots ≤ R.slots) (hn : As.length = n) (hls : ls.size = nL) (hst : st = As.reverse ++ rest) (hW : (rest.map fun v => v.category).sum ≤ 8) (hdg : decode cc pc = .ok (.invokestatic index, 3)) :
    va_Run p l e R s m args below meth c H locs cells slots 0 0 (F0 m pc ls st) rest (Qc As.toArray) (mm_A G) := by
  have h := C.2.2.2.2
  exact va_runSN (As := As) C hM ⟨va_cnB n h (mm_good V.1) rfl rfl rfl (w.2.2.2.1.2.1 _ hml) (h _ V.2.2.1) V.2.2.2 hR, h _ V.2.1, trivial⟩ ⟨mm_blind, mm_enter w⟩ rfl hn hls hst (lv_room hW) hdg hR2
theorem mm_Wd.fr {A : Nat → Prop} (w : mm_Wd G A σ s H locs) : ∀ q, mm_A G q → A q := fun q h => by obtain ⟨i, hi, rfl⟩ := h; exact w.2.1 i hi
theorem g_calli {post : Int → mm_M → Prop} {a : Array Value} (w : mm_Wd G A σ s H locs) (hr : va_Run p l e R s m args below meth c H locs cells slots 0 0 (F0 m pc ls st) rest (mm_Qi G post a) (mm_A G))
    (kk : ∀ (x : Int) (u : mm_M) (H1 : Heap) (locs1 : List Loc), post x u → mm_Wd G A u s H1 locs1 → W p l e R s m args below meth c H1 locs1 cells slots Q (F0 m (pc + 3) ls (.int (mm_I x) :: rest))) : W p l e R s m args below meth c H locs cells slots Q (F0 m pc ls st) :=
  va_calli hr w.2.2.2.2 (fun q _ h => w.fr q h) w.fr (fun r u t H1 locs1 ht hvm hp hB hz hk hS => by obtain ⟨x, rfl, hx⟩ := hp; exact kk x u H1 locs1 hx ⟨w.1, w.2.1, by rw [← ht]; exact hB, w.2.2.2.1, hS⟩)
theorem g_calll {post : Int → mm_M → Prop} {a : Array Value} (w : mm_Wd G A σ s H locs) (hr : va_Run p l e R s m args below meth c H locs cells slots 0 0 (F0 m pc ls st) rest (mm_Ql G post a) (mm_A G))
    (kk : ∀ (x : Int) (u : mm_M) (H1 : Heap) (locs1 : List Loc), post x u → mm_Wd G A u s H1 locs1 → W p l e R s m args below meth c H1 locs1 cells slots Q (F0 m (pc + 3) ls (.long (mm_L x) :: rest))) : W p l e R s m args below meth c H locs cells slots Q (F0 m pc ls st) :=
  va_calll hr w.2.2.2.2 (fun q _ h => w.fr q h) w.fr (fun r u t H1 locs1 ht hvm hp hB hz hk hS => by obtain ⟨x, rfl, hx⟩ := hp; exact kk x u H1 locs1 hx ⟨w.1, w.2.1, by rw [← ht]; exact hB, w.2.2.2.1, hS⟩)
theorem g_callv {post : mm_M → Prop} {a : Array Value} (w : mm_Wd G A σ s H locs) (hr : va_Run p l e R s m args below meth c H locs cells slots 0 0 (F0 m pc ls st) rest (mm_Qv G post a) (mm_A G))
    (kk : ∀ (u : mm_M) (H1 : Heap) (locs1 : List Loc), post u → mm_Wd G A u s H1 locs1 → W p l e R s m args below meth c H1 locs1 cells slots Q (F0 m (pc + 3) ls rest)) : W p l e R s m args below meth c H locs cells slots Q (F0 m pc ls st) :=
  va_callv hr w.2.2.2.2 (fun q _ h => w.fr q h) w.fr (fun u t H1 locs1 ht hvm hp hB hz hk hS => kk u H1 locs1 hp ⟨w.1, w.2.1, by rw [← ht]; exact hB, w.2.2.2.1, hS⟩)
theorem g_callq {ok : Nat → Prop} {post : Option Nat → mm_M → Prop} {a : Array Value} (w : mm_Wd G A σ s H locs) (hr : va_Run p l e R s m args below meth c H locs cells slots 0 0 (F0 m pc ls st) rest (mm_Qq G ok post a) (mm_A G))
    (kn : ∀ (u : mm_M) (H1 : Heap) (locs1 : List Loc), post none u → mm_Wd G A u s H1 locs1 → W p l e R s m args below meth c H1 locs1 cells slots Q (F0 m (pc + 3) ls (.null :: rest)))
    (kk : ∀ (t : Nat) (u : mm_M) (H1 : Heap) (locs1 : List Loc), ok t → post (some t) u → mm_Wd G A u s H1 locs1 → W p l e R s m args below meth c H1 locs1 cells slots Q (F0 m (pc + 3) ls (.ref (mm_ad G t) :: rest))) : W p l e R s m args below meth c H locs cells slots Q (F0 m pc ls st) :=
  va_callq hr w.2.2.2.2 (fun q _ h => w.fr q h) w.fr (fun r u t H1 locs1 ht hvm hp hB hz hk hS => by
    obtain ⟨x, rfl, hok, hx⟩ := hp
    have w1 : mm_Wd G A u s H1 locs1 := ⟨w.1, w.2.1, by rw [← ht]; exact hB, w.2.2.2.1, hS⟩
    cases x with
    | none => exact kn u H1 locs1 hx w1
    | some i => exact kk i u H1 locs1 (hok i rfl) hx w1)
theorem mm_max_eq (x y : Int) : (if mm_I x < mm_I y then mm_I y else mm_I x) = mm_I (mm_max x y) := by
  unfold mm_max
  by_cases h : n32 x < n32 y
  · rw [if_pos (mm_I_lt.mpr h), if_pos h, mm_I_n32]
  · rw [if_neg (fun q => h (mm_I_lt.mp q)), if_neg h, mm_I_n32]
theorem g_max (C : mm_C p m c cc nL s args own) {x y : Int} {index : Nat} (hls : ls.size = nL) (hml : Cond.methodLink own index Lib.Math.max.name ∈ mm_ws) (V : Cond.static Lib.Math.max.name ∈ mm_ws ∧ Cond.initialized "java/lang/Math" ∈ mm_ws ∧ Cond.code Lib.Math.max.name Lib.Math.max.code 2 (some .int) ∈ mm_ws) (hR : 1 ≤ R.frames ∧ (rest.map fun v => v.category).sum + 13 ≤ R.locals) (hR2 : cells ≤ R.cells ∧ slots ≤ R.slots) (hdg : decode cc pc = .ok (.invokestatic index, 3))
    (kk : W p l e R s m args below meth c H locs cells slots Q (F0 m (pc + 3) ls (.int (mm_I (mm_max x y)) :: rest))) : W p l e R s m args below meth c H locs cells slots Q (F0 m pc ls (.int (mm_I y) :: .int (mm_I x) :: rest)) := by
  have h := C.2.2.2.2
  refine va_mmax C.1 C.2.1 (C.2.2.1.trans hls.symm) C.2.2.2.1 (h _ hml) (h _ V.1) (h _ V.2.1) (h _ V.2.2) hR.1 hR.2 hR2.1 hR2.2 hdg ?_
  rw [mm_max_eq]
  exact kk
theorem mm_min_eq (x y : Int) : (if mm_I y < mm_I x then mm_I y else mm_I x) = mm_I (mm_min x y) := by
  unfold mm_min
  by_cases h : n32 y < n32 x
  · rw [if_pos (mm_I_lt.mpr h), if_pos h, mm_I_n32]
  · rw [if_neg (fun q => h (mm_I_lt.mp q)), if_neg h, mm_I_n32]
theorem mm_tn {x : Int} {n : Nat} (h : 0 ≤ x ∧ x < n) : x.toNat < n := by omega
theorem g_min (C : mm_C p m c cc nL s args own) {x y : Int} {index : Nat} (hls : ls.size = nL) (hml : Cond.methodLink own index Lib.Math.min.name ∈ mm_ws) (V : Cond.static Lib.Math.min.name ∈ mm_ws ∧ Cond.initialized "java/lang/Math" ∈ mm_ws ∧ Cond.code Lib.Math.min.name Lib.Math.min.code 2 (some .int) ∈ mm_ws) (hR : 1 ≤ R.frames ∧ (rest.map fun v => v.category).sum + 13 ≤ R.locals) (hR2 : cells ≤ R.cells ∧ slots ≤ R.slots) (hdg : decode cc pc = .ok (.invokestatic index, 3))
    (kk : W p l e R s m args below meth c H locs cells slots Q (F0 m (pc + 3) ls (.int (mm_I (mm_min x y)) :: rest))) : W p l e R s m args below meth c H locs cells slots Q (F0 m pc ls (.int (mm_I y) :: .int (mm_I x) :: rest)) := by
  have h := C.2.2.2.2
  refine va_mmin C.1 C.2.1 (C.2.2.1.trans hls.symm) C.2.2.2.1 (h _ hml) (h _ V.1) (h _ V.2.1) (h _ V.2.2) hR.1 hR.2 hR2.1 hR2.2 hdg ?_
  first | (rw [mm_min_eq]; exact kk) | (rw [show (if mm_I x > mm_I y then mm_I y else mm_I x) = mm_I (mm_min x y) from mm_min_eq x y]; exact kk)
theorem mm_cpW {σ : mm_M} {a b n0 n1 : Nat} {sp dp n : Int} (ha : mm_ok a 0 n0) (hb : mm_ok b 0 n1) (h1 : 0 ≤ sp) (h2 : 0 ≤ dp) (h3 : 0 ≤ n) : (mm_W G σ).set b (mm_ad G b, .inl (G.2.1 0, n1, .inl (va_cpy (fun j : Nat => mm_I (σ a j)) (fun j : Nat => mm_I (σ b j)) sp.toNat dp.toNat n.toNat))) = mm_W G (mm_cp σ a sp b dp n) := by
  refine mm_W_set ?_ (fun k hk => ?_)
  · rw [mm_cI hb (by omega)]
    congr 3
    congr 1
    funext j
    unfold mm_cp
    by_cases h : dp.toNat ≤ j ∧ j < dp.toNat + n.toNat
    · rw [pk_cpy_in h.1 h.2, if_pos ⟨rfl, by omega, by omega⟩]
      congr 2
      omega
    · rw [pk_cpy_out (by omega), if_neg (fun q => h ⟨by omega, by omega⟩)]
  · funext q
    unfold mm_cp
    rw [if_neg (fun h => hk h.1)]
theorem g_copy (C : mm_C p m c cc nL s args own) (w : mm_Wd G A σ s H locs) {a b n0 n1 index : Nat} {sp dp n : Int} (hls : ls.size = nL) (ha : mm_ok a 0 n0) (hb : mm_ok b 0 n1) (hr : 0 ≤ sp ∧ 0 ≤ dp ∧ 0 ≤ n ∧ sp + n ≤ n0 ∧ dp + n ≤ n1) (hml : Cond.methodLink own index arraycopyName ∈ mm_ws) (V : Cond.native arraycopyName ∈ mm_ws ∧ Cond.static arraycopyName ∈ mm_ws ∧ Cond.initialized "java/lang/System" ∈ mm_ws)
    (hR : 1 ≤ R.frames ∧ (rest.map fun v => v.category).sum + (nativeFrameWords "java/lang/System" "arraycopy" 5 + 11) ≤ R.locals) (hdg : decode cc pc = .ok (.invokestatic index, 3))
    (kk : ∀ (u : mm_M) (H1 : Heap) (locs1 : List Loc), u = mm_cp σ a sp b dp n → mm_Wd G A u s H1 locs1 → W p l e R s m args below meth c H1 locs1 cells slots Q (F0 m (pc + 3) ls rest)) : W p l e R s m args below meth c H locs cells slots Q (F0 m pc ls (.int (mm_I n) :: .int (mm_I dp) :: .ref (mm_ad G b) :: .int (mm_I sp) :: .ref (mm_ad G a) :: rest)) := by
  have h := C.2.2.2.2
  obtain ⟨hj, hA, hP, hE, hS⟩ := w
  have la := ha.lt
  have lb := hb.lt
  have e1 : (mm_I sp).toInt = sp := n32_id (by omega) (by omega)
  have e2 : (mm_I dp).toInt = dp := n32_id (by omega) (by omega)
  have e3 : (mm_I n).toInt = n := n32_id (by omega) (by omega)
  have f1 : (mm_I sp).toNatClampNeg = sp.toNat := by show (mm_I sp).toInt.toNat = _; rw [e1]
  have f2 : (mm_I dp).toNatClampNeg = dp.toNat := by show (mm_I dp).toInt.toNat = _; rw [e2]
  have f3 : (mm_I n).toNatClampNeg = n.toNat := by show (mm_I n).toInt.toNat = _; rw [e3]
  refine va_copyi (ty := .int) C.1 C.2.1 (C.2.2.1.trans hls.symm) C.2.2.2.1 (h _ hml) (h _ V.1) (h _ V.2.1) (h _ V.2.2) hE.1 hP (mm_D hj hA) hS a b 0 0 ((mm_W_at ha.1).trans (by rw [mm_cI ha (by omega)])) ((mm_W_at hb.1).trans (by rw [mm_cI hb (by omega)])) rfl rfl rfl
    (fun q => by have := mm_I_lt0.mp q; unfold n32 at this; omega) (fun q => by have := mm_I_lt0.mp q; unfold n32 at this; omega) (fun q => by have := mm_I_lt0.mp q; unfold n32 at this; omega) (by rw [f1, f3]; omega) (by rw [f2, f3]; omega) (fun i hi => rfl) hR.1 hR.2 hdg (fun H1 locs1 hP1 hD1 hS1 => ?_)
  rw [f1, f2, f3, mm_cpW ha hb hr.1 hr.2.1 hr.2.2.1] at hP1
  exact kk _ H1 locs1 rfl ⟨hj, hA, hP1, hE, hS1⟩
end
