/-! the rows over the memory: one an instruction -/
section
variable {p : Program} {l : Launch} {e : Env} {R : Room} {s : State} {m : MethodId} {args : Array Value} {below : List Frame} {meth : Method} {c : Code} {H : Heap} {locs : List Loc} {cells slots : Nat} {Q : State → Prop} {cc : ByteArray} {nL pc : Nat} {own : String} {ls : Array Slot} {rest : List Value} {G : mm_G} {A : Nat → Prop} {σ : mm_M}
abbrev mm_C (p : Program) (m : MethodId) (c : Code) (cc : ByteArray) (nL : Nat) (s : State) (args : Array Value) (own : String) : Prop := CallFix p m c cc nL s args mm_ws own
/-- the machine stands before pc, its places hold lv, its stack st, the memory is u -/
def mm_X (p : Program) (l : Launch) (e : Env) (R : Room) (s : State) (m : MethodId) (args : Array Value) (below : List Frame) (meth : Method) (c : Code) (Q : State → Prop) (G : mm_G) (A : Nat → Prop) (nL : Nat) (pc : Nat) (lv : List (Nat × Value)) (st : List Value) (u : mm_M) : Prop :=
  ∀ (H : Heap) (locs : List Loc) (ls : Array Slot), mm_Wd G A u s H locs → lv_has ls nL lv → W p l e R s m args below meth c H locs 0 0 Q (F0 m pc ls st)
-- arithmetic
theorem g_iadd (C : mm_C p m c cc nL s args own) {x y : Int} (hdg : decode cc pc = .ok (.iadd, 1)) (k : W p l e R s m args below meth c H locs cells slots Q (F0 m (pc + 1) ls (.int (mm_I (x + y)) :: rest))) : W p l e R s m args below meth c H locs cells slots Q (F0 m pc ls (.int (mm_I y) :: .int (mm_I x) :: rest)) :=
  lv_iadd C.1 C.2.1 hdg (by rw [mm_I_add] at k; exact k)
theorem g_isub (C : mm_C p m c cc nL s args own) {x y : Int} (hdg : decode cc pc = .ok (.isub, 1)) (k : W p l e R s m args below meth c H locs cells slots Q (F0 m (pc + 1) ls (.int (mm_I (x - y)) :: rest))) : W p l e R s m args below meth c H locs cells slots Q (F0 m pc ls (.int (mm_I y) :: .int (mm_I x) :: rest)) :=
  lv_isub C.1 C.2.1 hdg (by rw [mm_I_sub] at k; exact k)
theorem g_imul (C : mm_C p m c cc nL s args own) {x y : Int} (hdg : decode cc pc = .ok (.imul, 1)) (k : W p l e R s m args below meth c H locs cells slots Q (F0 m (pc + 1) ls (.int (mm_I (x * y)) :: rest))) : W p l e R s m args below meth c H locs cells slots Q (F0 m pc ls (.int (mm_I y) :: .int (mm_I x) :: rest)) :=
  lv_imul C.1 C.2.1 hdg (by rw [mm_I_mul] at k; exact k)
theorem g_ineg (C : mm_C p m c cc nL s args own) {x : Int} (hdg : decode cc pc = .ok (.ineg, 1)) (k : W p l e R s m args below meth c H locs cells slots Q (F0 m (pc + 1) ls (.int (mm_I (-x)) :: rest))) : W p l e R s m args below meth c H locs cells slots Q (F0 m pc ls (.int (mm_I x) :: rest)) :=
  lv_ineg C.1 C.2.1 hdg (by rw [mm_I_neg] at k; exact k)
theorem mm_ne0 {x : Int} (h : n32 x ≠ 0) : ¬ mm_I x = 0 := fun q => h (by unfold n32; rw [q]; rfl)
theorem mm_ne0L {x : Int} (h : n64 x ≠ 0) : ¬ mm_L x = 0 := fun q => h (by unfold n64; rw [q]; rfl)
theorem g_idiv (C : mm_C p m c cc nL s args own) {x y a b : Int} (hx : n32 x = a) (hy : n32 y = b) (hne : b ≠ 0) (hdg : decode cc pc = .ok (.idiv, 1)) (k : W p l e R s m args below meth c H locs cells slots Q (F0 m (pc + 1) ls (.int (mm_I (a.tdiv b)) :: rest))) : W p l e R s m args below meth c H locs cells slots Q (F0 m pc ls (.int (mm_I y) :: .int (mm_I x) :: rest)) :=
  lv_idiv C.1 C.2.1 hdg (mm_ne0 (by rw [hy]; exact hne)) (by rw [← hx, ← hy, mm_I_div] at k; exact k)
theorem g_irem (C : mm_C p m c cc nL s args own) {x y a b : Int} (hx : n32 x = a) (hy : n32 y = b) (hne : b ≠ 0) (hdg : decode cc pc = .ok (.irem, 1)) (k : W p l e R s m args below meth c H locs cells slots Q (F0 m (pc + 1) ls (.int (mm_I (a.tmod b)) :: rest))) : W p l e R s m args below meth c H locs cells slots Q (F0 m pc ls (.int (mm_I y) :: .int (mm_I x) :: rest)) :=
  lv_irem C.1 C.2.1 hdg (mm_ne0 (by rw [hy]; exact hne)) (by rw [← hx, ← hy, mm_I_rem] at k; exact k)
theorem mm_I_toInt (v : Int32) : mm_I v.toInt = v := Int32.ofInt_toInt v
theorem mm_L_toInt (v : Int64) : mm_L v.toInt = v := Int64.ofInt_toInt v
theorem g_iand (C : mm_C p m c cc nL s args own) {x y : Int} (hdg : decode cc pc = .ok (.iand, 1)) (k : W p l e R s m args below meth c H locs cells slots Q (F0 m (pc + 1) ls (.int (mm_I (mm_and x y)) :: rest))) : W p l e R s m args below meth c H locs cells slots Q (F0 m pc ls (.int (mm_I y) :: .int (mm_I x) :: rest)) :=
  lv_iand C.1 C.2.1 hdg (by unfold mm_and at k; rw [mm_I_toInt] at k; exact k)
theorem g_ior (C : mm_C p m c cc nL s args own) {x y : Int} (hdg : decode cc pc = .ok (.ior, 1)) (k : W p l e R s m args below meth c H locs cells slots Q (F0 m (pc + 1) ls (.int (mm_I (mm_or x y)) :: rest))) : W p l e R s m args below meth c H locs cells slots Q (F0 m pc ls (.int (mm_I y) :: .int (mm_I x) :: rest)) :=
  lv_ior C.1 C.2.1 hdg (by unfold mm_or at k; rw [mm_I_toInt] at k; exact k)
theorem g_ixor (C : mm_C p m c cc nL s args own) {x y : Int} (hdg : decode cc pc = .ok (.ixor, 1)) (k : W p l e R s m args below meth c H locs cells slots Q (F0 m (pc + 1) ls (.int (mm_I (mm_xor x y)) :: rest))) : W p l e R s m args below meth c H locs cells slots Q (F0 m pc ls (.int (mm_I y) :: .int (mm_I x) :: rest)) :=
  lv_ixor C.1 C.2.1 hdg (by unfold mm_xor at k; rw [mm_I_toInt] at k; exact k)
theorem g_ishl (C : mm_C p m c cc nL s args own) {x y : Int} (hdg : decode cc pc = .ok (.ishl, 1)) (k : W p l e R s m args below meth c H locs cells slots Q (F0 m (pc + 1) ls (.int (mm_I (mm_shl x y)) :: rest))) : W p l e R s m args below meth c H locs cells slots Q (F0 m pc ls (.int (mm_I y) :: .int (mm_I x) :: rest)) :=
  lv_ishl C.1 C.2.1 hdg (by unfold mm_shl at k; rw [mm_I_toInt] at k; exact k)
theorem g_ishr (C : mm_C p m c cc nL s args own) {x y : Int} (hdg : decode cc pc = .ok (.ishr, 1)) (k : W p l e R s m args below meth c H locs cells slots Q (F0 m (pc + 1) ls (.int (mm_I (mm_shr x y)) :: rest))) : W p l e R s m args below meth c H locs cells slots Q (F0 m pc ls (.int (mm_I y) :: .int (mm_I x) :: rest)) :=
  lv_ishr C.1 C.2.1 hdg (by unfold mm_shr at k; rw [mm_I_toInt] at k; exact k)
theorem g_iushr (C : mm_C p m c cc nL s args own) {x y : Int} (hdg : decode cc pc = .ok (.iushr, 1)) (k : W p l e R s m args below meth c H locs cells slots Q (F0 m (pc + 1) ls (.int (mm_I (mm_ushr x y)) :: rest))) : W p l e R s m args below meth c H locs cells slots Q (F0 m pc ls (.int (mm_I y) :: .int (mm_I x) :: rest)) :=
  lv_iushr C.1 C.2.1 hdg rfl (by unfold mm_ushr at k; rw [mm_I_toInt] at k; exact k)
theorem g_i2b (C : mm_C p m c cc nL s args own) {x : Int} (hdg : decode cc pc = .ok (.i2b, 1)) (k : W p l e R s m args below meth c H locs cells slots Q (F0 m (pc + 1) ls (.int (mm_I (mm_b8 x)) :: rest))) : W p l e R s m args below meth c H locs cells slots Q (F0 m pc ls (.int (mm_I x) :: rest)) :=
  lv_i2b C.1 C.2.1 hdg rfl (by unfold mm_b8 at k; rw [mm_I_toInt] at k; exact k)
theorem g_i2l (C : mm_C p m c cc nL s args own) {x a : Int} (hx : n32 x = a) (hdg : decode cc pc = .ok (.i2l, 1)) (k : W p l e R s m args below meth c H locs cells slots Q (F0 m (pc + 1) ls (.long (mm_L a) :: rest))) : W p l e R s m args below meth c H locs cells slots Q (F0 m pc ls (.int (mm_I x) :: rest)) :=
  lv_i2l C.1 C.2.1 hdg (mm_i2l x) (by rw [hx]; exact k)
theorem g_l2i (C : mm_C p m c cc nL s args own) {x : Int} (hdg : decode cc pc = .ok (.l2i, 1)) (k : W p l e R s m args below meth c H locs cells slots Q (F0 m (pc + 1) ls (.int (mm_I x) :: rest))) : W p l e R s m args below meth c H locs cells slots Q (F0 m pc ls (.long (mm_L x) :: rest)) :=
  lv_l2i C.1 C.2.1 hdg (mm_l2i x) k
theorem g_ladd (C : mm_C p m c cc nL s args own) {x y : Int} (hdg : decode cc pc = .ok (.ladd, 1)) (k : W p l e R s m args below meth c H locs cells slots Q (F0 m (pc + 1) ls (.long (mm_L (x + y)) :: rest))) : W p l e R s m args below meth c H locs cells slots Q (F0 m pc ls (.long (mm_L y) :: .long (mm_L x) :: rest)) :=
  lv_ladd C.1 C.2.1 hdg (by rw [mm_L_add] at k; exact k)
theorem g_lsub (C : mm_C p m c cc nL s args own) {x y : Int} (hdg : decode cc pc = .ok (.lsub, 1)) (k : W p l e R s m args below meth c H locs cells slots Q (F0 m (pc + 1) ls (.long (mm_L (x - y)) :: rest))) : W p l e R s m args below meth c H locs cells slots Q (F0 m pc ls (.long (mm_L y) :: .long (mm_L x) :: rest)) :=
  lv_lsub C.1 C.2.1 hdg (by rw [mm_L_sub] at k; exact k)
theorem g_lmul (C : mm_C p m c cc nL s args own) {x y : Int} (hdg : decode cc pc = .ok (.lmul, 1)) (k : W p l e R s m args below meth c H locs cells slots Q (F0 m (pc + 1) ls (.long (mm_L (x * y)) :: rest))) : W p l e R s m args below meth c H locs cells slots Q (F0 m pc ls (.long (mm_L y) :: .long (mm_L x) :: rest)) :=
  lv_lmul C.1 C.2.1 hdg (by rw [mm_L_mul] at k; exact k)
theorem g_ldiv (C : mm_C p m c cc nL s args own) {x y : Int} (hne : n64 y ≠ 0) (hdg : decode cc pc = .ok (.ldiv, 1)) (k : W p l e R s m args below meth c H locs cells slots Q (F0 m (pc + 1) ls (.long (mm_L ((n64 x).tdiv (n64 y))) :: rest))) : W p l e R s m args below meth c H locs cells slots Q (F0 m pc ls (.long (mm_L y) :: .long (mm_L x) :: rest)) :=
  lv_ldiv C.1 C.2.1 hdg (mm_ne0L hne) (by rw [mm_L_div] at k; exact k)
theorem g_lrem (C : mm_C p m c cc nL s args own) {x y : Int} (hne : n64 y ≠ 0) (hdg : decode cc pc = .ok (.lrem, 1)) (k : W p l e R s m args below meth c H locs cells slots Q (F0 m (pc + 1) ls (.long (mm_L ((n64 x).tmod (n64 y))) :: rest))) : W p l e R s m args below meth c H locs cells slots Q (F0 m pc ls (.long (mm_L y) :: .long (mm_L x) :: rest)) :=
  lv_lrem C.1 C.2.1 hdg (mm_ne0L hne) (by rw [mm_L_rem] at k; exact k)
theorem g_land (C : mm_C p m c cc nL s args own) {x y : Int} (hdg : decode cc pc = .ok (.land, 1)) (k : W p l e R s m args below meth c H locs cells slots Q (F0 m (pc + 1) ls (.long (mm_L (mm_landL x y)) :: rest))) : W p l e R s m args below meth c H locs cells slots Q (F0 m pc ls (.long (mm_L y) :: .long (mm_L x) :: rest)) :=
  lv_land C.1 C.2.1 hdg (by unfold mm_landL at k; rw [mm_L_toInt] at k; exact k)
theorem g_lor (C : mm_C p m c cc nL s args own) {x y : Int} (hdg : decode cc pc = .ok (.lor, 1)) (k : W p l e R s m args below meth c H locs cells slots Q (F0 m (pc + 1) ls (.long (mm_L (mm_lorL x y)) :: rest))) : W p l e R s m args below meth c H locs cells slots Q (F0 m pc ls (.long (mm_L y) :: .long (mm_L x) :: rest)) :=
  lv_lor C.1 C.2.1 hdg (by unfold mm_lorL at k; rw [mm_L_toInt] at k; exact k)
theorem g_lshl (C : mm_C p m c cc nL s args own) {x y : Int} (hdg : decode cc pc = .ok (.lshl, 1)) (k : W p l e R s m args below meth c H locs cells slots Q (F0 m (pc + 1) ls (.long (mm_L (mm_lshl x y)) :: rest))) : W p l e R s m args below meth c H locs cells slots Q (F0 m pc ls (.int (mm_I y) :: .long (mm_L x) :: rest)) :=
  lv_lshl C.1 C.2.1 hdg rfl (by unfold mm_lshl at k; rw [mm_L_toInt] at k; exact k)
theorem g_lcmp (C : mm_C p m c cc nL s args own) {x y : Int} (hdg : decode cc pc = .ok (.lcmp, 1)) (k : W p l e R s m args below meth c H locs cells slots Q (F0 m (pc + 1) ls (.int (mm_I (mm_cmp x y)) :: rest))) : W p l e R s m args below meth c H locs cells slots Q (F0 m pc ls (.long (mm_L y) :: .long (mm_L x) :: rest)) :=
  W.lcmp C.1 C.2.1 hdg (by rw [mm_cmp_eq]; exact k)
-- named stores
theorem g_istore_n (C : mm_C p m c cc nL s args own) {k : Fin 4} {i : Nat} {x : Int} {lv : List (Nat × Value)} (hdg : decode cc pc = .ok (.istore_n k, 1)) (hi : (k : Nat) = i) (h : lv_has ls nL lv) (hn : i < nL)
    (kk : ∀ v : Int, v = x → ∀ ls' : Array Slot, lv_has ls' nL ((i, Value.int (mm_I v)) :: lv.filter (fun q => !(q.1 == i) && !(q.1 + 1 == i && q.2.category == 2))) → W p l e R s m args below meth c H locs cells slots Q (F0 m (pc + 1) ls' rest)) : W p l e R s m args below meth c H locs cells slots Q (F0 m pc ls (.int (mm_I x) :: rest)) :=
  lv_istore_n C.1 C.2.1 hdg hi h hn rfl (fun ls' hl => kk x rfl ls' hl)
theorem g_istore (C : mm_C p m c cc nL s args own) {i : Nat} {x : Int} {lv : List (Nat × Value)} (hdg : decode cc pc = .ok (.istore i, 2)) (h : lv_has ls nL lv) (hn : i < nL)
    (kk : ∀ v : Int, v = x → ∀ ls' : Array Slot, lv_has ls' nL ((i, Value.int (mm_I v)) :: lv.filter (fun q => !(q.1 == i) && !(q.1 + 1 == i && q.2.category == 2))) → W p l e R s m args below meth c H locs cells slots Q (F0 m (pc + 2) ls' rest)) : W p l e R s m args below meth c H locs cells slots Q (F0 m pc ls (.int (mm_I x) :: rest)) :=
  lv_istore C.1 C.2.1 hdg h hn rfl (fun ls' hl => kk x rfl ls' hl)
theorem g_lstore_n (C : mm_C p m c cc nL s args own) {k : Fin 4} {i : Nat} {x : Int} {lv : List (Nat × Value)} (hdg : decode cc pc = .ok (.lstore_n k, 1)) (hi : (k : Nat) = i) (h : lv_has ls nL lv) (hn : i + 1 < nL)
    (kk : ∀ v : Int, v = x → ∀ ls' : Array Slot, lv_has ls' nL ((i, Value.long (mm_L v)) :: lv.filter (fun q => !(q.1 == i) && (!(q.1 == i + 1) && !(q.1 + 1 == i && q.2.category == 2)))) → W p l e R s m args below meth c H locs cells slots Q (F0 m (pc + 1) ls' rest)) : W p l e R s m args below meth c H locs cells slots Q (F0 m pc ls (.long (mm_L x) :: rest)) :=
  lv_lstore_n C.1 C.2.1 hdg hi h hn rfl (fun ls' hl => kk x rfl ls' hl)
theorem g_lstore (C : mm_C p m c cc nL s args own) {i : Nat} {x : Int} {lv : List (Nat × Value)} (hdg : decode cc pc = .ok (.lstore i, 2)) (h : lv_has ls nL lv) (hn : i + 1 < nL)
    (kk : ∀ v : Int, v = x → ∀ ls' : Array Slot, lv_has ls' nL ((i, Value.long (mm_L v)) :: lv.filter (fun q => !(q.1 == i) && (!(q.1 == i + 1) && !(q.1 + 1 == i && q.2.category == 2)))) → W p l e R s m args below meth c H locs cells slots Q (F0 m (pc + 2) ls' rest)) : W p l e R s m args below meth c H locs cells slots Q (F0 m pc ls (.long (mm_L x) :: rest)) :=
  lv_lstore C.1 C.2.1 hdg h hn rfl (fun ls' hl => kk x rfl ls' hl)
theorem g_iinc (C : mm_C p m c cc nL s args own) {i k : Nat} {n : Int} {x : Int} {lv : List (Nat × Value)} (hdg : decode cc pc = .ok (.iinc i n, 3)) (h : lv_has ls nL lv) (hk : lv[k]? = some (i, .int (mm_I x))) (hn : i < nL)
    (kk : ∀ v : Int, v = x + n → ∀ ls' : Array Slot, lv_has ls' nL ((i, Value.int (mm_I v)) :: lv.filter (fun q => !(q.1 == i) && !(q.1 + 1 == i && q.2.category == 2))) → W p l e R s m args below meth c H locs cells slots Q (F0 m (pc + 3) ls' rest)) : W p l e R s m args below meth c H locs cells slots Q (F0 m pc ls rest) :=
  lv_iinc (v := mm_I (x + n)) C.1 C.2.1 hdg h hk (by rw [mm_I_add]; rfl) hn rfl (fun ls' hl => kk (x + n) rfl ls' hl)
-- branches
theorem g_icmp_eq (C : mm_C p m c cc nL s args own) {x y a b off : Int} {tgt : Nat} (hx : n32 x = a) (hy : n32 y = b) (hdg : decode cc pc = .ok (.if_icmp .eq off, 3)) (ht : (pc : Int) + off = (tgt : Int)) (kt : a = b → W p l e R s m args below meth c H locs cells slots Q (F0 m tgt ls rest)) (kf : ¬ a = b → W p l e R s m args below meth c H locs cells slots Q (F0 m (pc + 3) ls rest)) : W p l e R s m args below meth c H locs cells slots Q (F0 m pc ls (.int (mm_I y) :: .int (mm_I x) :: rest)) := by
  subst hx; subst hy
  exact lv_icmp_eq C.1 C.2.1 hdg ht (fun h => kt (mm_I_eq.mp h)) (fun h => kf (fun q => h (mm_I_eq.mpr q)))
theorem g_icmp_ne (C : mm_C p m c cc nL s args own) {x y a b off : Int} {tgt : Nat} (hx : n32 x = a) (hy : n32 y = b) (hdg : decode cc pc = .ok (.if_icmp .ne off, 3)) (ht : (pc : Int) + off = (tgt : Int)) (kt : ¬ a = b → W p l e R s m args below meth c H locs cells slots Q (F0 m tgt ls rest)) (kf : a = b → W p l e R s m args below meth c H locs cells slots Q (F0 m (pc + 3) ls rest)) : W p l e R s m args below meth c H locs cells slots Q (F0 m pc ls (.int (mm_I y) :: .int (mm_I x) :: rest)) := by
  subst hx; subst hy
  exact lv_icmp_ne C.1 C.2.1 hdg ht (fun h => kt (fun q => h (mm_I_eq.mpr q))) (fun h => kf (mm_I_eq.mp h))
theorem g_icmp_lt (C : mm_C p m c cc nL s args own) {x y a b off : Int} {tgt : Nat} (hx : n32 x = a) (hy : n32 y = b) (hdg : decode cc pc = .ok (.if_icmp .lt off, 3)) (ht : (pc : Int) + off = (tgt : Int)) (kt : a < b → W p l e R s m args below meth c H locs cells slots Q (F0 m tgt ls rest)) (kf : ¬ a < b → W p l e R s m args below meth c H locs cells slots Q (F0 m (pc + 3) ls rest)) : W p l e R s m args below meth c H locs cells slots Q (F0 m pc ls (.int (mm_I y) :: .int (mm_I x) :: rest)) := by
  subst hx; subst hy
  exact lv_icmp_lt C.1 C.2.1 hdg ht (fun h => kt (mm_I_lt.mp h)) (fun h => kf (fun q => h (mm_I_lt.mpr q)))
theorem g_icmp_ge (C : mm_C p m c cc nL s args own) {x y a b off : Int} {tgt : Nat} (hx : n32 x = a) (hy : n32 y = b) (hdg : decode cc pc = .ok (.if_icmp .ge off, 3)) (ht : (pc : Int) + off = (tgt : Int)) (kt : b ≤ a → W p l e R s m args below meth c H locs cells slots Q (F0 m tgt ls rest)) (kf : ¬ b ≤ a → W p l e R s m args below meth c H locs cells slots Q (F0 m (pc + 3) ls rest)) : W p l e R s m args below meth c H locs cells slots Q (F0 m pc ls (.int (mm_I y) :: .int (mm_I x) :: rest)) := by
  subst hx; subst hy
  exact lv_icmp_ge C.1 C.2.1 hdg ht (fun h => kt (mm_I_le.mp h)) (fun h => kf (fun q => h (mm_I_le.mpr q)))
theorem g_icmp_gt (C : mm_C p m c cc nL s args own) {x y a b off : Int} {tgt : Nat} (hx : n32 x = a) (hy : n32 y = b) (hdg : decode cc pc = .ok (.if_icmp .gt off, 3)) (ht : (pc : Int) + off = (tgt : Int)) (kt : b < a → W p l e R s m args below meth c H locs cells slots Q (F0 m tgt ls rest)) (kf : ¬ b < a → W p l e R s m args below meth c H locs cells slots Q (F0 m (pc + 3) ls rest)) : W p l e R s m args below meth c H locs cells slots Q (F0 m pc ls (.int (mm_I y) :: .int (mm_I x) :: rest)) := by
  subst hx; subst hy
  exact lv_icmp_gt C.1 C.2.1 hdg ht (fun h => kt (mm_I_lt.mp h)) (fun h => kf (fun q => h (mm_I_lt.mpr q)))
theorem g_icmp_le (C : mm_C p m c cc nL s args own) {x y a b off : Int} {tgt : Nat} (hx : n32 x = a) (hy : n32 y = b) (hdg : decode cc pc = .ok (.if_icmp .le off, 3)) (ht : (pc : Int) + off = (tgt : Int)) (kt : a ≤ b → W p l e R s m args below meth c H locs cells slots Q (F0 m tgt ls rest)) (kf : ¬ a ≤ b → W p l e R s m args below meth c H locs cells slots Q (F0 m (pc + 3) ls rest)) : W p l e R s m args below meth c H locs cells slots Q (F0 m pc ls (.int (mm_I y) :: .int (mm_I x) :: rest)) := by
  subst hx; subst hy
  exact lv_icmp_le C.1 C.2.1 hdg ht (fun h => kt (mm_I_le.mp h)) (fun h => kf (fun q => h (mm_I_le.mpr q)))
theorem mm_z0 : (0 : Int32) = mm_I 0 := rfl
theorem mm_n0 : n32 0 = 0 := rfl
theorem mm_I_eq0 {x : Int} : mm_I x = 0 ↔ n32 x = 0 := mm_I_eq (x := x) (y := 0)
theorem mm_I_lt0 {x : Int} : mm_I x < 0 ↔ n32 x < 0 := mm_I_lt (x := x) (y := 0)
theorem mm_I_le0 {x : Int} : mm_I x ≤ 0 ↔ n32 x ≤ 0 := mm_I_le (x := x) (y := 0)
theorem mm_I_gt0 {x : Int} : 0 < mm_I x ↔ 0 < n32 x := mm_I_lt (x := 0) (y := x)
theorem mm_I_ge0 {x : Int} : 0 ≤ mm_I x ↔ 0 ≤ n32 x := mm_I_le (x := 0) (y := x)
theorem g_if_eq (C : mm_C p m c cc nL s args own) {x a off : Int} {tgt : Nat} (hx : n32 x = a) (hdg : decode cc pc = .ok (.ifCond .eq off, 3)) (ht : (pc : Int) + off = (tgt : Int)) (kt : a = 0 → W p l e R s m args below meth c H locs cells slots Q (F0 m tgt ls rest)) (kf : ¬ a = 0 → W p l e R s m args below meth c H locs cells slots Q (F0 m (pc + 3) ls rest)) : W p l e R s m args below meth c H locs cells slots Q (F0 m pc ls (.int (mm_I x) :: rest)) := by
  subst hx
  exact lv_if_eq C.1 C.2.1 hdg ht (fun h => kt (mm_I_eq0.mp h)) (fun h => kf (fun q => h (mm_I_eq0.mpr q)))
theorem g_if_ne (C : mm_C p m c cc nL s args own) {x a off : Int} {tgt : Nat} (hx : n32 x = a) (hdg : decode cc pc = .ok (.ifCond .ne off, 3)) (ht : (pc : Int) + off = (tgt : Int)) (kt : ¬ a = 0 → W p l e R s m args below meth c H locs cells slots Q (F0 m tgt ls rest)) (kf : a = 0 → W p l e R s m args below meth c H locs cells slots Q (F0 m (pc + 3) ls rest)) : W p l e R s m args below meth c H locs cells slots Q (F0 m pc ls (.int (mm_I x) :: rest)) := by
  subst hx
  exact lv_if_ne C.1 C.2.1 hdg ht (fun h => kt (fun q => h (mm_I_eq0.mpr q))) (fun h => kf (mm_I_eq0.mp h))
theorem g_if_lt (C : mm_C p m c cc nL s args own) {x a off : Int} {tgt : Nat} (hx : n32 x = a) (hdg : decode cc pc = .ok (.ifCond .lt off, 3)) (ht : (pc : Int) + off = (tgt : Int)) (kt : a < 0 → W p l e R s m args below meth c H locs cells slots Q (F0 m tgt ls rest)) (kf : ¬ a < 0 → W p l e R s m args below meth c H locs cells slots Q (F0 m (pc + 3) ls rest)) : W p l e R s m args below meth c H locs cells slots Q (F0 m pc ls (.int (mm_I x) :: rest)) := by
  subst hx
  exact lv_if_lt C.1 C.2.1 hdg ht (fun h => kt (mm_I_lt0.mp h)) (fun h => kf (fun q => h (mm_I_lt0.mpr q)))
theorem g_if_ge (C : mm_C p m c cc nL s args own) {x a off : Int} {tgt : Nat} (hx : n32 x = a) (hdg : decode cc pc = .ok (.ifCond .ge off, 3)) (ht : (pc : Int) + off = (tgt : Int)) (kt : 0 ≤ a → W p l e R s m args below meth c H locs cells slots Q (F0 m tgt ls rest)) (kf : ¬ 0 ≤ a → W p l e R s m args below meth c H locs cells slots Q (F0 m (pc + 3) ls rest)) : W p l e R s m args below meth c H locs cells slots Q (F0 m pc ls (.int (mm_I x) :: rest)) := by
  subst hx
  exact lv_if_ge C.1 C.2.1 hdg ht (fun h => kt (mm_I_ge0.mp h)) (fun h => kf (fun q => h (mm_I_ge0.mpr q)))
theorem g_if_gt (C : mm_C p m c cc nL s args own) {x a off : Int} {tgt : Nat} (hx : n32 x = a) (hdg : decode cc pc = .ok (.ifCond .gt off, 3)) (ht : (pc : Int) + off = (tgt : Int)) (kt : 0 < a → W p l e R s m args below meth c H locs cells slots Q (F0 m tgt ls rest)) (kf : ¬ 0 < a → W p l e R s m args below meth c H locs cells slots Q (F0 m (pc + 3) ls rest)) : W p l e R s m args below meth c H locs cells slots Q (F0 m pc ls (.int (mm_I x) :: rest)) := by
  subst hx
  exact lv_if_gt C.1 C.2.1 hdg ht (fun h => kt (mm_I_gt0.mp h)) (fun h => kf (fun q => h (mm_I_gt0.mpr q)))
theorem g_if_le (C : mm_C p m c cc nL s args own) {x a off : Int} {tgt : Nat} (hx : n32 x = a) (hdg : decode cc pc = .ok (.ifCond .le off, 3)) (ht : (pc : Int) + off = (tgt : Int)) (kt : a ≤ 0 → W p l e R s m args below meth c H locs cells slots Q (F0 m tgt ls rest)) (kf : ¬ a ≤ 0 → W p l e R s m args below meth c H locs cells slots Q (F0 m (pc + 3) ls rest)) : W p l e R s m args below meth c H locs cells slots Q (F0 m pc ls (.int (mm_I x) :: rest)) := by
  subst hx
  exact lv_if_le C.1 C.2.1 hdg ht (fun h => kt (mm_I_le0.mp h)) (fun h => kf (fun q => h (mm_I_le0.mpr q)))
theorem mm_cmp_n (x y : Int) : n32 (mm_cmp x y) = mm_cmp x y := by
  unfold mm_cmp
  repeat' split
  all_goals rfl
theorem mm_cmp_lt {x y : Int} : mm_cmp x y < 0 ↔ n64 x < n64 y := by unfold mm_cmp; repeat' split <;> omega
theorem mm_cmp_le {x y : Int} : mm_cmp x y ≤ 0 ↔ n64 x ≤ n64 y := by unfold mm_cmp; repeat' split <;> omega
theorem mm_cmp_gt {x y : Int} : 0 < mm_cmp x y ↔ n64 y < n64 x := by unfold mm_cmp; repeat' split <;> omega
theorem mm_cmp_ge {x y : Int} : 0 ≤ mm_cmp x y ↔ n64 y ≤ n64 x := by unfold mm_cmp; repeat' split <;> omega
theorem mm_cmp_e {x y : Int} : mm_cmp x y = 0 ↔ n64 x = n64 y := by unfold mm_cmp; repeat' split <;> omega
theorem g_lif_eq (C : mm_C p m c cc nL s args own) {x y a b off : Int} {tgt : Nat} (hx : n64 x = a) (hy : n64 y = b) (hdg : decode cc pc = .ok (.ifCond .eq off, 3)) (ht : (pc : Int) + off = (tgt : Int)) (kt : a = b → W p l e R s m args below meth c H locs cells slots Q (F0 m tgt ls rest)) (kf : ¬ a = b → W p l e R s m args below meth c H locs cells slots Q (F0 m (pc + 3) ls rest)) : W p l e R s m args below meth c H locs cells slots Q (F0 m pc ls (.int (mm_I (mm_cmp x y)) :: rest)) := by
  subst hx; subst hy
  exact g_if_eq C (mm_cmp_n x y) hdg ht (fun h => kt (mm_cmp_e.mp h)) (fun h => kf (fun q => h (mm_cmp_e.mpr q)))
theorem g_lif_ne (C : mm_C p m c cc nL s args own) {x y a b off : Int} {tgt : Nat} (hx : n64 x = a) (hy : n64 y = b) (hdg : decode cc pc = .ok (.ifCond .ne off, 3)) (ht : (pc : Int) + off = (tgt : Int)) (kt : ¬ a = b → W p l e R s m args below meth c H locs cells slots Q (F0 m tgt ls rest)) (kf : a = b → W p l e R s m args below meth c H locs cells slots Q (F0 m (pc + 3) ls rest)) : W p l e R s m args below meth c H locs cells slots Q (F0 m pc ls (.int (mm_I (mm_cmp x y)) :: rest)) := by
  subst hx; subst hy
  exact g_if_ne C (mm_cmp_n x y) hdg ht (fun h => kt (fun q => h (mm_cmp_e.mpr q))) (fun h => kf (mm_cmp_e.mp h))
theorem g_lif_lt (C : mm_C p m c cc nL s args own) {x y a b off : Int} {tgt : Nat} (hx : n64 x = a) (hy : n64 y = b) (hdg : decode cc pc = .ok (.ifCond .lt off, 3)) (ht : (pc : Int) + off = (tgt : Int)) (kt : a < b → W p l e R s m args below meth c H locs cells slots Q (F0 m tgt ls rest)) (kf : ¬ a < b → W p l e R s m args below meth c H locs cells slots Q (F0 m (pc + 3) ls rest)) : W p l e R s m args below meth c H locs cells slots Q (F0 m pc ls (.int (mm_I (mm_cmp x y)) :: rest)) := by
  subst hx; subst hy
  exact g_if_lt C (mm_cmp_n x y) hdg ht (fun h => kt (mm_cmp_lt.mp h)) (fun h => kf (fun q => h (mm_cmp_lt.mpr q)))
theorem g_lif_ge (C : mm_C p m c cc nL s args own) {x y a b off : Int} {tgt : Nat} (hx : n64 x = a) (hy : n64 y = b) (hdg : decode cc pc = .ok (.ifCond .ge off, 3)) (ht : (pc : Int) + off = (tgt : Int)) (kt : b ≤ a → W p l e R s m args below meth c H locs cells slots Q (F0 m tgt ls rest)) (kf : ¬ b ≤ a → W p l e R s m args below meth c H locs cells slots Q (F0 m (pc + 3) ls rest)) : W p l e R s m args below meth c H locs cells slots Q (F0 m pc ls (.int (mm_I (mm_cmp x y)) :: rest)) := by
  subst hx; subst hy
  exact g_if_ge C (mm_cmp_n x y) hdg ht (fun h => kt (mm_cmp_ge.mp h)) (fun h => kf (fun q => h (mm_cmp_ge.mpr q)))
theorem g_lif_gt (C : mm_C p m c cc nL s args own) {x y a b off : Int} {tgt : Nat} (hx : n64 x = a) (hy : n64 y = b) (hdg : decode cc pc = .ok (.ifCond .gt off, 3)) (ht : (pc : Int) + off = (tgt : Int)) (kt : b < a → W p l e R s m args below meth c H locs cells slots Q (F0 m tgt ls rest)) (kf : ¬ b < a → W p l e R s m args below meth c H locs cells slots Q (F0 m (pc + 3) ls rest)) : W p l e R s m args below meth c H locs cells slots Q (F0 m pc ls (.int (mm_I (mm_cmp x y)) :: rest)) := by
  subst hx; subst hy
  exact g_if_gt C (mm_cmp_n x y) hdg ht (fun h => kt (mm_cmp_gt.mp h)) (fun h => kf (fun q => h (mm_cmp_gt.mpr q)))
theorem g_lif_le (C : mm_C p m c cc nL s args own) {x y a b off : Int} {tgt : Nat} (hx : n64 x = a) (hy : n64 y = b) (hdg : decode cc pc = .ok (.ifCond .le off, 3)) (ht : (pc : Int) + off = (tgt : Int)) (kt : a ≤ b → W p l e R s m args below meth c H locs cells slots Q (F0 m tgt ls rest)) (kf : ¬ a ≤ b → W p l e R s m args below meth c H locs cells slots Q (F0 m (pc + 3) ls rest)) : W p l e R s m args below meth c H locs cells slots Q (F0 m pc ls (.int (mm_I (mm_cmp x y)) :: rest)) := by
  subst hx; subst hy
  exact g_if_le C (mm_cmp_n x y) hdg ht (fun h => kt (mm_cmp_le.mp h)) (fun h => kf (fun q => h (mm_cmp_le.mpr q)))
end
