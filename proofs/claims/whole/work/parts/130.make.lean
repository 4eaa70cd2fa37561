/-! making: the cells come one by one; cell i lies at sz + i -/
def kw_W (G : mm_G) (n : Nat) (τ : Nat → va_E) : va_W := (List.range n).map (fun i => (mm_ad G i, τ i))
theorem kw_at {G : mm_G} {n i : Nat} {τ : Nat → va_E} (h : i < n) : (kw_W G n τ)[i]? = some (mm_ad G i, τ i) := by
  unfold kw_W
  rw [List.getElem?_map, List.getElem?_range h]
  rfl
theorem kw_len {G : mm_G} {n : Nat} {τ : Nat → va_E} : (kw_W G n τ).length = n := by unfold kw_W; simp
theorem kw_of {G : mm_G} {n i : Nat} {τ : Nat → va_E} {q : Nat × va_E} (h : (kw_W G n τ)[i]? = some q) : i < n ∧ q = (mm_ad G i, τ i) := by
  by_cases hi : i < n
  · rw [kw_at hi] at h
    exact ⟨hi, (Option.some.inj h).symm⟩
  · rw [List.getElem?_eq_none (by rw [kw_len]; omega)] at h
    cases h
theorem kw_congr {G : mm_G} {n : Nat} {τ τ' : Nat → va_E} (h : ∀ j, j < n → τ j = τ' j) : kw_W G n τ = kw_W G n τ' := by
  apply List.ext_getElem?
  intro k
  by_cases hk : k < n
  · rw [kw_at hk, kw_at hk, h k hk]
  · rw [List.getElem?_eq_none (by rw [kw_len]; omega), List.getElem?_eq_none (by rw [kw_len]; omega)]
theorem kw_set {G : mm_G} {n i : Nat} {τ : Nat → va_E} {e : va_E} (hi : i < n) : (kw_W G n τ).set i (mm_ad G i, e) = kw_W G n (va_up τ i e) := by
  apply List.ext_getElem?
  intro k
  rw [List.getElem?_set, kw_len]
  by_cases hk : i = k
  · subst hk
    rw [if_pos rfl, if_pos hi, kw_at hi]
    simp [va_up]
  · rw [if_neg hk]
    by_cases h : k < n
    · rw [kw_at h, kw_at h]
      simp [va_up, Ne.symm hk]
    · rw [List.getElem?_eq_none (by rw [kw_len]; omega), List.getElem?_eq_none (by rw [kw_len]; omega)]
theorem kw_push {G : mm_G} {n : Nat} {τ : Nat → va_E} {e : va_E} : kw_W G n τ ++ [(mm_ad G n, e)] = kw_W G (n + 1) (va_up τ n e) := by
  apply List.ext_getElem?
  intro k
  by_cases h : k < n
  · rw [List.getElem?_append_left (by rw [kw_len]; exact h), kw_at h, kw_at (by omega)]
    simp [va_up, Nat.ne_of_lt h]
  · rw [List.getElem?_append_right (by rw [kw_len]; omega), kw_len]
    by_cases h2 : k = n
    · subst h2
      rw [kw_at (by omega)]
      simp [va_up]
    · rw [List.getElem?_eq_none (by simp; omega), List.getElem?_eq_none (by rw [kw_len]; omega)]
def kw_AO (s : State) : Prop := va_AO "LastServed$Shop" s ∧ va_AO "LastServed$Person" s ∧ va_AO "LastServed$Desk" s
def kw_A (sz : Nat) : Nat → Prop := fun q => sz ≤ q
def kw (G : mm_G) (sz n : Nat) (τ : Nat → va_E) (s : State) (H : Heap) (locs : List Loc) (cells : Nat) : Prop :=
  (∀ i, mm_ad G i = sz + i) ∧ s.heap.size + cells = sz + n ∧ sz ≤ s.heap.size ∧ va_P G.1 vwCl (kw_W G n τ) H ∧ mm_E G (kw_A sz) s s.heap ∧ kw_AO s ∧ va_S (kw_A sz) s.heap H locs
theorem kw_D {G : mm_G} {sz n : Nat} {τ : Nat → va_E} (h : ∀ i, mm_ad G i = sz + i) : va_D (kw_A sz) (kw_W G n τ) := by
  refine ⟨fun i j p q hi hj he => ?_, fun k q hk => ?_⟩
  · obtain ⟨a1, a2⟩ := kw_of hi
    obtain ⟨b1, b2⟩ := kw_of hj
    rw [a2, b2] at he
    have he : mm_ad G i = mm_ad G j := he
    rw [h, h] at he
    omega
  · obtain ⟨a1, a2⟩ := kw_of hk
    rw [a2]
    show sz ≤ mm_ad G k
    rw [h]
    omega
theorem kw_q {G : mm_G} {sz n q : Nat} {τ : Nat → va_E} {e : va_E} {H : Heap} (ha : ∀ i, mm_ad G i = sz + i) (hP : va_P G.1 vwCl (kw_W G n τ ++ [(q, e)]) H) (hD : va_D (kw_A sz) (kw_W G n τ ++ [(q, e)])) (hb : H.size ≤ sz + n + 1) : q = mm_ad G n := by
  have hn : (kw_W G n τ ++ [(q, e)])[n]? = some (q, e) := by
    rw [List.getElem?_append_right (by rw [kw_len]; omega), kw_len]
    simp
  have h1 : sz ≤ q := hD.2 n _ hn
  have h2 : q < H.size := (hP n _ hn).lt
  have h3 : ∀ i, i < n → q ≠ sz + i := by
    intro i hi he
    have hi2 : (kw_W G n τ ++ [(q, e)])[i]? = some (mm_ad G i, τ i) := by
      rw [List.getElem?_append_left (by rw [kw_len]; exact hi), kw_at hi]
    have := hD.1 i n _ _ hi2 hn (by show mm_ad G i = q; rw [ha, he])
    omega
  rw [ha]
  by_cases h : q < sz + n
  · exact absurd (by omega) (h3 (q - sz) (by omega))
  · omega
section
variable {p : Program} {l : Launch} {e : Env} {R : Room} {s : State} {m : MethodId} {args : Array Value} {below : List Frame} {meth : Method} {c : Code} {H : Heap} {locs : List Loc} {cells slots : Nat} {Q : State → Prop} {cc : ByteArray} {nL pc : Nat} {own : String} {ls : Array Slot} {rest st : List Value} {G : mm_G} {sz n : Nat} {τ : Nat → va_E}
theorem k_bound {g : JFrame} (k : H.size ≤ s.heap.size + cells → W p l e R s m args below meth c H locs cells slots Q g) : W p l e R s m args below meth c H locs cells slots Q g := by
  intro T hT X
  exact k (by rw [← hT]; exact X.heapSize) T hT X
theorem k_cs {g : JFrame} {cells' slots' : Nat} (h1 : cells = cells') (h2 : slots = slots') (k : W p l e R s m args below meth c H locs cells' slots' Q g) : W p l e R s m args below meth c H locs cells slots Q g := by
  subst h1; subst h2
  exact k
theorem kw.A (k : kw G sz n τ s H locs cells) : ∀ q, s.heap.size ≤ q → kw_A sz q := fun q h => Nat.le_trans k.2.2.1 h
theorem kw.size (k : kw G sz n τ s H locs cells) (hb : H.size ≤ s.heap.size + cells) (hn : 0 < n) : H.size = sz + n := by
  have h := (k.2.2.2.1 (n - 1) _ (kw_at (by omega))).lt
  have h : mm_ad G (n - 1) < H.size := h
  rw [k.1] at h
  have := k.2.1
  omega
theorem kw.to {τ' : Nat → va_E} (k : kw G sz n τ s H locs cells) (h : ∀ j, j < n → τ j = τ' j) : kw G sz n τ' s H locs cells := by
  obtain ⟨a, b, d, hP, r⟩ := k
  exact ⟨a, b, d, by rw [← kw_congr h]; exact hP, r⟩
theorem k_new (C : mm_C p m c cc nL s args own) (k : kw G sz n τ s H locs cells) {ci N index : Nat} {C0 : String} {T : u_T} {fs : List Value} (hc : vwCl[ci]? = some (C0, T, N)) (hin : ∀ w ∈ u_ws C0 T N, w ∈ mm_ws) (ty : Nat → FieldType) (hty : ∀ k, k < N → parseFieldDescriptor (T k).2.2.1 = some (ty k)) (hfs : ∀ j, j < N → defaultValue (ty j) = vp_V fs j)
    (hw : Cond.classLink own index C0 ∈ mm_ws ∧ Cond.instantiable C0 N ∈ mm_ws ∧ Cond.initialized C0 ∈ mm_ws) (hR : cells + 1 ≤ R.cells ∧ slots + N ≤ R.slots) (hdg : decode cc pc = .ok (.new index, 3))
    (kk : ∀ H1, kw G sz (n + 1) (va_up τ n (.inr (ci, fs))) s H1 locs (cells + 1) → W p l e R s m args below meth c H1 locs (cells + 1) (slots + N) Q (F0 m (pc + 3) ls (.ref (mm_ad G n) :: rest))) : W p l e R s m args below meth c H locs cells slots Q (F0 m pc ls rest) := by
  have h := C.2.2.2.2
  have hA := k.A
  obtain ⟨a1, a2, a3, hP, hE, hO, hS⟩ := k
  refine va_new (fs := fs) C.1 C.2.1 h hin ty hty C.2.2.2.1 (h _ hw.1) (h _ hw.2.1) (h _ hw.2.2) hE.1 hP (kw_D a1) hS hA hc hfs hR.1 hR.2 hdg (fun q H1 hP1 hD1 hS1 => ?_)
  refine k_bound (fun hb => ?_)
  have hq := kw_q a1 hP1 hD1 (by omega)
  subst hq
  rw [kw_push] at hP1
  exact kk H1 ⟨a1, by omega, a3, hP1, hE, hO, hS1⟩
theorem k_ct (hE : mm_E G (kw_A sz) s s.heap) {j : Nat} {ty : FieldType} {cA : ClassId} (hj : (mm_tys G)[j]? = some (G.2.1 j, ty)) (hK : va_K G.1 vwCl (mm_tys G ++ [(cA, ty)]) s) (ht : ∀ x y : ClassId, va_RA s x ty → va_RA s y ty → x = y) : cA = G.2.1 j := by
  have h1 := (hE.1.2 j _ hj).2
  have h2 := (hK.2 (mm_tys G).length (cA, ty) (by rw [List.getElem?_append_right (Nat.le_refl _)]; simp)).2
  exact ht _ _ h2 h1
theorem k_newa (C : mm_C p m c cc nL s args own) (k : kw G sz n τ s H locs cells) {atype : ArrayType} {ty : FieldType} {j N' : Nat} {x : Int} {a0 : vp_A} (hty : newarray.typeOf atype = ty) (hwd : Cond.arrayClass (newarray.typeOf atype) ∈ mm_ws) (hj : (mm_tys G)[j]? = some (G.2.1 j, ty)) (ht : ∀ x y : ClassId, va_RA s x ty → va_RA s y ty → x = y) (ha : ∀ cA : ClassId, vp_cell cA a0 = arrV cA N' (fun _ => defaultValue ty)) (hx : x = N') (hN : N' < 100000) (hcb : componentBytes ty ≤ 8)
    (hR : cells + 1 ≤ R.cells ∧ slots + N' ≤ R.slots) (hdg : decode cc pc = .ok (.newarray atype, 2))
    (kk : ∀ H1, kw G sz (n + 1) (va_up τ n (.inl (G.2.1 j, a0))) s H1 locs (cells + 1) → W p l e R s m args below meth c H1 locs (cells + 1) (slots + N') Q (F0 m (pc + 2) ls (.ref (mm_ad G n) :: rest))) : W p l e R s m args below meth c H locs cells slots Q (F0 m pc ls (.int (mm_I x) :: rest)) := by
  have h := C.2.2.2.2
  have hA := k.A
  obtain ⟨a1, a2, a3, hP, hE, hO, hS⟩ := k
  obtain ⟨g1, g2⟩ := mm_in (x := x) (n := N' + 1) (by omega) (by omega)
  refine va_newa (a0 := a0) (N' := N') C.1 C.2.1 (h _ hwd) hty hE.1 hP (kw_D a1) hS hA ha (fun q => g1 (Or.inl q)) (by rw [g2, hx]; rfl) (by
    have : N' * componentBytes ty ≤ 100000 * 8 := Nat.mul_le_mul (by omega) hcb
    omega) hR.1 hR.2 hdg (fun q cA H1 hK1 hP1 hD1 hS1 => ?_)
  have hc := k_ct hE hj hK1 ht
  subst hc
  refine k_bound (fun hb => ?_)
  have hq := kw_q a1 hP1 hD1 (by omega)
  subst hq
  rw [kw_push] at hP1
  exact kk H1 ⟨a1, by omega, a3, hP1, hE, hO, hS1⟩
theorem k_newq (C : mm_C p m c cc nL s args own) (k : kw G sz n τ s H locs cells) {C0 : String} {index j N' : Nat} {x : Int} (hj : (mm_tys G)[j]? = some (G.2.1 j, .object C0)) (hcl : Cond.classLink own index C0 ∈ mm_ws) (hO : va_AO C0 s) (hx : x = N') (hN : N' < 100000)
    (hR : cells + 1 ≤ R.cells ∧ slots + N' ≤ R.slots) (hdg : decode cc pc = .ok (.anewarray index, 3))
    (kk : ∀ H1, kw G sz (n + 1) (va_up τ n (.inl (G.2.1 j, N', .inr (.inr (.inr (.inr (fun _ => none))))))) s H1 locs (cells + 1) → W p l e R s m args below meth c H1 locs (cells + 1) (slots + N') Q (F0 m (pc + 3) ls (.ref (mm_ad G n) :: rest))) : W p l e R s m args below meth c H locs cells slots Q (F0 m pc ls (.int (mm_I x) :: rest)) := by
  have h := C.2.2.2.2
  have hA := k.A
  obtain ⟨a1, a2, a3, hP, hE, hO2, hS⟩ := k
  obtain ⟨g1, g2⟩ := mm_in (x := x) (n := N' + 1) (by omega) (by omega)
  refine va_newq (N' := N') C.1 C.2.1 C.2.2.2.1 (h _ hcl) hO hE.1 hP (kw_D a1) hS hA (fun q => g1 (Or.inl q)) (by rw [g2, hx]; rfl) (by omega) hR.1 hR.2 hdg (fun q cA H1 hK1 hP1 hD1 hS1 => ?_)
  have hc := k_ct hE hj hK1 (fun x y hx hy => by
    obtain ⟨_, _, -, -, -, h1⟩ := hx
    obtain ⟨_, _, -, -, -, h2⟩ := hy
    exact Option.some.inj (h1.symm.trans h2))
  subst hc
  refine k_bound (fun hb => ?_)
  have hq := kw_q a1 hP1 hD1 (by omega)
  subst hq
  rw [kw_push] at hP1
  exact kk H1 ⟨a1, by omega, a3, hP1, hE, hO2, hS1⟩
theorem k_put (C : mm_C p m c cc nL s args own) (k : kw G sz n τ s H locs cells) {i ci f N index : Nat} {C0 : String} {T : u_T} {fs fs' : List Value} {v : Value} {ft : FieldType} (hi : i < n) (hτ : τ i = .inr (ci, fs)) (hc : vwCl[ci]? = some (C0, T, N)) (hin : ∀ w ∈ u_ws C0 T N, w ∈ mm_ws) (ty0 : Nat → FieldType) (hty : ∀ k, k < N → parseFieldDescriptor (T k).2.2.1 = some (ty0 k)) (hnm : ∀ a, a < N → ∀ b, b < N → a ≠ b → (T a).2.1 ≠ (T b).2.1) (hf : f < N) (hlink : Cond.fieldLink own index (T f).1 (T f).2.1 (T f).2.2.1 ∈ mm_ws) (hfin : (T f).2.2.2 = false) (hd : parseFieldDescriptor (T f).2.2.1 = some ft) (hn : narrow ft v = v) (hfit : fits ft v = true) (hl : f < fs.length) (hfs : fs.set f v = fs') (hdg : decode cc pc = .ok (.putfield index, 3))
    (kk : ∀ H1 locs1, kw G sz n (va_up τ i (.inr (ci, fs'))) s H1 locs1 cells → W p l e R s m args below meth c H1 locs1 cells slots Q (F0 m (pc + 3) ls rest)) : W p l e R s m args below meth c H locs cells slots Q (F0 m pc ls (v :: .ref (mm_ad G i) :: rest)) := by
  have h := C.2.2.2.2
  obtain ⟨a1, a2, a3, hP, hE, hO, hS⟩ := k
  subst hfs
  refine va_put C.1 C.2.1 h hin ty0 hty hnm C.2.2.2.1 hE.1 hP (kw_D a1) hS i ((kw_at hi).trans (by rw [hτ])) hc f hf (h _ hlink) (fun _ h => h) hfin hd hn hfit hl hdg (fun H1 locs1 hP1 hD1 hS1 => ?_)
  rw [kw_set hi] at hP1
  exact kk H1 locs1 ⟨a1, a2, a3, hP1, hE, hO, hS1⟩
theorem k_putF (C : mm_C p m c cc nL s args own) (k : kw G sz n τ s H locs cells) {i ci f N index : Nat} {C0 : String} {T : u_T} {fs fs' : List Value} {v : Value} {ft : FieldType} (hi : i < n) (hτ : τ i = .inr (ci, fs)) (hc : vwCl[ci]? = some (C0, T, N)) (hin : ∀ w ∈ u_ws C0 T N, w ∈ mm_ws) (ty0 : Nat → FieldType) (hty : ∀ k, k < N → parseFieldDescriptor (T k).2.2.1 = some (ty0 k)) (hnm : ∀ a, a < N → ∀ b, b < N → a ≠ b → (T a).2.1 ≠ (T b).2.1) (hf : f < N) (hlink : Cond.fieldLink own index (T f).1 (T f).2.1 (T f).2.2.1 ∈ mm_ws) (hfin : (T f).2.2.2 = true) (hnme : meth.name = "<init>") (hdecl : (T f).1 = own) (hd : parseFieldDescriptor (T f).2.2.1 = some ft) (hn : narrow ft v = v) (hfit : fits ft v = true) (hl : f < fs.length) (hfs : fs.set f v = fs') (hdg : decode cc pc = .ok (.putfield index, 3))
    (kk : ∀ H1 locs1, kw G sz n (va_up τ i (.inr (ci, fs'))) s H1 locs1 cells → W p l e R s m args below meth c H1 locs1 cells slots Q (F0 m (pc + 3) ls rest)) : W p l e R s m args below meth c H locs cells slots Q (F0 m pc ls (v :: .ref (mm_ad G i) :: rest)) := by
  have h := C.2.2.2.2
  obtain ⟨a1, a2, a3, hP, hE, hO, hS⟩ := k
  subst hfs
  refine va_putF C.1 C.2.1 h hin ty0 hty hnm C.2.2.2.1 hE.1 hP (kw_D a1) hS i ((kw_at hi).trans (by rw [hτ])) hc f hf (h _ hlink) (fun _ h => h) hfin hnme hdecl hd hn hfit hl hdg (fun H1 locs1 hP1 hD1 hS1 => ?_)
  rw [kw_set hi] at hP1
  exact kk H1 locs1 ⟨a1, a2, a3, hP1, hE, hO, hS1⟩
theorem k_get (C : mm_C p m c cc nL s args own) (k : kw G sz n τ s H locs cells) {i ci f N index : Nat} {C0 : String} {T : u_T} {fs : List Value} {v : Value} (hi : i < n) (hτ : τ i = .inr (ci, fs)) (hc : vwCl[ci]? = some (C0, T, N)) (hin : ∀ w ∈ u_ws C0 T N, w ∈ mm_ws) (hf : f < N) (hlink : Cond.fieldLink own index (T f).1 (T f).2.1 (T f).2.2.1 ∈ mm_ws) (hv : fs[f]? = some v) (hdg : decode cc pc = .ok (.getfield index, 3))
    (kk : W p l e R s m args below meth c H locs cells slots Q (F0 m (pc + 3) ls (v :: rest))) : W p l e R s m args below meth c H locs cells slots Q (F0 m pc ls (.ref (mm_ad G i) :: rest)) := by
  have h := C.2.2.2.2
  obtain ⟨a1, a2, a3, hP, hE, hO, hS⟩ := k
  exact va_get C.1 C.2.1 h hin C.2.2.2.1 hE.1 hP i ((kw_at hi).trans (by rw [hτ])) hc f hf (h _ hlink) (fun _ h => h) hv hdg kk
theorem k_ast (C : mm_C p m c cc nL s args own) (k : kw G sz n τ s H locs cells) {i v ci j N' : Nat} {x : Int} {r : vw_C} {vs : List Value} {f f' : Nat → Option Nat} (hi : i < n) (hv : v < n) (hτ : τ i = .inl (G.2.1 j, N', .inr (.inr (.inr (.inr f))))) (hτv : τ v = .inr (ci, vs)) (hj : (mm_tys G)[j]? = some (G.2.1 j, .object r.1)) (hc : vwCl[ci]? = some r) (hx : 0 ≤ x ∧ x < N') (hN : N' < 100000) (hf : va_up f x.toNat (some (mm_ad G v)) = f') (hdg : decode cc pc = .ok (.aastore, 1))
    (kk : ∀ H1 locs1, kw G sz n (va_up τ i (.inl (G.2.1 j, N', .inr (.inr (.inr (.inr f')))))) s H1 locs1 cells → W p l e R s m args below meth c H1 locs1 cells slots Q (F0 m (pc + 1) ls rest)) : W p l e R s m args below meth c H locs cells slots Q (F0 m pc ls (.ref (mm_ad G v) :: .int (mm_I x) :: .ref (mm_ad G i) :: rest)) := by
  obtain ⟨a1, a2, a3, hP, hE, hO, hS⟩ := k
  obtain ⟨g1, g2⟩ := mm_in (x := x) (n := N') (by omega) hx
  subst hf
  refine va_astq C.1 C.2.1 hE.1 hP (kw_D a1) hS i j v ci ((kw_at hi).trans (by rw [hτ])) hj ((kw_at hv).trans (by rw [hτv])) hc g1 hdg (fun H1 locs1 hP1 hD1 hS1 => ?_)
  rw [g2, kw_set hi] at hP1
  exact kk H1 locs1 ⟨a1, a2, a3, hP1, hE, hO, hS1⟩
end
def k_pre (G : mm_G) (sz n : Nat) (τ : Nat → va_E) : State → Prop := fun U => (∀ i, mm_ad G i = sz + i) ∧ U.heap.size = sz + n ∧ va_P G.1 vwCl (kw_W G n τ) U.heap ∧ mm_E G (kw_A sz) U U.heap ∧ kw_AO U
def k_B (G : mm_G) (n : Nat) (τ : Nat → va_E) : Unit → State → Prop := fun _ t => va_P G.1 vwCl (kw_W G n τ) t.heap
abbrev k_Q (G : mm_G) (sz n : Nat) (τ : Nat → va_E) : Array Value → State → Outcome → State → Prop := va_Qv (S := Unit) (fun _ => True) (k_B G n τ) (kw_A sz)
def k_rm (d mc ms : Nat) : Room := { frames := d, cells := mc, slots := ms, locals := 64 * d }
theorem k_met {l : Launch} {y : MethodName} {cc : ByteArray} {maxL : Nat} {own : String} {d mc ms : Nat} {G : mm_G} {sz n n' : Nat} {τ τ' : Nat → va_E} {vals : List Value} (hy : plainName y.cls = true) (ho : y.cls = own) (hnm : y.name = "<init>") (hlen : (lg_sl vals).length ≤ maxL)
    (body : ∀ (p : Program) (e : Env) (s : State) (m : MethodId) (args : Array Value) (below : List Frame) (meth : Method) (c : Code), mm_C p m c cc maxL s args own → meth.sig.returnType = none → meth.locks = false → meth.name = "<init>" → ∀ (H : Heap) (locs : List Loc) (ls : Array Slot), kw G sz n τ s H locs 0 → lv_has ls maxL (lv_args 0 vals) → W p l e (k_rm d mc ms) s m args below meth c H locs 0 0 (MQ below (k_Q G sz n' τ') args s mc ms (kw_A sz)) (F0 m 0 ls [])) : Met l y (mm_wm y cc maxL none) (k_rm d mc ms) (va_Pc vals (k_pre G sz n τ)) (k_Q G sz n' τ') mc ms (kw_A sz) := by
  refine Met.ofW (cc := cc) (maxL := maxL) (ret := none) hy rfl ?_
  intro p e s m args below meth c s₁ B hml hv
  obtain ⟨rfl, ha, hz, hP, hE, hO⟩ := hv
  have hts := atoms_spec (ws := mm_wm y cc maxL none) B.pre
  have hown := findClass_of_methodNamed B.named
  rw [ho] at hown
  have hmn : meth.name = "<init>" := by rw [← hnm]; exact (name_of_methodNamed B.named B.method).1
  rw [lg_entry_eq]
  exact body p e s m _ below meth c ⟨B.exec, B.bytes, hml, hown, fun w h => hts w (List.mem_cons_of_mem _ h)⟩ B.returns B.notSynchronized hmn s.heap [] _ ⟨ha, by rw [hz]; rfl, by omega, hP, hE, hO, va_S.rf⟩ (lv_entry vals hlen)
section
variable {p : Program} {l : Launch} {e : Env} {R : Room} {s : State} {m : MethodId} {args : Array Value} {below : List Frame} {meth : Method} {c : Code} {H : Heap} {locs : List Loc} {cells slots : Nat} {Q : State → Prop} {cc : ByteArray} {nL pc : Nat} {own : String} {ls : Array Slot} {rest st : List Value} {G : mm_G} {sz n : Nat} {τ : Nat → va_E}
theorem k_ret (C : mm_C p m c cc nL s args own) {τ' : Nat → va_E} (k : kw G sz n τ s H locs cells) (hr : meth.sig.returnType = none) (hk : meth.locks = false) (h : ∀ j, j < n → τ j = τ' j) (hdg : decode cc pc = .ok (.return_, 1)) : W p l e R s m args below meth c H locs cells slots (MQ below (k_Q G sz n τ') args s cells slots (kw_A sz)) (F0 m pc ls []) :=
  W.vret C.1 C.2.1 hr (fun t ht hW => ⟨⟨(), rfl, trivial, by unfold k_B; rw [ht, ← kw_congr h]; exact k.2.2.2.1⟩, k.2.2.2.2.2.2.F ht⟩) k.2.2.2.2.2.2.2.2 hdg hk
theorem k_blind {vals : List Value} : FrameBlind (va_Pc vals (k_pre G sz n τ)) := fun a U g mk q => by
  obtain ⟨q0, q1, q2, qP, qE, qO⟩ := q
  exact ⟨q0, q1, q2, qP, mm_E.go (U := U.calling g mk a) qE va_S.rf (State.WarmedH.refl U) rfl (fun _ h => h), va_AO.moved (u := U) (U := U.calling g mk a) (Vm.Alike.refl U.vm) qO.1, va_AO.moved (u := U) (U := U.calling g mk a) (Vm.Alike.refl U.vm) qO.2.1, va_AO.moved (u := U) (U := U.calling g mk a) (Vm.Alike.refl U.vm) qO.2.2⟩
theorem k_enter {vals : List Value} (k : kw G sz n τ s H locs cells) (hz : H.size = sz + n) : ∀ U : State, U.heap = H → s.WarmedH U.vm → va_Pc vals (k_pre G sz n τ) vals.toArray U := fun U hU hW => by
  obtain ⟨a1, a2, a3, hP, hE, hO, hS⟩ := k
  exact ⟨rfl, a1, by rw [hU]; exact hz, by rw [hU]; exact hP, mm_E.go hE hS hW hU (fun _ h => h), va_AO.moved hW.alike hO.1, va_AO.moved hW.alike hO.2.1, va_AO.moved hW.alike hO.2.2⟩
/-- what a constructor's call needs of the tables -/
def k_V (y : MethodName) (bytes : ByteArray) (maxL n : Nat) : Prop := y.name = "<init>" ∧ Cond.code y bytes maxL none ∈ mm_ws ∧ Cond.instanceMethod y ∈ mm_ws ∧ Cond.initialized y.cls ∈ mm_ws ∧ y.cls ≠ "java/lang/invoke/MethodHandle" ∧ y.cls ≠ "java/lang/invoke/VarHandle" ∧ (parseMethodDescriptor y.desc).map (fun d => d.parameters.length) = some n
theorem k_call (C : mm_C p m c cc nL s args own) (k : kw G sz n τ s H locs cells) {y : MethodName} {bytes : ByteArray} {maxL d mc ms na index n' : Nat} {As : List Value} {b : Nat} {τ' : Nat → va_E} (hM : Met l y (mm_wm y bytes maxL none) (k_rm d mc ms) (va_Pc (.ref b :: As) (k_pre G sz n τ)) (k_Q G sz n' τ') mc ms (kw_A sz)) (hn0 : 0 < n) (hn' : n' = n + mc) (V : k_V y bytes maxL na) (hml : Cond.methodLink own index y ∈ mm_ws)
    (hR : d + 1 ≤ R.frames ∧ 8 + (maxL + 11) + 64 * d ≤ R.locals) (hR2 : cells + mc ≤ R.cells ∧ slots + ms ≤ R.slots) (hn : As.length = na) (hls : ls.size = nL) (hst : st = As.reverse ++ .ref b :: rest) (hW : (rest.map fun v => v.category).sum ≤ 8) (hdg : decode cc pc = .ok (.invokespecial index, 3))
    (kk : ∀ H1 locs1, kw G sz n' τ' s H1 locs1 (cells + mc) → W p l e R s m args below meth c H1 locs1 (cells + mc) (slots + ms) Q (F0 m (pc + 3) ls rest)) : W p l e R s m args below meth c H locs cells slots Q (F0 m pc ls st) := by
  have h := C.2.2.2.2
  refine k_bound (fun hb => ?_)
  have hz := k.size hb hn0
  refine va_callv (va_runI (b := b) (As := As) C hM ⟨callB_of na h (mm_good V.2.1) rfl rfl rfl (h _ V.2.2.2.1) (h _ hml) V.2.2.2.2 hR, V.1, h _ V.2.2.1⟩ ⟨k_blind, k_enter k hz⟩ rfl hn hls hst (lv_room hW) hdg hR2) k.2.2.2.2.2.2 (fun q _ h => h) (fun q h => h) (fun u t H1 locs1 ht hvm hp hB hz1 hk1 hS1 => ?_)
  obtain ⟨a1, a2, a3, hP, hE, hO, hS⟩ := k
  exact kk H1 locs1 ⟨a1, by omega, a3, by rw [← ht]; exact hB, hE, hO, hS1⟩
theorem k_callN (C : mm_C p m c cc nL s args own) (k : kw G sz n τ s H locs cells) {y : MethodName} {bytes : ByteArray} {maxL d mc ms na index n' : Nat} {As : List Value} {b : Nat} {τ' : Nat → va_E} {host : String} (hM : Met l y (mm_wm y bytes maxL none) (k_rm d mc ms) (va_Pc (.ref b :: As) (k_pre G sz n τ)) (k_Q G sz n' τ') mc ms (kw_A sz)) (hn0 : 0 < n) (hn' : n' = n + mc) (V : k_V y bytes maxL na) (hml : Cond.methodLinkNest own index y host ∈ mm_nest)
    (hR : d + 1 ≤ R.frames ∧ 8 + (maxL + 11) + 64 * d ≤ R.locals) (hR2 : cells + mc ≤ R.cells ∧ slots + ms ≤ R.slots) (hn : As.length = na) (hls : ls.size = nL) (hst : st = As.reverse ++ .ref b :: rest) (hW : (rest.map fun v => v.category).sum ≤ 8) (hdg : decode cc pc = .ok (.invokespecial index, 3))
    (kk : ∀ H1 locs1, kw G sz n' τ' s H1 locs1 (cells + mc) → W p l e R s m args below meth c H1 locs1 (cells + mc) (slots + ms) Q (F0 m (pc + 3) ls rest)) : W p l e R s m args below meth c H locs cells slots Q (F0 m pc ls st) := by
  have h := C.2.2.2.2
  refine k_bound (fun hb => ?_)
  have hz := k.size hb hn0
  refine va_callv (va_runIN (b := b) (As := As) C hM ⟨va_cnB na h (mm_good V.2.1) rfl rfl rfl (k.2.2.2.2.1.2.1 _ hml) (h _ V.2.2.2.1) V.2.2.2.2 hR, V.1, h _ V.2.2.1⟩ ⟨k_blind, k_enter k hz⟩ rfl hn hls hst (lv_room hW) hdg hR2) k.2.2.2.2.2.2 (fun q _ h => h) (fun q h => h) (fun u t H1 locs1 ht hvm hp hB hz1 hk1 hS1 => ?_)
  obtain ⟨a1, a2, a3, hP, hE, hO, hS⟩ := k
  exact kk H1 locs1 ⟨a1, by omega, a3, by rw [← ht]; exact hB, hE, hO, hS1⟩
end
