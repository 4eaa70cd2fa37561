/-! fields, arrays -/
section
variable {p : Program} {l : Launch} {e : Env} {R : Room} {s : State} {m : MethodId} {args : Array Value} {below : List Frame} {meth : Method} {c : Code} {H : Heap} {locs : List Loc} {cells slots : Nat} {Q : State → Prop} {cc : ByteArray} {nL pc : Nat} {own : String} {ls : Array Slot} {rest : List Value} {G : mm_G} {A : Nat → Prop} {σ : mm_M}
/-- field k of class number ci: its name and kind t (0 int, 1 a reference, 2 long) -/
def mm_F (ci k t : Nat) (C : String) (T : u_T) (N : Nat) : Prop := vwCl[ci]? = some (C, T, N) ∧ k < N ∧ (∀ w ∈ u_ws C T N, w ∈ mm_ws) ∧ mm_ty ci k = t ∧ mm_nf ci = N
theorem mm_cO {σ : mm_M} {i ci n : Nat} (h : mm_ok i (10 + ci) n) : mm_cR G (σ i) i = .inr (ci, (List.range (mm_nf ci)).map (mm_fv G (σ i) i ci)) := by
  unfold mm_cR
  rw [h.2.1, if_neg (by omega), if_neg (by omega), if_neg (by omega), Nat.add_sub_cancel_left]
theorem mm_fs {r : Int → Int} {i ci k : Nat} (h : k < mm_nf ci) : ((List.range (mm_nf ci)).map (mm_fv G r i ci))[k]? = some (mm_fv G r i ci k) := by
  rw [List.getElem?_map, List.getElem?_range h]
  rfl
theorem g_geti (C : mm_C p m c cc nL s args own) (w : mm_Wd G A σ s H locs) {i ci k N index : Nat} {C0 : String} {T : u_T} (hi : mm_ok i (10 + ci) 0) (F : mm_F ci k 0 C0 T N) (hlink : Cond.fieldLink own index (T k).1 (T k).2.1 (T k).2.2.1 ∈ mm_ws) (hdg : decode cc pc = .ok (.getfield index, 3))
    (kk : W p l e R s m args below meth c H locs cells slots Q (F0 m (pc + 3) ls (.int (mm_I (σ i k)) :: rest))) : W p l e R s m args below meth c H locs cells slots Q (F0 m pc ls (.ref (mm_ad G i) :: rest)) := by
  obtain ⟨-, -, hP, hE, hS⟩ := w
  obtain ⟨hc, hk, hin, ht, hN⟩ := F
  refine va_get C.1 C.2.1 C.2.2.2.2 hin C.2.2.2.1 hE.1 hP i ((mm_W_at hi.1).trans (by rw [mm_cO hi])) hc k hk (C.2.2.2.2 _ hlink) (fun _ h => h) (mm_fs (by omega)) hdg ?_
  rw [show mm_fv G (σ i) i ci k = .int (mm_I (σ i k)) from by unfold mm_fv; rw [if_pos ht]]
  exact kk
theorem g_getr (C : mm_C p m c cc nL s args own) (w : mm_Wd G A σ s H locs) {i ci k N index : Nat} {C0 : String} {T : u_T} (hi : mm_ok i (10 + ci) 0) (F : mm_F ci k 1 C0 T N) (hlink : Cond.fieldLink own index (T k).1 (T k).2.1 (T k).2.2.1 ∈ mm_ws) (hdg : decode cc pc = .ok (.getfield index, 3))
    (kk : W p l e R s m args below meth c H locs cells slots Q (F0 m (pc + 3) ls (.ref (mm_ad G (mm_rt i k)) :: rest))) : W p l e R s m args below meth c H locs cells slots Q (F0 m pc ls (.ref (mm_ad G i) :: rest)) := by
  obtain ⟨-, -, hP, hE, hS⟩ := w
  obtain ⟨hc, hk, hin, ht, hN⟩ := F
  refine va_get C.1 C.2.1 C.2.2.2.2 hin C.2.2.2.1 hE.1 hP i ((mm_W_at hi.1).trans (by rw [mm_cO hi])) hc k hk (C.2.2.2.2 _ hlink) (fun _ h => h) (mm_fs (by omega)) hdg ?_
  rw [show mm_fv G (σ i) i ci k = .ref (mm_ad G (mm_rt i k)) from by unfold mm_fv; rw [if_neg (by omega), if_pos ht]]
  exact kk
theorem g_getl (C : mm_C p m c cc nL s args own) (w : mm_Wd G A σ s H locs) {i ci k N index : Nat} {C0 : String} {T : u_T} (hi : mm_ok i (10 + ci) 0) (F : mm_F ci k 2 C0 T N) (hlink : Cond.fieldLink own index (T k).1 (T k).2.1 (T k).2.2.1 ∈ mm_ws) (hdg : decode cc pc = .ok (.getfield index, 3))
    (kk : W p l e R s m args below meth c H locs cells slots Q (F0 m (pc + 3) ls (.long (mm_L (σ i k)) :: rest))) : W p l e R s m args below meth c H locs cells slots Q (F0 m pc ls (.ref (mm_ad G i) :: rest)) := by
  obtain ⟨-, -, hP, hE, hS⟩ := w
  obtain ⟨hc, hk, hin, ht, hN⟩ := F
  refine va_get C.1 C.2.1 C.2.2.2.2 hin C.2.2.2.1 hE.1 hP i ((mm_W_at hi.1).trans (by rw [mm_cO hi])) hc k hk (C.2.2.2.2 _ hlink) (fun _ h => h) (mm_fs (by omega)) hdg ?_
  rw [show mm_fv G (σ i) i ci k = .long (mm_L (σ i k)) from by unfold mm_fv; rw [if_neg (by omega), if_neg (by omega)]]
  exact kk
theorem g_getiN (C : mm_C p m c cc nL s args own) (w : mm_Wd G A σ s H locs) {i ci k N index : Nat} {C0 host : String} {T : u_T} (hi : mm_ok i (10 + ci) 0) (F : mm_F ci k 0 C0 T N) (hlink : Cond.fieldLinkNest own index (T k).1 (T k).2.1 (T k).2.2.1 host ∈ mm_nest) (hdg : decode cc pc = .ok (.getfield index, 3))
    (kk : W p l e R s m args below meth c H locs cells slots Q (F0 m (pc + 3) ls (.int (mm_I (σ i k)) :: rest))) : W p l e R s m args below meth c H locs cells slots Q (F0 m pc ls (.ref (mm_ad G i) :: rest)) := by
  obtain ⟨-, -, hP, hE, hS⟩ := w
  obtain ⟨hc, hk, hin, ht, hN⟩ := F
  refine va_getN C.1 C.2.1 C.2.2.2.2 hin C.2.2.2.1 hE.1 hP i ((mm_W_at hi.1).trans (by rw [mm_cO hi])) hc k hk (va_Nw.use rfl (hE.2.1 _ hlink)) (fun _ h => h) (mm_fs (by omega)) hdg ?_
  rw [show mm_fv G (σ i) i ci k = .int (mm_I (σ i k)) from by unfold mm_fv; rw [if_pos ht]]
  exact kk
theorem g_getrN (C : mm_C p m c cc nL s args own) (w : mm_Wd G A σ s H locs) {i ci k N index : Nat} {C0 host : String} {T : u_T} (hi : mm_ok i (10 + ci) 0) (F : mm_F ci k 1 C0 T N) (hlink : Cond.fieldLinkNest own index (T k).1 (T k).2.1 (T k).2.2.1 host ∈ mm_nest) (hdg : decode cc pc = .ok (.getfield index, 3))
    (kk : W p l e R s m args below meth c H locs cells slots Q (F0 m (pc + 3) ls (.ref (mm_ad G (mm_rt i k)) :: rest))) : W p l e R s m args below meth c H locs cells slots Q (F0 m pc ls (.ref (mm_ad G i) :: rest)) := by
  obtain ⟨-, -, hP, hE, hS⟩ := w
  obtain ⟨hc, hk, hin, ht, hN⟩ := F
  refine va_getN C.1 C.2.1 C.2.2.2.2 hin C.2.2.2.1 hE.1 hP i ((mm_W_at hi.1).trans (by rw [mm_cO hi])) hc k hk (va_Nw.use rfl (hE.2.1 _ hlink)) (fun _ h => h) (mm_fs (by omega)) hdg ?_
  rw [show mm_fv G (σ i) i ci k = .ref (mm_ad G (mm_rt i k)) from by unfold mm_fv; rw [if_neg (by omega), if_pos ht]]
  exact kk
theorem mm_set {σ : mm_M} {i ci k : Nat} {v : Int} {x : Value} (hi : mm_ok i (10 + ci) 0) (hx : x = if mm_ty ci k = 0 then .int (mm_I v) else .long (mm_L v)) (h1 : mm_ty ci k ≠ 1) : (mm_W G σ).set i (mm_ad G i, .inr (ci, ((List.range (mm_nf ci)).map (mm_fv G (σ i) i ci)).set k x)) = mm_W G (mm_up σ i k v) := by
  refine mm_W_set ?_ (fun k hk => mm_up_o hk)
  rw [mm_cO hi]
  congr 2
  apply List.ext_getElem?
  intro j
  rw [List.getElem?_set, List.getElem?_map, List.getElem?_map, List.length_map, List.length_range]
  by_cases hj : j < mm_nf ci
  · rw [List.getElem?_range hj]
    by_cases hk : k = j
    · subst hk
      rw [if_pos rfl, if_pos hj, hx]
      simp only [Option.map_some, mm_fv, mm_up]
      by_cases h0 : mm_ty ci k = 0
      · simp [h0]
      · simp [h0, h1]
    · rw [if_neg hk]
      have hq : mm_up σ i k v i j = σ i j := by
        unfold mm_up
        rw [if_neg (fun q => hk (by have := q.2; omega))]
      simp only [Option.map_some, mm_fv]
      rw [hq]
  · rw [List.getElem?_eq_none (l := List.range _) (by simp; omega)]
    by_cases hk : k = j
    · rw [if_pos hk, if_neg (by omega)]; rfl
    · rw [if_neg hk]; rfl
/-- a field of numbers that may be written -/
def mm_Fw (ci k : Nat) (T : u_T) (N : Nat) (ft : FieldType) : Prop := (∃ ty0 : Nat → FieldType, ∀ k, k < N → parseFieldDescriptor (T k).2.2.1 = some (ty0 k)) ∧ (∀ a, a < N → ∀ b, b < N → a ≠ b → (T a).2.1 ≠ (T b).2.1) ∧ (T k).2.2.2 = false ∧ parseFieldDescriptor (T k).2.2.1 = some ft
theorem g_puti (C : mm_C p m c cc nL s args own) (w : mm_Wd G A σ s H locs) {i ci k N index : Nat} {C0 : String} {T : u_T} {v : Int} (hi : mm_ok i (10 + ci) 0) (F : mm_F ci k 0 C0 T N) (V : mm_Fw ci k T N .int) (hlink : Cond.fieldLink own index (T k).1 (T k).2.1 (T k).2.2.1 ∈ mm_ws) (hdg : decode cc pc = .ok (.putfield index, 3))
    (kk : ∀ (u : mm_M) (H1 : Heap) (locs1 : List Loc), u = mm_up σ i k v → mm_Wd G A u s H1 locs1 → W p l e R s m args below meth c H1 locs1 cells slots Q (F0 m (pc + 3) ls rest)) : W p l e R s m args below meth c H locs cells slots Q (F0 m pc ls (.int (mm_I v) :: .ref (mm_ad G i) :: rest)) := by
  obtain ⟨hj, hA, hP, hE, hS⟩ := w
  obtain ⟨hc, hk, hin, ht, hN⟩ := F
  obtain ⟨⟨ty0, hty⟩, hnm, hfin, hd⟩ := V
  refine va_put C.1 C.2.1 C.2.2.2.2 hin ty0 hty hnm C.2.2.2.1 hE.1 hP (mm_D hj hA) hS i ((mm_W_at hi.1).trans (by rw [mm_cO hi])) hc k hk (C.2.2.2.2 _ hlink) (fun _ h => h) hfin hd rfl rfl (by simp; omega) hdg (fun H1 locs1 hP1 hD1 hS1 => ?_)
  rw [mm_set (v := v) hi (by rw [if_pos ht]) (by omega)] at hP1
  exact kk _ H1 locs1 rfl ⟨hj, hA, hP1, hE, hS1⟩
theorem g_putl (C : mm_C p m c cc nL s args own) (w : mm_Wd G A σ s H locs) {i ci k N index : Nat} {C0 : String} {T : u_T} {v : Int} (hi : mm_ok i (10 + ci) 0) (F : mm_F ci k 2 C0 T N) (V : mm_Fw ci k T N .long) (hlink : Cond.fieldLink own index (T k).1 (T k).2.1 (T k).2.2.1 ∈ mm_ws) (hdg : decode cc pc = .ok (.putfield index, 3))
    (kk : ∀ (u : mm_M) (H1 : Heap) (locs1 : List Loc), u = mm_up σ i k v → mm_Wd G A u s H1 locs1 → W p l e R s m args below meth c H1 locs1 cells slots Q (F0 m (pc + 3) ls rest)) : W p l e R s m args below meth c H locs cells slots Q (F0 m pc ls (.long (mm_L v) :: .ref (mm_ad G i) :: rest)) := by
  obtain ⟨hj, hA, hP, hE, hS⟩ := w
  obtain ⟨hc, hk, hin, ht, hN⟩ := F
  obtain ⟨⟨ty0, hty⟩, hnm, hfin, hd⟩ := V
  refine va_put C.1 C.2.1 C.2.2.2.2 hin ty0 hty hnm C.2.2.2.1 hE.1 hP (mm_D hj hA) hS i ((mm_W_at hi.1).trans (by rw [mm_cO hi])) hc k hk (C.2.2.2.2 _ hlink) (fun _ h => h) hfin hd rfl rfl (by simp; omega) hdg (fun H1 locs1 hP1 hD1 hS1 => ?_)
  rw [mm_set (v := v) hi (by rw [if_neg (by omega)]) (by omega)] at hP1
  exact kk _ H1 locs1 rfl ⟨hj, hA, hP1, hE, hS1⟩
theorem g_putiN (C : mm_C p m c cc nL s args own) (w : mm_Wd G A σ s H locs) {i ci k N index : Nat} {C0 host : String} {T : u_T} {v : Int} (hi : mm_ok i (10 + ci) 0) (F : mm_F ci k 0 C0 T N) (V : mm_Fw ci k T N .int) (hlink : Cond.fieldLinkNest own index (T k).1 (T k).2.1 (T k).2.2.1 host ∈ mm_nest) (hdg : decode cc pc = .ok (.putfield index, 3))
    (kk : ∀ (u : mm_M) (H1 : Heap) (locs1 : List Loc), u = mm_up σ i k v → mm_Wd G A u s H1 locs1 → W p l e R s m args below meth c H1 locs1 cells slots Q (F0 m (pc + 3) ls rest)) : W p l e R s m args below meth c H locs cells slots Q (F0 m pc ls (.int (mm_I v) :: .ref (mm_ad G i) :: rest)) := by
  obtain ⟨hj, hA, hP, hE, hS⟩ := w
  obtain ⟨hc, hk, hin, ht, hN⟩ := F
  obtain ⟨⟨ty0, hty⟩, hnm, hfin, hd⟩ := V
  refine va_putN C.1 C.2.1 C.2.2.2.2 hin ty0 hty hnm C.2.2.2.1 hE.1 hP (mm_D hj hA) hS i ((mm_W_at hi.1).trans (by rw [mm_cO hi])) hc k hk (va_Nw.use rfl (hE.2.1 _ hlink)) (fun _ h => h) hfin hd rfl rfl (by simp; omega) hdg (fun H1 locs1 hP1 hD1 hS1 => ?_)
  rw [mm_set (v := v) hi (by rw [if_pos ht]) (by omega)] at hP1
  exact kk _ H1 locs1 rfl ⟨hj, hA, hP1, hE, hS1⟩
-- arrays
theorem mm_cI {σ : mm_M} {i k n : Nat} (h : mm_ok i k n) (hk : k < 3) : mm_cR G (σ i) i = .inl (G.2.1 k, n, .inl (fun j => mm_I (σ i j))) := by
  unfold mm_cR
  rw [h.2.1, h.2.2, if_pos hk]
theorem mm_cJ {σ : mm_M} {i n : Nat} (h : mm_ok i 3 n) : mm_cR G (σ i) i = .inl (G.2.1 3, n, .inr (.inl (fun j => mm_L (σ i j)))) := by
  unfold mm_cR
  rw [h.2.1, h.2.2, if_neg (by omega), if_pos rfl]
theorem mm_cQ {σ : mm_M} {i k n : Nat} (h : mm_ok i k n) (hk : 3 < k) (hk2 : k < 10) : mm_cR G (σ i) i = .inl (G.2.1 k, n, .inr (.inr (.inr (.inr (fun j => some (mm_ad G (mm_rt i j))))))) := by
  unfold mm_cR
  rw [h.2.1, h.2.2, if_neg (by omega), if_neg (by omega), if_pos hk2]
theorem mm_ok.lt {i k n : Nat} (h : mm_ok i k n) : n < 2147483648 := by rw [← h.2.2]; exact mm_ln_lt i
theorem g_iald (C : mm_C p m c cc nL s args own) (w : mm_Wd G A σ s H locs) {i n : Nat} {x : Int} (hi : mm_ok i 0 n) (hx : 0 ≤ x ∧ x < n) (hdg : decode cc pc = .ok (.iaload, 1))
    (kk : W p l e R s m args below meth c H locs cells slots Q (F0 m (pc + 1) ls (.int (mm_I (σ i x)) :: rest))) : W p l e R s m args below meth c H locs cells slots Q (F0 m pc ls (.int (mm_I x) :: .ref (mm_ad G i) :: rest)) := by
  obtain ⟨-, -, hP, hE, hS⟩ := w
  obtain ⟨h1, h2⟩ := mm_in hi.lt hx
  refine va_iald C.1 C.2.1 hE.1 hP i 0 ((mm_W_at hi.1).trans (by rw [mm_cI hi (by omega)])) rfl h1 hdg ?_
  rw [h2, show ((x.toNat : Nat) : Int) = x from by omega]
  exact kk
theorem g_bald (C : mm_C p m c cc nL s args own) (w : mm_Wd G A σ s H locs) {i n : Nat} {x : Int} (hi : mm_ok i 1 n) (hx : 0 ≤ x ∧ x < n) (hdg : decode cc pc = .ok (.baload, 1))
    (kk : W p l e R s m args below meth c H locs cells slots Q (F0 m (pc + 1) ls (.int (mm_I (σ i x)) :: rest))) : W p l e R s m args below meth c H locs cells slots Q (F0 m pc ls (.int (mm_I x) :: .ref (mm_ad G i) :: rest)) := by
  obtain ⟨-, -, hP, hE, hS⟩ := w
  obtain ⟨h1, h2⟩ := mm_in hi.lt hx
  refine va_bald C.1 C.2.1 hE.1 hP i 1 ((mm_W_at hi.1).trans (by rw [mm_cI hi (by omega)])) rfl h1 hdg ?_
  rw [h2, show ((x.toNat : Nat) : Int) = x from by omega]
  exact kk
theorem g_zald (C : mm_C p m c cc nL s args own) (w : mm_Wd G A σ s H locs) {i n : Nat} {x : Int} (hi : mm_ok i 2 n) (hx : 0 ≤ x ∧ x < n) (hdg : decode cc pc = .ok (.baload, 1))
    (kk : W p l e R s m args below meth c H locs cells slots Q (F0 m (pc + 1) ls (.int (mm_I (σ i x)) :: rest))) : W p l e R s m args below meth c H locs cells slots Q (F0 m pc ls (.int (mm_I x) :: .ref (mm_ad G i) :: rest)) := by
  obtain ⟨-, -, hP, hE, hS⟩ := w
  obtain ⟨h1, h2⟩ := mm_in hi.lt hx
  refine va_zald C.1 C.2.1 hE.1 hP i 2 ((mm_W_at hi.1).trans (by rw [mm_cI hi (by omega)])) rfl h1 hdg ?_
  rw [h2, show ((x.toNat : Nat) : Int) = x from by omega]
  exact kk
theorem g_lald (C : mm_C p m c cc nL s args own) (w : mm_Wd G A σ s H locs) {i n : Nat} {x : Int} (hi : mm_ok i 3 n) (hx : 0 ≤ x ∧ x < n) (hdg : decode cc pc = .ok (.laload, 1))
    (kk : W p l e R s m args below meth c H locs cells slots Q (F0 m (pc + 1) ls (.long (mm_L (σ i x)) :: rest))) : W p l e R s m args below meth c H locs cells slots Q (F0 m pc ls (.int (mm_I x) :: .ref (mm_ad G i) :: rest)) := by
  obtain ⟨-, -, hP, hE, hS⟩ := w
  obtain ⟨h1, h2⟩ := mm_in hi.lt hx
  refine va_lald C.1 C.2.1 hE.1 hP i 3 ((mm_W_at hi.1).trans (by rw [mm_cJ hi])) rfl h1 hdg ?_
  rw [h2, show ((x.toNat : Nat) : Int) = x from by omega]
  exact kk
theorem g_aald (C : mm_C p m c cc nL s args own) (w : mm_Wd G A σ s H locs) {i n k : Nat} {x : Int} {C0 : String} (hi : mm_ok i k n) (hk : 3 < k ∧ k < 10) (ht : (mm_tys G)[k]? = some (G.2.1 k, .object C0)) (hx : 0 ≤ x ∧ x < n) (hdg : decode cc pc = .ok (.aaload, 1))
    (kk : W p l e R s m args below meth c H locs cells slots Q (F0 m (pc + 1) ls (.ref (mm_ad G (mm_rt i x.toNat)) :: rest))) : W p l e R s m args below meth c H locs cells slots Q (F0 m pc ls (.int (mm_I x) :: .ref (mm_ad G i) :: rest)) := by
  obtain ⟨-, -, hP, hE, hS⟩ := w
  obtain ⟨h1, h2⟩ := mm_in hi.lt hx
  refine va_aldq C.1 C.2.1 hE.1 hP i k ((mm_W_at hi.1).trans (by rw [mm_cQ hi hk.1 hk.2])) ht h1 hdg ?_
  rw [h2]
  exact kk
theorem g_alen (C : mm_C p m c cc nL s args own) (w : mm_Wd G A σ s H locs) {i n : Nat} (hi : mm_ok i 0 n) (hdg : decode cc pc = .ok (.arraylength, 1))
    (kk : W p l e R s m args below meth c H locs cells slots Q (F0 m (pc + 1) ls (.int (mm_I n) :: rest))) : W p l e R s m args below meth c H locs cells slots Q (F0 m pc ls (.ref (mm_ad G i) :: rest)) := by
  obtain ⟨-, -, hP, hE, hS⟩ := w
  exact va_alen C.1 C.2.1 hE.1 hP i 0 ((mm_W_at hi.1).trans (by rw [mm_cI hi (by omega)])) rfl (Int32.toInt_inj.mp (by have h := hi.lt; rw [show mm_I (n : Int) = Int32.ofInt n from rfl]; rfl)) hdg kk
theorem mm_upI {σ : mm_M} {i k n : Nat} {x v : Int} {f : Int32} (hi : mm_ok i k n) (hk : k < 3) (hx : 0 ≤ x) (hf : f = mm_I v) : (mm_W G σ).set i (mm_ad G i, .inl (G.2.1 k, n, .inl (upd (fun j : Nat => mm_I (σ i j)) x.toNat f))) = mm_W G (mm_up σ i x v) := by
  refine mm_W_set ?_ (fun k hk => mm_up_o hk)
  rw [mm_cI hi hk]
  congr 3
  congr 1
  funext j
  unfold mm_up
  by_cases h : j = x.toNat
  · subst h
    rw [pk_us, hf, if_pos ⟨rfl, by omega⟩]
  · rw [pk_un h, if_neg (fun q => h (by omega))]
theorem g_iast (C : mm_C p m c cc nL s args own) (w : mm_Wd G A σ s H locs) {i n : Nat} {x v : Int} (hi : mm_ok i 0 n) (hx : 0 ≤ x ∧ x < n) (hdg : decode cc pc = .ok (.iastore, 1))
    (kk : ∀ (u : mm_M) (H1 : Heap) (locs1 : List Loc), u = mm_up σ i x v → mm_Wd G A u s H1 locs1 → W p l e R s m args below meth c H1 locs1 cells slots Q (F0 m (pc + 1) ls rest)) : W p l e R s m args below meth c H locs cells slots Q (F0 m pc ls (.int (mm_I v) :: .int (mm_I x) :: .ref (mm_ad G i) :: rest)) := by
  obtain ⟨hj, hA, hP, hE, hS⟩ := w
  obtain ⟨h1, h2⟩ := mm_in hi.lt hx
  refine va_iast C.1 C.2.1 hE.1 hP (mm_D hj hA) hS i 0 ((mm_W_at hi.1).trans (by rw [mm_cI hi (by omega)])) rfl h1 hdg (fun H1 locs1 hP1 hD1 hS1 => ?_)
  rw [h2, mm_upI hi (by omega) hx.1 rfl] at hP1
  exact kk _ H1 locs1 rfl ⟨hj, hA, hP1, hE, hS1⟩
theorem g_bast (C : mm_C p m c cc nL s args own) (w : mm_Wd G A σ s H locs) {i n : Nat} {x v : Int} (hi : mm_ok i 1 n) (hx : 0 ≤ x ∧ x < n) (hdg : decode cc pc = .ok (.bastore, 1))
    (kk : ∀ (u : mm_M) (H1 : Heap) (locs1 : List Loc), u = mm_up σ i x (mm_b8 v) → mm_Wd G A u s H1 locs1 → W p l e R s m args below meth c H1 locs1 cells slots Q (F0 m (pc + 1) ls rest)) : W p l e R s m args below meth c H locs cells slots Q (F0 m pc ls (.int (mm_I v) :: .int (mm_I x) :: .ref (mm_ad G i) :: rest)) := by
  obtain ⟨hj, hA, hP, hE, hS⟩ := w
  obtain ⟨h1, h2⟩ := mm_in hi.lt hx
  refine va_bast C.1 C.2.1 hE.1 hP (mm_D hj hA) hS i 1 ((mm_W_at hi.1).trans (by rw [mm_cI hi (by omega)])) rfl h1 hdg (fun H1 locs1 hP1 hD1 hS1 => ?_)
  rw [h2, mm_upI (v := mm_b8 v) hi (by omega) hx.1 (by rw [vp_nar_byte]; unfold mm_b8; rw [mm_I_toInt])] at hP1
  exact kk _ H1 locs1 rfl ⟨hj, hA, hP1, hE, hS1⟩
theorem g_zast (C : mm_C p m c cc nL s args own) (w : mm_Wd G A σ s H locs) {i n : Nat} {x v : Int} (hi : mm_ok i 2 n) (hx : 0 ≤ x ∧ x < n) (hv : v = 0 ∨ v = 1) (hdg : decode cc pc = .ok (.bastore, 1))
    (kk : ∀ (u : mm_M) (H1 : Heap) (locs1 : List Loc), u = mm_up σ i x v → mm_Wd G A u s H1 locs1 → W p l e R s m args below meth c H1 locs1 cells slots Q (F0 m (pc + 1) ls rest)) : W p l e R s m args below meth c H locs cells slots Q (F0 m pc ls (.int (mm_I v) :: .int (mm_I x) :: .ref (mm_ad G i) :: rest)) := by
  obtain ⟨hj, hA, hP, hE, hS⟩ := w
  obtain ⟨h1, h2⟩ := mm_in hi.lt hx
  refine va_zast C.1 C.2.1 hE.1 hP (mm_D hj hA) hS i 2 ((mm_W_at hi.1).trans (by rw [mm_cI hi (by omega)])) rfl h1 hdg (fun H1 locs1 hP1 hD1 hS1 => ?_)
  rw [h2, mm_upI (v := v) hi (by omega) hx.1 (by rcases hv with h | h <;> subst h <;> rfl)] at hP1
  exact kk _ H1 locs1 rfl ⟨hj, hA, hP1, hE, hS1⟩
theorem mm_upL {σ : mm_M} {i n : Nat} {x v : Int} (hi : mm_ok i 3 n) (hx : 0 ≤ x) : (mm_W G σ).set i (mm_ad G i, .inl (G.2.1 3, n, .inr (.inl (vp_updL (fun j : Nat => mm_L (σ i j)) x.toNat (mm_L v))))) = mm_W G (mm_up σ i x v) := by
  refine mm_W_set ?_ (fun k hk => mm_up_o hk)
  rw [mm_cJ hi]
  congr 4
  congr 1
  funext j
  unfold mm_up
  by_cases h : j = x.toNat
  · subst h
    rw [pk_uLs, if_pos ⟨rfl, by omega⟩]
  · rw [pk_uLn h, if_neg (fun q => h (by omega))]
theorem g_last (C : mm_C p m c cc nL s args own) (w : mm_Wd G A σ s H locs) {i n : Nat} {x v : Int} (hi : mm_ok i 3 n) (hx : 0 ≤ x ∧ x < n) (hdg : decode cc pc = .ok (.lastore, 1))
    (kk : ∀ (u : mm_M) (H1 : Heap) (locs1 : List Loc), u = mm_up σ i x v → mm_Wd G A u s H1 locs1 → W p l e R s m args below meth c H1 locs1 cells slots Q (F0 m (pc + 1) ls rest)) : W p l e R s m args below meth c H locs cells slots Q (F0 m pc ls (.long (mm_L v) :: .int (mm_I x) :: .ref (mm_ad G i) :: rest)) := by
  obtain ⟨hj, hA, hP, hE, hS⟩ := w
  obtain ⟨h1, h2⟩ := mm_in hi.lt hx
  refine va_last C.1 C.2.1 hE.1 hP (mm_D hj hA) hS i 3 ((mm_W_at hi.1).trans (by rw [mm_cJ hi])) rfl h1 hdg (fun H1 locs1 hP1 hD1 hS1 => ?_)
  rw [h2, mm_upL hi hx.1] at hP1
  exact kk _ H1 locs1 rfl ⟨hj, hA, hP1, hE, hS1⟩
end
