/-! the reference's minute -/
theorem k_W.tr {s t u : mm_M} (h : k_W s t) (g : k_W t u) : k_W s u := by
  obtain ⟨w1, w2, w3, w4, w5, w6, w7, w8, w9, w10⟩ := h
  obtain ⟨v1, v2, v3, v4, v5, v6, v7, v8, v9, v10⟩ := g
  exact ⟨v1.trans w1, v2.trans w2, v3.trans w3, v4.trans w4, v5.trans w5, v6.trans w6, v7.trans w7, v8.trans w8, v9.trans w9, v10.trans w10⟩
theorem k_L.tr {s t u : mm_M} (h : k_L s t) (g : k_L t u) : k_L s u := by
  obtain ⟨w1, w2, w3, w4, w5, w6, w7, w8⟩ := h
  obtain ⟨v1, v2, v3, v4, v5, v6, v7, v8⟩ := g
  exact ⟨v1.trans w1, v2.trans w2, v3.trans w3, v4.trans w4, v5.trans w5, v6.trans w6, v7.trans w7, v8.trans w8⟩
/-- town and laws are those of s -/
def kd (s t : mm_M) : Prop := k_W s t ∧ k_L s t
theorem kd.tr {s t u : mm_M} (h : kd s t) (g : agR t u) : kd s u := ⟨h.1.tr g.kW, h.2.tr g.kL⟩
theorem kd.f {s t : mm_M} (h : kd s t) : t 211 16 = s 211 16 ∧ t 211 17 = s 211 17 ∧ t 211 18 = s 211 18 ∧ t 211 12 = s 9 4 ∨ True := Or.inr trivial
theorem u_sh {C S : Int} {s t : mm_M} {i w : Int} {post : Int → mm_M → Prop} (hW : tw C S s) (k : kd s t) (hi : 0 ≤ i ∧ i < S) (hw : 0 ≤ w ∧ w < 6) (hp : post (s 11 (6 * i + w)) t) : wp_X11_sortHas 211 i w t post := by
  have s0 := hW.s0
  refine ⟨⟨by omega, by omega⟩, ?_⟩
  rw [show mm_rt 211 15 = 218 from rfl, k.1.2.2.2.2.1, (hW.w.so hi.1 (by rw [hW.ss]; exact hi.2)).2 w hw.1 hw.2]
  exact hp
theorem u_com {C S : Int} {s t : mm_M} {T : Sh} {i : Int} (hW : tw C S s) (k : kd s t) (e : vo t = T) (w : wf C S T) (hi : 0 ≤ i ∧ i < S) {post : mm_M → Prop} (hp : ∀ u, vo u = comT s i T → agR t u → post u) : wp_X11_somebodyComes 211 i t post := by
  have c0 := hW.c0
  have s0 := hW.s0
  have so := hW.w.so hi.1 (by rw [hW.ss]; exact hi.2)
  have k17 : t 211 17 = s 211 17 := k.1.2.2.2.2.2.2.2.2.1
  intro L32 L94 h32 h94
  refine u_draw e w (by omega) (fun t1 v1 a1 => ?_)
  have k1 := k.tr a1
  refine u_sh hW k1 hi (by omega) ?_
  have dr := drv_r (x := nxl T.lot) (n := 16) (by omega)
  rw [show 6 * i + 0 = 6 * i by omega, n32_id (x := drv (nxl T.lot) 16) (by omega) (by omega), n32_id (x := s 11 (6 * i)) (by omega) (by omega)]
  refine ⟨fun q => ?_, fun q => hp t1 (by unfold comT; rw [if_neg q]; exact v1) a1⟩
  refine u_free v1 w.drw ?_
  intro v2 e2
  have fo := freN_ok (drwT T)
  by_cases qf : freN (drwT T) < 30
  · rw [if_pos qf] at e2
    rw [e2, n32_id (x := freN (drwT T)) (by omega) (by omega)]
    refine ⟨fun _ => ?_, fun z => by omega⟩
    have e12 : t1 211 12 = C := by rw [k1.1.2.2.2.2.2.1, hW.w.2.2.2.2.1]; exact hW.cc
    have e7 : ∀ j, t1 227 j = T.ma j := fun j => by
      have : (vo t1).ma j = T.ma j := by rw [v1]; rfl
      exact this
    have key : ∀ d x : Nat, (x : Int) + d = C → 0 < x → L32 (freN (drwT T)) (emp T.ma x) x t1 := by
      intro d
      induction d with
      | zero =>
        intro x hx x0
        have er := emp_r T.ma x x0
        have me := w.ma0 (emp T.ma x) er.1 (by omega)
        apply h32
        rw [e12, n32_id (x := C) (by omega) (by omega), n32_id (x := (x : Int)) (by omega) (by omega)]
        refine ⟨fun _ => ?_, fun z => by omega⟩
        refine u_sh hW k1 hi (by omega) ?_
        have ex : emp T.ma x = emp T.ma (s 9 4).toNat := by rw [hW.cc, show C.toNat = x by omega]
        have fin : ∀ q0 : Int, (q0 = if s 11 (6 * i + 5) < 2 ∨ T.ma (emp T.ma (s 9 4).toNat) = 0 then 1 else 0) → L94 q0 (emp T.ma x) i (freN (drwT T)) t1 := by
          intro q0 hq
          have nq : n32 q0 = q0 := by rw [hq]; split <;> rfl
          apply h94
          refine u_arr c0.2 s0.2 v1 w.drw ⟨fo.1, qf⟩ (fo.2.2 qf) hi ⟨er.1, by omega⟩ nq (fun t2 v2 a2 => hp t2 ?_ (a1.tr a2))
          unfold comT
          rw [if_pos q, if_pos qf, ← hq, ← ex]
          rw [a1 211 17 rfl, k17] at v2
          exact v2
        rw [n32_id (x := s 11 (6 * i + 5)) (by omega) (by omega), show mm_rt 211 31 = 227 from rfl, e7, n32_id (x := T.ma (emp T.ma x)) (by omega) (by omega), ex]
        rw [ex] at fin
        refine ⟨fun z => fin 1 (by rw [if_pos (Or.inl z)]), fun z => ⟨by rw [← ex]; exact ⟨er.1, by omega⟩, fun y => fin 0 (by rw [if_neg (fun h => by rcases h with h | h; exact z h; exact y h)]), fun y => fin 1 (by rw [if_pos (Or.inr y)])⟩⟩
      | succ d ih =>
        intro x hx x0
        have er := emp_r T.ma x x0
        have me := w.ma0 (emp T.ma x) er.1 (by omega)
        have mx := w.ma0 x (by omega) (by omega)
        have nx := ih (x + 1) (by omega) (by omega)
        rw [emp, if_neg (by omega), show ((x + 1 : Nat) : Int) = (x : Int) + 1 by omega] at nx
        apply h32
        rw [e12, n32_id (x := C) (by omega) (by omega), n32_id (x := (x : Int)) (by omega) (by omega), show mm_rt 211 31 = 227 from rfl, e7, e7, n32_id (x := T.ma (emp T.ma x)) (by omega) (by omega), n32_id (x := T.ma x) (by omega) (by omega)]
        refine ⟨fun z => by omega, fun _ => ⟨⟨by omega, by omega⟩, ⟨er.1, by omega⟩, fun z v ev => ?_, fun z v ev v' ev' => ?_⟩⟩
        · rw [if_neg (by omega)] at nx
          rw [ev]; exact nx
        · rw [if_pos (by omega)] at nx
          rw [ev, ev']; exact nx
    exact key (C.toNat - 1) 1 (by omega) (by omega)
  · rw [if_neg qf] at e2
    rw [e2, m_m1]
    refine ⟨fun z => absurd rfl z, fun _ => hp t1 ?_ a1⟩
    unfold comT
    rw [if_pos q, if_neg qf]
    exact v1
theorem f39.vo {s u : mm_M} (h : f39 s u) : vo u = vo s := by
  unfold Jvm.Pilot.CLastServedLaw_law_r5834_17db7c.vo
  rw [h 211 (by decide) (by decide), h 225 (by decide) (by decide), h 226 (by decide) (by decide), h 227 (by decide) (by decide), h 228 (by decide) (by decide), h 229 (by decide) (by decide), h 230 (by decide) (by decide), h 231 (by decide) (by decide)]
