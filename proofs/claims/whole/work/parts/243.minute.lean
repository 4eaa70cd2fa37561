/-! the reference's minute -/
theorem k_W.tr {s t u : mm_M} (h : k_W s t) (g : k_W t u) : k_W s u := by
  obtain ⟨w1, w2, w3, w4, w5, w6, w7, w8, w9, w10⟩ := h
  obtain ⟨v1, v2, v3, v4, v5, v6, v7, v8, v9, v10⟩ := g
  exact ⟨v1.trans w1, v2.trans w2, v3.trans w3, v4.trans w4, v5.trans w5, v6.trans w6, v7.trans w7, v8.trans w8, v9.trans w9, v10.trans w10⟩
theorem k_L.tr {s t u : mm_M} (h : k_L s t) (g : k_L t u) : k_L s u := by
  obtain ⟨w1, w2, w3, w4, w5, w6, w7, w8⟩ := h
  obtain ⟨v1, v2, v3, v4, v5, v6, v7, v8⟩ := g
  exact ⟨v1.trans w1, v2.trans w2, v3.trans w3, v4.trans w4, v5.trans w5, v6.trans w6, v7.trans w7, v8.trans w8⟩
/-- town and laws are those of s -/
def kd (s t : mm_M) : Prop := k_W s t ∧ k_L s t
theorem kd.tr {s t u : mm_M} (h : kd s t) (g : agR t u) : kd s u := ⟨h.1.tr g.kW, h.2.tr g.kL⟩
theorem kd.f {s t : mm_M} (h : kd s t) : t 211 16 = s 211 16 ∧ t 211 17 = s 211 17 ∧ t 211 18 = s 211 18 ∧ t 211 12 = s 9 4 ∨ True := Or.inr trivial
theorem u_sh {C S : Int} {s t : mm_M} {i w : Int} {post : Int → mm_M → Prop} (hW : tw C S s) (k : kd s t) (hi : 0 ≤ i ∧ i < S) (hw : 0 ≤ w ∧ w < 6) (hp : post (s 11 (6 * i + w)) t) : wp_X11_sortHas 211 i w t post := by
  have s0 := hW.s0
  refine ⟨⟨by omega, by omega⟩, ?_⟩
  rw [show mm_rt 211 15 = 218 from rfl, k.1.2.2.2.2.1, (hW.w.so hi.1 (by rw [hW.ss]; exact hi.2)).2 w hw.1 hw.2]
  exact hp
theorem u_com {C S : Int} {s t : mm_M} {T : Sh} {i : Int} (hW : tw C S s) (k : kd s t) (e : vo t = T) (w : wf C S T) (hi : 0 ≤ i ∧ i < S) {post : mm_M → Prop} (hp : ∀ u, vo u = comT s i T → agR t u → post u) : wp_X11_somebodyComes 211 i t post := by
  have c0 := hW.c0
  have s0 := hW.s0
  have so := hW.w.so hi.1 (by rw [hW.ss]; exact hi.2)
  have k17 : t 211 17 = s 211 17 := k.1.2.2.2.2.2.2.2.2.1
  intro L32 L94 h32 h94
  refine u_draw e w (by omega) (fun t1 v1 a1 => ?_)
  have k1 := k.tr a1
  refine u_sh hW k1 hi (by omega) ?_
  have dr := drv_r (x := nxl T.lot) (n := 16) (by omega)
  rw [show 6 * i + 0 = 6 * i by omega, n32_id (x := drv (nxl T.lot) 16) (by omega) (by omega), n32_id (x := s 11 (6 * i)) (by omega) (by omega)]
  refine ⟨fun q => ?_, fun q => hp t1 (by unfold comT; rw [if_neg q]; exact v1) a1⟩
  refine u_free v1 w.drw ?_
  intro v2 e2
  have fo := freN_ok (drwT T)
  by_cases qf : freN (drwT T) < 30
  · rw [if_pos qf] at e2
    rw [e2, n32_id (x := freN (drwT T)) (by omega) (by omega)]
    refine ⟨fun _ => ?_, fun z => by omega⟩
    have e12 : t1 211 12 = C := by rw [k1.1.2.2.2.2.2.1, hW.w.2.2.2.2.1]; exact hW.cc
    have e7 : ∀ j, t1 227 j = T.ma j := fun j => by
      have : (vo t1).ma j = T.ma j := by rw [v1]; rfl
      exact this
    have key : ∀ d x : Nat, (x : Int) + d = C → 0 < x → L32 (freN (drwT T)) (emp T.ma x) x t1 := by
      intro d
      induction d with
      | zero =>
        intro x hx x0
        have er := emp_r T.ma x x0
        have me := w.ma0 (emp T.ma x) er.1 (by omega)
        apply h32
        rw [e12, n32_id (x := C) (by omega) (by omega), n32_id (x := (x : Int)) (by omega) (by omega)]
        refine ⟨fun _ => ?_, fun z => by omega⟩
        refine u_sh hW k1 hi (by omega) ?_
        have ex : emp T.ma x = emp T.ma (s 9 4).toNat := by rw [hW.cc, show C.toNat = x by omega]
        have fin : ∀ q0 : Int, (q0 = if s 11 (6 * i + 5) < 2 ∨ T.ma (emp T.ma (s 9 4).toNat) = 0 then 1 else 0) → L94 q0 (emp T.ma x) i (freN (drwT T)) t1 := by
          intro q0 hq
          have nq : n32 q0 = q0 := by rw [hq]; split <;> rfl
          apply h94
          refine u_arr c0.2 s0.2 v1 w.drw ⟨fo.1, qf⟩ (fo.2.2 qf) hi ⟨er.1, by omega⟩ nq (fun t2 v2 a2 => hp t2 ?_ (a1.tr a2))
          unfold comT
          rw [if_pos q, if_pos qf, ← hq, ← ex]
          rw [a1 211 17 rfl, k17] at v2
          exact v2
        rw [n32_id (x := s 11 (6 * i + 5)) (by omega) (by omega), show mm_rt 211 31 = 227 from rfl, e7, n32_id (x := T.ma (emp T.ma x)) (by omega) (by omega), ex]
        rw [ex] at fin
        refine ⟨fun z => fin 1 (by rw [if_pos (Or.inl z)]), fun z => ⟨by rw [← ex]; exact ⟨er.1, by omega⟩, fun y => fin 0 (by rw [if_neg (fun h => by rcases h with h | h; exact z h; exact y h)]), fun y => fin 1 (by rw [if_pos (Or.inr y)])⟩⟩
      | succ d ih =>
        intro x hx x0
        have er := emp_r T.ma x x0
        have me := w.ma0 (emp T.ma x) er.1 (by omega)
        have mx := w.ma0 x (by omega) (by omega)
        have nx := ih (x + 1) (by omega) (by omega)
        rw [emp, if_neg (by omega), show ((x + 1 : Nat) : Int) = (x : Int) + 1 by omega] at nx
        apply h32
        rw [e12, n32_id (x := C) (by omega) (by omega), n32_id (x := (x : Int)) (by omega) (by omega), show mm_rt 211 31 = 227 from rfl, e7, e7, n32_id (x := T.ma (emp T.ma x)) (by omega) (by omega), n32_id (x := T.ma x) (by omega) (by omega)]
        refine ⟨fun z => by omega, fun _ => ⟨⟨by omega, by omega⟩, ⟨er.1, by omega⟩, fun z v ev => ?_, fun z v ev v' ev' => ?_⟩⟩
        · rw [if_neg (by omega)] at nx
          rw [ev]; exact nx
        · rw [if_pos (by omega)] at nx
          rw [ev, ev']; exact nx
    exact key (C.toNat - 1) 1 (by omega) (by omega)
  · rw [if_neg qf] at e2
    rw [e2, m_m1]
    refine ⟨fun z => absurd rfl z, fun _ => hp t1 ?_ a1⟩
    unfold comT
    rw [if_pos q, if_neg qf]
    exact v1
theorem f39.vo {s u : mm_M} (h : f39 s u) : vo u = vo s := by
  unfold Jvm.Pilot.CLastServedLaw_law_r5834_17db7c.vo
  rw [h 211 (by decide) (by decide), h 225 (by decide) (by decide), h 226 (by decide) (by decide), h 227 (by decide) (by decide), h 228 (by decide) (by decide), h 229 (by decide) (by decide), h 230 (by decide) (by decide), h 231 (by decide) (by decide)]
theorem u_serve {C S : Int} {s t : mm_M} {T : Sh} {c : Int} (hW : tw C S s) (hL : r_L s) (k : kd s t) (e : vo t = T) (w : wf C S T) (hc : 0 ≤ c ∧ c < C) (yes : T.bu c ≤ T.mn ∧ 0 < T.st c ∧ 0 < T.ma c) {post : mm_M → Prop} (hp : ∀ u, vo u = srvT s c T → agR t u → post u) : wp_X11_serves 211 c t post := by
  have c0 := hW.c0
  have s0 := hW.s0
  have m := w.ma0 c hc.1 hc.2
  have ct := hW.w.ct hc.1 (by rw [hW.cc]; exact hc.2)
  intro L35 L86 L125 h35 h86 h125
  have ser : ∀ (U : Sh) (x : Int) (u : mm_M), vo u = U → wf C S U → agR t u → U.ma c = T.ma c → 0 ≤ x → x < T.ma c → srvT s c T = serT s c x U → L35 (T.ma c) x u := by
    intro U x u vu wu aa em x1 x2 eT
    have ro := wu.ro c x hc.1 hc.2 x1 (by omega)
    have pf := wu.pf _ ro.1 ro.2.1 (by omega)
    have t5 := wu.t5 _ pf.1 pf.2.1
    have mu := wu.mn0
    have en0 := wu.en0
    have e8 : u 228 (30 * c + x) = U.rw (30 * c + x) := by rw [← vu]; rfl
    apply h35
    intro v4 e4
    rw [e4, show mm_rt 211 32 = 228 from rfl, e8]
    refine ⟨⟨by omega, by omega⟩, fun v5 e5 => ?_⟩
    rw [e5]
    refine u_of0 vu ⟨ro.1, ro.2.1⟩ ?_
    intro v6 e6
    refine u_of vu (by omega) ?_
    intro v7 e7
    have m28 : u 211 28 = U.mn := by rw [← vu]; rfl
    have e35 : u 211 35 = U.en := by rw [← vu]; rfl
    rw [m28] at e7
    -- the entry is written
    have wr : ∀ (u1 : mm_M) (n : Int) (f : Int → Int), vo u1 = (⟨U.mn, U.lot, U.st, U.bu, U.ma, U.rw, U.pe, U.t7, n, f⟩ : Sh) → agR t u1 → 0 ≤ n → n < 20 → bkT U U.mn c (U.rw (30 * c + x)) (U.ma c) x = (⟨U.mn, U.lot, U.st, U.bu, U.ma, U.rw, U.pe, U.t7, n + 1, fu (fu (fu (fu (fu f (5 * n) U.mn) (5 * n + 1) c) (5 * n + 2) (U.rw (30 * c + x))) (5 * n + 3) (U.ma c)) (5 * n + 4) x⟩ : Sh) → L125 (T.ma c) x (U.rw (30 * c + x)) v6 v7 u1 := by
      intro u1 n f v1 a1 n0 n1 eb
      apply h125
      intro v8 e8'
      have g35 : u1 211 35 = n := by
        have : (vo u1).en = n := by rw [v1]
        exact this
      have g28 : u1 211 28 = U.mn := by
        have : (vo u1).mn = U.mn := by rw [v1]
        exact this
      have g231 : u1 231 = f := by
        have : (vo u1).bk = f := by rw [v1]
        exact this
      rw [g35] at e8'
      rw [e8', g28, show mm_rt 211 36 = 231 from rfl]
      refine ⟨⟨by omega, by omega⟩, fun s17 e17 => ⟨⟨by omega, by omega⟩, fun s18 e18 => ⟨⟨by omega, by omega⟩, fun s19 e19 => ⟨⟨by omega, by omega⟩, fun s20 e20 => ⟨⟨by omega, by omega⟩, fun s21 e21 s22 e22 => ?_⟩⟩⟩⟩⟩
      have g21 : s21 211 35 = n := by rw [e21, up_c (by decide), e20, up_c (by decide), e19, up_c (by decide), e18, up_c (by decide), e17, up_c (by decide), g35]
      rw [g21] at e22
      have v22 : vo s22 = bkT U U.mn c (U.rw (30 * c + x)) (U.ma c) x := by
        rw [eb, e22, vo_en, e21, vo_231, e20, vo_231, e19, vo_231, e18, vo_231, e17, vo_231, v1]
        dsimp only [sd_mn, sd_lot, sd_st, sd_bu, sd_ma, sd_rw, sd_pe, sd_t7, sd_en, sd_bk]
        rw [up_f, up_f, up_f, up_f, g231, em]
      have a22 : agR t s22 := by
        rw [e22, e21, e20, e19, e18, e17]
        exact (((((a1.up (scR_ref (by decide) (by decide))).up (scR_ref (by decide) (by decide))).up (scR_ref (by decide) (by decide))).up (scR_ref (by decide) (by decide))).up (scR_ref (by decide) (by decide))).up rfl
      have w1 := wu.bk (a1 := U.mn) (a2 := c) (a3 := U.rw (30 * c + x)) (a4 := U.ma c) (a5 := x)
      refine u_lev c0.2 v22 w1 ⟨ro.1, ro.2.1⟩ ro.2.2.1 (fun t23 v23 a23 => ?_)
      refine u_sets v23 (by omega) (fun t25 v25 a25 => ?_)
      have a25 := (a22.tr a23).tr a25
      rw [show mm_rt 211 29 = 225 from rfl, show mm_rt 211 30 = 226 from rfl, show mm_rt 211 13 = 217 from rfl, show mm_rt 211 34 = 230 from rfl]
      have c3 : 0 ≤ c ∧ c < 3 := by omega
      refine ⟨c3, c3, fun t27 e27 => ⟨⟨by omega, by omega⟩, c3, fun t28 e28 => ?_⟩⟩
      have h25 : t25 225 = U.st := by
        have : (vo t25).st = U.st := by rw [v25]; rfl
        exact this
      have h27m : t27 211 28 = U.mn := by
        rw [e27, up_c (by decide)]
        have : (vo t25).mn = U.mn := by rw [v25]; rfl
        exact this
      have h217 : t27 217 (3 * c + 1) = s 10 (3 * c + 1) := by
        rw [e27, up_c (by decide), ← ct.2.2.2.2.2.2.2.1]
        have := (k.tr a25).1.2.2.2.1
        rw [this]
      have h226 : t27 226 = U.bu := by
        rw [e27, up_c (by decide)]
        have : (vo t25).bu = U.bu := by rw [v25]; rfl
        exact this
      rw [h27m, h217] at e28
      have v28 : vo t28 = (⟨(outT (bkT U U.mn c (U.rw (30 * c + x)) (U.ma c) x) (U.rw (30 * c + x)) (-1)).mn, (outT (bkT U U.mn c (U.rw (30 * c + x)) (U.ma c) x) (U.rw (30 * c + x)) (-1)).lot, fu U.st c (U.st c - 1), fu U.bu c (U.mn + s 10 (3 * c + 1)), (outT (bkT U U.mn c (U.rw (30 * c + x)) (U.ma c) x) (U.rw (30 * c + x)) (-1)).ma, (outT (bkT U U.mn c (U.rw (30 * c + x)) (U.ma c) x) (U.rw (30 * c + x)) (-1)).rw, (outT (bkT U U.mn c (U.rw (30 * c + x)) (U.ma c) x) (U.rw (30 * c + x)) (-1)).pe, (outT (bkT U U.mn c (U.rw (30 * c + x)) (U.ma c) x) (U.rw (30 * c + x)) (-1)).t7, (outT (bkT U U.mn c (U.rw (30 * c + x)) (U.ma c) x) (U.rw (30 * c + x)) (-1)).en, (outT (bkT U U.mn c (U.rw (30 * c + x)) (U.ma c) x) (U.rw (30 * c + x)) (-1)).bk⟩ : Sh) := by
        rw [e28, vo_226, h226, e27, vo_225, v25, h25]
        rfl
      have a28 : agR t t28 := by
        rw [e28, e27]
        exact (a25.up (scR_ref (by decide) (by decide))).up (scR_ref (by decide) (by decide))
      have hv6 : 0 ≤ v6 ∧ v6 < S := by rw [e6]; exact ⟨pf.1, pf.2.1⟩
      refine u_tells v28 (by omega) (fun t29 v29 a29 => ?_)
      refine u_tells v29 (by omega) (fun t31 v31 a31 => ?_)
      refine u_tells v31 (by omega) (fun t33 v33 a33 => ?_)
      refine ⟨⟨by omega, by omega⟩, ⟨by omega, by omega⟩, fun t35 e35' => ?_⟩
      have h33 : t33 230 = (tellsT (tellsT (tellsT (⟨(outT (bkT U U.mn c (U.rw (30 * c + x)) (U.ma c) x) (U.rw (30 * c + x)) (-1)).mn, (outT (bkT U U.mn c (U.rw (30 * c + x)) (U.ma c) x) (U.rw (30 * c + x)) (-1)).lot, fu U.st c (U.st c - 1), fu U.bu c (U.mn + s 10 (3 * c + 1)), (outT (bkT U U.mn c (U.rw (30 * c + x)) (U.ma c) x) (U.rw (30 * c + x)) (-1)).ma, (outT (bkT U U.mn c (U.rw (30 * c + x)) (U.ma c) x) (U.rw (30 * c + x)) (-1)).rw, (outT (bkT U U.mn c (U.rw (30 * c + x)) (U.ma c) x) (U.rw (30 * c + x)) (-1)).pe, (outT (bkT U U.mn c (U.rw (30 * c + x)) (U.ma c) x) (U.rw (30 * c + x)) (-1)).t7, (outT (bkT U U.mn c (U.rw (30 * c + x)) (U.ma c) x) (U.rw (30 * c + x)) (-1)).en, (outT (bkT U U.mn c (U.rw (30 * c + x)) (U.ma c) x) (U.rw (30 * c + x)) (-1)).bk⟩ : Sh) v6 1 1) v6 3 v7) v6 4 (v7 * v7)).t7 := congrArg Sh.t7 v33
      have a33 := ((a28.tr a29).tr a31).tr a33
      have a35 : agR t t35 := by rw [e35']; exact a33.up (scR_ref (by decide) (by decide))
      have v35 : vo t35 = (⟨(vo t33).mn, (vo t33).lot, (vo t33).st, (vo t33).bu, (vo t33).ma, (vo t33).rw, (vo t33).pe, fu (t33 230) (7 * v6 + 5) (mm_max (t33 230 (7 * v6 + 5)) v7), (vo t33).en, (vo t33).bk⟩ : Sh) := by rw [e35', vo_230]
      refine u_sh hW (k.tr a35) hv6 (by omega) ?_
      refine u_tells v35 (by omega) (fun t38 v38 a38 => hp t38 ?_ (a35.tr a38))
      rw [v38, eT, v33, h33]
      have x5 : (tellsT (tellsT (tellsT (⟨(outT (bkT U U.mn c (U.rw (30 * c + x)) (U.ma c) x) (U.rw (30 * c + x)) (-1)).mn, (outT (bkT U U.mn c (U.rw (30 * c + x)) (U.ma c) x) (U.rw (30 * c + x)) (-1)).lot, fu U.st c (U.st c - 1), fu U.bu c (U.mn + s 10 (3 * c + 1)), (outT (bkT U U.mn c (U.rw (30 * c + x)) (U.ma c) x) (U.rw (30 * c + x)) (-1)).ma, (outT (bkT U U.mn c (U.rw (30 * c + x)) (U.ma c) x) (U.rw (30 * c + x)) (-1)).rw, (outT (bkT U U.mn c (U.rw (30 * c + x)) (U.ma c) x) (U.rw (30 * c + x)) (-1)).pe, (outT (bkT U U.mn c (U.rw (30 * c + x)) (U.ma c) x) (U.rw (30 * c + x)) (-1)).t7, (outT (bkT U U.mn c (U.rw (30 * c + x)) (U.ma c) x) (U.rw (30 * c + x)) (-1)).en, (outT (bkT U U.mn c (U.rw (30 * c + x)) (U.ma c) x) (U.rw (30 * c + x)) (-1)).bk⟩ : Sh) v6 1 1) v6 3 v7) v6 4 (v7 * v7)).t7 = fu (fu (fu U.t7 (7 * v6 + 1) (U.t7 (7 * v6 + 1) + 1)) (7 * v6 + 3) (U.t7 (7 * v6 + 3) + v7)) (7 * v6 + 4) (U.t7 (7 * v6 + 4) + v7 * v7) := by
        unfold tellsT
        dsimp only [sd_mn, sd_lot, sd_st, sd_bu, sd_ma, sd_rw, sd_pe, sd_t7, sd_en, sd_bk]
        rw [fu_n (show 7 * v6 + 4 ≠ 7 * v6 + 3 by omega), fu_n (show 7 * v6 + 4 ≠ 7 * v6 + 1 by omega), fu_n (show 7 * v6 + 3 ≠ 7 * v6 + 1 by omega)]
        rfl
      rw [x5]
      have y5 : fu (fu (fu U.t7 (7 * v6 + 1) (U.t7 (7 * v6 + 1) + 1)) (7 * v6 + 3) (U.t7 (7 * v6 + 3) + v7)) (7 * v6 + 4) (U.t7 (7 * v6 + 4) + v7 * v7) (7 * v6 + 5) = U.t7 (7 * v6 + 5) := by
        rw [fu_n (by omega), fu_n (by omega), fu_n (by omega)]
      have hmx : mm_max (U.t7 (7 * v6 + 5)) v7 = if U.t7 (7 * v6 + 5) < v7 then v7 else U.t7 (7 * v6 + 5) := by
        unfold mm_max
        rw [← e6] at t5
        rw [n32_id (x := U.t7 (7 * v6 + 5)) (by omega) (by omega), n32_id (x := v7) (by omega) (by omega)]
      rw [y5, hmx]
      unfold serT
      dsimp only [sd_mn, sd_lot, sd_st, sd_bu, sd_ma, sd_rw, sd_pe, sd_t7, sd_en, sd_bk]
      rw [← e6, ← e7]
      have z6 : fu (fu (fu (fu U.t7 (7 * v6 + 1) (U.t7 (7 * v6 + 1) + 1)) (7 * v6 + 3) (U.t7 (7 * v6 + 3) + v7)) (7 * v6 + 4) (U.t7 (7 * v6 + 4) + v7 * v7)) (7 * v6 + 5) (if U.t7 (7 * v6 + 5) < v7 then v7 else U.t7 (7 * v6 + 5)) (7 * v6 + 6) = U.t7 (7 * v6 + 6) := by
        rw [fu_n (by omega), fu_n (by omega), fu_n (by omega), fu_n (by omega)]
      rw [tellsT]
      dsimp only [sd_mn, sd_lot, sd_st, sd_bu, sd_ma, sd_rw, sd_pe, sd_t7, sd_en, sd_bk]
      rw [z6]
      rfl
    rw [e35, n32_id (x := U.en) (by omega) (by omega)]
    refine ⟨fun q => ?_, fun q => ?_⟩
    · refine wr u U.en U.bk vu aa en0.1 (by omega) ?_
      unfold bkT
      rw [if_neg q, if_neg q]
    · have key : ∀ d y : Nat, y + d = 100 → 5 ≤ y → ∀ u1 : mm_M, (∀ j, u1 231 j = if 0 ≤ j ∧ j < (y : Int) - 5 then U.bk (j + 5) else U.bk j) → (∀ a : Nat, a ≠ 231 → u1 a = u a) → agR t u1 → L86 (T.ma c) x (U.rw (30 * c + x)) v6 v7 y u1 := by
        intro d
        induction d with
        | zero =>
          intro y hy y5 u1 g1 g2 a1
          apply h86
          have : y = 100 := by omega
          subst this
          refine ⟨fun _ s40 e40 => ?_, fun z => absurd (by decide) z⟩
          have g35 : u1 211 35 = U.en := by rw [g2 211 (by decide)]; exact e35
          rw [g35, q] at e40
          refine wr s40 19 (fun j => if 0 ≤ j ∧ j < 95 then U.bk (j + 5) else U.bk j) ?_ (by rw [e40]; exact a1.up rfl) (by omega) (by omega) ?_
          · rw [e40, vo_en]
            have e1 : u1 231 = fun j => if 0 ≤ j ∧ j < 95 then U.bk (j + 5) else U.bk j := by
              funext j
              rw [g1 j]
              rfl
            have : vo u1 = (⟨(vo u).mn, (vo u).lot, (vo u).st, (vo u).bu, (vo u).ma, (vo u).rw, (vo u).pe, (vo u).t7, (vo u).en, u1 231⟩ : Sh) := by
              unfold vo
              rw [g2 211 (by decide), g2 225 (by decide), g2 226 (by decide), g2 227 (by decide), g2 228 (by decide), g2 229 (by decide), g2 230 (by decide)]
            rw [this, vu, e1]
            rfl
          · unfold bkT
            rw [if_pos q, if_pos q]
        | succ d ih =>
          intro y hy y5 u1 g1 g2 a1
          apply h86
          rw [n32_id (x := (y : Int)) (by omega) (by omega), show mm_rt 211 36 = 231 from rfl]
          refine ⟨fun z => by omega, fun _ => ⟨⟨by omega, by omega⟩, ⟨by omega, by omega⟩, fun s41 e41 v ev => ?_⟩⟩
          rw [ev, show (y : Int) + 1 = ((y + 1 : Nat) : Int) by omega]
          refine ih (y + 1) (by omega) (by omega) s41 (fun j => ?_) (fun a ha => by rw [e41, up_c ha]; exact g2 a ha) (by rw [e41]; exact a1.up (scR_ref (by decide) (by decide)))
          rw [e41]
          by_cases z : j = (y : Int) - 5
          · rw [z, up_e, g1, if_neg (by omega), if_pos (by omega)]
            congr 1; omega
          · rw [up_n (Or.inr z), g1]
            by_cases z2 : 0 ≤ j ∧ j < (y : Int) - 5
            · rw [if_pos z2, if_pos (by omega)]
            · rw [if_neg z2, if_neg (by omega)]
      refine key 95 5 rfl (by omega) u (fun j => ?_) (fun _ _ => rfl) aa
      rw [if_neg (by omega), ← vu]
      rfl
  have e217 : t 217 (3 * c) = s 10 (3 * c) := by rw [k.1.2.2.2.1]; exact ct.2.2.2.2.2.2.1
  have e7 : t 227 c = T.ma c := by rw [← e]; rfl
  rw [show mm_rt 211 13 = 217 from rfl, show mm_rt 211 31 = 227 from rfl, e217, e7]
  refine ⟨⟨by omega, by omega⟩, fun v2 e2 => ⟨⟨by omega, by omega⟩, fun v3 e3 => ?_⟩⟩
  rw [e2, e3, n32_id (x := s 10 (3 * c)) (by omega) (by omega)]
  refine ⟨fun q => ?_, fun q => ?_⟩
  · have nr := nxP_r (s := s) (T := T) (c := c) (l := s 10 (3 * c)) ⟨yes.2.2, m.2⟩
    refine u_next (hW.kW k.1) (k.2.rL hL) e w hc yes.2.2 ⟨by omega, by omega⟩ (fun u fu => ?_)
    rw [k_nxP k.1 k.2]
    exact ser T _ u (by rw [fu.vo]; exact e) w fu.ag.toR rfl nr.1 nr.2 (by unfold srvT; rw [if_pos yes, if_neg q])
  · refine u_draw e w ⟨yes.2.2, m.2⟩ (fun u vu au => ?_)
    have dr := drv_r (x := nxl T.lot) (n := T.ma c) yes.2.2
    exact ser (drwT T) _ u vu w.drw au rfl dr.1 dr.2 (by unfold srvT; rw [if_pos yes, if_pos q])
