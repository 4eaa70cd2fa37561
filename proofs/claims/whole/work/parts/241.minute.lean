/-! the class's minute -/
theorem agC.kL {s s' : mm_M} (h : agC s s') : k_L s s' := ⟨h _ _ rfl, h.c (fun _ => rfl), h.c (fun _ => rfl), h.c (fun _ => rfl), h.c (fun _ => rfl), h.c (fun _ => rfl), h.c (fun _ => rfl), h _ _ rfl⟩
theorem agR.kL {s s' : mm_M} (h : agR s s') : k_L s s' := ⟨h _ _ rfl, h.c (fun _ => rfl), h.c (fun _ => rfl), h.c (fun _ => rfl), h.c (fun _ => rfl), h.c (fun _ => rfl), h.c (fun _ => rfl), h _ _ rfl⟩
theorem k_L.rL {s s' : mm_M} (h : k_L s s') (c : r_L s) : r_L s' := by
  obtain ⟨a1, a2, a3, a4, a5, a6, a7, a8⟩ := h
  unfold r_L
  rw [a1, a2, a3, a4, a5, a6, a7, a8]
  exact c
theorem k_nxP {s s' : mm_M} (h : k_W s s') (h2 : k_L s s') {T : Sh} {c l : Int} : nxP s' T c l = nxP s T c l := by
  unfold nxP lv
  rw [h2.1, h2.2.2.2.1, h2.2.2.2.2.1, h2.2.2.2.2.2.1, h.2.2.1, h.2.2.2.2.2.2.2.1]
theorem t_empty {C S : Int} {T : Sh} {s : mm_M} (hW : tw C S s) (r : rep s 29 C S T) (w : wf C S T) {a : Int} (ha : 0 ≤ a ∧ a < C) {post : Int → mm_M → Prop} (h1 : T.ma a = 0 → post 1 s) (h0 : T.ma a ≠ 0 → post 0 s) : wp_X7_isEmptyAt 29 a s post := by
  unfold wp_X7_isEmptyAt
  refine t_desk hW ha ⟨fun z => (by cases z), fun t ht => ?_⟩
  cases ht
  have d1 := (r.dk a.toNat (by omega)).1
  have m := w.ma0 a ha.1 ha.2
  rw [show 29 + 36 + 2 * a.toNat = 65 + 2 * a.toNat by omega, show ((a.toNat : Nat) : Int) = a by omega] at d1
  rw [d1, n32_id (x := T.ma a) (by omega) (by omega)]
  exact ⟨fun z => h0 z, fun z => h1 z⟩
theorem t_emptiest {C S : Int} {T : Sh} {s : mm_M} (hW : tw C S s) (r : rep s 29 C S T) (w : wf C S T) {post : Int → mm_M → Prop} (hp : post (emp T.ma C.toNat) s) : wp_X7_emptiest 29 s post := by
  have c0 := hW.c0
  intro L7 h7
  have m0 := w.ma0 0 (by omega) (by omega)
  have tail : ∀ d x : Nat, x + d = 3 → C ≤ x → L7 (emp T.ma C.toNat) (T.ma (emp T.ma C.toNat)) x s := by
    intro d
    induction d with
    | zero =>
      intro x hx hc
      apply h7
      have : x = 3 := by omega
      subst this
      exact ⟨fun _ => hp, fun q => absurd (by decide) q⟩
    | succ d ih =>
      intro x hx hc
      apply h7
      rw [n32_id (x := (x : Int)) (by omega) (by omega)]
      refine ⟨fun q => by omega, fun _ => t_desk0 hW ⟨hc, by omega⟩ ⟨fun _ v ev => ?_, fun t ht => (by cases ht)⟩⟩
      rw [ev, show (x : Int) + 1 = ((x + 1 : Nat) : Int) by omega]
      exact ih (x + 1) (by omega) (by omega)
  have key : ∀ d x : Nat, x + d = C.toNat → 0 < x → L7 (emp T.ma x) (T.ma (emp T.ma x)) x s := by
    intro d
    induction d with
    | zero =>
      intro x hx h0
      have : x = C.toNat := by omega
      rw [this]
      exact tail (3 - C.toNat) C.toNat (by omega) (by omega)
    | succ d ih =>
      intro x hx h0
      have er := emp_r T.ma x h0
      have me := w.ma0 (emp T.ma x) er.1 (by omega)
      have mx := w.ma0 x (by omega) (by omega)
      have nx := ih (x + 1) (by omega) (by omega)
      rw [emp, if_neg (by omega), show ((x + 1 : Nat) : Int) = (x : Int) + 1 by omega] at nx
      apply h7
      rw [n32_id (x := (x : Int)) (by omega) (by omega)]
      refine ⟨fun q => by omega, fun _ => t_desk hW ⟨by omega, by omega⟩ ⟨fun z => (by cases z), fun t ht => ?_⟩⟩
      cases ht
      have d1 := (r.dk x (by omega)).1
      rw [show 29 + 36 + 2 * x = 65 + 2 * x by omega] at d1
      rw [show ((x : Int)).toNat = x by omega, d1, n32_id (x := T.ma x) (by omega) (by omega), n32_id (x := T.ma (emp T.ma x)) (by omega) (by omega)]
      refine ⟨fun q v ev => ?_, fun q v2 e2 v1 e1 v3 e3 => ?_⟩
      · rw [if_neg (by omega)] at nx
        rw [ev]; exact nx
      · rw [if_pos (by omega)] at nx
        rw [e1, e2, e3]; exact nx
  apply h7
  rw [show n32 0 = 0 from rfl, show n32 31 = 31 from rfl]
  refine ⟨fun q => by omega, fun _ => t_desk hW ⟨by omega, by omega⟩ ⟨fun z => (by cases z), fun t ht => ?_⟩⟩
  cases ht
  have d1 := (r.dk 0 (by omega)).1
  have d1 : s (65 + 2 * (0 : Int).toNat) 1 = T.ma 0 := d1
  rw [d1, n32_id (x := T.ma 0) (by omega) (by omega)]
  refine ⟨fun q => by omega, fun q v2 e2 v1 e1 v3 e3 => ?_⟩
  rw [e1, e2, e3]
  exact key (C.toNat - 1) 1 (by omega) (by omega)
theorem t_news {C S : Int} {T : Sh} {s : mm_M} (hW : tw C S s) (r : rep s 29 C S T) (w : wf C S T) {post : mm_M → Prop} (hp : ∀ u, rep u 29 C S (itr (comT s) T (s 9 5).toNat) → agC s u → post u) : wp_X7_newOnesCome 29 s post := by
  have c0 := hW.c0
  have s0 := hW.s0
  intro L2 L62 h2 h62
  have ww : ∀ k : Nat, (k : Int) ≤ S → wf C S (itr (comT s) T k) := fun k hk => (itr_w (n := S.toNat) w (fun k U hk wU _ => com_w hW wU ⟨by omega, by omega⟩) k (by omega)).1
  rw [hW.ss] at hp
  have key : ∀ d x : Nat, (x : Int) + d = S → ∀ u, rep u 29 C S (itr (comT s) T x) → agC s u → L2 x u := by
    intro d
    induction d with
    | zero =>
      intro x hx u ru au
      apply h2
      rw [show mm_rt 29 0 = 9 from rfl, (hW.fC au).nS, n32_id (x := (x : Int)) (by omega) (by omega)]
      refine ⟨fun _ => hp u ?_ au, fun q => by omega⟩
      rw [show S.toNat = x by omega]; exact ru
    | succ d ih =>
      intro x hx u ru au
      have wx := ww x (by omega)
      have nx := ih (x + 1) (by omega)
      rw [itr, show ((x + 1 : Nat) : Int) = (x : Int) + 1 by omega] at nx
      generalize itr (comT s) T x = U at ru wx nx
      have so := hW.w.so (c := x) (by omega) (by rw [hW.ss]; omega)
      apply h2
      rw [show mm_rt 29 0 = 9 from rfl, (hW.fC au).nS, n32_id (x := (x : Int)) (by omega) (by omega)]
      refine ⟨fun q => by omega, fun _ => ?_⟩
      refine t_draw c0.2 ru wx (by omega) (fun u1 r1 a1 => ?_)
      have a1 := au.tr a1
      refine t_ofS (hW.fC a1) ⟨by omega, by omega⟩ (by omega) ?_
      have dr := drv_r (x := nxl U.lot) (n := 16) (by omega)
      rw [a1.c (a := 11) (fun _ => rfl), show 6 * (x : Int) + 0 = 6 * x by omega, n32_id (x := drv (nxl U.lot) 16) (by omega) (by omega), n32_id (x := s 11 (6 * x)) (by omega) (by omega)]
      refine ⟨fun q v ev => ?_, fun q => ?_⟩
      · rw [ev]
        refine nx u1 ?_ a1
        unfold comT
        rw [if_neg (by omega)]
        exact r1
      · refine t_emptiest (hW.fC a1) r1 wx.drw ?_
        intro v2 e2
        refine t_ofS (hW.fC a1) ⟨by omega, by omega⟩ (by omega) ?_
        rw [a1.c (a := 11) (fun _ => rfl), n32_id (x := s 11 (6 * x + 5)) (by omega) (by omega)]
        have er := emp_r (drwT U).ma C.toNat (by omega)
        rw [← e2] at er
        have fin : ∀ q0 : Int, (q0 = if s 11 (6 * x + 5) < 2 ∨ U.ma v2 = 0 then 1 else 0) → L62 x v2 q0 u1 := by
          intro q0 hq
          have nq : n32 q0 = q0 := by rw [hq]; split <;> rfl
          apply h62
          intro v3 e3
          rw [e3]
          have e2' : v2 = emp U.ma (s 9 4).toNat := by rw [e2, hW.cc]; rfl
          have h17 : u1 211 17 = s 211 17 := a1 211 17 rfl
          refine t_arrive (hW.fC a1) r1 wx.drw ⟨by omega, by omega⟩ ⟨by omega, by omega⟩ nq (fun qf u2 r2 a2 v ev => ?_) (fun qf v ev => ?_)
          · rw [ev]
            refine nx u2 ?_ (a1.tr a2)
            unfold comT
            rw [if_pos (by omega), if_pos qf, ← e2', ← hq]
            rw [h17] at r2
            exact r2
          · rw [ev]
            refine nx u1 ?_ a1
            unfold comT
            rw [if_pos (by omega), if_neg qf]
            exact r1
        refine ⟨fun z => fin 1 (by rw [if_pos (Or.inl (by omega))]), fun z => ?_⟩
        refine t_empty (hW.fC a1) r1 wx.drw ⟨by omega, by omega⟩ (fun y => ⟨fun z => absurd z (by decide), fun _ => fin 1 (by rw [if_pos (Or.inr (show U.ma v2 = 0 from y))])⟩) (fun y => ⟨fun _ => fin 0 (by rw [if_neg (fun h => by rcases h with h | h; omega; exact y h)]), fun z => absurd m_0 z⟩)
  exact key S.toNat 0 (by omega) s r agC.rf
/-- the person p of a shop, in the class -/
theorem rep.at {s : mm_M} {C S : Int} {T : Sh} (r : rep s 29 C S T) {p : Nat} (hp : p < 30) (hg : T.pe (7 * p + 2) ≠ -1) : s (35 + p) 0 = T.pe (7 * p + 2) ∧ s (35 + p) 1 = T.pe (7 * p) ∧ s (35 + p) 2 = T.pe (7 * p + 1) ∧ s (35 + p) 3 = T.pe (7 * p + 3) ∧ s (35 + p) 6 = T.pe (7 * p + 6) := by
  have a := r.pp p hp
  have b := a.2 hg
  rw [show 29 + 6 + p = 35 + p by omega] at a b
  exact ⟨a.1, b.1, b.2.1, b.2.2.1, b.2.2.2.2.2⟩
theorem t_outside {C S : Int} {T : Sh} {s : mm_M} (hW : tw C S s) (r : rep s 29 C S T) (w : wf C S T) {post : mm_M → Prop} (hp : ∀ u, rep u 29 C S (itr (einT s) T 30) → agC s u → post u) : wp_X7_thoseOutsideComeIn 29 s post := by
  have c0 := hW.c0
  intro L2 L45 L70 L81 h2 h45 h70 h81
  have ww : ∀ k : Nat, k ≤ 30 → wf C S (itr (einT s) T k) := fun k hk => (itr_w (f := einT s) (n := 30) w (fun k U hk wU _ => ein_w wU ⟨by omega, by omega⟩) k hk).1
  have key : ∀ d x : Nat, x + d = 30 → ∀ u, rep u 29 C S (itr (einT s) T x) → agC s u → L2 x u := by
    intro d
    induction d with
    | zero =>
      intro x hx u ru au
      apply h2
      have : x = 30 := by omega
      subst this
      exact ⟨fun _ => hp u ru au, fun q => absurd (by decide) q⟩
    | succ d ih =>
      intro x hx u ru au
      have wx := ww x (by omega)
      have nx := ih (x + 1) (by omega)
      rw [itr, show ((x + 1 : Nat) : Int) = (x : Int) + 1 by omega] at nx
      generalize itr (einT s) T x = U at ru wx nx
      have hh := wx.ho x (by omega) (by omega)
      have mn := wx.mn0
      apply h2
      rw [n32_id (x := (x : Int)) (by omega) (by omega)]
      refine ⟨fun q => by omega, fun _ => t_who ru wx ⟨by omega, by omega⟩ (fun hg => ⟨fun z => (by cases z), fun t ht => ?_⟩) (fun hg => ⟨fun _ v ev => ?_, fun t ht => (by cases ht)⟩)⟩
      · cases ht
        rw [show ((x : Int)).toNat = x by omega]
        have ra := ru.at (p := x) (by omega) hg
        have pf := wx.pf x (by omega) (by omega) hg
        have go : ((U.pe (7 * x + 2) = 2 ∧ U.ma (U.pe (7 * x + 1)) = 0) ∨ (U.pe (7 * x + 2) = 1 ∧ U.pe (7 * x + 6) ≤ U.mn)) → L81 x (35 + x) u := by
          intro q
          apply h81
          refine t_comeIn (hW.fC au) ru (by omega) hg ⟨pf.1, pf.2.1⟩ ⟨pf.2.2.1, pf.2.2.2.1⟩ wx.ma0 (wx.room pf.2.2.1 pf.2.2.2.1 (p := x) (by omega) (by omega) (by omega)) (fun u1 r1 a1 v ev => ?_)
          rw [ev]
          refine nx u1 ?_ (au.tr a1)
          unfold einT
          rw [if_pos q]
          rw [au 211 17 rfl] at r1
          exact r1
        have stay : ¬ ((U.pe (7 * x + 2) = 2 ∧ U.ma (U.pe (7 * x + 1)) = 0) ∨ (U.pe (7 * x + 2) = 1 ∧ U.pe (7 * x + 6) ≤ U.mn)) → L2 ((x : Int) + 1) u := by
          intro q
          refine nx u ?_ au
          unfold einT
          rw [if_neg q]
          exact ru
        have m7 : u 29 7 = U.mn := ru.mn
        have mid : ∀ q0 : Int, (q0 = 1 ∧ U.pe (7 * x + 2) = 2 ∧ U.ma (U.pe (7 * x + 1)) = 0) ∨ (q0 = 0 ∧ ¬ (U.pe (7 * x + 2) = 2 ∧ U.ma (U.pe (7 * x + 1)) = 0)) → L45 x (35 + x) q0 u := by
          intro q0 hq
          apply h45
          intro v3 e3
          rw [ra.1, ra.2.2.2.2, m7, n32_id (x := U.pe (7 * x + 2)) (by omega) (by omega), n32_id (x := U.pe (7 * x + 6)) (by omega) (by omega), n32_id (x := U.mn) (by omega) (by omega)]
          have fin : ∀ q1 : Int, (q1 = 1 ∧ U.pe (7 * x + 2) = 1 ∧ U.pe (7 * x + 6) ≤ U.mn) ∨ (q1 = 0 ∧ ¬ (U.pe (7 * x + 2) = 1 ∧ U.pe (7 * x + 6) ≤ U.mn)) → L70 x (35 + x) v3 q1 u := by
            intro q1 hq1
            apply h70
            intro v4 e4
            rw [n32_id (x := v3) (by omega) (by omega), n32_id (x := v4) (by omega) (by omega)]
            refine ⟨fun z => go (Or.inl (by omega)), fun z => ⟨fun z2 v ev => ?_, fun z2 => go (Or.inr (by omega))⟩⟩
            rw [ev]
            exact stay (by omega)
          exact ⟨fun z => fin 0 (Or.inr (by omega)), fun z => ⟨fun z2 => fin 0 (Or.inr (by omega)), fun z2 => fin 1 (Or.inl (by omega))⟩⟩
        rw [ra.1, ra.2.2.1, n32_id (x := U.pe (7 * x + 2)) (by omega) (by omega)]
        refine ⟨fun z => mid 0 (Or.inr (by omega)), fun z => ?_⟩
        exact t_empty (hW.fC au) ru wx ⟨pf.2.2.1, pf.2.2.2.1⟩ (fun y => ⟨fun z => absurd z (by decide), fun _ => mid 1 (Or.inl (by omega))⟩) (fun y => ⟨fun _ => mid 0 (Or.inr (by omega)), fun z => absurd m_0 z⟩)
      · rw [ev]
        refine nx u ?_ au
        unfold einT
        rw [if_neg (by omega)]
        exact ru
  exact key 30 0 rfl s r agC.rf
theorem t_turners {C S : Int} {T : Sh} {s : mm_M} (hW : tw C S s) (r : rep s 29 C S T) (w : wf C S T) {post : mm_M → Prop} (hp : ∀ u, rep u 29 C S (itr (tnrT s) T 30) → agC s u → post u) : wp_X7_turnersGoOut 29 s post := by
  have c0 := hW.c0
  intro L2 h2
  have ww : ∀ k : Nat, k ≤ 30 → wf C S (itr (tnrT s) T k) := fun k hk => (itr_w (f := tnrT s) (n := 30) w (fun k U hk wU _ => tnr_w hW wU ⟨by omega, by omega⟩) k hk).1
  have key : ∀ d x : Nat, x + d = 30 → ∀ u, rep u 29 C S (itr (tnrT s) T x) → agC s u → L2 x u := by
    intro d
    induction d with
    | zero =>
      intro x hx u ru au
      apply h2
      have : x = 30 := by omega
      subst this
      exact ⟨fun _ => hp u ru au, fun q => absurd (by decide) q⟩
    | succ d ih =>
      intro x hx u ru au
      have wx := ww x (by omega)
      have nx := ih (x + 1) (by omega)
      rw [itr, show ((x + 1 : Nat) : Int) = (x : Int) + 1 by omega] at nx
      generalize itr (tnrT s) T x = U at ru wx nx
      have hh := wx.ho x (by omega) (by omega)
      have stay : ¬ (U.pe (7 * x + 2) = 0 ∧ s 11 (6 * U.pe (7 * x) + 5) = 1 ∧ plT U x < U.ma (U.pe (7 * x + 1)) - 1) → ∀ v : Int, v = (x : Int) + 1 → L2 v u := by
        intro q v ev
        rw [ev]
        refine nx u ?_ au
        unfold tnrT
        rw [if_neg q]
        exact ru
      apply h2
      rw [n32_id (x := (x : Int)) (by omega) (by omega)]
      refine ⟨fun q => by omega, fun _ => t_who ru wx ⟨by omega, by omega⟩ (fun hg => ⟨fun z => (by cases z), fun t ht => ?_⟩) (fun hg => ⟨fun _ => stay (by omega), fun t ht => (by cases ht)⟩)⟩
      cases ht
      rw [show ((x : Int)).toNat = x by omega]
      have ra := ru.at (p := x) (by omega) hg
      have pf := wx.pf x (by omega) (by omega) hg
      have so := hW.w.so pf.1 (by rw [hW.ss]; exact pf.2.1)
      rw [ra.1, ra.2.1, n32_id (x := U.pe (7 * x + 2)) (by omega) (by omega)]
      refine ⟨fun z => stay (by omega), fun z => ?_⟩
      refine t_ofS (hW.fC au) ⟨pf.1, pf.2.1⟩ (by omega) ?_
      rw [au.c (a := 11) (fun _ => rfl), n32_id (x := s 11 (6 * U.pe (7 * x) + 5)) (by omega) (by omega), ra.2.2.1]
      refine ⟨fun y => ?_, fun y => stay (by omega)⟩
      refine t_desk (hW.fC au) ⟨pf.2.2.1, pf.2.2.2.1⟩ ⟨fun z => (by cases z), fun t ht => ?_⟩
      cases ht
      have ec : (((U.pe (7 * x + 1)).toNat : Nat) : Int) = U.pe (7 * x + 1) := by omega
      have d1 := (ru.dk (U.pe (7 * x + 1)).toNat (by omega)).1
      rw [show 29 + 36 + 2 * (U.pe (7 * x + 1)).toNat = 65 + 2 * (U.pe (7 * x + 1)).toNat by omega, ec] at d1
      have m := wx.ma0 _ pf.2.2.1 pf.2.2.2.1
      have pl := wx.pl (p := x) (by omega) (by omega) z
      rw [d1]
      refine t_at c0.2 ru wx (by rw [ec]; exact pf.2.2.2.1) (by rw [ec]; omega) ?_
      rw [ec]
      have ro := wx.ro _ (U.ma (U.pe (7 * x + 1)) - 1) pf.2.2.1 pf.2.2.2.1 (by omega) (by omega)
      rw [n32_id (x := U.rw (30 * U.pe (7 * x + 1) + (U.ma (U.pe (7 * x + 1)) - 1))) (by omega) (by omega)]
      have di := wx.di _ (U.ma (U.pe (7 * x + 1)) - 1) (plT U x) pf.2.2.1 pf.2.2.2.1 (by omega) (by omega) pl.1 pl.2.1
      refine ⟨fun e => stay (fun h => ?_), fun e => ?_⟩
      · have := di (by rw [e, pl.2.2.1]); omega
      · have ne : plT U x ≠ U.ma (U.pe (7 * x + 1)) - 1 := fun h => e (by rw [← h]; exact pl.2.2.1)
        refine t_goOut (hW.fC au) ru wx (by omega) z (fun u1 r1 a1 v ev => ?_)
        rw [ev]
        refine nx u1 ?_ (au.tr a1)
        unfold tnrT
        rw [if_pos ⟨z, y, by omega⟩]
        rw [au 211 17 rfl, au 211 18 rfl] at r1
        exact r1
  exact key 30 0 rfl s r agC.rf
