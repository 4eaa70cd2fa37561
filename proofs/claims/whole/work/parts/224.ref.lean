/-! the reference's steps on its shop -/
theorem up_f {t : mm_M} {a : Nat} {j v : Int} : mm_up t a j v a = fu (t a) j v := by
  funext k
  unfold mm_up fu
  by_cases h : k = j
  · rw [if_pos h, if_pos ⟨rfl, h⟩]
  · rw [if_neg h, if_neg (fun z => h z.2)]
theorem vo_225 {t : mm_M} {j v : Int} : vo (mm_up t 225 j v) = (⟨(vo t).mn, (vo t).lot, fu (t 225) j v, (vo t).bu, (vo t).ma, (vo t).rw, (vo t).pe, (vo t).t7, (vo t).en, (vo t).bk⟩ : Sh) := by
  unfold vo; rw [up_f, up_c (b := 226) (by decide), up_c (b := 227) (by decide), up_c (b := 228) (by decide), up_c (b := 229) (by decide), up_c (b := 230) (by decide), up_c (b := 231) (by decide), up_c (b := 211) (by decide)]; rfl
theorem vo_226 {t : mm_M} {j v : Int} : vo (mm_up t 226 j v) = (⟨(vo t).mn, (vo t).lot, (vo t).st, fu (t 226) j v, (vo t).ma, (vo t).rw, (vo t).pe, (vo t).t7, (vo t).en, (vo t).bk⟩ : Sh) := by
  unfold vo; rw [up_f, up_c (b := 225) (by decide), up_c (b := 227) (by decide), up_c (b := 228) (by decide), up_c (b := 229) (by decide), up_c (b := 230) (by decide), up_c (b := 231) (by decide), up_c (b := 211) (by decide)]; rfl
theorem vo_227 {t : mm_M} {j v : Int} : vo (mm_up t 227 j v) = (⟨(vo t).mn, (vo t).lot, (vo t).st, (vo t).bu, fu (t 227) j v, (vo t).rw, (vo t).pe, (vo t).t7, (vo t).en, (vo t).bk⟩ : Sh) := by
  unfold vo; rw [up_f, up_c (b := 225) (by decide), up_c (b := 226) (by decide), up_c (b := 228) (by decide), up_c (b := 229) (by decide), up_c (b := 230) (by decide), up_c (b := 231) (by decide), up_c (b := 211) (by decide)]; rfl
theorem vo_228 {t : mm_M} {j v : Int} : vo (mm_up t 228 j v) = (⟨(vo t).mn, (vo t).lot, (vo t).st, (vo t).bu, (vo t).ma, fu (t 228) j v, (vo t).pe, (vo t).t7, (vo t).en, (vo t).bk⟩ : Sh) := by
  unfold vo; rw [up_f, up_c (b := 225) (by decide), up_c (b := 226) (by decide), up_c (b := 227) (by decide), up_c (b := 229) (by decide), up_c (b := 230) (by decide), up_c (b := 231) (by decide), up_c (b := 211) (by decide)]; rfl
theorem vo_229 {t : mm_M} {j v : Int} : vo (mm_up t 229 j v) = (⟨(vo t).mn, (vo t).lot, (vo t).st, (vo t).bu, (vo t).ma, (vo t).rw, fu (t 229) j v, (vo t).t7, (vo t).en, (vo t).bk⟩ : Sh) := by
  unfold vo; rw [up_f, up_c (b := 225) (by decide), up_c (b := 226) (by decide), up_c (b := 227) (by decide), up_c (b := 228) (by decide), up_c (b := 230) (by decide), up_c (b := 231) (by decide), up_c (b := 211) (by decide)]; rfl
theorem vo_230 {t : mm_M} {j v : Int} : vo (mm_up t 230 j v) = (⟨(vo t).mn, (vo t).lot, (vo t).st, (vo t).bu, (vo t).ma, (vo t).rw, (vo t).pe, fu (t 230) j v, (vo t).en, (vo t).bk⟩ : Sh) := by
  unfold vo; rw [up_f, up_c (b := 225) (by decide), up_c (b := 226) (by decide), up_c (b := 227) (by decide), up_c (b := 228) (by decide), up_c (b := 229) (by decide), up_c (b := 231) (by decide), up_c (b := 211) (by decide)]; rfl
theorem vo_231 {t : mm_M} {j v : Int} : vo (mm_up t 231 j v) = (⟨(vo t).mn, (vo t).lot, (vo t).st, (vo t).bu, (vo t).ma, (vo t).rw, (vo t).pe, (vo t).t7, (vo t).en, fu (t 231) j v⟩ : Sh) := by
  unfold vo; rw [up_f, up_c (b := 225) (by decide), up_c (b := 226) (by decide), up_c (b := 227) (by decide), up_c (b := 228) (by decide), up_c (b := 229) (by decide), up_c (b := 230) (by decide), up_c (b := 211) (by decide)]; rfl
theorem vo_mn {t : mm_M} {v : Int} : vo (mm_up t 211 28 v) = (⟨v, (vo t).lot, (vo t).st, (vo t).bu, (vo t).ma, (vo t).rw, (vo t).pe, (vo t).t7, (vo t).en, (vo t).bk⟩ : Sh) := by
  unfold vo; rw [up_e, up_n (a := 211) (k := 37) (by decide), up_n (a := 211) (k := 35) (by decide), up_c (b := 225) (by decide), up_c (b := 226) (by decide), up_c (b := 227) (by decide), up_c (b := 228) (by decide), up_c (b := 229) (by decide), up_c (b := 230) (by decide), up_c (b := 231) (by decide)]; rfl
theorem vo_lot {t : mm_M} {v : Int} : vo (mm_up t 211 37 v) = (⟨(vo t).mn, v, (vo t).st, (vo t).bu, (vo t).ma, (vo t).rw, (vo t).pe, (vo t).t7, (vo t).en, (vo t).bk⟩ : Sh) := by
  unfold vo; rw [up_e, up_n (a := 211) (k := 28) (by decide), up_n (a := 211) (k := 35) (by decide), up_c (b := 225) (by decide), up_c (b := 226) (by decide), up_c (b := 227) (by decide), up_c (b := 228) (by decide), up_c (b := 229) (by decide), up_c (b := 230) (by decide), up_c (b := 231) (by decide)]; rfl
theorem vo_en {t : mm_M} {v : Int} : vo (mm_up t 211 35 v) = (⟨(vo t).mn, (vo t).lot, (vo t).st, (vo t).bu, (vo t).ma, (vo t).rw, (vo t).pe, (vo t).t7, v, (vo t).bk⟩ : Sh) := by
  unfold vo; rw [up_e, up_n (a := 211) (k := 28) (by decide), up_n (a := 211) (k := 37) (by decide), up_c (b := 225) (by decide), up_c (b := 226) (by decide), up_c (b := 227) (by decide), up_c (b := 228) (by decide), up_c (b := 229) (by decide), up_c (b := 230) (by decide), up_c (b := 231) (by decide)]; rfl
theorem u_of {t : mm_M} {T : Sh} (e : vo t = T) {p w : Int} {post : Int → mm_M → Prop} (h : 0 ≤ 7 * p + w ∧ 7 * p + w < 210) (k : post (T.pe (7 * p + w)) t) : wp_X11_of 211 p w t post := by
  subst e
  exact ⟨h, k⟩
theorem u_of0 {t : mm_M} {T : Sh} (e : vo t = T) {p : Int} {post : Int → mm_M → Prop} (h : 0 ≤ p ∧ p < 30) (k : post (T.pe (7 * p)) t) : wp_X11_of 211 p 0 t post := by
  refine u_of e (by omega) ?_
  rw [show 7 * p + 0 = 7 * p by omega]
  exact k
theorem u_sets {t : mm_M} {T : Sh} (e : vo t = T) {p w v : Int} {post : mm_M → Prop} (h : 0 ≤ 7 * p + w ∧ 7 * p + w < 210) (k : ∀ t', vo t' = setsT T p w v → agR t t' → post t') : wp_X11_sets 211 p w v t post := by
  subst e
  refine ⟨h, fun t' e' => ?_⟩
  subst e'
  exact k _ vo_229 (agR.rf.up (scR_ref (by decide) (by decide)))
theorem u_tells {t : mm_M} {T : Sh} (e : vo t = T) {p w v : Int} {post : mm_M → Prop} (h : 0 ≤ 7 * p + w ∧ 7 * p + w < 35) (k : ∀ t', vo t' = tellsT T p w v → agR t t' → post t') : wp_X11_tells 211 p w v t post := by
  subst e
  refine ⟨h, h, fun t' e' => ?_⟩
  subst e'
  exact k _ vo_230 (agR.rf.up (scR_ref (by decide) (by decide)))
theorem u_ent {t : mm_M} {T : Sh} (e : vo t = T) {p : Int} {post : mm_M → Prop} (hp : 0 ≤ p ∧ p < 30) (hc : 0 ≤ T.pe (7 * p + 1) ∧ T.pe (7 * p + 1) < 3) (hm : 0 ≤ T.ma (T.pe (7 * p + 1)) ∧ T.ma (T.pe (7 * p + 1)) < 30) (hs : 0 ≤ T.pe (7 * p) ∧ T.pe (7 * p) < 5) (k : ∀ t', vo t' = entT (t 211 17) T p → agR t t' → post t') : wp_X11_entersAt 211 p t post := by
  unfold wp_X11_entersAt
  refine u_of e (by omega) ?_
  intro v ev
  rw [show mm_rt 211 31 = 227 from rfl, show mm_rt 211 32 = 228 from rfl]
  subst e
  subst ev
  refine ⟨hc, ⟨?_, ?_⟩, fun t1 e1 => ⟨hc, hc, fun t2 e2 => ?_⟩⟩
  · show 0 ≤ 30 * (vo t).pe (7 * p + 1) + (vo t).ma ((vo t).pe (7 * p + 1)); omega
  · show 30 * (vo t).pe (7 * p + 1) + (vo t).ma ((vo t).pe (7 * p + 1)) < 90; omega
  have g : t1 227 ((vo t).pe (7 * p + 1)) = t 227 ((vo t).pe (7 * p + 1)) := by rw [e1, up_c (by decide)]
  rw [g] at e2
  have a2 : agR t t2 := by rw [e2, e1]; exact (agR.rf.up (scR_ref (by decide) (by decide))).up (scR_ref (by decide) (by decide))
  have v2 : vo t2 = appT (vo t) ((vo t).pe (7 * p + 1)) p := by
    rw [e2, e1, vo_227, vo_228, up_c (b := 227) (by decide)]
    rfl
  refine u_sets v2 (by omega) (fun t3 v3 a3 => ?_)
  have m3 : t3 211 28 = (vo t).mn := by
    have : (vo t3).mn = (vo t).mn := by rw [v3]; rfl
    exact this
  rw [m3]
  refine u_sets v3 (by omega) (fun t4 v4 a4 => ?_)
  refine u_sets v4 (by omega) (fun t5 v5 a5 => ?_)
  have a6 := ((a2.tr a3).tr a4).tr a5
  refine u_of0 v5 hp ?_
  have z0 : (setsT (setsT (setsT (appT (vo t) ((vo t).pe (7 * p + 1)) p) p 2 0) p 4 (vo t).mn) p 6 (-1)).pe (7 * p) = (vo t).pe (7 * p) := by
    show fu _ _ _ _ = _
    rw [fu_n (by omega)]
    show fu _ _ _ _ = _
    rw [fu_n (by omega)]
    show fu _ _ _ _ = _
    rw [fu_n (by omega)]
    rfl
  rw [z0, a6 211 17 rfl]
  exact u_tells v5 (by omega) (fun t6 v6 a7 => k t6 v6 (a6.tr a7))
theorem u_lev {C S : Int} {t : mm_M} {T : Sh} (hC : C ≤ 3) (e : vo t = T) (w : wf C S T) {p : Int} {post : mm_M → Prop} (hp : 0 ≤ p ∧ p < 30) (h0 : T.pe (7 * p + 2) = 0) (k : ∀ t', vo t' = levT T p → agR t t' → post t') : wp_X11_leavesRow 211 p t post := by
  have f := w.pf p hp.1 hp.2 (by omega)
  have l := w.pl hp.1 hp.2 h0
  have m := w.ma0 _ f.2.2.1 f.2.2.2.1
  intro L23 h23
  refine u_of e (by omega) ?_
  intro v ev
  subst e
  have f3 := f.2.2.1
  have f4 := f.2.2.2.1
  rw [← ev] at f3 f4
  rw [show mm_rt 211 31 = 227 from rfl]
  refine ⟨⟨f3, by omega⟩, ⟨f3, by omega⟩, fun t1 e1 => ?_⟩
  have i1 : t1 229 = t 229 := by rw [e1, up_c (by decide)]
  have i2 : t1 228 = t 228 := by rw [e1, up_c (by decide)]
  have lv : ∀ j, 0 ≤ j → j < plT (vo t) p → t 228 (30 * v + j) ≠ p := fun j a b => by rw [ev]; exact l.2.2.2 j a b
  refine s_plM (c := v) (by rw [i1]; exact ev.symm) hp ⟨f3, by omega⟩ (n32_id (by omega) (by omega)) (k0 := plT (vo t) p) ⟨l.1, by omega⟩ (by rw [i2, ev]; exact l.2.2.1) (fun j j1 j2 => ?_) ?_
  · rw [i2]
    have ro := w.ro v j f3 f4 j1 (by rw [ev]; omega)
    have : n32 (t 228 (30 * v + j)) = t 228 (30 * v + j) := n32_id (by have : 0 ≤ t 228 (30 * v + j) := ro.1; omega) (by have : t 228 (30 * v + j) < 30 := ro.2.1; omega)
    rw [this]
    exact lv j j1 j2
  · intro v3 e3
    rw [e3]
    have l2 := l.2.1
    rw [← ev] at l2
    rw [← ev] at m
    have l1 := l.1
    have key : ∀ d x : Nat, (x : Int) + d = (vo t).ma v - 1 → plT (vo t) p ≤ x → ∀ u : mm_M, u 227 v = (vo t).ma v - 1 → (∀ j, u 228 j = if 30 * v + plT (vo t) p ≤ j ∧ j < 30 * v + x then t 228 (j + 1) else t 228 j) → (∀ a : Nat, a ≠ 228 → u a = t1 a) → L23 v x u := by
      intro d
      induction d with
      | zero =>
        intro x hx hv u g1 g2 g3
        apply h23
        rw [show mm_rt 211 31 = 227 from rfl, g1, n32_id (x := (vo t).ma v - 1) (by omega) (by omega), n32_id (x := (x : Int)) (by omega) (by omega)]
        refine ⟨⟨f3, by omega⟩, fun _ => k u ?_ ?_, fun q => by omega⟩
        · unfold levT remT
          rw [← ev]
          have er : u 228 = fun j => if 30 * v + plT (vo t) p ≤ j ∧ j < 30 * v + (vo t).ma v - 1 then (vo t).rw (j + 1) else (vo t).rw j := by
            funext j
            rw [g2 j]
            by_cases q : 30 * v + plT (vo t) p ≤ j ∧ j < 30 * v + x
            · rw [if_pos q, if_pos (by omega)]; rfl
            · rw [if_neg q, if_neg (by omega)]; rfl
          have em : u 227 = fu (t 227) v (t 227 v - 1) := by rw [g3 227 (by decide), e1, up_f]
          have eo : ∀ a : Nat, a ≠ 228 → a ≠ 227 → u a = t a := fun a a1 a2 => by rw [g3 a a1, e1, up_c a2]
          show (⟨u 211 28, u 211 37, u 225, u 226, u 227, u 228, u 229, u 230, u 211 35, u 231⟩ : Sh) = _
          rw [er, em, eo 211 (by decide) (by decide), eo 225 (by decide) (by decide), eo 226 (by decide) (by decide), eo 229 (by decide) (by decide), eo 230 (by decide) (by decide), eo 231 (by decide) (by decide)]
          rfl
        · intro a j q
          have a1 : a ≠ 228 := fun z => by rw [scR_ref (a := a) (j := j) (by omega) (by omega)] at q; cases q
          have a2 : a ≠ 227 := fun z => by rw [scR_ref (a := a) (j := j) (by omega) (by omega)] at q; cases q
          rw [g3 a a1, e1, up_c a2]
      | succ d ih =>
        intro x hx hv u g1 g2 g3
        apply h23
        rw [show mm_rt 211 31 = 227 from rfl, show mm_rt 211 32 = 228 from rfl, g1, n32_id (x := (vo t).ma v - 1) (by omega) (by omega), n32_id (x := (x : Int)) (by omega) (by omega)]
        refine ⟨⟨f3, by omega⟩, fun q => by omega, fun _ => ⟨⟨by omega, by omega⟩, ⟨by omega, by omega⟩, fun u1 e4 y e5 => ?_⟩⟩
        subst e5
        rw [show (x : Int) + 1 = ((x + 1 : Nat) : Int) by omega]
        subst e4
        refine ih (x + 1) (by omega) (by omega) _ (by rw [up_c (by decide)]; exact g1) (fun j => ?_) (fun a a1 => by rw [up_c a1]; exact g3 a a1)
        by_cases q : j = 30 * v + x
        · rw [q, up_e, if_pos (by omega), g2, if_neg (by omega)]
        · rw [up_n (Or.inr q), g2]
          by_cases q2 : 30 * v + plT (vo t) p ≤ j ∧ j < 30 * v + x
          · rw [if_pos q2, if_pos (by omega)]
          · rw [if_neg q2, if_neg (by omega)]
    have ez : (((plT (vo t) p).toNat : Nat) : Int) = plT (vo t) p := by omega
    have := key ((vo t).ma v - 1 - plT (vo t) p).toNat (plT (vo t) p).toNat (by omega) (by omega) t1 (by rw [e1, up_e]; rfl) (fun j => by rw [if_neg (by omega), i2]) (fun a a1 => rfl)
    rw [ez] at this
    exact this
theorem u_tur {C S : Int} {t : mm_M} {T : Sh} (hC : C ≤ 3) (hS : S ≤ 5) (e : vo t = T) (w : wf C S T) {p : Int} {post : mm_M → Prop} (hp : 0 ≤ p ∧ p < 30) (h0 : T.pe (7 * p + 2) = 0) (hb : 0 ≤ t 211 18 ∧ t 211 18 ≤ 9) (k : ∀ t', vo t' = turT (t 211 17) (t 211 18) T p → agR t t' → post t') : wp_X11_turns 211 p t post := by
  unfold wp_X11_turns
  refine u_lev hC e w hp h0 (fun t1 v1 a1 => ?_)
  refine u_of v1 (by omega) ?_
  refine u_sets v1 (by omega) (fun t2 v2 a2 => ?_)
  refine u_sets v2 (by omega) (fun t3 v3 a3 => ?_)
  have a3 := (a1.tr a2).tr a3
  have m3 : t3 211 28 = T.mn := by
    have : (vo t3).mn = T.mn := by rw [v3]; rfl
    exact this
  rw [m3, a3 211 18 rfl]
  refine u_sets v3 (by omega) (fun t4 v4 a4 => ?_)
  have v4 : vo t4 = setsT (setsT (setsT (levT T p) p 5 (T.pe (7 * p + 5) + 1)) p 2 1) p 6 (T.mn + t 211 18) := v4
  have a4 := a3.tr a4
  rw [a4 211 18 rfl, n32_id (x := t 211 18) (by omega) (by omega)]
  have wz := w.tur0 hp.1 hp.2 h0 hb
  have ez : (setsT (setsT (setsT (levT T p) p 5 (T.pe (7 * p + 5) + 1)) p 2 1) p 6 (T.mn + t 211 18)).pe (7 * p + 2) = 1 := by
    show fu _ _ _ _ = _
    rw [fu_n (by omega)]
    exact fu_e
  have fz := wz.pf p hp.1 hp.2 (by rw [ez]; omega)
  refine ⟨fun q => k t4 (by unfold turT; rw [if_neg q]; exact v4) a4, fun q => ?_⟩
  have rm := wz.room fz.2.2.1 fz.2.2.2.1 hp.1 hp.2 (by rw [ez]; omega)
  have mz := wz.ma0 _ fz.2.2.1 fz.2.2.2.1
  refine u_ent v4 hp ⟨fz.2.2.1, by have := fz.2.2.2.1; omega⟩ ⟨mz.1, rm⟩ ⟨fz.1, by have := fz.2.1; omega⟩ (fun t5 v5 a5 => k t5 ?_ (a4.tr a5))
  unfold turT
  rw [if_pos q]
  rw [a4 211 17 rfl] at v5
  exact v5
theorem u_giv {C S : Int} {t : mm_M} {T : Sh} (hC : C ≤ 3) (hS : S ≤ 5) (e : vo t = T) (w : wf C S T) {p : Int} {post : mm_M → Prop} (hp : 0 ≤ p ∧ p < 30) (hg : T.pe (7 * p + 2) ≠ -1) (k : ∀ t', vo t' = givT T p → agR t t' → post t') : wp_X11_givesUp 211 p t post := by
  have f := w.pf p hp.1 hp.2 hg
  have hh := w.ho p hp.1 hp.2
  intro L14 h14
  have go : ∀ t1, vo t1 = (if T.pe (7 * p + 2) = 0 then levT T p else T) → agR t t1 → L14 t1 := by
    intro t1 v1 a1
    apply h14
    refine u_of0 v1 hp ?_
    have ep : (if T.pe (7 * p + 2) = 0 then levT T p else T).pe (7 * p) = T.pe (7 * p) := by split <;> rfl
    rw [ep]
    refine u_tells v1 (by have := f.1; have := f.2.1; omega) (fun t2 v2 a2 => ?_)
    exact u_sets v2 (by omega) (fun t3 v3 a3 => k t3 v3 ((a1.tr a2).tr a3))
  refine u_of e (by omega) ?_
  rw [n32_id (x := T.pe (7 * p + 2)) (by omega) (by omega)]
  refine ⟨fun q => go t (by rw [if_neg q]; exact e) agR.rf, fun q => ?_⟩
  exact u_lev hC e w hp q (fun t1 v1 a1 => go t1 (by rw [if_pos q]; exact v1) a1)
theorem u_free {C S : Int} {t : mm_M} {T : Sh} (e : vo t = T) (w : wf C S T) {post : Int → mm_M → Prop} (k : post (if freN T < 30 then freN T else -1) t) : wp_X11_free 211 t post := by
  intro L2 L24 h2 h24
  have key : ∀ d x : Nat, x + d = 30 → plc (fun p => T.pe (7 * p + 2)) (-1) d x = freN T → L2 x t := by
    intro d
    induction d with
    | zero =>
      intro x hx e
      apply h2
      rw [n32_id (x := (x : Int)) (by omega) (by omega)]
      refine ⟨fun _ => ?_, fun q => by omega⟩
      have e : (x : Int) = freN T := e
      apply h24
      rw [n32_id (x := (x : Int)) (by omega) (by omega)]
      rw [if_neg (by omega)] at k
      exact ⟨fun _ => k, fun q => by omega⟩
    | succ d ih =>
      intro x hx e2
      have hh := w.ho x (by omega) (by omega)
      apply h2
      rw [n32_id (x := (x : Int)) (by omega) (by omega)]
      refine ⟨fun q => by omega, fun _ => u_of e (by omega) ?_⟩
      rw [n32_id (x := T.pe (7 * x + 2)) (by omega) (by omega)]
      refine ⟨fun hg => ?_, fun hg v ev => ?_⟩
      · rw [plc_s, if_pos hg] at e2
        apply h24
        rw [n32_id (x := (x : Int)) (by omega) (by omega)]
        rw [← e2, if_pos (by omega)] at k
        exact ⟨fun q => by omega, fun _ => k⟩
      · rw [plc_s, if_neg hg] at e2
        rw [ev, show (x : Int) + 1 = ((x + 1 : Nat) : Int) by omega]
        exact ih (x + 1) (by omega) e2
  exact key 30 0 rfl rfl
theorem u_arr {C S : Int} {t : mm_M} {T : Sh} (hC : C ≤ 3) (hS : S ≤ 5) (e : vo t = T) (w : wf C S T) {p c1 c2 ins : Int} {post : mm_M → Prop} (hp : 0 ≤ p ∧ p < 30) (hg : T.pe (7 * p + 2) = -1) (h1 : 0 ≤ c1 ∧ c1 < S) (h2 : 0 ≤ c2 ∧ c2 < C) (hi : n32 ins = ins) (k : ∀ t', vo t' = arrT (t 211 17) T p c1 c2 ins → agR t t' → post t') : wp_X11_arrives 211 p c1 c2 ins t post := by
  unfold wp_X11_arrives
  have w2 := (w.new hp.1 hp.2 hg h1 h2).tells (c := c1) (x := 0) (n := 1) (by omega)
  have nf := new_f T p c1 c2
  refine u_sets e (by omega) (fun t1 v1 a1 => ?_)
  refine u_sets v1 (by omega) (fun t2 v2 a2 => ?_)
  have m2 : t2 211 28 = T.mn := by
    have : (vo t2).mn = T.mn := by rw [v2]; rfl
    exact this
  rw [m2]
  refine u_sets v2 (by omega) (fun t3 v3 a3 => ?_)
  refine u_sets v3 (by omega) (fun t4 v4 a4 => ?_)
  refine u_sets v4 (by omega) (fun t5 v5 a5 => ?_)
  refine u_sets v5 (by omega) (fun t6 v6 a6 => ?_)
  refine u_sets v6 (by omega) (fun t7 v7 a7 => ?_)
  have a7 := (((((a1.tr a2).tr a3).tr a4).tr a5).tr a6).tr a7
  refine u_tells v7 (by omega) (fun t8 v8 a8 => ?_)
  have a8 := a7.tr a8
  have v8 : vo t8 = tellsT (newT T p c1 c2) c1 0 1 := by
    rw [v8]
    unfold newT setsT
    dsimp only [sd_mn, sd_lot, sd_st, sd_bu, sd_ma, sd_rw, sd_pe, sd_t7, sd_en, sd_bk]
    rw [show 7 * p + 0 = 7 * p by omega]
  rw [hi]
  refine ⟨fun q => k t8 (by unfold arrT; rw [if_pos q]; exact v8) a8, fun q => ?_⟩
  have rm := w2.room h2.1 h2.2 hp.1 hp.2 (show (tellsT (newT T p c1 c2) c1 0 1).pe (7 * p + 2) ≠ 0 from by rw [show (tellsT (newT T p c1 c2) c1 0 1).pe (7 * p + 2) = 2 from nf.2.2]; omega)
  have mz := w2.ma0 _ h2.1 h2.2
  have e1 : (tellsT (newT T p c1 c2) c1 0 1).pe (7 * p + 1) = c2 := nf.2.1
  have e0 : (tellsT (newT T p c1 c2) c1 0 1).pe (7 * p) = c1 := nf.1
  refine u_ent v8 hp (by rw [e1]; omega) (by rw [e1]; exact ⟨mz.1, rm⟩) (by rw [e0]; omega) (fun t9 v9 a9 => k t9 ?_ (a8.tr a9))
  unfold arrT
  rw [if_neg q]
  rw [a8 211 17 rfl] at v9
  exact v9
