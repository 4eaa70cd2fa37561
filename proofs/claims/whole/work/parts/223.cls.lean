theorem fu_c {f : Int → Int} {i j a b : Int} (h : i ≠ j) : fu (fu f i a) j b = fu (fu f j b) i a := by
  funext k
  unfold fu
  by_cases h1 : k = i <;> by_cases h2 : k = j
  · omega
  · rw [if_neg h2, if_pos h1, if_pos h1]
  · rw [if_pos h2, if_neg h1, if_pos h2]
  · rw [if_neg h2, if_neg h1, if_neg h1, if_neg h2]
theorem fu_o {f : Int → Int} {i a b : Int} : fu (fu f i a) i b = fu f i b := by
  funext k
  unfold fu
  by_cases h1 : k = i
  · rw [if_pos h1, if_pos h1]
  · rw [if_neg h1, if_neg h1, if_neg h1]
theorem plc_no (f : Int → Int) (p : Int) : ∀ (n : Nat) (k : Int), plc f p n k ≤ k + n ∧ (plc f p n k < k + n → f (plc f p n k) = p) := by
  intro n
  induction n with
  | zero => intro k; unfold plc; omega
  | succ n ih =>
    intro k
    unfold plc
    by_cases h : f k = p
    · rw [if_pos h]; exact ⟨by omega, fun _ => h⟩
    · rw [if_neg h]
      have := ih (k + 1)
      exact ⟨by omega, fun q => this.2 (by omega)⟩
theorem plc_s (f : Int → Int) (p : Int) (n : Nat) (k : Int) : plc f p (n + 1) k = if f k = p then k else plc f p n (k + 1) := rfl
def freN (T : Sh) : Int := plc (fun p => T.pe (7 * p + 2)) (-1) 30 0
theorem freN_ok (T : Sh) : 0 ≤ freN T ∧ freN T ≤ 30 ∧ (freN T < 30 → T.pe (7 * freN T + 2) = -1) := by
  have g := plc_ge (fun p => T.pe (7 * p + 2)) (-1) 30 0
  have h := plc_no (fun p => T.pe (7 * p + 2)) (-1) 30 0
  exact ⟨g, by have := h.1; unfold freN; omega, fun q => h.2 (by unfold freN at q; omega)⟩
theorem t_free {C S : Int} {T : Sh} {s : mm_M} {post : Int → mm_M → Prop} (r : rep s 29 C S T) (w : wf C S T) (k : post (if freN T < 30 then freN T else -1) s) : wp_X7_freeNumber 29 s post := by
  intro L2 h2
  have key : ∀ d x : Nat, x + d = 30 → plc (fun p => T.pe (7 * p + 2)) (-1) d x = freN T → L2 x s := by
    intro d
    induction d with
    | zero =>
      intro x hx e
      apply h2
      rw [n32_id (x := (x : Int)) (by omega) (by omega)]
      refine ⟨fun _ => ?_, fun q => by omega⟩
      have e : (x : Int) = freN T := e
      rw [if_neg (by omega)] at k
      exact k
    | succ d ih =>
      intro x hx e
      apply h2
      rw [n32_id (x := (x : Int)) (by omega) (by omega)]
      refine ⟨fun q => by omega, fun _ => t_who r w ⟨by omega, by omega⟩ (fun hg => ⟨fun q => (by cases q), fun t ht v ev => ?_⟩) (fun hg => ⟨fun _ => ?_, fun t ht => (by cases ht)⟩)⟩
      · rw [plc_s, if_neg hg] at e
        rw [ev, show (x : Int) + 1 = ((x + 1 : Nat) : Int) by omega]
        exact ih (x + 1) (by omega) e
      · rw [plc_s, if_pos hg] at e
        rw [← e, if_pos (by omega)] at k
        exact k
  exact key 30 0 rfl rfl
theorem t_new {C S : Int} {T : Sh} {s : mm_M} {p : Nat} {c1 c2 : Int} {post : mm_M → Prop} (hC : C ≤ 3) (r : rep s 29 C S T) (hp : p < 30) (k : ∀ s', rep s' 29 C S (newT T p c1 c2) → agC s s' → post s') : wp_X5_arrive (35 + p) c1 c2 (s 29 7) s post := by
  intro s1 e1 s2 e2 s3 e3 s4 e4 s5 e5 s6 e6 s7 e7
  rw [r.mn] at e4
  have sc : ∀ j, scC (35 + p) j = true := fun j => scC_shop (by omega) (by omega)
  have a : agC s s7 := by
    rw [e7, e6, e5, e4, e3, e2, e1]
    exact ((((((agC.rf.up (sc _)).up (sc _)).up (sc _)).up (sc _)).up (sc _)).up (sc _)).up (sc _)
  have e : ∀ x : Nat, x ≠ 35 + p → s7 x = s x := fun x hx => by
    rw [e7, e6, e5, e4, e3, e2, e1, up_c hx, up_c hx, up_c hx, up_c hx, up_c hx, up_c hx, up_c hx]
  refine k s7 ⟨by rw [e _ (by omega)]; exact r.mn, by rw [e _ (by omega)]; exact r.lot, fun c hc => by rw [e _ (by omega), e _ (by omega)]; exact r.dk c hc, fun q hq => ?_, fun j => by rw [e _ (by omega)]; exact r.tt j, by rw [e _ (by omega)]; exact r.en, fun j => by rw [e _ (by omega)]; exact r.bk j⟩ a
  by_cases h : q = p
  · subst h
    rw [show 29 + 6 + q = 35 + q by omega]
    subst e7; subst e6; subst e5; subst e4; subst e3; subst e2; subst e1
    unfold newT fu mm_up
    dsimp only [sd_mn, sd_lot, sd_st, sd_bu, sd_ma, sd_rw, sd_pe, sd_t7, sd_en, sd_bk]
    refine ⟨?_, fun _ => ⟨?_, ?_, ?_, ?_, ?_, ?_⟩⟩ <;> grind
  · rw [e _ (by omega)]
    have o : ∀ w : Int, 0 ≤ w → w < 7 → (newT T p c1 c2).pe (7 * q + w) = T.pe (7 * q + w) := by
      intro w w1 w2
      show fu _ _ _ _ = _
      rw [fu_n (by omega), fu_n (by omega), fu_n (by omega), fu_n (by omega), fu_n (by omega), fu_n (by omega), fu_n (by omega)]
    have o0 := o 0 (by omega) (by omega)
    rw [show 7 * (q : Int) + 0 = 7 * q by omega] at o0
    rw [o 2 (by omega) (by omega), o0, o 1 (by omega) (by omega), o 3 (by omega) (by omega), o 4 (by omega) (by omega), o 5 (by omega) (by omega), o 6 (by omega) (by omega)]
    exact r.pp q hq
def arrT (fee : Int) (T : Sh) (p c1 c2 ins : Int) : Sh := if ins = 0 then tellsT (newT T p c1 c2) c1 0 1 else entT fee (tellsT (newT T p c1 c2) c1 0 1) p
theorem wf.arr {C S : Int} {T : Sh} (w : wf C S T) {p c1 c2 ins fee : Int} (p1 : 0 ≤ p) (p2 : p < 30) (hg : T.pe (7 * p + 2) = -1) (h1 : 0 ≤ c1 ∧ c1 < S) (h2 : 0 ≤ c2 ∧ c2 < C) : wf C S (arrT fee T p c1 c2 ins) := by
  have a := (w.new p1 p2 hg h1 h2).tells (c := c1) (x := 0) (n := 1) (by omega)
  have e : (tellsT (newT T p c1 c2) c1 0 1).pe (7 * p + 2) = 2 := fu_e
  unfold arrT
  by_cases q : ins = 0
  · rw [if_pos q]; exact a
  · rw [if_neg q]; exact a.ent p1 p2 (by omega) (by omega)
theorem new_f (T : Sh) (p c1 c2 : Int) : (newT T p c1 c2).pe (7 * p) = c1 ∧ (newT T p c1 c2).pe (7 * p + 1) = c2 ∧ (newT T p c1 c2).pe (7 * p + 2) = 2 := by
  refine ⟨?_, ?_, fu_e⟩
  · show fu _ _ _ _ = _
    rw [fu_n (by omega), fu_n (by omega), fu_n (by omega), fu_n (by omega), fu_n (by omega), fu_n (by omega), fu_e]
  · show fu _ _ _ _ = _
    rw [fu_n (by omega), fu_n (by omega), fu_n (by omega), fu_n (by omega), fu_n (by omega), fu_e]
/-- one comes -/
theorem t_arrive {C S : Int} {T : Sh} {s : mm_M} {c1 c2 ins : Int} {post : Int → mm_M → Prop} (hW : tw C S s) (r : rep s 29 C S T) (w : wf C S T) (h1 : 0 ≤ c1 ∧ c1 < S) (h2 : 0 ≤ c2 ∧ c2 < C) (hi : n32 ins = ins) (k : freN T < 30 → ∀ s', rep s' 29 C S (arrT (s 211 17) T (freN T) c1 c2 ins) → agC s s' → post (freN T) s') (k2 : ¬ freN T < 30 → post (-1) s) : wp_X7_arrive 29 c1 c2 ins s post := by
  unfold wp_X7_arrive
  refine t_free r w ?_
  intro v ev
  have fo := freN_ok T
  by_cases q : freN T < 30
  · rw [if_pos q] at ev
    subst ev
    rw [n32_id (x := freN T) (by omega) (by omega), hi, show mm_rt 29 3 = 30 from rfl, rt_p (freN T).toNat (by omega)]
    refine ⟨fun z => by omega, fun _ => ⟨fun _ => ⟨⟨by omega, by omega⟩, ?_⟩, fun z => by omega⟩⟩
    have ep : (((freN T).toNat : Nat) : Int) = freN T := by omega
    refine t_new hW.c0.2 r (by omega) (fun s1 r1 a1 => ?_)
    rw [ep] at r1
    have nf := new_f T (freN T) c1 c2
    have w1 := w.new fo.1 q (fo.2.2 q) h1 h2
    refine t_raise (hW.fC a1) r1 h1 (by omega) (fun s2 r2 a2 => ?_)
    have w2 := w1.tells (c := c1) (x := 0) (n := 1) (by omega)
    have k := k q
    refine ⟨fun z => k s2 (by unfold arrT; rw [if_pos z]; exact r2) (a1.tr a2), fun z => ?_⟩
    have hg : (tellsT (newT T (freN T) c1 c2) c1 0 1).pe (7 * freN T + 2) = 2 := nf.2.2
    have a2 := a1.tr a2
    have h17 : s2 211 17 = s 211 17 := a2 211 17 rfl
    have e1 : (tellsT (newT T (freN T) c1 c2) c1 0 1).pe (7 * freN T + 1) = c2 := nf.2.1
    have e0 : (tellsT (newT T (freN T) c1 c2) c1 0 1).pe (7 * freN T) = c1 := nf.1
    have tc := t_comeIn (p := (freN T).toNat) (post := fun s_9 => post (freN T) s_9) (hW.fC a2) r2 (by omega) (by rw [ep, hg]; omega) (by rw [ep, e0]; exact h1) (by rw [ep, e1]; exact h2) w2.ma0 (by rw [ep, e1]; exact w2.room h2.1 h2.2 fo.1 q (by rw [hg]; omega)) (fun s3 r3 a3 => k s3 (by unfold arrT; rw [if_neg z]; rw [ep, h17] at r3; exact r3) (a2.tr a3))
    rw [ep] at tc
    exact tc
  · rw [if_neg q] at ev
    subst ev
    rw [m_m1]
    exact ⟨fun _ => k2 q, fun z => by omega⟩
def turT (fee bow : Int) (T : Sh) (p : Int) : Sh := if bow = 0 then entT fee (setsT (setsT (setsT (levT T p) p 5 (T.pe (7 * p + 5) + 1)) p 2 1) p 6 (T.mn + bow)) p else setsT (setsT (setsT (levT T p) p 5 (T.pe (7 * p + 5) + 1)) p 2 1) p 6 (T.mn + bow)
theorem ent_s {fee : Int} {T : Sh} {p v x : Int} : entT fee (setsT (setsT T p 2 v) p 6 x) p = entT fee T p := by
  unfold entT setsT
  dsimp only [sd_mn, sd_lot, sd_st, sd_bu, sd_ma, sd_rw, sd_pe, sd_t7, sd_en, sd_bk]
  rw [fu_n (show 7 * p + 1 ≠ 7 * p + 6 by omega), fu_n (show 7 * p + 1 ≠ 7 * p + 2 by omega), fu_n (show 7 * p ≠ 7 * p + 6 by omega), fu_n (show 7 * p ≠ 7 * p + 2 by omega)]
  rw [fu_c (i := 7 * p + 6) (j := 7 * p + 2) (by omega), fu_o, fu_c (i := 7 * p + 6) (j := 7 * p + 4) (by omega), fu_o]
theorem wf.tur0 {C S : Int} {T : Sh} (w : wf C S T) {p bow : Int} (p1 : 0 ≤ p) (p2 : p < 30) (h0 : T.pe (7 * p + 2) = 0) (hb : 0 ≤ bow ∧ bow ≤ 9) : wf C S (setsT (setsT (setsT (levT T p) p 5 (T.pe (7 * p + 5) + 1)) p 2 1) p 6 (T.mn + bow)) := by
  have a := w.out p1 p2 h0 (v := 1) (by omega)
  have f := w.pf p p1 p2 (by omega)
  have b := a.set p1 p2 (x := 5) (v := T.pe (7 * p + 5) + 1) (by omega)
  have m := w.mn0
  have c := b.set p1 p2 (x := 6) (v := T.mn + bow) (by omega)
  have e : setsT (setsT (levT T p) p 5 (T.pe (7 * p + 5) + 1)) p 2 1 = setsT (outT T p 1) p 5 (T.pe (7 * p + 5) + 1) := by
    unfold outT setsT
    dsimp only [sd_mn, sd_lot, sd_st, sd_bu, sd_ma, sd_rw, sd_pe, sd_t7, sd_en, sd_bk]
    rw [fu_c (by omega)]
  rw [e]
  exact c
theorem wf.tur {C S : Int} {T : Sh} (w : wf C S T) {p bow fee : Int} (p1 : 0 ≤ p) (p2 : p < 30) (h0 : T.pe (7 * p + 2) = 0) (hb : 0 ≤ bow ∧ bow ≤ 9) : wf C S (turT fee bow T p) := by
  have a := w.tur0 p1 p2 h0 hb
  unfold turT
  by_cases q : bow = 0
  · rw [if_pos q]
    have e : (setsT (setsT (setsT (levT T p) p 5 (T.pe (7 * p + 5) + 1)) p 2 1) p 6 (T.mn + bow)).pe (7 * p + 2) = 1 := by
      show fu _ _ _ _ = _
      rw [fu_n (by omega)]
      exact fu_e
    exact a.ent p1 p2 (by omega) (by omega)
  · rw [if_neg q]; exact a
theorem t_goOut {C S : Int} {T : Sh} {s : mm_M} {p : Nat} {post : mm_M → Prop} (hW : tw C S s) (r : rep s 29 C S T) (w : wf C S T) (hp : p < 30) (h0 : T.pe (7 * p + 2) = 0) (k : ∀ s', rep s' 29 C S (turT (s 211 17) (s 211 18) T p) → agC s s' → post s') : wp_X7_goOut 29 p (35 + p) s post := by
  have f := w.pf p (by omega) (by omega) (by omega)
  have hC3 := hW.c0
  have wW := hW.w
  have hb : s 211 18 = (if s 9 8 < 0 then 0 else s 9 8) := wW.2.2.2.2.2.2.2.2.2.2.2.2.1
  have hb1 := wW.2.2.2.2.2.2.2.2.2.2.1
  have hb2 := wW.2.2.2.2.2.2.2.2.2.2.2.1
  have hb0 : 0 ≤ s 211 18 ∧ s 211 18 ≤ 9 := by rw [hb]; split <;> omega
  unfold wp_X7_goOut
  refine t_aside hW r w hp (by omega) (fun _ s1 r1 a1 => ?_) (fun z => absurd h0 z)
  intro s3 e3
  have h0' : (levT T p).pe (7 * p + 2) = 0 := by rw [lev_pe]; exact h0
  have g := (r1.pp p hp).2 (by rw [h0']; omega)
  rw [show 29 + 6 + p = 35 + p by omega] at g
  rw [g.2.2.2.2.1, lev_pe] at e3
  have r3 := r1.pe hC3.2 hp (by rw [h0']; omega) (i := 5) (o := 5) (by unfold slot; omega) e3
  have sc : ∀ j, scC (35 + p) j = true := fun j => scC_shop (by omega) (by omega)
  have a3 : agC s s3 := by rw [e3]; exact a1.up (sc _)
  have n3 : (setsT (levT T p) p 5 (T.pe (7 * p + 5) + 1)).pe (7 * p + 2) = 0 := by rw [sets_pe, fu_n (by omega)]; exact h0'
  have b9 : ∀ s' : mm_M, agC s s' → mm_max (s' 9 8) 0 = s 211 18 := fun s' a => by
    have : s' 9 8 = s 9 8 := a 9 8 rfl
    rw [this, mx_0 hb1 (by omega), hb]
  unfold wp_X9_bow
  dsimp only [sd_mn, sd_lot, sd_st, sd_bu, sd_ma, sd_rw, sd_pe, sd_t7, sd_en, sd_bk]
  rw [show mm_rt 29 0 = 9 from rfl, b9 s3 a3, n32_id (x := s 211 18) (by omega) (by omega)]
  refine ⟨fun q s6 e6 => ?_, fun q => ?_⟩
  · have a6 : agC s s6 := by rw [e6]; exact a3.up (sc _)
    have r6 := r3.pe hC3.2 hp (by rw [n3]; omega) (i := 0) (o := 2) (by unfold slot; omega) e6
    have m6 : s6 29 7 = T.mn := by rw [r6.mn, sets_mn, sets_mn, lev_mn]
    rw [b9 s6 a6, m6]
    intro s9 e9
    have n6 : (setsT (setsT (levT T p) p 5 (T.pe (7 * p + 5) + 1)) p 2 1).pe (7 * p + 2) ≠ -1 := by rw [sets_pe, fu_e]; omega
    have r9 := r6.pe hC3.2 hp n6 (i := 6) (o := 6) (by unfold slot; omega) e9
    refine k s9 ?_ (by rw [e9]; exact a6.up (sc _))
    unfold turT
    rw [if_neg q]
    exact r9
  · have w3 := w.tur0 (p := p) (by omega) (by omega) h0 hb0
    have f3 := w3.pf p (by omega) (by omega) (by rw [sets_pe, fu_n (by omega), sets_pe, fu_e]; omega)
    have rm := w3.room f3.2.2.1 f3.2.2.2.1 (p := p) (by omega) (by omega) (by rw [sets_pe, fu_n (by omega), sets_pe, fu_e]; omega)
    have z0 : (setsT (levT T p) p 5 (T.pe (7 * p + 5) + 1)).pe (7 * p) = T.pe (7 * p) := by rw [sets_pe, fu_n (by omega), lev_pe]
    have z1 : (setsT (levT T p) p 5 (T.pe (7 * p + 5) + 1)).pe (7 * p + 1) = T.pe (7 * p + 1) := by rw [sets_pe, fu_n (by omega), lev_pe]
    have z3 : (setsT (setsT (setsT (levT T p) p 5 (T.pe (7 * p + 5) + 1)) p 2 1) p 6 (T.mn + s 211 18)).pe (7 * p + 1) = T.pe (7 * p + 1) := by
      rw [sets_pe, fu_n (by omega), sets_pe, fu_n (by omega), sets_pe, fu_n (by omega), lev_pe]
    rw [z3, sets_ma, sets_ma, sets_ma] at rm
    have wm : ∀ d : Int, 0 ≤ d → d < C → 0 ≤ (setsT (levT T p) p 5 (T.pe (7 * p + 5) + 1)).ma d ∧ (setsT (levT T p) p 5 (T.pe (7 * p + 5) + 1)).ma d ≤ 30 := fun d d1 d2 => by
      have := w3.ma0 d d1 d2
      rw [sets_ma, sets_ma, sets_ma] at this
      rw [sets_ma]
      exact this
    have h17 : s3 211 17 = s 211 17 := a3 211 17 rfl
    refine t_comeIn (hW.fC a3) r3 hp (by rw [n3]; omega) (by rw [z0]; exact ⟨f.1, f.2.1⟩) (by rw [z1]; exact ⟨f.2.2.1, f.2.2.2.1⟩) wm (by rw [z1, sets_ma]; exact rm) (fun s4 r4 a4 => k s4 ?_ (a3.tr a4))
    unfold turT
    rw [if_pos q, ent_s]
    rw [h17] at r4
    exact r4
def givT (T : Sh) (p : Int) : Sh := setsT (tellsT (if T.pe (7 * p + 2) = 0 then levT T p else T) (T.pe (7 * p)) 2 1) p 2 (-1)
theorem wf.giv {C S : Int} {T : Sh} (w : wf C S T) {p : Int} (p1 : 0 ≤ p) (p2 : p < 30) : wf C S (givT T p) := by
  unfold givT
  by_cases q : T.pe (7 * p + 2) = 0
  · rw [if_pos q]
    exact (w.out p1 p2 q (v := -1) (by omega)).tells (c := T.pe (7 * p)) (x := 2) (n := 1) (by omega)
  · rw [if_neg q]
    exact (w.gone p1 p2 q).tells (c := T.pe (7 * p)) (x := 2) (n := 1) (by omega)
theorem t_giveUp {C S : Int} {T : Sh} {s : mm_M} {p : Nat} {post : mm_M → Prop} (hW : tw C S s) (r : rep s 29 C S T) (w : wf C S T) (hp : p < 30) (hg : T.pe (7 * p + 2) ≠ -1) (k : ∀ s', rep s' 29 C S (givT T p) → agC s s' → post s') : wp_X7_giveUp 29 p (35 + p) s post := by
  have f := w.pf p (by omega) (by omega) hg
  have hC3 := hW.c0
  have sc : ∀ j, scC (35 + p) j = true := fun j => scC_shop (by omega) (by omega)
  have go : ∀ T1 : Sh, T1.pe = T.pe → (T1 = if T.pe (7 * p + 2) = 0 then levT T p else T) → ∀ s1, rep s1 29 C S T1 → agC s s1 → (∀ s_3 : mm_M, s_3 = mm_up s1 (35 + p) 0 (-1) → (wp_X7_raise 29 (s_3 (35 + p) 1) 2 1 s_3 (fun s_4 => post s_4))) := by
    intro T1 ep eT s1 r1 a1 s3 e3
    have g := (r1.pp p hp).2 (by rw [ep]; exact hg)
    rw [show 29 + 6 + p = 35 + p by omega] at g
    have r3 := r1.pe hC3.2 hp (by rw [ep]; exact hg) (i := 0) (o := 2) (by unfold slot; omega) e3
    have a3 : agC s s3 := by rw [e3]; exact a1.up (sc _)
    have e1 : s3 (35 + p) 1 = T.pe (7 * p) := by rw [e3, up_n (Or.inr (by omega)), g.1, ep]
    rw [e1]
    refine t_raise (hW.fC a3) r3 ⟨f.1, f.2.1⟩ (by omega) (fun s4 r4 a4 => k s4 ?_ (a3.tr a4))
    unfold givT
    rw [← eT]
    exact r4
  unfold wp_X7_giveUp
  refine t_aside hW r w hp hg (fun z s1 r1 a1 => ?_) (fun z => ?_)
  · exact go (levT T p) rfl (by rw [if_pos z]) s1 r1 a1
  · exact go T rfl (by rw [if_neg z]) s r agC.rf
