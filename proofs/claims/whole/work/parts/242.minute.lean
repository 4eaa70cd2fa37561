theorem t_counted {C S : Int} {T : Sh} {s : mm_M} {a w : Int} {post : Int → mm_M → Prop} (hW : tw C S s) (r : rep s 29 C S T) (h : 0 ≤ a ∧ a < S) (hw : 0 ≤ w ∧ w < 7) (hp : post (T.t7 (7 * a + w)) s) : wp_X7_counted 29 a w s post := by
  have h5 := hW.s0
  have ha : n32 a = a := n32_id (by omega) (by omega)
  have ew : n32 w = w := n32_id (by omega) (by omega)
  unfold wp_X7_counted
  rw [show mm_rt 29 0 = 9 from rfl]
  refine t_hasS hW (fun _ _ => ⟨fun q => absurd q (by decide), fun _ => ?_⟩) (fun q => by rw [ha] at q; omega)
  have t := r.tt (7 * a + w) (by omega) (by omega)
  have t : s 32 (7 * a + w) = T.t7 (7 * a + w) := t
  rw [ew, show mm_rt 29 5 = 32 from rfl, show a * 7 + w = 7 * a + w by omega, t]
  exact ⟨fun q => by omega, fun _ => ⟨fun _ => ⟨⟨by omega, by omega⟩, hp⟩, fun q => by omega⟩⟩
theorem tel5 {T : Sh} {i x y m g : Int} : tellsT (tellsT (tellsT (tellsT (tellsT T i 1 1) i 3 x) i 4 y) i 5 m) i 6 g = (⟨T.mn, T.lot, T.st, T.bu, T.ma, T.rw, T.pe, fu (fu (fu (fu (fu T.t7 (7 * i + 1) (T.t7 (7 * i + 1) + 1)) (7 * i + 3) (T.t7 (7 * i + 3) + x)) (7 * i + 4) (T.t7 (7 * i + 4) + y)) (7 * i + 5) (T.t7 (7 * i + 5) + m)) (7 * i + 6) (T.t7 (7 * i + 6) + g), T.en, T.bk⟩ : Sh) := by
  unfold tellsT
  dsimp only [sd_mn, sd_lot, sd_st, sd_bu, sd_ma, sd_rw, sd_pe, sd_t7, sd_en, sd_bk]
  rw [fu_n (show 7 * i + 6 ≠ 7 * i + 5 by omega), fu_n (show 7 * i + 6 ≠ 7 * i + 4 by omega), fu_n (show 7 * i + 6 ≠ 7 * i + 3 by omega), fu_n (show 7 * i + 6 ≠ 7 * i + 1 by omega), fu_n (show 7 * i + 5 ≠ 7 * i + 4 by omega), fu_n (show 7 * i + 5 ≠ 7 * i + 3 by omega), fu_n (show 7 * i + 5 ≠ 7 * i + 1 by omega), fu_n (show 7 * i + 4 ≠ 7 * i + 3 by omega), fu_n (show 7 * i + 4 ≠ 7 * i + 1 by omega), fu_n (show 7 * i + 3 ≠ 7 * i + 1 by omega)]
def ct5 (s : mm_M) (T : Sh) (i x : Int) : Sh := (⟨T.mn, T.lot, T.st, T.bu, T.ma, T.rw, T.pe, fu (fu (fu (fu (fu T.t7 (7 * i + 1) (T.t7 (7 * i + 1) + 1)) (7 * i + 3) (T.t7 (7 * i + 3) + x)) (7 * i + 4) (T.t7 (7 * i + 4) + x * x)) (7 * i + 5) (if T.t7 (7 * i + 5) < x then x else T.t7 (7 * i + 5))) (7 * i + 6) (T.t7 (7 * i + 6) + s 11 (6 * i + 1)), T.en, T.bk⟩ : Sh)
theorem t_cserved {C S : Int} {T : Sh} {s : mm_M} {i x : Int} {post : mm_M → Prop} (hW : tw C S s) (r : rep s 29 C S T) (h : 0 ≤ i ∧ i < S) (hx : 0 ≤ x ∧ x ≤ 240) (h5 : 0 ≤ T.t7 (7 * i + 5) ∧ T.t7 (7 * i + 5) ≤ 240) (hp : ∀ u, rep u 29 C S (ct5 s T i x) → agC s u → post u) : wp_X7_countServed 29 i x s post := by
  unfold wp_X7_countServed
  refine t_raise hW r h (by omega) (fun u1 r1 a1 => ?_)
  refine t_raise (hW.fC a1) r1 h (by omega) (fun u2 r2 a2 => ?_)
  have a2 := a1.tr a2
  refine t_raise (hW.fC a2) r2 h (by omega) (fun u3 r3 a3 => ?_)
  have a3 := a2.tr a3
  refine t_counted (hW.fC a3) r3 h (by omega) ?_
  have e5 : (tellsT (tellsT (tellsT T i 1 1) i 3 x) i 4 (x * x)).t7 (7 * i + 5) = T.t7 (7 * i + 5) := by
    unfold tellsT
    dsimp only [sd_mn, sd_lot, sd_st, sd_bu, sd_ma, sd_rw, sd_pe, sd_t7, sd_en, sd_bk]
    rw [fu_n (by omega), fu_n (by omega), fu_n (by omega)]
  rw [e5]
  refine t_raise (hW.fC a3) r3 h (by omega) (fun u4 r4 a4 => ?_)
  have a4 := a3.tr a4
  refine t_ofS (hW.fC a4) h (by omega) ?_
  refine t_raise (hW.fC a4) r4 h (by omega) (fun u5 r5 a5 => hp u5 ?_ (a4.tr a5))
  rw [tel5, a4.c (a := 11) (fun _ => rfl)] at r5
  have em : T.t7 (7 * i + 5) + mm_max (x - T.t7 (7 * i + 5)) 0 = if T.t7 (7 * i + 5) < x then x else T.t7 (7 * i + 5) := by
    unfold mm_max
    rw [n32_id (x := x - T.t7 (7 * i + 5)) (by omega) (by omega), m_0]
    split <;> split <;> omega
  rw [em] at r5
  exact r5
theorem t_write {C S : Int} {T : Sh} {s : mm_M} {a1 a2 a3 a4 a5 : Int} {post : mm_M → Prop} (hC : C ≤ 3) (r : rep s 29 C S T) (w : wf C S T) (hp : ∀ u, rep u 29 C S (bkT T a1 a2 a3 a4 a5) → agC s u → post u) : wp_X0_write 33 a1 a2 a3 a4 a5 s post := by
  have en0 := w.en0
  have en : s 33 1 = T.en := r.en
  intro L30 h30
  have go : ∀ (u : mm_M) (n : Int) (f : Int → Int), u 33 1 = n → 0 ≤ n → n < 20 → (∀ j, 0 ≤ j → j < 5 * n → u 34 j = f j) → (∀ a : Nat, a ≠ 33 → a ≠ 34 → u a = s a) → agC s u → bkT T a1 a2 a3 a4 a5 = (⟨T.mn, T.lot, T.st, T.bu, T.ma, T.rw, T.pe, T.t7, n + 1, fu (fu (fu (fu (fu f (5 * n) a1) (5 * n + 1) a2) (5 * n + 2) a3) (5 * n + 3) a4) (5 * n + 4) a5⟩ : Sh) → L30 u := by
    intro u n f hn n0 n1 hf ho ag eb
    apply h30
    intro v ev
    have ev : v = 5 * n := by
      rw [ev, hn]
      unfold mm_max
      rw [n32_id (x := n) (by omega) (by omega), m_0, if_neg (by omega)]
      omega
    rw [show mm_rt 33 0 = 34 from rfl, ev, show 5 * n + 0 = 5 * n by omega]
    refine ⟨⟨by omega, by omega⟩, fun s4 e4 => ⟨⟨by omega, by omega⟩, fun s5 e5 => ⟨⟨by omega, by omega⟩, fun s6 e6 => ⟨⟨by omega, by omega⟩, fun s7 e7 => ⟨⟨by omega, by omega⟩, fun s8 e8 s9 e9 => ?_⟩⟩⟩⟩⟩
    have g8 : s8 33 1 = n := by rw [e8, up_c (by decide), e7, up_c (by decide), e6, up_c (by decide), e5, up_c (by decide), e4, up_c (by decide), hn]
    rw [g8] at e9
    have g34 : s9 34 = fu (fu (fu (fu (fu (u 34) (5 * n) a1) (5 * n + 1) a2) (5 * n + 2) a3) (5 * n + 3) a4) (5 * n + 4) a5 := by
      rw [e9, up_c (by decide), e8, up_f, e7, up_f, e6, up_f, e5, up_f, e4, up_f]
    have g33 : s9 33 1 = n + 1 := by rw [e9, up_e]
    have go : ∀ a : Nat, a ≠ 33 → a ≠ 34 → s9 a = s a := fun a b1 b2 => by rw [e9, up_c b1, e8, up_c b2, e7, up_c b2, e6, up_c b2, e5, up_c b2, e4, up_c b2, ho a b1 b2]
    refine hp s9 ?_ (by rw [e9, e8, e7, e6, e5, e4]; exact (((((ag.up (scC_shop (by decide) (by decide))).up (scC_shop (by decide) (by decide))).up (scC_shop (by decide) (by decide))).up (scC_shop (by decide) (by decide))).up (scC_shop (by decide) (by decide))).up (scC_shop (by decide) (by decide)))
    rw [eb]
    refine ⟨by rw [go _ (by omega) (by omega)]; exact r.mn, by rw [go _ (by omega) (by omega)]; exact r.lot, fun c hc => by rw [go _ (by omega) (by omega), go (29 + 37 + 2 * c) (by omega) (by omega)]; exact r.dk c hc, fun p hp => by rw [go _ (by omega) (by omega)]; exact r.pp p hp, fun j => by rw [go _ (by omega) (by omega)]; exact r.tt j, g33, fun j j1 j2 => ?_⟩
    have j2 : j < 5 * (n + 1) := j2
    show s9 34 j = _
    rw [g34]
    dsimp only [sd_mn, sd_lot, sd_st, sd_bu, sd_ma, sd_rw, sd_pe, sd_t7, sd_en, sd_bk]
    unfold fu
    by_cases q4 : j = 5 * n + 4
    · rw [if_pos q4, if_pos q4]
    rw [if_neg q4, if_neg q4]
    by_cases q3 : j = 5 * n + 3
    · rw [if_pos q3, if_pos q3]
    rw [if_neg q3, if_neg q3]
    by_cases q2 : j = 5 * n + 2
    · rw [if_pos q2, if_pos q2]
    rw [if_neg q2, if_neg q2]
    by_cases q1 : j = 5 * n + 1
    · rw [if_pos q1, if_pos q1]
    rw [if_neg q1, if_neg q1]
    by_cases q0 : j = 5 * n
    · rw [if_pos q0, if_pos q0]
    rw [if_neg q0, if_neg q0]
    exact hf j j1 (by omega)
  rw [en, n32_id (x := T.en) (by omega) (by omega)]
  refine ⟨fun q => ?_, fun q => ⟨⟨by omega, by omega, by omega, by omega, by omega⟩, fun s1 e1 s2 e2 => ?_⟩⟩
  · refine go s T.en T.bk en en0.1 q r.bk (fun _ _ _ => rfl) agC.rf ?_
    unfold bkT
    rw [if_neg (show ¬ T.en = 20 by omega), if_neg (show ¬ T.en = 20 by omega)]
  · have e20 : T.en = 20 := by omega
    rw [show mm_rt 33 0 = 34 from rfl] at e1
    refine go s2 19 (fun j => if 0 ≤ j ∧ j < 95 then T.bk (j + 5) else T.bk j) (by rw [e2, up_e]) (by omega) (by omega) (fun j j1 j2 => ?_) (fun a b1 b2 => by rw [e2, up_c b1, e1, cp_c b2]) ?_ ?_
    · rw [e2, up_c (by decide), e1]
      unfold mm_cp
      rw [if_pos ⟨rfl, j1, by omega⟩]
      rw [if_pos ⟨j1, by omega⟩, show 5 + (j - 0) = j + 5 by omega]
      exact r.bk (j + 5) (by omega) (by omega)
    · intro a j q
      have b1 : a ≠ 33 := fun z => by rw [scC_shop (a := a) (j := j) (by omega) (by omega)] at q; cases q
      have b2 : a ≠ 34 := fun z => by rw [scC_shop (a := a) (j := j) (by omega) (by omega)] at q; cases q
      rw [e2, up_c b1, e1, cp_c b2]
    · unfold bkT
      rw [if_pos e20, if_pos e20]
theorem rep.st {s s' : mm_M} {C S : Int} {T : Sh} (hC : C ≤ 3) (r : rep s 29 C S T) {c : Nat} (hc : (c : Int) < C) {v : Int} (e : s' = mm_up s (65 + 2 * c) 2 v) : rep s' 29 C S (⟨T.mn, T.lot, fu T.st c v, T.bu, T.ma, T.rw, T.pe, T.t7, T.en, T.bk⟩ : Sh) := by
  have o : ∀ x : Nat, x ≠ 65 + 2 * c → s' x = s x := fun x hx => by rw [e, up_c hx]
  refine ⟨by rw [o _ (by omega)]; exact r.mn, by rw [o _ (by omega)]; exact r.lot, fun d hd => ?_, fun p hp => by rw [o _ (by omega)]; exact r.pp p hp, fun j => by rw [o _ (by omega)]; exact r.tt j, by rw [o _ (by omega)]; exact r.en, fun j => by rw [o _ (by omega)]; exact r.bk j⟩
  have g := r.dk d hd
  rw [o (29 + 37 + 2 * d) (by omega)]
  show s' (29 + 36 + 2 * d) 1 = T.ma d ∧ s' (29 + 36 + 2 * d) 2 = fu T.st c v d ∧ s' (29 + 36 + 2 * d) 3 = T.bu d ∧ _
  by_cases q : d = c
  · subst q
    rw [show 29 + 36 + 2 * d = 65 + 2 * d by omega] at g ⊢
    rw [fu_e, e, up_e, up_n (Or.inr (by omega)), up_n (Or.inr (by omega))]
    exact ⟨g.1, rfl, g.2.2.1, g.2.2.2⟩
  · rw [fu_n (by omega), o _ (by omega)]
    exact g
theorem rep.bu {s s' : mm_M} {C S : Int} {T : Sh} (hC : C ≤ 3) (r : rep s 29 C S T) {c : Nat} (hc : (c : Int) < C) {v : Int} (e : s' = mm_up s (65 + 2 * c) 3 v) : rep s' 29 C S (⟨T.mn, T.lot, T.st, fu T.bu c v, T.ma, T.rw, T.pe, T.t7, T.en, T.bk⟩ : Sh) := by
  have o : ∀ x : Nat, x ≠ 65 + 2 * c → s' x = s x := fun x hx => by rw [e, up_c hx]
  refine ⟨by rw [o _ (by omega)]; exact r.mn, by rw [o _ (by omega)]; exact r.lot, fun d hd => ?_, fun p hp => by rw [o _ (by omega)]; exact r.pp p hp, fun j => by rw [o _ (by omega)]; exact r.tt j, by rw [o _ (by omega)]; exact r.en, fun j => by rw [o _ (by omega)]; exact r.bk j⟩
  have g := r.dk d hd
  rw [o (29 + 37 + 2 * d) (by omega)]
  show s' (29 + 36 + 2 * d) 1 = T.ma d ∧ s' (29 + 36 + 2 * d) 2 = T.st d ∧ s' (29 + 36 + 2 * d) 3 = fu T.bu c v d ∧ _
  by_cases q : d = c
  · subst q
    rw [show 29 + 36 + 2 * d = 65 + 2 * d by omega] at g ⊢
    rw [fu_e, e, up_e, up_n (Or.inr (by omega)), up_n (Or.inr (by omega))]
    exact ⟨g.1, g.2.1, rfl, g.2.2.2⟩
  · rw [fu_n (by omega), o _ (by omega)]
    exact g
theorem t_serve {C S : Int} {T : Sh} {s s0 : mm_M} {c : Nat} {post : mm_M → Prop} (hW : tw C S s0) (hL : r_L s0) (au : agC s0 s) (r : rep s 29 C S T) (w : wf C S T) (hc : (c : Int) < C) (hp : ∀ u, rep u 29 C S (srvT s0 c T) → agC s0 u → post u) : wp_X7_serve 29 c (65 + 2 * c) s post := by
  have c0 := hW.c0
  have hW1 := hW.fC au
  have m := w.ma0 c (by omega) hc
  have st := w.st0 c (by omega) hc
  have bu := w.bu0 c (by omega) hc
  have mn := w.mn0
  have ct := hW.w.ct (c := c) (by omega) (by rw [hW.cc]; exact hc)
  have dk := r.dk c hc
  rw [show 29 + 36 + 2 * c = 65 + 2 * c by omega] at dk
  have m7 : s 29 7 = T.mn := r.mn
  intro L58 h58
  have no : ¬ (T.bu c ≤ T.mn ∧ 0 < T.st c ∧ 0 < T.ma c) → post s := fun q => hp s (by unfold srvT; rw [if_neg q]; exact r) au
  rw [dk.1, dk.2.1, dk.2.2.1, m7, n32_id (x := T.mn) (by omega) (by omega), n32_id (x := T.bu c) (by omega) (by omega), n32_id (x := T.st c) (by omega) (by omega), n32_id (x := T.ma c) (by omega) (by omega)]
  refine ⟨fun q => no (by omega), fun q1 => ⟨fun q => no (by omega), fun q2 => ⟨fun q3 => ?_, fun q => no (by omega)⟩⟩⟩
  have yes : T.bu c ≤ T.mn ∧ 0 < T.st c ∧ 0 < T.ma c := ⟨by omega, by omega, by omega⟩
  -- one is served
  have ser : ∀ (U : Sh) (k : Int) (u : mm_M), rep u 29 C S U → wf C S U → agC s0 u → U.ma c = T.ma c → U.st c = T.st c → 0 ≤ k → k < T.ma c → srvT s0 c T = serT s0 c k U → L58 k u := by
    intro U k u ru wu aa em es k1 k2 eT
    have ro := wu.ro c k (by omega) hc k1 (by omega)
    have pf := wu.pf _ ro.1 ro.2.1 (by omega)
    have t5 := wu.t5 _ pf.1 pf.2.1
    have mu := wu.mn0
    have cU := ru.dk c hc
    rw [show 29 + 36 + 2 * c = 65 + 2 * c by omega] at cU
    apply h58
    intro v4 e4
    rw [e4]
    refine t_at c0.2 ru wu hc ⟨k1, by omega⟩ ?_
    intro v5 e5
    rw [e5]
    refine t_who ru wu ⟨ro.1, ro.2.1⟩ (fun hg => ⟨fun z => (by cases z), fun t ht => ?_⟩) (fun hg => by omega)
    cases ht
    have mm : u 29 7 = U.mn := ru.mn
    rw [mm, cU.1, show mm_rt 29 6 = 33 from rfl]
    have ep : (((U.rw (30 * c + k)).toNat : Nat) : Int) = U.rw (30 * c + k) := by omega
    have p30 : (U.rw (30 * c + k)).toNat < 30 := by omega
    refine t_write c0.2 ru wu (fun u1 r1 a1 => ?_)
    have a1 := aa.tr a1
    have w1 := wu.bk (a1 := U.mn) (a2 := c) (a3 := U.rw (30 * c + k)) (a4 := U.ma c) (a5 := k)
    refine t_rem c0.2 r1 w1 hc ⟨ro.1, ro.2.1⟩ (fun k0 u2 b1 b2 b3 r2 a2 => ?_) (fun hn => absurd rfl (hn k k1 (by show k < U.ma c; omega)))
    have a2 := a1.tr a2
    have pl := w1.pl ro.1 ro.2.1 ro.2.2.1
    have ek : k0 = plT (bkT U U.mn c (U.rw (30 * c + k)) (U.ma c) k) (U.rw (30 * c + k)) := by
      have pc : (bkT U U.mn c (U.rw (30 * c + k)) (U.ma c) k).pe (7 * U.rw (30 * c + k) + 1) = c := ro.2.2.2
      rw [pc] at pl
      exact w1.di c k0 _ (by omega) hc b1 b2 pl.1 pl.2.1 (by rw [b3, pl.2.2.1])
    have eL : remT (bkT U U.mn c (U.rw (30 * c + k)) (U.ma c) k) c k0 = levT (bkT U U.mn c (U.rw (30 * c + k)) (U.ma c) k) (U.rw (30 * c + k)) := by
      unfold levT
      rw [← ek]
      congr 1
      exact ro.2.2.2.symm
    rw [eL] at r2
    intro u3 e3
    have d2 := r2.dk c hc
    rw [show 29 + 36 + 2 * c = 65 + 2 * c by omega] at d2
    have d22 : u2 (65 + 2 * c) 2 = U.st c := d2.2.1
    rw [d22] at e3
    have r3 := r2.st c0.2 hc e3
    have a3 : agC s0 u3 := by rw [e3]; exact a2.up (scC_shop (by omega) (by omega))
    refine t_ofC (hW.fC a3) ⟨by omega, hc⟩ (by omega) ?_
    intro u4 e4'
    have m3 : u3 29 7 = U.mn := r3.mn
    rw [m3, a3.c (a := 10) (fun _ => rfl)] at e4'
    have r4 := r3.bu c0.2 hc e4'
    have a4 : agC s0 u4 := by rw [e4']; exact a3.up (scC_shop (by omega) (by omega))
    intro u5 e5'
    have hgp : U.pe (7 * (((U.rw (30 * c + k)).toNat : Nat) : Int) + 2) ≠ -1 := by rw [ep]; exact hg
    have ra := r4.at p30 hgp
    rw [ep] at ra
    have r5 := r4.pe c0.2 p30 hgp (i := 0) (o := 2) (by unfold slot; omega) e5'
    rw [ep] at r5
    have a5 : agC s0 u5 := by rw [e5']; exact a4.up (scC_shop (by omega) (by omega))
    have x1 : u5 (35 + (U.rw (30 * c + k)).toNat) 1 = U.pe (7 * U.rw (30 * c + k)) := by rw [e5', up_n (Or.inr (by omega))]; exact ra.2.1
    have x3 : u5 (35 + (U.rw (30 * c + k)).toNat) 3 = U.pe (7 * U.rw (30 * c + k) + 3) := by rw [e5', up_n (Or.inr (by omega))]; exact ra.2.2.2.1
    have m5 : u5 29 7 = U.mn := r5.mn
    rw [x1, x3, m5]
    refine t_cserved (hW.fC a5) r5 ⟨pf.1, pf.2.1⟩ ⟨by omega, by omega⟩ t5 (fun u6 r6 a6 => hp u6 ?_ (a5.tr a6))
    rw [eT]
    unfold ct5 at r6
    rw [a5.c (a := 11) (fun _ => rfl)] at r6
    exact r6
  refine t_ofC hW1 ⟨by omega, hc⟩ (by omega) ?_
  intro v3 e3
  rw [show 3 * (c : Int) + 0 = 3 * c by omega, au.c (a := 10) (fun _ => rfl)] at e3
  rw [e3, n32_id (x := s0 10 (3 * c)) (by omega) (by omega)]
  refine ⟨fun q => ?_, fun q => ?_⟩
  · have nr := nxP_r (s := s0) (T := T) (c := c) (l := s0 10 (3 * c)) ⟨by omega, by omega⟩
    refine t_next hW1 (au.kL.rL hL) r w hc (by omega) ⟨by omega, by omega⟩ (fun u ag => ?_)
    rw [k_nxP au.kW au.kL]
    exact ser T _ u (ag.rep c0.2 r) w (au.tr ag.toC) rfl rfl nr.1 nr.2 (by unfold srvT; rw [if_pos yes, if_neg q])
  · rw [dk.1]
    refine t_draw c0.2 r w ⟨by omega, by omega⟩ (fun u ru ag => ?_)
    have dr := drv_r (x := nxl T.lot) (n := T.ma c) (by omega)
    exact ser (drwT T) _ u ru w.drw (au.tr ag) rfl rfl dr.1 dr.2 (by unfold srvT; rw [if_pos yes, if_pos q])
theorem t_pay {C S : Int} {T : Sh} {s0 s : mm_M} (hW : tw C S s0) (au0 : agC s0 s) (r : rep s 29 C S T) (w : wf C S T) (hm : T.mn ≤ s0 211 16) {post : mm_M → Prop} (hp : ∀ u, rep u 29 C S (itr (payT s0) T 30) → agC s0 u → post u) : wp_X7_someGiveUpAndOthersPay 29 s post := by
  have c0 := hW.c0
  have cl := hW.cl
  intro L2 L50 L69 L90 h2 h50 h69 h90
  have ww : ∀ k : Nat, k ≤ 30 → wf C S (itr (payT s0) T k) ∧ (itr (payT s0) T k).mn = T.mn := fun k hk => itr_w (f := payT s0) (n := 30) w (fun k U hk wU _ => pay_w wU ⟨by omega, by omega⟩) k hk
  have key : ∀ d x : Nat, x + d = 30 → ∀ u, rep u 29 C S (itr (payT s0) T x) → agC s0 u → L2 x u := by
    intro d
    induction d with
    | zero =>
      intro x hx u ru au
      apply h2
      have : x = 30 := by omega
      subst this
      exact ⟨fun _ => hp u ru au, fun q => absurd (by decide) q⟩
    | succ d ih =>
      intro x hx u ru au
      obtain ⟨wx, mx⟩ := ww x (by omega)
      have nx := ih (x + 1) (by omega)
      rw [itr, show ((x + 1 : Nat) : Int) = (x : Int) + 1 by omega] at nx
      generalize itr (payT s0) T x = U at ru wx nx mx
      have hh := wx.ho x (by omega) (by omega)
      have mn := wx.mn0
      have m7 : u 29 7 = U.mn := ru.mn
      apply h2
      rw [n32_id (x := (x : Int)) (by omega) (by omega)]
      refine ⟨fun q => by omega, fun _ => t_who ru wx ⟨by omega, by omega⟩ (fun hg => ⟨fun z => (by cases z), fun t ht => ?_⟩) (fun hg => ⟨fun _ v ev => ?_, fun t ht => (by cases ht)⟩)⟩
      · cases ht
        rw [show ((x : Int)).toNat = x by omega]
        have ra := ru.at (p := x) (by omega) hg
        have pf := wx.pf x (by omega) (by omega) hg
        have so := hW.w.so pf.1 (by rw [hW.ss]; exact pf.2.1)
        have give : (s0 11 (6 * U.pe (7 * x) + 2) ≤ U.mn - U.pe (7 * x + 3) ∨ U.mn = s0 211 16) → L69 x (35 + x) u := by
          intro q
          apply h69
          refine t_giveUp (hW.fC au) ru wx (by omega) hg (fun u1 r1 a1 v ev => ?_)
          rw [ev]
          refine nx u1 ?_ (au.tr a1)
          unfold payT
          rw [if_neg hg, if_pos q]
          exact r1
        have pays : ¬ (s0 11 (6 * U.pe (7 * x) + 2) ≤ U.mn - U.pe (7 * x + 3) ∨ U.mn = s0 211 16) → ∀ q0 : Int, (q0 = 3 ∧ U.pe (7 * x + 2) = 0) ∨ (q0 = 4 ∧ U.pe (7 * x + 2) ≠ 0) → L90 x (35 + x) q0 u := by
          intro q q0 hq
          apply h90
          intro v4 e4
          rw [ra.2.1]
          refine t_ofS (hW.fC au) ⟨pf.1, pf.2.1⟩ (by omega) ?_
          rw [au.c (a := 11) (fun _ => rfl), e4]
          refine t_raise (hW.fC au) ru ⟨pf.1, pf.2.1⟩ (by omega) (fun u1 r1 a1 v ev => ?_)
          rw [ev]
          refine nx u1 ?_ (au.tr a1)
          unfold payT
          rw [if_neg hg, if_neg q]
          rcases hq with ⟨h1, h2⟩ | ⟨h1, h2⟩
          · rw [if_pos h2]; rw [h1] at r1; exact r1
          · rw [if_neg h2]; rw [h1] at r1; exact r1
        have mid : ∀ q0 : Int, (q0 = 1 ∧ s0 11 (6 * U.pe (7 * x) + 2) ≤ U.mn - U.pe (7 * x + 3)) ∨ (q0 = 0 ∧ ¬ s0 11 (6 * U.pe (7 * x) + 2) ≤ U.mn - U.pe (7 * x + 3)) → L50 x (35 + x) q0 u := by
          intro q0 hq
          apply h50
          intro v3 e3
          rw [n32_id (x := v3) (by omega) (by omega), show mm_rt 29 0 = 9 from rfl]
          refine ⟨fun z => give (Or.inl (by omega)), fun z => t_close (hW.fC au) ?_⟩
          rw [au 211 16 rfl, m7, ra.1, n32_id (x := U.mn) (by omega) (by omega), n32_id (x := s0 211 16) (by omega) (by omega), n32_id (x := U.pe (7 * x + 2)) (by omega) (by omega)]
          refine ⟨fun y => ⟨fun y2 => pays (by omega) 4 (Or.inr ⟨rfl, y2⟩), fun y2 => pays (by omega) 3 (Or.inl ⟨rfl, y2⟩)⟩, fun y => give (Or.inr (by omega))⟩
        rw [ra.2.1, ra.2.2.2.1, m7]
        refine t_ofS (hW.fC au) ⟨pf.1, pf.2.1⟩ (by omega) ?_
        rw [au.c (a := 11) (fun _ => rfl), n32_id (x := U.mn - U.pe (7 * x + 3)) (by omega) (by omega), n32_id (x := s0 11 (6 * U.pe (7 * x) + 2)) (by omega) (by omega)]
        exact ⟨fun z => mid 0 (Or.inr (by omega)), fun z => mid 1 (Or.inl (by omega))⟩
      · rw [ev]
        refine nx u ?_ au
        unfold payT
        rw [if_pos hg]
        exact ru
  exact key 30 0 rfl s r au0
theorem itr_0 {f : Int → Sh → Sh} {T : Sh} : itr f T 0 = T := rfl
theorem itr_cg {f g : Int → Sh → Sh} (h : f = g) (T : Sh) (n : Nat) : itr f T n = itr g T n := by rw [h]
/-- what a minute reads -/
theorem k_op {s u : mm_M} (h : k_W s u) (h2 : k_L s u) : comT u = comT s ∧ einT u = einT s ∧ tnrT u = tnrT s ∧ srvT u = srvT s ∧ payT u = payT s := by
  obtain ⟨w1, w2, w3, w4, w5, w6, w7, w8, w9, w10⟩ := h
  refine ⟨?_, ?_, ?_, ?_, ?_⟩
  · funext i T; unfold comT; rw [w1, w3, w9]
  · funext i T; unfold einT; rw [w9]
  · funext i T; unfold tnrT; rw [w3, w9, w10]
  · funext i T; unfold srvT serT
    have := fun c l => k_nxP (T := T) (c := c) (l := l) ⟨w1, w2, w3, w4, w5, w6, w7, w8, w9, w10⟩ h2
    rw [w2, w3, this]
  · funext i T; unfold payT; rw [w3, w8]
theorem t_minute {C S : Int} {T : Sh} {s : mm_M} (hW : tw C S s) (hL : r_L s) (r : rep s 29 C S T) (w : wf C S T) (hm : T.mn < s 211 16) {post : mm_M → Prop} (hp : ∀ u, rep u 29 C S (minT s T) → agC s u → post u) : wp_X7_passMinute 29 s post := by
  have c0 := hW.c0
  have cl := hW.cl
  obtain ⟨m1, m2, m3, m4, m5⟩ := min_w hW w hm
  intro L14 h14
  refine t_news hW r w (fun u1 r1 a1 => ?_)
  have k1 := k_op a1.kW a1.kL
  have w1 := m1 (s 9 5).toNat (by rw [hW.ss]; have := hW.s0; omega)
  refine t_outside (hW.fC a1) r1 w1.1 (fun u2 r2 a2 => ?_)
  rw [k1.2.1] at r2
  have a2 := a1.tr a2
  have k2 := k_op a2.kW a2.kL
  have w2 := m2 30 (by omega)
  refine t_turners (hW.fC a2) r2 w2.1 (fun u3 r3 a3 => ?_)
  rw [k2.2.2.1] at r3
  have a3 := a2.tr a3
  have w3 := m3 30 (by omega)
  have tail : ∀ d x : Nat, x + d = 3 → C ≤ x → ∀ u, rep u 29 C S (itr (srvT s) (itr (tnrT s) (itr (einT s) (itr (comT s) T (s 9 5).toNat) 30) 30) (s 9 4).toNat) → agC s u → L14 x u := by
    intro d
    induction d with
    | zero =>
      intro x hx hc u ru au
      apply h14
      have : x = 3 := by omega
      subst this
      refine ⟨fun _ s8 e8 => ?_, fun q => absurd (by decide) q⟩
      have w4 := m4 (s 9 4).toNat (by rw [hW.cc]; omega)
      have m7 : u 29 7 = (itr (srvT s) (itr (tnrT s) (itr (einT s) (itr (comT s) T (s 9 5).toNat) 30) 30) (s 9 4).toNat).mn := ru.mn
      have o : ∀ y : Nat, y ≠ 29 → s8 y = u y := fun y hy => by rw [e8, up_c hy]
      have r8 : rep s8 29 C S (ticT (itr (srvT s) (itr (tnrT s) (itr (einT s) (itr (comT s) T (s 9 5).toNat) 30) 30) (s 9 4).toNat)) :=
        ⟨by rw [e8, up_e, m7]; rfl, by rw [e8, up_n (by decide)]; exact ru.lot, fun c hc => by rw [o _ (by omega), o _ (by omega)]; exact ru.dk c hc, fun p hp => by rw [o _ (by omega)]; exact ru.pp p hp, fun j => by rw [o _ (by omega)]; exact ru.tt j, by rw [o _ (by omega)]; exact ru.en, fun j => by rw [o _ (by omega)]; exact ru.bk j⟩
      have a8 : agC s s8 := by rw [e8]; exact au.up (scC_shop (by decide) (by decide))
      have w8 := m5 0 (by omega)
      rw [itr_0] at w8
      exact t_pay hW a8 r8 w8.1 (by rw [w8.2]; omega) hp
    | succ d ih =>
      intro x hx hc u ru au
      apply h14
      rw [n32_id (x := (x : Int)) (by omega) (by omega)]
      refine ⟨fun q => by omega, fun _ => t_desk0 (hW.fC au) ⟨hc, by omega⟩ ⟨fun _ v ev => ?_, fun t ht => (by cases ht)⟩⟩
      rw [ev, show (x : Int) + 1 = ((x + 1 : Nat) : Int) by omega]
      exact ih (x + 1) (by omega) (by omega) u ru au
  have key : ∀ d x : Nat, (x : Int) + d = C → ∀ u, rep u 29 C S (itr (srvT s) (itr (tnrT s) (itr (einT s) (itr (comT s) T (s 9 5).toNat) 30) 30) x) → agC s u → L14 x u := by
    intro d
    induction d with
    | zero =>
      intro x hx u ru au
      refine tail (3 - x) x (by omega) (by omega) u ?_ au
      rw [show (s 9 4).toNat = x by rw [hW.cc]; omega]; exact ru
    | succ d ih =>
      intro x hx u ru au
      have wx := (m4 x (by omega)).1
      apply h14
      rw [n32_id (x := (x : Int)) (by omega) (by omega)]
      refine ⟨fun q => by omega, fun _ => t_desk (hW.fC au) ⟨by omega, by omega⟩ ⟨fun z => (by cases z), fun t ht => ?_⟩⟩
      cases ht
      rw [show ((x : Int)).toNat = x by omega]
      refine t_serve hW hL au ru wx (by omega) (fun u4 r4 a4 v ev => ?_)
      rw [ev, show (x : Int) + 1 = ((x + 1 : Nat) : Int) by omega]
      exact ih (x + 1) (by omega) u4 r4 a4
  exact key C.toNat 0 (by omega) u3 (by rw [itr_0]; exact r3) a3
