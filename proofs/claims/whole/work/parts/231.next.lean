/-! who is next at a counter -/
theorem ag.toC {s u : mm_M} (h : ag s u) : agC s u := fun a j q => h a j (by unfold scC at q; exact (Bool.or_eq_false_iff.mp q).1)
theorem ag.toR {s u : mm_M} (h : ag s u) : agR s u := fun a j q => h a j (by unfold scR at q; exact (Bool.or_eq_false_iff.mp (Bool.or_eq_false_iff.mp q).1).1)
theorem ag.rep {s u : mm_M} (h : ag s u) {C S : Int} (hC : C ≤ 3) {T : Sh} (r : rep s 29 C S T) : rep u 29 C S T := r.cg hC (fun a h1 h2 => h.c (scr_shop h1 (by omega)))
theorem ag.rL {s u : mm_M} (h : ag s u) (c : r_L s) : r_L u := by
  unfold r_L
  rw [h 19 4 rfl, h 211 24 rfl, h.c (a := 20) (fun _ => rfl), h.c (a := 21) (fun _ => rfl), h.c (a := 22) (fun _ => rfl), h.c (a := 222) (fun _ => rfl), h.c (a := 223) (fun _ => rfl), h.c (a := 224) (fun _ => rfl)]
  exact c
def nmS (wo : Int → Int) (cl : Int) (T : Sh) (c k n : Int) : Int :=
  if n = 0 then T.pe (7 * T.rw (30 * c + k) + 4) else if n = 1 then T.mn - T.pe (7 * T.rw (30 * c + k) + 3) else if n = 2 then T.pe (7 * T.rw (30 * c + k)) else if n = 3 then wo (6 * T.pe (7 * T.rw (30 * c + k)) + 1) else if n = 4 then k else if n = 5 then T.ma c - 1 - k else if n = 6 then T.ma c else if n = 7 then T.mn else if n = 8 then cl - T.mn else T.pe (7 * T.rw (30 * c + k) + 5)
def nxP (s : mm_M) (T : Sh) (c l : Int) : Int := if 4 ≤ l ∧ l - 4 < s 19 4 then (bs (s 22 (l - 4)) (fun k => lv s (l - 4) (nmS (s 11) (s 211 16) T c k)) (T.ma c).toNat).1 else pb l (T.ma c)
theorem nxP_r {s : mm_M} {T : Sh} {c l : Int} (h : 0 < T.ma c ∧ T.ma c ≤ 30) : 0 ≤ nxP s T c l ∧ nxP s T c l < T.ma c := by
  unfold nxP
  by_cases q : 4 ≤ l ∧ l - 4 < s 19 4
  · rw [if_pos q]
    have := bs_r (s 22 (l - 4)) (fun k => lv s (l - 4) (nmS (s 11) (s 211 16) T c k)) (T.ma c).toNat (by omega)
    omega
  · rw [if_neg q]
    unfold pb
    rw [n32_id (x := T.ma c) (by omega) (by omega), Int.tdiv_eq_ediv_of_nonneg (by omega)]
    split
    · omega
    · split <;> omega
theorem t_append {s : mm_M} {x a1 a2 a3 a4 a5 : Int} {post : mm_M → Prop} (h : s 1 5 = x) (hx : 0 ≤ x ∧ x < 30) (k : ∀ u : mm_M, u 1 5 = x + 1 → u 1 6 = s 1 6 → u 1 7 = s 1 7 → u 2 = fu (s 2) x a1 → u 3 = fu (s 3) x (s 1 6 - a2) → u 4 = fu (s 4) x a3 → u 5 = fu (s 5) x a4 → u 6 = fu (s 6) x a5 → (∀ a : Nat, ¬ (1 ≤ a ∧ a ≤ 6) → u a = s a) → post u) : wp_X1_append 1 a1 a2 a3 a4 a5 s post := by
  unfold wp_X1_append
  rw [h, n32_id (x := x) (by omega) (by omega), show mm_rt 1 0 = 2 from rfl, show mm_rt 1 1 = 3 from rfl, show mm_rt 1 2 = 4 from rfl, show mm_rt 1 3 = 5 from rfl, show mm_rt 1 4 = 6 from rfl]
  refine ⟨fun q => by omega, fun _ => ⟨fun _ => ⟨hx, fun s1 e1 => ?_⟩, fun q => by omega⟩⟩
  have g1 : s1 1 = s 1 := by rw [e1, up_c (by decide)]
  rw [g1, h]
  refine ⟨hx, fun s2 e2 => ?_⟩
  have g2 : s2 1 = s 1 := by rw [e2, up_c (by decide), g1]
  rw [g2, h]
  refine ⟨hx, fun s3 e3 => ?_⟩
  have g3 : s3 1 = s 1 := by rw [e3, up_c (by decide), g2]
  rw [g3, h]
  refine ⟨hx, fun s4 e4 => ?_⟩
  have g4 : s4 1 = s 1 := by rw [e4, up_c (by decide), g3]
  rw [g4, h]
  refine ⟨hx, fun s5 e5 s6 e6 => ?_⟩
  have g5 : s5 1 = s 1 := by rw [e5, up_c (by decide), g4]
  rw [g5, h] at e6
  refine k s6 (by rw [e6, up_e]) (by rw [e6, up_n (by decide), g5]) (by rw [e6, up_n (by decide), g5]) ?_ ?_ ?_ ?_ ?_ ?_
  · rw [e6, up_c (by decide), e5, up_c (by decide), e4, up_c (by decide), e3, up_c (by decide), e2, up_c (by decide), e1, up_f]
  · rw [e6, up_c (by decide), e5, up_c (by decide), e4, up_c (by decide), e3, up_c (by decide), e2, up_f, e1, up_c (b := 3) (by decide)]
  · rw [e6, up_c (by decide), e5, up_c (by decide), e4, up_c (by decide), e3, up_f, e2, up_c (b := 4) (by decide), e1, up_c (b := 4) (by decide)]
  · rw [e6, up_c (by decide), e5, up_c (by decide), e4, up_f, e3, up_c (b := 5) (by decide), e2, up_c (b := 5) (by decide), e1, up_c (b := 5) (by decide)]
  · rw [e6, up_c (by decide), e5, up_f, e4, up_c (b := 6) (by decide), e3, up_c (b := 6) (by decide), e2, up_c (b := 6) (by decide), e1, up_c (b := 6) (by decide)]
  · intro a ha
    rw [e6, up_c (by omega), e5, up_c (by omega), e4, up_c (by omega), e3, up_c (by omega), e2, up_c (by omega), e1, up_c (by omega)]
/-- a crowd of x so far -/
def crx (s u : mm_M) (mn le x : Int) (N : Int → Int → Int) : Prop := (u 1 5 = x) ∧ (u 1 6 = mn) ∧ (u 1 7 = le) ∧ (∀ k, 0 ≤ k → k < x → u 2 k = N k 0) ∧ (∀ k, 0 ≤ k → k < x → u 3 k = N k 1) ∧ (∀ k, 0 ≤ k → k < x → u 4 k = N k 2) ∧ (∀ k, 0 ≤ k → k < x → u 5 k = N k 3) ∧ (∀ k, 0 ≤ k → k < x → u 6 k = N k 9) ∧ (∀ a : Nat, ¬ (1 ≤ a ∧ a ≤ 6) → u a = s a)
theorem crx.m0 {s u : mm_M} {mn le x : Int} {N : Int → Int → Int} (h : crx s u mn le x N) : u 1 5 = x := h.1
theorem crx.m1 {s u : mm_M} {mn le x : Int} {N : Int → Int → Int} (h : crx s u mn le x N) : u 1 6 = mn := h.2.1
theorem crx.m2 {s u : mm_M} {mn le x : Int} {N : Int → Int → Int} (h : crx s u mn le x N) : u 1 7 = le := h.2.2.1
theorem crx.a0 {s u : mm_M} {mn le x : Int} {N : Int → Int → Int} (h : crx s u mn le x N) : ∀ k, 0 ≤ k → k < x → u 2 k = N k 0 := h.2.2.2.1
theorem crx.a1 {s u : mm_M} {mn le x : Int} {N : Int → Int → Int} (h : crx s u mn le x N) : ∀ k, 0 ≤ k → k < x → u 3 k = N k 1 := h.2.2.2.2.1
theorem crx.a2 {s u : mm_M} {mn le x : Int} {N : Int → Int → Int} (h : crx s u mn le x N) : ∀ k, 0 ≤ k → k < x → u 4 k = N k 2 := h.2.2.2.2.2.1
theorem crx.a3 {s u : mm_M} {mn le x : Int} {N : Int → Int → Int} (h : crx s u mn le x N) : ∀ k, 0 ≤ k → k < x → u 5 k = N k 3 := h.2.2.2.2.2.2.1
theorem crx.a9 {s u : mm_M} {mn le x : Int} {N : Int → Int → Int} (h : crx s u mn le x N) : ∀ k, 0 ≤ k → k < x → u 6 k = N k 9 := h.2.2.2.2.2.2.2.1
theorem crx.fr {s u : mm_M} {mn le x : Int} {N : Int → Int → Int} (h : crx s u mn le x N) : ∀ a : Nat, ¬ (1 ≤ a ∧ a ≤ 6) → u a = s a := h.2.2.2.2.2.2.2.2
theorem t_gather {s : mm_M} {mn cl : Int} {post : mm_M → Prop} (k : ∀ u, (∀ N, crx s u mn (cl - mn) 0 N) → post u) : wp_X1_gather 1 mn cl s post := by
  intro s1 e1 s2 e2 s3 e3
  refine k s3 (fun N => ⟨?_, ?_, ?_, fun k a b => by omega, fun k a b => by omega, fun k a b => by omega, fun k a b => by omega, fun k a b => by omega, fun a ha => ?_⟩)
  · rw [e3, up_n (by decide), e2, up_n (by decide), e1, up_e]
  · rw [e3, up_n (by decide), e2, up_e]
  · rw [e3, up_e]
  · rw [e3, up_c (by omega), e2, up_c (by omega), e1, up_c (by omega)]
theorem t_appN {s u : mm_M} {mn le x a1 a2 a3 a4 a5 : Int} {N : Int → Int → Int} {post : mm_M → Prop} (h : crx s u mn le x N) (hx : 0 ≤ x ∧ x < 30) (e0 : N x 0 = a1) (e1 : N x 1 = mn - a2) (e2 : N x 2 = a3) (e3 : N x 3 = a4) (e9 : N x 9 = a5) (k : ∀ v, crx s v mn le (x + 1) N → post v) : wp_X1_append 1 a1 a2 a3 a4 a5 u post := by
  refine t_append h.m0 hx (fun v g1 g2 g3 g4 g5 g6 g7 g8 g9 => k v ⟨g1, by rw [g2]; exact h.m1, by rw [g3]; exact h.m2, fun j j1 j2 => ?_, fun j j1 j2 => ?_, fun j j1 j2 => ?_, fun j j1 j2 => ?_, fun j j1 j2 => ?_, fun a ha => by rw [g9 a ha]; exact h.fr a ha⟩)
  · rw [g4]
    by_cases q : j = x
    · rw [q, fu_e, e0]
    · rw [fu_n q]; exact h.a0 j j1 (by omega)
  · rw [g5]
    by_cases q : j = x
    · rw [q, fu_e, e1, h.m1]
    · rw [fu_n q]; exact h.a1 j j1 (by omega)
  · rw [g6]
    by_cases q : j = x
    · rw [q, fu_e, e2]
    · rw [fu_n q]; exact h.a2 j j1 (by omega)
  · rw [g7]
    by_cases q : j = x
    · rw [q, fu_e, e3]
    · rw [fu_n q]; exact h.a3 j j1 (by omega)
  · rw [g8]
    by_cases q : j = x
    · rw [q, fu_e, e9]
    · rw [fu_n q]; exact h.a9 j j1 (by omega)
theorem crx.ag {s u : mm_M} {mn le x : Int} {N : Int → Int → Int} (h : crx s u mn le x N) : ag s u := fun a j q => by
  rw [h.fr a (fun z => ?_)]
  unfold scr at q
  rw [decide_eq_true (show 1 ≤ a ∧ a ≤ 6 from z)] at q
  simp only [Bool.true_or] at q
  cases q
theorem f23.ag {s u : mm_M} (h : f23 s u) : ag s u := fun a j q => by
  refine h a j (fun z => ?_) (fun z => ?_)
  · rw [z.1, z.2] at q; cases q
  · rw [z] at q; cases (show scr 23 j = true from rfl).symm.trans q
theorem t_at {C S : Int} {T : Sh} {s : mm_M} {c : Nat} {k : Int} (hC : C ≤ 3) (r : rep s 29 C S T) (w : wf C S T) (hc : (c : Int) < C) (hk : 0 ≤ k ∧ k < T.ma c) {post : Int → mm_M → Prop} (hp : post (T.rw (30 * c + k)) s) : wp_X2_at (65 + 2 * c) k s post := by
  have m := w.ma0 c (by omega) hc
  obtain ⟨d1, -, -, d4⟩ := r.dk c hc
  rw [show 29 + 36 + 2 * c = 65 + 2 * c by omega] at d1
  rw [show 29 + 37 + 2 * c = 66 + 2 * c by omega] at d4
  unfold wp_X2_at
  rw [d1, (rt_d c (by omega)).2, n32_id (x := k) (by omega) (by omega), n32_id (x := T.ma c) (by omega) (by omega), d4 k hk.1 hk.2]
  exact ⟨fun q => by omega, fun _ => ⟨fun q => by omega, fun _ => ⟨fun q => by omega, fun _ => ⟨⟨by omega, by omega⟩, hp⟩⟩⟩⟩
/-- the class's next -/
theorem t_next {C S : Int} {T : Sh} {s : mm_M} {c : Nat} {l : Int} (hW : tw C S s) (hL : r_L s) (r : rep s 29 C S T) (w : wf C S T) (hc : (c : Int) < C) (hm : 0 < T.ma c) (hl : 0 ≤ l ∧ l ≤ 8) {post : Int → mm_M → Prop} (hp : ∀ u, ag s u → post (nxP s T c l) u) : wp_X7_placeOfNext 29 (65 + 2 * c) l s post := by
  have c0 := hW.c0
  have m := w.ma0 c (by omega) hc
  have d1 := (r.dk c hc).1
  rw [show 29 + 36 + 2 * c = 65 + 2 * c by omega] at d1
  intro L18 L47 h18 h47
  rw [show mm_rt 29 1 = 19 from rfl, show mm_rt 29 0 = 9 from rfl, show mm_rt 29 2 = 1 from rfl]
  refine t_isTold hL hl (fun q1 q2 => ⟨fun z => absurd z (by decide), fun _ => ?_⟩) (fun q => ⟨fun _ => ?_, fun z => absurd m_0 z⟩)
  · rw [d1, n32_id (x := T.ma c) (by omega) (by omega)]
    refine ⟨fun _ => t_close hW ?_, fun z => by omega⟩
    have m7 : s 29 7 = T.mn := r.mn
    rw [m7]
    refine t_gather (fun u0 k0 => ?_)
    have key : ∀ d x : Nat, (x : Int) + d = T.ma c → ∀ u, crx s u T.mn (s 211 16 - T.mn) x (nmS (s 11) (s 211 16) T c) → L47 x u := by
      intro d
      induction d with
      | zero =>
        intro x hx u hu
        have a := hu.ag
        apply h47
        have du : u (65 + 2 * c) 1 = T.ma c := by rw [hu.fr _ (by omega)]; exact d1
        rw [du, n32_id (x := T.ma c) (by omega) (by omega), n32_id (x := (x : Int)) (by omega) (by omega)]
        refine ⟨fun _ => ?_, fun q => by omega⟩
        rw [show mm_rt 29 1 = 19 from rfl, show mm_rt 29 2 = 1 from rfl]
        have hx2 : (x : Int) = T.ma c := by omega
        rw [hx2] at hu
        have cr : crw u (T.ma c) (nmS (s 11) (s 211 16) T c) := ⟨hu.m0, by omega, hu.a0, hu.a1, hu.a2, hu.a3, fun _ _ _ => rfl, fun _ _ _ => rfl, fun _ _ _ => rfl, fun _ _ _ => by rw [hu.m1]; rfl, fun _ _ _ => by rw [hu.m2]; rfl, hu.a9⟩
        have l4 : u 19 4 = s 19 4 := a 19 4 rfl
        refine t_best (a.rL hL) cr ⟨q1, by omega⟩ (by rw [l4]; exact q2) (fun v fv => ?_)
        have hp := hp v (a.tr fv.ag)
        unfold nxP at hp
        rw [if_pos ⟨q1, q2⟩] at hp
        have e : (fun k => lv u (l - 4) (nmS (s 11) (s 211 16) T c k)) = (fun k => lv s (l - 4) (nmS (s 11) (s 211 16) T c k)) := by
          unfold lv
          rw [a.c (a := 222) (fun _ => rfl), a.c (a := 223) (fun _ => rfl)]
        rw [e, a.c (a := 22) (fun _ => rfl)]
        exact hp
      | succ d ih =>
        intro x hx u hu
        have a := hu.ag
        have ru := a.rep c0.2 r
        apply h47
        have du : u (65 + 2 * c) 1 = T.ma c := by rw [hu.fr _ (by omega)]; exact d1
        rw [du, n32_id (x := T.ma c) (by omega) (by omega), n32_id (x := (x : Int)) (by omega) (by omega), show mm_rt 29 0 = 9 from rfl, show mm_rt 29 2 = 1 from rfl]
        refine ⟨fun q => by omega, fun _ => ?_⟩
        refine t_at c0.2 ru w hc ⟨by omega, by omega⟩ ?_
        have ro := w.ro c x (by omega) hc (by omega) (by omega)
        have pf := w.pf _ ro.1 ro.2.1 (by omega)
        refine t_who ru w ⟨ro.1, ro.2.1⟩ (fun hg => ⟨fun z => (by cases z), fun t ht => ?_⟩) (fun hg => by omega)
        cases ht
        have ep : (((T.rw (30 * c + x)).toNat : Nat) : Int) = T.rw (30 * c + x) := by omega
        have pp := (ru.pp (T.rw (30 * c + x)).toNat (by omega)).2 (by rw [ep]; exact hg)
        rw [show 29 + 6 + (T.rw (30 * c + x)).toNat = 35 + (T.rw (30 * c + x)).toNat by omega, ep] at pp
        rw [pp.1]
        refine t_ofS (hW.fC a.toC) ⟨pf.1, pf.2.1⟩ (by omega) ?_
        rw [pp.2.2.1, pp.2.2.2.1, pp.2.2.2.2.1, hu.fr 11 (by omega)]
        refine t_appN hu ⟨by omega, by omega⟩ rfl rfl rfl rfl rfl (fun v hv y ey => ?_)
        rw [ey, show (x : Int) + 1 = ((x + 1 : Nat) : Int) by omega]
        exact ih (x + 1) (by omega) v hv
    exact key (T.ma c).toNat 0 (by omega) u0 (k0 _)
  · apply h18
    rw [d1]
    refine s_pbX (n32_id (by omega) (by omega)) ?_
    have hp := hp s ag.rf
    unfold nxP at hp
    rw [if_neg (by omega)] at hp
    exact hp
theorem es_c {w nn nm nm' : Int → Int} {a b : Int} (h : ∀ k, a ≤ k → k < b → w k = 1 → nm (nn k) = nm' (nn k)) : ∀ n : Nat, a + n ≤ b → es w nn nm a n = es w nn nm' a n := by
  intro n
  induction n with
  | zero => intro _; rfl
  | succ n ih =>
    intro hn
    rw [es, es, ih (by omega)]
    by_cases q : w (a + n) = 0
    · rw [if_pos q, if_pos q]
    · rw [if_neg q, if_neg q]
      by_cases q2 : w (a + n) = 1
      · rw [if_pos q2, if_pos q2, h _ (by omega) (by omega) q2]
      · rw [if_neg q2, if_neg q2]
theorem lv_c {s : mm_M} {i : Int} {nm nm' : Int → Int} (hL : r_L s) (hi : 0 ≤ i ∧ i < s 19 4) (h : ∀ n, 0 ≤ n → n ≤ 9 → nm n = nm' n) : lv s i nm = lv s i nm' := by
  obtain ⟨b1, b2, b3, b4, b5, b6, b7, -⟩ := hL.2.2.2.2 i hi.1 hi.2
  unfold lv
  rw [es_c (b := s 223 (i + 1)) (nm' := nm') (fun k k1 k2 q => ?_) _ (by omega)]
  have := b7 k k1 k2
  unfold r_c at this
  exact h _ (by omega) (by omega)
/-- only names and stack of the reference are used -/
def f39 (s u : mm_M) : Prop := ∀ a : Nat, a ≠ 239 → a ≠ 240 → u a = s a
theorem f39.ag {s u : mm_M} (h : f39 s u) : ag s u := fun a j q => by
  rw [h a (fun z => ?_) (fun z => ?_)]
  · rw [z] at q; cases (show scr 239 j = true from rfl).symm.trans q
  · rw [z] at q; cases (show scr 240 j = true from rfl).symm.trans q
theorem u_isNext {s : mm_M} {i v b : Int} (hL : r_L s) (hi : 0 ≤ i ∧ i < s 19 4) {post : Int → mm_M → Prop} (h1 : (if s 22 i = 0 then ¬ n32 b < n32 v else ¬ n32 v < n32 b) → post 1 s) (h0 : ¬ (if s 22 i = 0 then ¬ n32 b < n32 v else ¬ n32 v < n32 b) → post 0 s) : wp_X11_isNext 211 i v b s post := by
  have l := hL.2.2.2.2 i hi.1 hi.2
  have l1 := hL.2.1
  unfold wp_X11_isNext
  rw [show mm_rt 211 27 = 224 from rfl, l.2.2.2.2.2.1, n32_id (x := s 22 i) (by omega) (by omega)]
  refine ⟨⟨by omega, by omega⟩, fun z => ?_, fun z => ?_⟩
  · rw [if_pos z] at h1 h0
    exact ⟨fun y => h0 (fun k => k y), fun y => h1 y⟩
  · rw [if_neg z] at h1 h0
    exact ⟨fun y => h0 (fun k => k y), fun y => h1 y⟩
theorem u_told {C S : Int} {T : Sh} {s : mm_M} {c i : Int} (hW : tw C S s) (hL : r_L s) (ev : vo s = T) (w : wf C S T) (hc : 0 ≤ c ∧ c < C) (hm : 0 < T.ma c) (hi : 0 ≤ i ∧ i < s 19 4) {post : Int → mm_M → Prop} (hp : ∀ u, f39 s u → post (bs (s 22 i) (fun k => lv s i (nmS (s 11) (s 211 16) T c k)) (T.ma c).toNat).1 u) : wp_X11_placeTold 211 c i s post := by
  have c0 := hW.c0
  have m := w.ma0 c hc.1 hc.2
  have l1 := hL.2.1
  intro L8 h8
  have key : ∀ d x : Nat, (x : Int) + d = T.ma c → ∀ u, f39 s u → L8 (if x = 0 then 0 else (bs (s 22 i) (fun k => lv s i (nmS (s 11) (s 211 16) T c k)) x).1) (bs (s 22 i) (fun k => lv s i (nmS (s 11) (s 211 16) T c k)) x).2 x u := by
    intro d
    induction d with
    | zero =>
      intro x hx u fu
      apply h8
      have e7 : u 227 c = T.ma c := by rw [fu 227 (by decide) (by decide), ← ev]; rfl
      rw [show mm_rt 211 31 = 227 from rfl, e7, n32_id (x := T.ma c) (by omega) (by omega), n32_id (x := (x : Int)) (by omega) (by omega), if_neg (by omega)]
      refine ⟨⟨by omega, by omega⟩, fun _ => ?_, fun q => by omega⟩
      have hp := hp u fu
      rw [show (T.ma c).toNat = x by omega] at hp
      exact hp
    | succ d ih =>
      intro x hx u fu
      have vu : vo u = T := by rw [← ev]; unfold vo; rw [fu 211 (by decide) (by decide), fu 225 (by decide) (by decide), fu 226 (by decide) (by decide), fu 227 (by decide) (by decide), fu 228 (by decide) (by decide), fu 229 (by decide) (by decide), fu 230 (by decide) (by decide), fu 231 (by decide) (by decide)]
      have ro := w.ro c x hc.1 hc.2 (by omega) (by omega)
      have pf := w.pf _ ro.1 ro.2.1 (by omega)
      apply h8
      have e7 : u 227 c = T.ma c := by rw [fu 227 (by decide) (by decide), ← ev]; rfl
      have e8 : u 228 (30 * c + x) = T.rw (30 * c + x) := by rw [fu 228 (by decide) (by decide), ← ev]; rfl
      rw [show mm_rt 211 31 = 227 from rfl, show mm_rt 211 32 = 228 from rfl, show mm_rt 211 48 = 239 from rfl, e7, e8, n32_id (x := T.ma c) (by omega) (by omega), n32_id (x := (x : Int)) (by omega) (by omega)]
      refine ⟨⟨by omega, by omega⟩, fun q => by omega, fun _ => ⟨⟨by omega, by omega⟩, fun p e6 => ?_⟩⟩
      rw [e6]
      have keepv : ∀ {a b : mm_M} {j v : Int}, vo a = T → f39 s a → b = mm_up a 239 j v → vo b = T ∧ f39 s b := by
        intro a b j v va fa e
        subst e
        refine ⟨?_, fun x x1 x2 => by rw [up_c x1]; exact fa x x1 x2⟩
        rw [← va]
        unfold vo
        rw [up_c (b := 211) (by decide), up_c (b := 225) (by decide), up_c (b := 226) (by decide), up_c (b := 227) (by decide), up_c (b := 228) (by decide), up_c (b := 229) (by decide), up_c (b := 230) (by decide), up_c (b := 231) (by decide)]
      refine u_of vu (by omega) ?_
      intro s7 e7'
      obtain ⟨v7, f7⟩ := keepv vu fu e7'
      refine u_of v7 (by omega) ?_
      intro s10 e10
      have m7 : s7 211 28 = T.mn := by rw [← v7]; rfl
      rw [m7] at e10
      obtain ⟨v10, f10⟩ := keepv v7 f7 e10
      refine u_of0 v10 ⟨ro.1, ro.2.1⟩ ?_
      intro s13 e13
      obtain ⟨v13, f13⟩ := keepv v10 f10 e13
      refine u_of0 v13 ⟨ro.1, ro.2.1⟩ ?_
      have pf2 := pf.2.1
      have s5 := hW.s0
      refine ⟨⟨by omega, by omega⟩, ?_⟩
      intro s18 e18
      rw [show mm_rt 211 15 = 218 from rfl] at e18
      have es : s13 218 (6 * T.pe (7 * T.rw (30 * c + x)) + 1) = s 11 (6 * T.pe (7 * T.rw (30 * c + x)) + 1) := by
        rw [f13 218 (by decide) (by decide)]
        exact hW.w.2.2.2.2.2.2.2.2.2.2.2.2.2.2.2.2.2.1 _ (by omega) (by rw [hW.ss]; omega)
      rw [es] at e18
      obtain ⟨v18, f18⟩ := keepv v13 f13 e18
      intro s19 e19
      obtain ⟨v19, f19⟩ := keepv v18 f18 e19
      refine ⟨⟨by omega, by omega⟩, fun s20 e20 => ?_⟩
      have m19 : s19 227 c = T.ma c := by rw [← v19]; rfl
      rw [m19] at e20
      obtain ⟨v20, f20⟩ := keepv v19 f19 e20
      refine ⟨⟨by omega, by omega⟩, fun s21 e21 s22 e22 s23 e23 => ?_⟩
      have m20 : s20 227 c = T.ma c := by rw [← v20]; rfl
      rw [m20] at e21
      obtain ⟨v21, f21⟩ := keepv v20 f20 e21
      have m21 : s21 211 28 = T.mn := by rw [← v21]; rfl
      rw [m21] at e22
      obtain ⟨v22, f22⟩ := keepv v21 f21 e22
      have m22 : s22 211 28 = T.mn := by rw [← v22]; rfl
      have c22 : s22 211 16 = s 211 16 := by rw [f22 211 (by decide) (by decide)]
      rw [m22, c22] at e23
      obtain ⟨v23, f23⟩ := keepv v22 f22 e23
      refine u_of v23 (by omega) ?_
      intro s26 e26
      obtain ⟨v26, f26⟩ := keepv v23 f23 e26
      have l4 : s26 19 4 = s 19 4 := by rw [f26 19 (by decide) (by decide)]
      have hL2 := f26.ag.rL hL
      refine u_says hL2 (by rw [l4]; exact hi) (fun v fv v7' e7'' => ?_)
      have lve : lv s26 i (s26 239) = lv s i (nmS (s 11) (s 211 16) T c x) := by
        have a1 : lv s26 i (s26 239) = lv s i (s26 239) := by
          unfold lv
          rw [f26 222 (by decide) (by decide), f26 223 (by decide) (by decide)]
        rw [a1]
        refine lv_c hL hi (fun n n1 n2 => ?_)
        have n9 : s26 239 9 = T.pe (7 * T.rw (30 * c + x) + 5) := by rw [e26, up_e]
        have n8 : s26 239 8 = s 211 16 - T.mn := by rw [e26, up_n (by decide), e23, up_e]
        have n7 : s26 239 7 = T.mn := by rw [e26, up_n (by decide), e23, up_n (by decide), e22, up_e]
        have n6 : s26 239 6 = T.ma c := by rw [e26, up_n (by decide), e23, up_n (by decide), e22, up_n (by decide), e21, up_e]
        have n5 : s26 239 5 = T.ma c - 1 - x := by rw [e26, up_n (by decide), e23, up_n (by decide), e22, up_n (by decide), e21, up_n (by decide), e20, up_e]
        have n4 : s26 239 4 = x := by rw [e26, up_n (by decide), e23, up_n (by decide), e22, up_n (by decide), e21, up_n (by decide), e20, up_n (by decide), e19, up_e]
        have n3 : s26 239 3 = s 11 (6 * T.pe (7 * T.rw (30 * c + x)) + 1) := by rw [e26, up_n (by decide), e23, up_n (by decide), e22, up_n (by decide), e21, up_n (by decide), e20, up_n (by decide), e19, up_n (by decide), e18, up_e]
        have n2' : s26 239 2 = T.pe (7 * T.rw (30 * c + x)) := by rw [e26, up_n (by decide), e23, up_n (by decide), e22, up_n (by decide), e21, up_n (by decide), e20, up_n (by decide), e19, up_n (by decide), e18, up_n (by decide), e13, up_e]
        have n1' : s26 239 1 = T.mn - T.pe (7 * T.rw (30 * c + x) + 3) := by rw [e26, up_n (by decide), e23, up_n (by decide), e22, up_n (by decide), e21, up_n (by decide), e20, up_n (by decide), e19, up_n (by decide), e18, up_n (by decide), e13, up_n (by decide), e10, up_e]
        have n0' : s26 239 0 = T.pe (7 * T.rw (30 * c + x) + 4) := by rw [e26, up_n (by decide), e23, up_n (by decide), e22, up_n (by decide), e21, up_n (by decide), e20, up_n (by decide), e19, up_n (by decide), e18, up_n (by decide), e13, up_n (by decide), e10, up_n (by decide), e7', up_e]
        clear e26 e23 e22 e21 e20 e19 e18 e13 e10 e7'
        have hn : n = 0 ∨ n = 1 ∨ n = 2 ∨ n = 3 ∨ n = 4 ∨ n = 5 ∨ n = 6 ∨ n = 7 ∨ n = 8 ∨ n = 9 := by omega
        rcases hn with h | h | h | h | h | h | h | h | h | h <;> subst h
        · exact n0'
        · exact n1'
        · exact n2'
        · exact n3
        · exact n4
        · exact n5
        · exact n6
        · exact n7
        · exact n8
        · exact n9
      rw [lve] at e7''
      have fv2 : f39 s v := fun a a1 a2 => by rw [fv a a2]; exact f26 a a1 a2
      have nx := ih (x + 1) (by omega) v fv2
      rw [if_neg (by omega), show ((x + 1 : Nat) : Int) = (x : Int) + 1 by omega, bs] at nx
      refine ⟨fun q z1 y1 z2 y2 z3 y3 => ?_, fun q => ?_⟩
      · rw [if_pos (Or.inl (by omega))] at nx
        rw [y1, y2, y3, e7'']
        exact nx
      · have lv4 : v 19 4 = s 19 4 := by rw [fv2 19 (by decide) (by decide)]
        have v22' : v 22 = s 22 := fv2 22 (by decide) (by decide)
        refine u_isNext (fv2.ag.rL hL) (by rw [lv4]; exact hi) (fun z => ⟨fun _ z1 y1 z2 y2 z3 y3 => ?_, fun y => absurd y (by decide)⟩) (fun z => ⟨fun y => absurd m_0 y, fun _ z3 y3 => ?_⟩)
        · rw [v22', e7''] at z
          rw [if_pos (Or.inr z)] at nx
          rw [y1, y2, y3, e7'']
          exact nx
        · rw [v22', e7''] at z
          rw [if_neg (fun y => by rcases y with y | y; omega; exact z y)] at nx
          rw [y3, if_neg (by omega)]
          exact nx
  exact key (T.ma c).toNat 0 (by omega) s (fun _ _ _ => rfl)
theorem u_next {C S : Int} {T : Sh} {s : mm_M} {c l : Int} (hW : tw C S s) (hL : r_L s) (ev : vo s = T) (w : wf C S T) (hc : 0 ≤ c ∧ c < C) (hm : 0 < T.ma c) (hl : 0 ≤ l ∧ l ≤ 8) {post : Int → mm_M → Prop} (hp : ∀ u, f39 s u → post (nxP s T c l) u) : wp_X11_placeNext 211 c l s post := by
  have c0 := hW.c0
  have m := w.ma0 c hc.1 hc.2
  unfold wp_X11_placeNext
  refine u_isTold hL hl (fun q1 q2 => ⟨fun z => absurd z (by decide), fun _ => ?_⟩) (fun q => ⟨fun _ => ⟨⟨by omega, by omega⟩, ?_⟩, fun z => absurd m_0 z⟩)
  · refine u_told hW hL ev w hc hm ⟨by omega, q2⟩ (fun u fu => ?_)
    have hp := hp u fu
    unfold nxP at hp
    rw [if_pos ⟨q1, q2⟩] at hp
    exact hp
  · have e7 : s 227 c = T.ma c := by rw [← ev]; rfl
    rw [show mm_rt 211 31 = 227 from rfl, e7]
    refine s_pbM (n32_id (by omega) (by omega)) ?_
    have hp := hp s (fun _ _ _ => rfl)
    unfold nxP at hp
    rw [if_neg (by omega)] at hp
    exact hp
theorem ag.nxP {s u : mm_M} (h : ag s u) {T : Sh} {c l : Int} : nxP u T c l = nxP s T c l := by
  unfold Jvm.Pilot.CLastServedLaw_law_r5834_17db7c.nxP lv
  rw [h 19 4 rfl, h 211 16 rfl, h.c (a := 22) (fun _ => rfl), h.c (a := 11) (fun _ => rfl), h.c (a := 222) (fun _ => rfl), h.c (a := 223) (fun _ => rfl)]
/-- promise 14 -/
theorem q_next {s : mm_M} {a1 a2 : Int} (hR : Rel s) (h1 : n32 a1 = a1) (h2 : n32 a2 = a2) (post : Int → mm_M → Prop) (hp : ∀ r1 s1, Gd (wp_X11_next 211 a1 a2 s1) r1 → post r1 s1) : wp_X10_next 0 a1 a2 s post := by
  have k8 : n32 8 = 8 := rfl
  unfold wp_X10_next
  rw [show mm_rt 0 5 = 29 from rfl]
  refine s_desk hR h1 (fun b1 b2 => ⟨fun z => (by cases z), fun t ht => ?_⟩) (fun b => ⟨fun _ => hp _ _ ?_, fun t ht => (by cases ht)⟩)
  · cases ht
    have hW := hR.tw (by omega)
    have hL := hR.2.2.1
    obtain ⟨r, w⟩ := hR.sh (by omega)
    have ec : ((a1.toNat : Nat) : Int) = a1 := by omega
    have m := w.ma0 a1 b1 b2
    have rf : ∀ (t : mm_M) (p2 : Int → mm_M → Prop), ag s t → ((a2 < 0 ∨ 8 < a2 ∨ a2 = 3 ∨ (vo s).ma a1 = 0) → p2 (-1) t) → (0 ≤ a2 → a2 ≤ 8 → a2 ≠ 3 → (vo s).ma a1 ≠ 0 → wp_X11_placeNext 211 a1 a2 t (fun r_6 s_5 => ((0 ≤ (30 * a1) + r_6 ∧ (30 * a1) + r_6 < 90) ∧ p2 (s_5 228 ((30 * a1) + r_6)) s_5))) → wp_X11_next 211 a1 a2 t p2 := by
      intro t p2 a k1 k2
      unfold wp_X11_next
      refine s_isC (hR.fr a) (fun _ _ => ⟨fun z => absurd z (by decide), fun _ => ?_⟩) (fun q => by rw [h1, a 9 4 rfl] at q; omega)
      refine s_in (fun u v => ⟨fun z => absurd z (by decide), fun _ => ?_⟩) (fun u => ⟨fun _ => k1 (by rw [h2, m_0, k8] at u; omega), fun z => absurd m_0 z⟩)
      rw [h2, m_0] at u
      rw [h2, k8] at v
      have e7 : t 227 a1 = (vo s).ma a1 := by rw [a.c (a := 227) (fun _ => rfl)]; rfl
      rw [h2, show mm_rt 211 31 = 227 from rfl, show mm_rt 211 32 = 228 from rfl, e7, n32_id (x := (vo s).ma a1) (by omega) (by omega)]
      refine ⟨fun z => k1 (by omega), fun z => ⟨⟨b1, by have := hW.c0; omega⟩, fun y => k2 (by omega) (by omega) z y, fun y => k1 (by omega)⟩⟩
    unfold wp_X10_isSettledLaw
    rw [h2]
    have no : (a2 < 0 ∨ 8 < a2 ∨ a2 = 3 ∨ (vo s).ma a1 = 0) → Gd (wp_X11_next 211 a1 a2 s) (-1) := by
      intro h p2 k3
      exact rf s p2 ag.rf (fun _ => k3 _ _ rfl hR) (fun z1 z2 z3 z4 => by omega)
    have bad : ∀ r : Int, n32 0 = 0 → (a2 < 0 ∨ 8 < a2 ∨ a2 = 3) → ((¬ n32 0 = 0 → (wp_X7_placeOfNext 29 (65 + 2 * a1.toNat) a2 s (fun r_7 s_6 => (wp_X2_at (65 + 2 * a1.toNat) r_7 s_6 (fun r_9 s_8 => post r_9 s_8))))) ∧ (n32 0 = 0 → post (-1) s)) := fun _ z h => ⟨fun y => absurd z y, fun _ => hp _ _ (no (by omega))⟩
    refine ⟨fun z => bad 0 m_0 (by omega), fun z => ⟨fun z2 => bad 0 m_0 (by omega), fun z2 => ⟨fun z3 => bad 0 m_0 (by omega), fun z3 => ⟨fun _ => ?_, fun y => absurd y (by decide)⟩⟩⟩⟩
    by_cases q : (vo s).ma a1 = 0
    · -- nobody is inside
      have d1 := (r.dk a1.toNat (by omega)).1
      rw [show 29 + 36 + 2 * a1.toNat = 65 + 2 * a1.toNat by omega, ec, q] at d1
      intro L18 L47 h18 h47
      have fin : L18 s := by
        apply h18
        rw [d1]
        refine s_pbX (by rw [h2]) ?_
        unfold wp_X2_at
        dsimp only [sd_mn, sd_lot, sd_st, sd_bu, sd_ma, sd_rw, sd_pe, sd_t7, sd_en, sd_bk]
        rw [d1]
        have pp : ∀ x : Int, (n32 x < 0 → post (-1) s) ∧ (¬ n32 x < 0 → ((n32 0 ≤ n32 x → post (-1) s) ∧ (¬ n32 0 ≤ n32 x → ((30 ≤ n32 x → post (-1) s) ∧ (¬ 30 ≤ n32 x → ((0 ≤ x ∧ x < 30) ∧ post (s (mm_rt (65 + 2 * a1.toNat) 0) x) s)))))) := fun x =>
          ⟨fun _ => hp _ _ (no (by omega)), fun y => ⟨fun _ => hp _ _ (no (by omega)), fun y2 => by rw [m_0] at y2; omega⟩⟩
        exact pp _
      rw [show mm_rt 29 1 = 19 from rfl]
      refine t_isTold hL (by omega) (fun q1 q2 => ⟨fun z => absurd z (by decide), fun _ => ?_⟩) (fun _ => ⟨fun _ => fin, fun z => absurd m_0 z⟩)
      rw [d1]
      exact ⟨fun z => absurd m_0 z, fun _ => fin⟩
    · refine t_next hW hL r w (by rw [ec]; exact b2) (by rw [ec]; omega) (by omega) (fun u au => ?_)
      rw [ec]
      have nr := nxP_r (s := s) (T := vo s) (c := a1) (l := a2) (by omega)
      refine t_at hW.c0.2 (au.rep hW.c0.2 r) w (by rw [ec]; exact b2) (by rw [ec]; exact nr) ?_
      rw [ec]
      refine hp _ _ ?_
      intro p2 k3
      refine rf u p2 au (fun z => by omega) (fun _ _ _ _ => ?_)
      refine u_next (hW.fC au.toC) (au.rL hL) au.toC.vo w ⟨b1, b2⟩ (by omega) (by omega) (fun v fv => ⟨⟨?_, ?_⟩, k3 _ _ ?_ ((hR.fr au).fr fv.ag)⟩)
      · rw [au.nxP]; omega
      · rw [au.nxP]; have := hW.c0; omega
      · rw [au.nxP, fv 228 (by decide) (by decide), au.c (a := 228) (fun _ => rfl)]; rfl
  · intro p2 k3
    unfold wp_X11_next
    exact s_isC hR (fun u v => by rw [h1] at u v; omega) (fun _ => ⟨fun _ => k3 _ _ rfl hR, fun z => absurd m_0 z⟩)
