/-! the class's steps on its shop -/
theorem tw.nC {C S : Int} {s : mm_M} (h : tw C S s) : n32 (s 9 4) = C := by rw [h.cc]; exact n32_id (by have := h.c0; omega) (by have := h.c0; omega)
theorem tw.nS {C S : Int} {s : mm_M} (h : tw C S s) : n32 (s 9 5) = S := by rw [h.ss]; exact n32_id (by have := h.s0; omega) (by have := h.s0; omega)
theorem t_hasC {C S : Int} {s : mm_M} {a : Int} {post : Int → mm_M → Prop} (hW : tw C S s) (h1 : 0 ≤ n32 a → n32 a < C → post 1 s) (h0 : n32 a < 0 ∨ C ≤ n32 a → post 0 s) : wp_X9_hasCounter 9 a s post := by
  have := hW.c0
  unfold wp_X9_hasCounter
  rw [hW.nC]
  exact ⟨fun h => h0 (Or.inl h), fun h => ⟨fun h2 => h0 (Or.inr h2), fun h2 => ⟨fun h3 => by omega, fun _ => h1 (by omega) (by omega)⟩⟩⟩
theorem t_hasS {C S : Int} {s : mm_M} {a : Int} {post : Int → mm_M → Prop} (hW : tw C S s) (h1 : 0 ≤ n32 a → n32 a < S → post 1 s) (h0 : n32 a < 0 ∨ S ≤ n32 a → post 0 s) : wp_X9_hasSort 9 a s post := by
  have := hW.s0
  unfold wp_X9_hasSort
  rw [hW.nS]
  exact ⟨fun h => h0 (Or.inl h), fun h => ⟨fun h2 => h0 (Or.inr h2), fun h2 => ⟨fun h3 => by omega, fun _ => h1 (by omega) (by omega)⟩⟩⟩
theorem t_ofC {C S : Int} {s : mm_M} {a w : Int} {post : Int → mm_M → Prop} (hW : tw C S s) (h : 0 ≤ a ∧ a < C) (hw : 0 ≤ w ∧ w < 3) (hp : post (s 10 (3 * a + w)) s) : wp_X9_ofCounter 9 a w s post := by
  have := hW.c0
  have ha : n32 a = a := n32_id (by omega) (by omega)
  have ew : n32 w = w := n32_id (by omega) (by omega)
  unfold wp_X9_ofCounter
  refine t_hasC hW (fun _ _ => ⟨fun q => absurd q (by decide), fun _ => ?_⟩) (fun q => by rw [ha] at q; omega)
  rw [ew, show mm_rt 9 0 = 10 from rfl]
  exact ⟨fun q => by omega, fun _ => ⟨fun _ => ⟨⟨by omega, by omega⟩, by rw [show a * 3 + w = 3 * a + w by omega]; exact hp⟩, fun q => by omega⟩⟩
theorem t_ofS {C S : Int} {s : mm_M} {a w : Int} {post : Int → mm_M → Prop} (hW : tw C S s) (h : 0 ≤ a ∧ a < S) (hw : 0 ≤ w ∧ w < 6) (hp : post (s 11 (6 * a + w)) s) : wp_X9_ofSort 9 a w s post := by
  have := hW.s0
  have ha : n32 a = a := n32_id (by omega) (by omega)
  have ew : n32 w = w := n32_id (by omega) (by omega)
  unfold wp_X9_ofSort
  refine t_hasS hW (fun _ _ => ⟨fun q => absurd q (by decide), fun _ => ?_⟩) (fun q => by rw [ha] at q; omega)
  rw [ew, show mm_rt 9 1 = 11 from rfl]
  exact ⟨fun q => by omega, fun _ => ⟨fun _ => ⟨⟨by omega, by omega⟩, by rw [show a * 6 + w = 6 * a + w by omega]; exact hp⟩, fun q => by omega⟩⟩
theorem t_desk {C S : Int} {s : mm_M} {a : Int} {post : Option Nat → mm_M → Prop} (hW : tw C S s) (h : 0 ≤ a ∧ a < C) (h1 : post (some (65 + 2 * a.toNat)) s) : wp_X7_deskOf 29 a s post := by
  have := hW.c0
  have ha : n32 a = a := n32_id (by omega) (by omega)
  unfold wp_X7_deskOf
  rw [show mm_rt 29 0 = 9 from rfl, show mm_rt 29 4 = 31 from rfl]
  refine t_hasC hW (fun a1 a2 => ⟨fun q => absurd q (by decide), fun _ => ?_⟩) (fun q => by rw [ha] at q; omega)
  exact ⟨⟨by omega, by omega⟩, by rw [(rt_d a.toNat (by omega)).1]; exact h1⟩
theorem t_desk0 {C S : Int} {s : mm_M} {a : Int} {post : Option Nat → mm_M → Prop} (hW : tw C S s) (h : C ≤ a ∧ a < 3) (h1 : post none s) : wp_X7_deskOf 29 a s post := by
  have := hW.c0
  have ha : n32 a = a := n32_id (by omega) (by omega)
  unfold wp_X7_deskOf
  rw [show mm_rt 29 0 = 9 from rfl, show mm_rt 29 4 = 31 from rfl]
  exact t_hasC hW (fun a1 a2 => by omega) (fun q => ⟨fun _ => h1, fun z => absurd m_0 z⟩)
theorem t_who {C S : Int} {T : Sh} {s : mm_M} {a : Int} {post : Option Nat → mm_M → Prop} (r : rep s 29 C S T) (w : wf C S T) (h : 0 ≤ a ∧ a < 30) (h1 : T.pe (7 * a + 2) ≠ -1 → post (some (35 + a.toNat)) s) (h0 : T.pe (7 * a + 2) = -1 → post none s) : wp_X7_whoIsThere 29 a s post := by
  have ha : n32 a = a := n32_id (by omega) (by omega)
  have e := (r.pp a.toNat (by omega)).1
  have f := w.ho a h.1 h.2
  rw [show ((a.toNat : Nat) : Int) = a by omega, show 29 + 6 + a.toNat = 35 + a.toNat by omega] at e
  unfold wp_X7_whoIsThere
  rw [ha, show mm_rt 29 3 = 30 from rfl]
  refine ⟨fun q => by omega, fun _ => ⟨fun h2 => ⟨⟨by omega, h2⟩, ?_⟩, fun h2 => by omega⟩⟩
  rw [rt_p a.toNat (by omega), e, n32_id (x := T.pe (7 * a + 2)) (by omega) (by omega)]
  exact ⟨fun q => h1 q, fun q => h0 q⟩
theorem rep.cg {s s' : mm_M} {b : Nat} {C S : Int} {T : Sh} (hC : C ≤ 3) (r : rep s b C S T) (e : ∀ a : Nat, b ≤ a → a < b + 42 → s' a = s a) : rep s' b C S T :=
  ⟨by rw [e _ (by omega) (by omega)]; exact r.mn, by rw [e _ (by omega) (by omega)]; exact r.lot, fun c hc => by rw [e _ (by omega) (by omega), e (b + 37 + 2 * c) (by omega) (by omega)]; exact r.dk c hc, fun p hp => by rw [e _ (by omega) (by omega)]; exact r.pp p hp, fun j => by rw [e _ (by omega) (by omega)]; exact r.tt j, by rw [e _ (by omega) (by omega)]; exact r.en, fun j => by rw [e _ (by omega) (by omega)]; exact r.bk j⟩
theorem rep.tells {s : mm_M} {C S : Int} {T : Sh} (hC : C ≤ 3) (r : rep s 29 C S T) {a w n : Int} (h : 0 ≤ a ∧ a < S) (hw : 0 ≤ w ∧ w < 7) : rep (mm_up s 32 (7 * a + w) (s 32 (7 * a + w) + n)) 29 C S (tellsT T a w n) := by
  have e : ∀ x : Nat, x ≠ 32 → mm_up s 32 (7 * a + w) (s 32 (7 * a + w) + n) x = s x := fun x hx => up_c hx
  refine ⟨by rw [e _ (by omega)]; exact r.mn, by rw [e _ (by omega)]; exact r.lot, fun c hc => by rw [e _ (by omega), e _ (by omega)]; exact r.dk c hc, fun p hp => by rw [e _ (by omega)]; exact r.pp p hp, fun j j1 j2 => ?_, by rw [e _ (by omega)]; exact r.en, fun j => by rw [e _ (by omega)]; exact r.bk j⟩
  have t := r.tt (7 * a + w) (by omega) (by omega)
  show mm_up s 32 (7 * a + w) (s 32 (7 * a + w) + n) 32 j = fu T.t7 (7 * a + w) (T.t7 (7 * a + w) + n) j
  by_cases q : j = 7 * a + w
  · rw [q, up_e, fu_e]; show s (29 + 3) (7 * a + w) + n = _; rw [t]
  · rw [up_n (Or.inr q), fu_n q]; exact r.tt j j1 j2
theorem t_raise {C S : Int} {T : Sh} {s : mm_M} {a w n : Int} {post : mm_M → Prop} (hW : tw C S s) (r : rep s 29 C S T) (h : 0 ≤ a ∧ a < S) (hw : 0 ≤ w ∧ w < 7) (hp : ∀ s', rep s' 29 C S (tellsT T a w n) → agC s s' → post s') : wp_X7_raise 29 a w n s post := by
  have h5 := hW.s0
  have ha : n32 a = a := n32_id (by omega) (by omega)
  have ew : n32 w = w := n32_id (by omega) (by omega)
  unfold wp_X7_raise
  rw [show mm_rt 29 0 = 9 from rfl]
  refine t_hasS hW (fun _ _ => ⟨fun q => absurd q (by decide), fun _ => ?_⟩) (fun q => by rw [ha] at q; omega)
  rw [ew, show mm_rt 29 5 = 32 from rfl, show a * 7 + w = 7 * a + w by omega]
  refine ⟨fun q => by omega, fun _ => ⟨fun q => by omega, fun _ => ⟨⟨by omega, by omega⟩, ⟨by omega, by omega⟩, fun s' e => ?_⟩⟩⟩
  subst e
  exact hp _ (r.tells hW.c0.2 h hw) (agC.rf.up (scC_shop (by omega) (by omega)))
/-- one fact of one who is there -/
def slot (i o : Int) : Prop := i = 0 ∧ o = 2 ∨ i = 1 ∧ o = 0 ∨ i = 2 ∧ o = 1 ∨ i = 3 ∧ o = 3 ∨ i = 4 ∧ o = 4 ∨ i = 5 ∧ o = 5 ∨ i = 6 ∧ o = 6
theorem rep.ps {s : mm_M} {C S : Int} {T : Sh} (hC : C ≤ 3) (r : rep s 29 C S T) {p : Nat} (hp : p < 30) (hs : T.pe (7 * p + 2) ≠ -1) {i o v : Int} (hi : slot i o) : rep (mm_up s (35 + p) i v) 29 C S (setsT T p o v) := by
  have e : ∀ x : Nat, x ≠ 35 + p → mm_up s (35 + p) i v x = s x := fun x hx => up_c hx
  refine ⟨by rw [e _ (by omega)]; exact r.mn, by rw [e _ (by omega)]; exact r.lot, fun c hc => by rw [e _ (by omega), e _ (by omega)]; exact r.dk c hc, fun q hq => ?_, fun j => by rw [e _ (by omega)]; exact r.tt j, by rw [e _ (by omega)]; exact r.en, fun j => by rw [e _ (by omega)]; exact r.bk j⟩
  show _ = fu T.pe (7 * p + o) v _ ∧ (fu T.pe (7 * p + o) v _ ≠ _ → _ = fu T.pe (7 * p + o) v _ ∧ _ = fu T.pe (7 * p + o) v _ ∧ _ = fu T.pe (7 * p + o) v _ ∧ _ = fu T.pe (7 * p + o) v _ ∧ _ = fu T.pe (7 * p + o) v _ ∧ _ = fu T.pe (7 * p + o) v _)
  have g := r.pp q hq
  by_cases h : q = p
  · subst h
    rw [show 29 + 6 + q = 35 + q by omega] at g ⊢
    have g2 := g.2 hs
    have key : ∀ i' o' : Int, slot i' o' → s (35 + q) i' = T.pe (7 * q + o') → mm_up s (35 + q) i v (35 + q) i' = fu T.pe (7 * q + o) v (7 * q + o') := by
      intro i' o' hi' hz
      unfold slot at hi hi'
      by_cases z : o' = o
      · have : i' = i := by omega
        rw [this, z, up_e, fu_e]
      · rw [up_n (Or.inr (by omega)), fu_n (by omega)]
        exact hz
    have k1 := key 1 0 (by unfold slot; omega) (by rw [show 7 * (q : Int) + 0 = 7 * q by omega]; exact g2.1)
    rw [show 7 * (q : Int) + 0 = 7 * q by omega] at k1
    exact ⟨key 0 2 (by unfold slot; omega) g.1, fun _ => ⟨k1, key 2 1 (by unfold slot; omega) g2.2.1, key 3 3 (by unfold slot; omega) g2.2.2.1, key 4 4 (by unfold slot; omega) g2.2.2.2.1, key 5 5 (by unfold slot; omega) g2.2.2.2.2.1, key 6 6 (by unfold slot; omega) g2.2.2.2.2.2⟩⟩
  · have ho : 0 ≤ o ∧ o < 7 := by unfold slot at hi; omega
    rw [e _ (by omega), fu_n (by omega), fu_n (by omega), fu_n (by omega), fu_n (by omega), fu_n (by omega), fu_n (by omega), fu_n (by omega)]
    exact g
theorem rep.pe {s s' : mm_M} {C S : Int} {T : Sh} (hC : C ≤ 3) (r : rep s 29 C S T) {p : Nat} (hp : p < 30) (hs : T.pe (7 * p + 2) ≠ -1) {i o v : Int} (hi : slot i o) (e : s' = mm_up s (35 + p) i v) : rep s' 29 C S (setsT T p o v) := by
  rw [e]
  exact r.ps hC hp hs hi
def appT (T : Sh) (c p : Int) : Sh := (⟨T.mn, T.lot, T.st, T.bu, fu T.ma c (T.ma c + 1), fu T.rw (30 * c + T.ma c) p, T.pe, T.t7, T.en, T.bk⟩ : Sh)
theorem t_app {C S : Int} {T : Sh} {s : mm_M} {c : Nat} {p : Int} {post : mm_M → Prop} (hC : C ≤ 3) (r : rep s 29 C S T) (hc : (c : Int) < C) (hm : ∀ d : Int, 0 ≤ d → d < C → 0 ≤ T.ma d ∧ T.ma d ≤ 30) (hr : T.ma c < 30) (hp : ∀ s', rep s' 29 C S (appT T c p) → agC s s' → post s') : wp_X2_append (65 + 2 * c) p s post := by
  obtain ⟨d1, d2, d3, d4⟩ := r.dk c hc
  rw [show 29 + 36 + 2 * c = 65 + 2 * c by omega] at d1 d2 d3
  have m0 := hm c (by omega) hc
  unfold wp_X2_append
  rw [d1, n32_id (x := T.ma c) (by omega) (by omega), (rt_d c (by omega)).2]
  refine ⟨fun q => by omega, fun _ => ⟨fun q => by omega, fun _ => ⟨⟨by omega, by omega⟩, fun s1 e1 s2 e2 => ?_⟩⟩⟩
  have e3 : s1 (65 + 2 * c) 1 = T.ma c := by rw [e1, up_c (by omega)]; exact d1
  rw [e3] at e2
  subst e2; subst e1
  have e : ∀ x : Nat, x ≠ 65 + 2 * c → x ≠ 66 + 2 * c → mm_up (mm_up s (66 + 2 * c) (T.ma c) p) (65 + 2 * c) 1 (T.ma c + 1) x = s x := fun x h1 h2 => by rw [up_c h1, up_c h2]
  refine hp _ ⟨by rw [e _ (by omega) (by omega)]; exact r.mn, by rw [e _ (by omega) (by omega)]; exact r.lot, fun x hx => ?_, fun q hq => by rw [e _ (by omega) (by omega)]; exact r.pp q hq, fun j => by rw [e _ (by omega) (by omega)]; exact r.tt j, by rw [e _ (by omega) (by omega)]; exact r.en, fun j => by rw [e _ (by omega) (by omega)]; exact r.bk j⟩ ((agC.rf.up (scC_shop (by omega) (by omega))).up (scC_shop (by omega) (by omega)))
  show _ = fu T.ma c (T.ma c + 1) x ∧ _ ∧ _ ∧ ∀ k : Int, 0 ≤ k → k < fu T.ma c (T.ma c + 1) x → _ = fu T.rw (30 * c + T.ma c) p _
  by_cases h : x = c
  · subst h
    rw [show 29 + 36 + 2 * x = 65 + 2 * x by omega, show 29 + 37 + 2 * x = 66 + 2 * x by omega, fu_e, up_e]
    refine ⟨rfl, by rw [up_n (Or.inr (by omega)), up_c (by omega)]; exact d2, by rw [up_n (Or.inr (by omega)), up_c (by omega)]; exact d3, fun k k1 k2 => ?_⟩
    rw [up_c (by omega)]
    by_cases q : k = T.ma x
    · rw [q, up_e, fu_e]
    · rw [up_n (Or.inr q), fu_n (by omega)]
      exact d4 k k1 (by omega)
  · rw [e _ (by omega) (by omega), e _ (by omega) (by omega), fu_n (by omega)]
    obtain ⟨b1, b2, b3, b4⟩ := r.dk x hx
    have mx := hm x (by omega) hx
    refine ⟨b1, b2, b3, fun k k1 k2 => ?_⟩
    rw [fu_n (by omega)]
    exact b4 k k1 k2
theorem t_comeIn {C S : Int} {T : Sh} {s : mm_M} {p : Nat} {post : mm_M → Prop} (hW : tw C S s) (r : rep s 29 C S T) (hp : p < 30) (hg : T.pe (7 * p + 2) ≠ -1) (hs : 0 ≤ T.pe (7 * p) ∧ T.pe (7 * p) < S) (hc : 0 ≤ T.pe (7 * p + 1) ∧ T.pe (7 * p + 1) < C) (hm : ∀ d : Int, 0 ≤ d → d < C → 0 ≤ T.ma d ∧ T.ma d ≤ 30) (hr : T.ma (T.pe (7 * p + 1)) < 30) (k : ∀ s', rep s' 29 C S (entT (s 211 17) T p) → agC s s' → post s') : wp_X7_comeIn 29 p (35 + p) s post := by
  have g := (r.pp p hp).2 hg
  rw [show 29 + 6 + p = 35 + p by omega] at g
  have w := hW.w
  have hC3 := hW.c0
  unfold wp_X7_comeIn
  rw [g.2.1]
  refine t_desk hW hc ⟨fun q => (by cases q), fun t ht => ?_⟩
  cases ht
  unfold wp_X9_fee
  rw [show mm_rt 29 0 = 9 from rfl, mx_0 w.2.2.2.2.2.2.2.1 (by have := w.2.2.2.2.2.2.2.2.1; omega), ← w.2.2.2.2.2.2.2.2.2.1, g.1]
  refine t_raise hW r hs (by omega) (fun s1 r1 a1 => ?_)
  intro s2 e2 s3 e3 s4 e4
  have r2 := r1.pe hC3.2 hp hg (i := 0) (o := 2) (by unfold slot; omega) e2
  have e2' : s2 29 7 = T.mn := r2.mn
  rw [e2'] at e3
  have n2 : (setsT (tellsT T (T.pe (7 * ↑p)) 6 (-s 211 17)) p 2 0).pe (7 * p + 2) ≠ -1 := by show fu _ _ _ _ ≠ _; rw [fu_e]; omega
  have r3 := r2.pe hC3.2 hp n2 (i := 4) (o := 4) (by unfold slot; omega) e3
  have n3 : (setsT (setsT (tellsT T (T.pe (7 * ↑p)) 6 (-s 211 17)) p 2 0) p 4 T.mn).pe (7 * p + 2) ≠ -1 := by show fu _ _ _ _ ≠ _; rw [fu_n (by omega)]; exact n2
  have r4 := r3.pe hC3.2 hp n3 (i := 6) (o := 6) (by unfold slot; omega) e4
  have a4 : agC s s4 := by
    rw [e4, e3, e2]
    exact ((a1.up (scC_shop (by omega) (by omega))).up (scC_shop (by omega) (by omega))).up (scC_shop (by omega) (by omega))
  have ec : ((T.pe (7 * p + 1)).toNat : Int) = T.pe (7 * p + 1) := by omega
  refine t_app hC3.2 r4 (by rw [ec]; exact hc.2) hm (by rw [ec]; exact hr) (fun s5 r5 a5 => k s5 ?_ (a4.tr a5))
  rw [ec] at r5
  exact r5
theorem t_rem {C S : Int} {T : Sh} {s : mm_M} {c : Nat} {p : Int} {post : mm_M → Prop} (hC : C ≤ 3) (r : rep s 29 C S T) (w : wf C S T) (hc : (c : Int) < C) (hp : 0 ≤ p ∧ p < 30) (k : ∀ k0 s', 0 ≤ k0 → k0 < T.ma c → T.rw (30 * c + k0) = p → rep s' 29 C S (remT T c k0) → agC s s' → post s') (k2 : (∀ j : Int, 0 ≤ j → j < T.ma c → T.rw (30 * c + j) ≠ p) → post s) : wp_X2_remove (65 + 2 * c) p s post := by
  obtain ⟨d1, d2, d3, d4⟩ := r.dk c hc
  rw [show 29 + 36 + 2 * c = 65 + 2 * c by omega] at d1 d2 d3
  rw [show 29 + 37 + 2 * c = 66 + 2 * c by omega] at d4
  have m0 := w.ma0 c (by omega) hc
  intro L24 h24
  have rt := (rt_d c (by omega)).2
  refine s_plX rt d1 m0 (n32_id (by omega) (by omega)) (fun j j1 j2 => ?_) (fun k0 j1 j2 e0 hf => ?_) (fun hn => ?_)
  · rw [d4 j j1 j2]
    have := w.ro c j (by omega) hc j1 j2
    exact n32_id (by omega) (by omega)
  · intro v ev
    subst ev
    rw [n32_id (x := v) (by omega) (by omega)]
    refine ⟨fun _ s1 e1 v3 e3 => ?_, fun q => by omega⟩
    rw [d1] at e1
    subst e3
    have key : ∀ d x : Nat, (x : Int) + d = T.ma c - 1 → v3 ≤ x → ∀ t : mm_M, t (65 + 2 * c) 1 = T.ma c - 1 → (∀ j, j ≠ 1 → t (65 + 2 * c) j = s (65 + 2 * c) j) → (∀ j, t (66 + 2 * c) j = if v3 ≤ j ∧ j < x then s (66 + 2 * c) (j + 1) else s (66 + 2 * c) j) → (∀ a : Nat, a ≠ 65 + 2 * c → a ≠ 66 + 2 * c → t a = s a) → L24 x t := by
      intro d
      induction d with
      | zero =>
        intro x hx hv t g1 g2 g3 g4
        apply h24
        rw [g1, n32_id (x := T.ma c - 1) (by omega) (by omega), n32_id (x := (x : Int)) (by omega) (by omega)]
        refine ⟨fun _ => k v3 t j1 j2 (by rw [← d4 v3 j1 j2]; exact e0) ?_ ?_, fun q => by omega⟩
        · refine ⟨by rw [g4 _ (by omega) (by omega)]; exact r.mn, by rw [g4 _ (by omega) (by omega)]; exact r.lot, fun y hy => ?_, fun q hq => by rw [g4 _ (by omega) (by omega)]; exact r.pp q hq, fun j => by rw [g4 _ (by omega) (by omega)]; exact r.tt j, by rw [g4 _ (by omega) (by omega)]; exact r.en, fun j => by rw [g4 _ (by omega) (by omega)]; exact r.bk j⟩
          show _ = fu T.ma c (T.ma c - 1) y ∧ _ ∧ _ ∧ ∀ k : Int, 0 ≤ k → k < fu T.ma c (T.ma c - 1) y → _ = if 30 * c + v3 ≤ 30 * y + k ∧ 30 * y + k < 30 * c + T.ma c - 1 then T.rw (30 * y + k + 1) else T.rw (30 * y + k)
          by_cases h : y = c
          · subst h
            rw [show 29 + 36 + 2 * y = 65 + 2 * y by omega, show 29 + 37 + 2 * y = 66 + 2 * y by omega, fu_e]
            refine ⟨g1, by rw [g2 2 (by omega)]; exact d2, by rw [g2 3 (by omega)]; exact d3, fun j a1 a2 => ?_⟩
            rw [g3 j]
            by_cases q : v3 ≤ j
            · rw [if_pos (by omega), if_pos (by omega), d4 (j + 1) (by omega) (by omega)]
              congr 1; omega
            · rw [if_neg (by omega), if_neg (by omega), d4 j (by omega) (by omega)]
          · rw [g4 _ (by omega) (by omega), g4 _ (by omega) (by omega), fu_n (by omega)]
            obtain ⟨b1, b2, b3, b4⟩ := r.dk y hy
            have my := w.ma0 y (by omega) hy
            refine ⟨b1, b2, b3, fun j a1 a2 => ?_⟩
            rw [if_neg (by omega)]
            exact b4 j a1 a2
        · intro a j q
          have : a ≠ 65 + 2 * c := fun z => by rw [scC_shop (a := a) (j := j) (by omega) (by omega)] at q; cases q
          have : a ≠ 66 + 2 * c := fun z => by rw [scC_shop (a := a) (j := j) (by omega) (by omega)] at q; cases q
          rw [g4 a (by assumption) (by assumption)]
      | succ d ih =>
        intro x hx hv t g1 g2 g3 g4
        apply h24
        rw [g1, n32_id (x := T.ma c - 1) (by omega) (by omega), n32_id (x := (x : Int)) (by omega) (by omega), rt]
        refine ⟨fun q => by omega, fun _ => ⟨fun q => by omega, fun _ => ⟨⟨by omega, by omega⟩, ⟨by omega, by omega⟩, fun t1 e1 v e => ?_⟩⟩⟩
        subst e
        rw [show (x : Int) + 1 = ((x + 1 : Nat) : Int) by omega]
        subst e1
        refine ih (x + 1) (by omega) (by omega) _ (by rw [up_c (by omega)]; exact g1) (fun j hj => by rw [up_c (by omega)]; exact g2 j hj) (fun j => ?_) (fun a a1 a2 => by rw [up_c a2]; exact g4 a a1 a2)
        by_cases q : j = x
        · rw [q, up_e, if_pos (by omega), g3, if_neg (by omega)]
        · rw [up_n (Or.inr q), g3]
          by_cases q2 : v3 ≤ j ∧ j < x
          · rw [if_pos q2, if_pos (by omega)]
          · rw [if_neg q2, if_neg (by omega)]
    have ev : ((v3.toNat : Nat) : Int) = v3 := by omega
    have := key (T.ma c - 1 - v3).toNat v3.toNat (by omega) (by omega) s1 (by rw [e1, up_e]) (fun j hj => by rw [e1, up_n (Or.inr hj)]) (fun j => by rw [if_neg (by omega), e1, up_c (by omega)]) (fun a a1 a2 => by rw [e1, up_c a1])
    rw [ev] at this
    exact this
  · intro v ev
    subst ev
    rw [m_m1]
    exact ⟨fun q => absurd rfl q, fun _ => k2 (fun j a1 a2 => by rw [← d4 j a1 a2]; exact hn j a1 a2)⟩
/-- who leaves the row -/
theorem t_aside {C S : Int} {T : Sh} {s : mm_M} {p : Nat} {post : mm_M → Prop} (hW : tw C S s) (r : rep s 29 C S T) (w : wf C S T) (hp : p < 30) (hg : T.pe (7 * p + 2) ≠ -1) (k : T.pe (7 * p + 2) = 0 → ∀ s', rep s' 29 C S (levT T p) → agC s s' → post s') (k2 : T.pe (7 * p + 2) ≠ 0 → post s) : wp_X7_standAside 29 p (35 + p) s post := by
  have g := (r.pp p hp).2 hg
  have f := w.pf p (by omega) (by omega) hg
  rw [show 29 + 6 + p = 35 + p by omega] at g
  unfold wp_X7_standAside
  rw [g.2.1]
  refine t_desk hW ⟨f.2.2.1, f.2.2.2.1⟩ ⟨fun q => (by cases q), fun t ht => ?_⟩
  cases ht
  have ec : ((T.pe (7 * p + 1)).toNat : Int) = T.pe (7 * p + 1) := by omega
  refine t_rem hW.c0.2 r w (by rw [ec]; exact f.2.2.2.1) ⟨by omega, by omega⟩ (fun k0 s' a1 a2 a3 r' a' => ?_) (fun hn => ?_)
  · rw [ec] at a2 a3 r'
    have ro := w.ro _ k0 f.2.2.1 f.2.2.2.1 a1 a2
    rw [a3] at ro
    have l := w.pl (p := p) (by omega) (by omega) ro.2.2.1
    have := w.di _ k0 (plT T p) f.2.2.1 f.2.2.2.1 a1 a2 l.1 l.2.1 (by rw [a3, l.2.2.1])
    rw [this] at r'
    exact k ro.2.2.1 s' r' a'
  · refine k2 (fun z => ?_)
    have l := w.pl (p := p) (by omega) (by omega) z
    rw [ec] at hn
    exact hn _ l.1 l.2.1 l.2.2.1
