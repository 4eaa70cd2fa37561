/-! promises 24, 25, 26, 28 -/
theorem pl_e {a : Int} (h : n32 a = a) (h0 : 0 ≤ a) : Int.tdiv (n32 a) 10000 = a / 10000 ∧ Int.tdiv (n32 a) 100 = a / 100 ∧ Int.tmod (n32 (Int.tdiv (n32 a) 100)) 100 = a / 100 % 100 ∧ Int.tmod (n32 a) 100 = a % 100 ∧ a ≤ 2147483647 := by
  have g := n32_lt a
  rw [h] at g
  rw [h]
  have e1 : Int.tdiv a 10000 = a / 10000 := Int.tdiv_eq_ediv_of_nonneg h0
  have e2 : Int.tdiv a 100 = a / 100 := Int.tdiv_eq_ediv_of_nonneg h0
  have e3 : Int.tmod a 100 = a % 100 := Int.tmod_eq_emod_of_nonneg h0
  have e4 : n32 (a / 100) = a / 100 := n32_id (by omega) (by omega)
  rw [e1, e2, e3, e4, Int.tmod_eq_emod_of_nonneg (show 0 ≤ a / 100 by omega)]
  exact ⟨rfl, rfl, rfl, rfl, by omega⟩
def asd (s : mm_M) (i c q : Int) : Prop := (0 ≤ i ∧ i < s 9 5) ∧ (0 ≤ c ∧ c < s 9 4) ∧ tL s c ≤ 3 ∧ 0 ≤ q ∧ q ≤ 16
/-- the value at minute T in town s -/
def tv (s : mm_M) (i c q : Int) (T : Nat) (a b : Int) : Int := dv (tL s c) (tM s c) (tWo s i) (tK s i) q (tC s i (s 211 17)) T a b
def tact (s : mm_M) (i c q : Int) : Nat → Int → Int → Int
  | 0 => fun _ _ => 2
  | T + 1 => fun a b => acv (stv (tL s c) (tM s c) (tWo s i) (tK s i) q (tv s i c q T) ((T : Int) + 1) a b) (stv (tL s c) (tM s c) (tWo s i) (tK s i) q (tv s i c q T) ((T : Int) + 1) (a + b) 0 - tC s i (s 211 17))
theorem u_at {u : mm_M} {f : Int → Int → Int} {t a b : Int} {post : Int → mm_M → Prop} (ht : 0 ≤ t ∧ t ≤ 120) (hw : wAt u f t) (v : vld a b) (hp : post (f a b) u) : wp_X11_worthAt 211 t a b u post := by
  have v' := v
  obtain ⟨v1, v2, v3⟩ := v'
  refine ⟨⟨by omega, by omega⟩, ?_⟩
  rw [show mm_rt 211 58 = 246 from rfl, hw a b v]
  exact hp
/-- promise 24 -/
theorem q_value {s : mm_M} {a1 a2 a3 a4 a5 : Int} (hR : Rel s) (h1 : n32 a1 = a1) (h2 : n32 a2 = a2) (h3 : n32 a3 = a3) (h4 : n32 a4 = a4) (h5 : n32 a5 = a5) (post : Int → mm_M → Prop) (hp : ∀ r1 s1, Gd (wp_X11_value 211 a1 a2 a3 a4 a5 s1) r1 → post r1 s1) : wp_X10_value 0 a1 a2 a3 a4 a5 s post := by
  have f := hR.fee
  have k1 : n32 1 = 1 := rfl
  have no : ∀ u, ag s u → ¬ (asd s a1 a2 a4 ∧ 0 ≤ a3 ∧ a3 / 10000 ≤ 120 ∧ a3 / 100 % 100 + a3 % 100 ≤ 12 ∧ 0 ≤ a5 ∧ a5 ≤ 1) → Gd (wp_X11_value 211 a1 a2 a3 a4 a5 u) (-2147483648) := by
    intro u au q p2 k2
    have fin := k2 (-2147483648) u rfl (hR.fr au)
    unfold wp_X11_value
    refine u_asked hR au h1 h2 h4 (fun b1 b2 b3 b4 => ⟨fun z => absurd z (by decide), fun _ => ?_⟩) (fun _ => ⟨fun _ => fin, fun z => absurd m_0 z⟩)
    have ask : asd s a1 a2 a4 := ⟨b1, b2, b3, b4⟩
    unfold wp_X11_isPlace
    rw [h3]
    refine ⟨fun z => ⟨fun _ => fin, fun y => absurd m_0 y⟩, fun z => ?_⟩
    have e := pl_e h3 (by omega)
    rw [h3] at e
    rw [e.1, e.2.2.1, e.2.2.2.1, n32_id (x := a3 / 10000) (by omega) (by omega), n32_id (x := a3 / 100 % 100 + a3 % 100) (by omega) (by omega)]
    refine ⟨fun z2 => ⟨fun _ => fin, fun y => absurd m_0 y⟩, fun z2 => ⟨fun z3 => ⟨fun _ => fin, fun y => absurd m_0 y⟩, fun z3 => ⟨fun y => absurd y (by decide), fun _ => s_in (fun d1 d2 => ?_) (fun _ => ⟨fun y => absurd m_0 y, fun _ => fin⟩)⟩⟩⟩
    rw [h5, m_0] at d1
    rw [h5, k1] at d2
    exact absurd ⟨ask, by omega, by omega, by omega, d1, d2⟩ q
  have yes : ∀ u (T : Nat), ag s u → asd s a1 a2 a4 → 0 ≤ a3 → (T : Int) = a3 / 10000 → T ≤ 120 → a3 / 100 % 100 + a3 % 100 ≤ 12 → 0 ≤ a5 → a5 ≤ 1 → Gd (wp_X11_value 211 a1 a2 a3 a4 a5 u) (if a5 = 0 then tv s a1 a2 a4 T (a3 / 100 % 100) (a3 % 100) else tact s a1 a2 a4 T (a3 / 100 % 100) (a3 % 100)) := by
    intro u T au ask z eT z2 z3 z5 z6 p2 k2
    obtain ⟨b1, b2, b3, b4⟩ := ask
    have p := hR.pk b1 b2 b3 b4 (fee := s 211 17) (by omega)
    have v : vld (a3 / 100 % 100) (a3 % 100) := ⟨by omega, by omega, z3⟩
    unfold wp_X11_value
    refine u_asked hR au h1 h2 h4 (fun _ _ _ _ => ⟨fun z => absurd z (by decide), fun _ => ?_⟩) (fun q => absurd ⟨b1, b2, b3, b4⟩ q)
    unfold wp_X11_isPlace
    have e := pl_e h3 z
    rw [h3] at e ⊢
    rw [e.1, e.2.2.1, e.2.2.2.1, n32_id (x := a3 / 10000) (by omega) (by omega), n32_id (x := a3 / 100 % 100 + a3 % 100) (by omega) (by omega)]
    refine ⟨fun y => by omega, fun _ => ⟨fun y => by omega, fun _ => ⟨fun y => by omega, fun _ => ⟨fun y => absurd y (by decide), fun _ => s_in (fun _ _ => ⟨fun _ v6 e6 => ?_, fun y => absurd y (by decide)⟩) (fun b => by rw [h5, m_0, k1] at b; omega)⟩⟩⟩⟩
    rw [e6, ← eT, au 211 17 rfl, h5]
    refine u_works hR au b1 b2 b3 b4 (by omega) z2 (fun w aw wc w9 wt => ⟨fun y => ?_, fun y => ?_⟩)
    · rw [if_neg y] at k2
      cases T with
      | zero =>
        intro L40 h40
        exact ⟨fun x => absurd rfl x, fun _ => k2 _ _ rfl (hR.fr aw)⟩
      | succ T =>
        have hw := wt T (by omega)
        refine u_act p wc w9 ⟨by omega, by omega⟩ (dv_r p T) (by rw [show ((T + 1 : Nat) : Int) - 1 = (T : Int) by omega]; exact hw) v ?_
        exact k2 _ _ rfl (hR.fr aw)
    · rw [if_pos y] at k2
      exact u_at ⟨by omega, by omega⟩ (wt T (Nat.le_refl T)) v (k2 _ _ rfl (hR.fr aw))
  unfold wp_X10_value
  rw [h3, h5, show mm_rt 0 9 = 206 from rfl, show mm_rt 0 1 = 9 from rfl]
  refine ⟨fun z => hp _ _ (no s ag.rf (by omega)), fun z => ⟨fun y => hp _ _ (no s ag.rf (by omega)), fun y => ⟨fun x v6 e6 v7 e7 v8 e8 => ?_, fun x => hp _ _ (no s ag.rf (by omega))⟩⟩⟩
  have e := pl_e h3 (by omega)
  rw [h3] at e
  rw [e.1] at e6
  rw [e.2.2.1] at e7
  rw [e.2.2.2.1] at e8
  rw [e6, e7, e8]
  unfold wp_X10_canStand
  rw [n32_id (x := a3 / 10000) (by omega) (by omega), n32_id (x := a3 / 100 % 100) (by omega) (by omega), n32_id (x := a3 % 100) (by omega) (by omega), n32_id (x := a3 / 100 % 100 + a3 % 100) (by omega) (by omega)]
  refine ⟨fun w => by omega, fun _ => ⟨fun w => ⟨fun _ => hp _ _ (no s ag.rf (by omega)), fun w => absurd m_0 w⟩, fun w => ⟨fun w => by omega, fun _ => ⟨fun w => by omega, fun _ => ⟨fun w2 => ⟨fun _ => hp _ _ (no s ag.rf (by omega)), fun w => absurd m_0 w⟩, fun w2 => ⟨fun w => absurd w (by decide), fun _ => ?_⟩⟩⟩⟩⟩⟩
  obtain ⟨T, eT⟩ : ∃ T : Nat, (T : Int) = a3 / 10000 := ⟨(a3 / 10000).toNat, by omega⟩
  have v : vld (a3 / 100 % 100) (a3 % 100) := ⟨by omega, by omega, by omega⟩
  rw [← eT]
  refine t_begin hR h1 h2 h4 (fun b1 b2 b3 b4 u au _ hu => ⟨fun _ => ?_, fun w => absurd w (by decide)⟩) (fun q u au => ⟨fun w => absurd m_0 w, fun _ => hp _ _ (no u au (fun k => q k.1))⟩)
  have p := hR.pk b1 b2 b3 b4 (fee := s 211 17) (by omega)
  refine t_reach p hu ⟨by omega, by omega⟩ (fun w aw hw => ⟨fun k => ?_, fun k => ?_⟩)
  · have ye := yes w T (au.tr aw) ⟨b1, b2, b3, b4⟩ (by omega) eT (by omega) (by omega) (by omega) x
    rw [if_neg k] at ye
    cases T with
    | zero =>
      intro L40 h40
      rw [hw.2.2.1]
      exact ⟨fun y => absurd rfl y, fun _ => hp _ _ ye⟩
    | succ T =>
      refine t_act hw.2.1 (by rw [hw.2.2.1]; omega) ⟨p.2.2.2.2.2.1, p.2.2.2.2.2.2⟩ (hw.2.2.2.2 T rfl) (fun a b h => stv_r p (dv_r p T) h) v ?_
      exact hp _ _ ye
  · have ye := yes w T (au.tr aw) ⟨b1, b2, b3, b4⟩ (by omega) eT (by omega) (by omega) (by omega) x
    rw [if_pos k] at ye
    exact t_valueOf hw v (hp _ _ ye)
/-- promise 25 -/
theorem q_entering {s : mm_M} {a1 a2 a3 a4 : Int} (hR : Rel s) (h1 : n32 a1 = a1) (h2 : n32 a2 = a2) (h3 : n32 a3 = a3) (h4 : n32 a4 = a4) (post : Int → mm_M → Prop) (hp : ∀ r1 s1, Gd (wp_X11_entering 211 a1 a2 a3 a4 s1) r1 → post r1 s1) : wp_X10_entering 0 a1 a2 a3 a4 s post := by
  have f := hR.fee
  have no : ∀ u, ag s u → ¬ (asd s a1 a2 a4 ∧ 0 ≤ a3 ∧ a3 / 100 ≤ 120 ∧ a3 % 100 ≤ 12) → Gd (wp_X11_entering 211 a1 a2 a3 a4 u) (-2147483648) := by
    intro u au q p2 k2
    have fin := k2 (-2147483648) u rfl (hR.fr au)
    unfold wp_X11_entering
    refine u_asked hR au h1 h2 h4 (fun b1 b2 b3 b4 => ⟨fun z => absurd z (by decide), fun _ => ?_⟩) (fun _ => ⟨fun _ => fin, fun z => absurd m_0 z⟩)
    have ask : asd s a1 a2 a4 := ⟨b1, b2, b3, b4⟩
    rw [h3]
    refine ⟨fun z => fin, fun z => ?_⟩
    have e := pl_e h3 (by omega)
    rw [h3] at e
    rw [e.2.1, e.2.2.2.1, n32_id (x := a3 / 100) (by omega) (by omega), n32_id (x := a3 % 100) (by omega) (by omega)]
    refine ⟨fun _ => fin, fun z2 => ⟨fun z3 => absurd ⟨ask, by omega, by omega, z3⟩ q, fun _ => fin⟩⟩
  have yes : ∀ u (T : Nat), ag s u → asd s a1 a2 a4 → 0 ≤ a3 → (T : Int) = a3 / 100 → T ≤ 120 → a3 % 100 ≤ 12 → Gd (wp_X11_entering 211 a1 a2 a3 a4 u) (tv s a1 a2 a4 T (a3 % 100) 0 - 1000 * s 211 17) := by
    intro u T au ask z eT z2 z3 p2 k2
    obtain ⟨b1, b2, b3, b4⟩ := ask
    have v : vld (a3 % 100) 0 := ⟨by omega, by omega, by omega⟩
    unfold wp_X11_entering
    refine u_asked hR au h1 h2 h4 (fun _ _ _ _ => ⟨fun z => absurd z (by decide), fun _ => ?_⟩) (fun q => absurd ⟨b1, b2, b3, b4⟩ q)
    have e := pl_e h3 z
    rw [h3] at e ⊢
    rw [e.2.1, e.2.2.2.1, n32_id (x := a3 / 100) (by omega) (by omega), n32_id (x := a3 % 100) (by omega) (by omega)]
    refine ⟨fun y => by omega, fun _ => ⟨fun y => by omega, fun _ => ⟨fun _ => ?_, fun y => by omega⟩⟩⟩
    rw [← eT, au 211 17 rfl]
    refine u_works hR au b1 b2 b3 b4 (by omega) z2 (fun w aw wc w9 wt => u_at ⟨by omega, by omega⟩ (wt T (Nat.le_refl T)) v ?_)
    rw [aw 211 17 rfl]
    exact k2 _ _ rfl (hR.fr aw)
  unfold wp_X10_entering
  rw [h3, show mm_rt 0 9 = 206 from rfl, show mm_rt 0 1 = 9 from rfl]
  refine ⟨fun z v5 e5 v6 e6 => ?_, fun z => hp _ _ (no s ag.rf (by omega))⟩
  have e := pl_e h3 (by omega)
  rw [h3] at e
  rw [e.2.1] at e5
  rw [e.2.2.2.1] at e6
  rw [e5, e6]
  unfold wp_X10_canStand
  rw [n32_id (x := a3 / 100) (by omega) (by omega), n32_id (x := a3 % 100) (by omega) (by omega), n32_id (x := a3 % 100 + 0) (by omega) (by omega)]
  refine ⟨fun w => by omega, fun _ => ⟨fun w => ⟨fun _ => hp _ _ (no s ag.rf (by omega)), fun w => absurd m_0 w⟩, fun w => ⟨fun w => by omega, fun _ => ⟨fun w => absurd w (by decide), fun _ => ⟨fun w2 => ⟨fun _ => hp _ _ (no s ag.rf (by omega)), fun w => absurd m_0 w⟩, fun w2 => ⟨fun w => absurd w (by decide), fun _ => ?_⟩⟩⟩⟩⟩⟩
  obtain ⟨T, eT⟩ : ∃ T : Nat, (T : Int) = a3 / 100 := ⟨(a3 / 100).toNat, by omega⟩
  have v : vld (a3 % 100) 0 := ⟨by omega, by omega, by omega⟩
  rw [← eT]
  refine t_begin hR h1 h2 h4 (fun b1 b2 b3 b4 u au _ hu => ⟨fun _ => ?_, fun w => absurd w (by decide)⟩) (fun q u au => ⟨fun w => absurd m_0 w, fun _ => hp _ _ (no u au (fun k => q k.1))⟩)
  have p := hR.pk b1 b2 b3 b4 (fee := s 211 17) (by omega)
  refine t_reach p hu ⟨by omega, by omega⟩ (fun w aw hw => ?_)
  unfold wp_X9_fee
  rw [(au.tr aw) 9 7 rfl, f.2.2.1]
  exact t_valueOf hw v (hp _ _ (yes w T (au.tr aw) ⟨b1, b2, b3, b4⟩ (by omega) eT (by omega) (by omega)))
/-- promise 28 -/
theorem q_send {s : mm_M} {a1 a2 a3 a4 a5 : Int} (hR : Rel s) (h1 : n32 a1 = a1) (h2 : n32 a2 = a2) (h3 : n32 a3 = a3) (h4 : n32 a4 = a4) (h5 : n32 a5 = a5) (post : Int → mm_M → Prop) (hp : ∀ r1 s1, Gd (wp_X11_send 211 a1 a2 a3 a4 a5 s1) r1 → post r1 s1) : wp_X10_send 0 a1 a2 a3 a4 a5 s post := by
  have f := hR.fee
  have k1 : n32 99 = 99 := by decide
  have no : ∀ u, ag s u → ¬ (asd s a1 a2 a4 ∧ 0 ≤ a3 ∧ a3 / 10000 ≤ 120 ∧ a3 / 100 % 100 + a3 % 100 < 12 ∧ 0 ≤ a5 ∧ a5 ≤ 99) → Gd (wp_X11_send 211 a1 a2 a3 a4 a5 u) (-2147483648) := by
    intro u au q p2 k2
    have fin := k2 (-2147483648) u rfl (hR.fr au)
    unfold wp_X11_send
    refine u_asked hR au h1 h2 h4 (fun b1 b2 b3 b4 => ⟨fun z => absurd z (by decide), fun _ => ?_⟩) (fun _ => ⟨fun _ => fin, fun z => absurd m_0 z⟩)
    have ask : asd s a1 a2 a4 := ⟨b1, b2, b3, b4⟩
    unfold wp_X11_isPlace
    rw [h3]
    refine ⟨fun z => ⟨fun _ => fin, fun y => absurd m_0 y⟩, fun z => ?_⟩
    have e := pl_e h3 (by omega)
    rw [h3] at e
    rw [e.1, e.2.2.1, e.2.2.2.1, n32_id (x := a3 / 10000) (by omega) (by omega), n32_id (x := a3 / 100 % 100 + a3 % 100) (by omega) (by omega)]
    refine ⟨fun z2 => ⟨fun _ => fin, fun y => absurd m_0 y⟩, fun z2 => ⟨fun z3 => ⟨fun _ => fin, fun y => absurd m_0 y⟩, fun z3 => ⟨fun y => absurd y (by decide), fun _ => ⟨fun _ => fin, fun z4 => s_in (fun d1 d2 => ?_) (fun _ => ⟨fun y => absurd m_0 y, fun _ => fin⟩)⟩⟩⟩⟩
    rw [h5, m_0] at d1
    rw [h5, k1] at d2
    exact absurd ⟨ask, by omega, by omega, by omega, d1, d2⟩ q
  have yes : ∀ u (T : Nat), ag s u → asd s a1 a2 a4 → 0 ≤ a3 → (T : Int) = a3 / 10000 → T ≤ 120 → a3 / 100 % 100 + a3 % 100 < 12 → 0 ≤ a5 → a5 ≤ 99 → Gd (wp_X11_send 211 a1 a2 a3 a4 a5 u) (tv s a1 a2 a4 T (a3 / 100 % 100 + a3 % 100 + 1) 0 - 1000 * (s 211 17 + a5) - tv s a1 a2 a4 T (a3 / 100 % 100) (a3 % 100)) := by
    intro u T au ask z eT z2 z3 z5 z6 p2 k2
    obtain ⟨b1, b2, b3, b4⟩ := ask
    have v : vld (a3 / 100 % 100) (a3 % 100) := ⟨by omega, by omega, by omega⟩
    have v2 : vld (a3 / 100 % 100 + a3 % 100 + 1) 0 := ⟨by omega, by omega, by omega⟩
    unfold wp_X11_send
    refine u_asked hR au h1 h2 h4 (fun _ _ _ _ => ⟨fun z => absurd z (by decide), fun _ => ?_⟩) (fun q => absurd ⟨b1, b2, b3, b4⟩ q)
    unfold wp_X11_isPlace
    have e := pl_e h3 z
    rw [h3] at e ⊢
    rw [e.1, e.2.2.1, e.2.2.2.1, n32_id (x := a3 / 10000) (by omega) (by omega), n32_id (x := a3 / 100 % 100 + a3 % 100) (by omega) (by omega)]
    refine ⟨fun y => by omega, fun _ => ⟨fun y => by omega, fun _ => ⟨fun y => by omega, fun _ => ⟨fun y => absurd y (by decide), fun _ => ⟨fun y => by omega, fun _ => s_in (fun _ _ => ⟨fun _ v6 e6 v7 e7 v8 e8 => ?_, fun y => absurd y (by decide)⟩) (fun b => by rw [h5, m_0, k1] at b; omega)⟩⟩⟩⟩⟩
    rw [e6, e7, e8, ← eT, au 211 17 rfl]
    refine u_works hR au b1 b2 b3 b4 (by omega) z2 (fun w aw wc w9 wt => u_at ⟨by omega, by omega⟩ (wt T (Nat.le_refl T)) v2 (u_at ⟨by omega, by omega⟩ (wt T (Nat.le_refl T)) v ?_))
    rw [aw 211 17 rfl]
    exact k2 _ _ rfl (hR.fr aw)
  unfold wp_X10_send
  rw [h3, h5, show mm_rt 0 9 = 206 from rfl, show mm_rt 0 1 = 9 from rfl]
  refine ⟨fun z => hp _ _ (no s ag.rf (by omega)), fun z => ⟨fun y => hp _ _ (no s ag.rf (by omega)), fun y => ⟨fun x v6 e6 v7 e7 v8 e8 v9 e9 => ?_, fun x => hp _ _ (no s ag.rf (by omega))⟩⟩⟩
  have e := pl_e h3 (by omega)
  rw [h3] at e
  rw [e.1] at e6
  rw [e.2.2.1] at e7
  rw [e.2.2.2.1] at e8
  rw [e7, e8] at e9
  rw [e6, e7, e8, e9]
  unfold wp_X10_canStand
  rw [n32_id (x := a3 / 10000) (by omega) (by omega), n32_id (x := a3 / 100 % 100 + a3 % 100 + 1) (by omega) (by omega), n32_id (x := a3 / 100 % 100 + a3 % 100 + 1 + 0) (by omega) (by omega)]
  refine ⟨fun w => by omega, fun _ => ⟨fun w => ⟨fun _ => hp _ _ (no s ag.rf (by omega)), fun w => absurd m_0 w⟩, fun w => ⟨fun w => by omega, fun _ => ⟨fun w => absurd w (by decide), fun _ => ⟨fun w2 => ⟨fun _ => hp _ _ (no s ag.rf (by omega)), fun w => absurd m_0 w⟩, fun w2 => ⟨fun w => absurd w (by decide), fun _ => ?_⟩⟩⟩⟩⟩⟩
  obtain ⟨T, eT⟩ : ∃ T : Nat, (T : Int) = a3 / 10000 := ⟨(a3 / 10000).toNat, by omega⟩
  have v : vld (a3 / 100 % 100) (a3 % 100) := ⟨by omega, by omega, by omega⟩
  have v2 : vld (a3 / 100 % 100 + a3 % 100 + 1) 0 := ⟨by omega, by omega, by omega⟩
  rw [← eT]
  refine t_begin hR h1 h2 h4 (fun b1 b2 b3 b4 u au _ hu => ⟨fun _ => ?_, fun w => absurd w (by decide)⟩) (fun q u au => ⟨fun w => absurd m_0 w, fun _ => hp _ _ (no u au (fun k => q k.1))⟩)
  have p := hR.pk b1 b2 b3 b4 (fee := s 211 17) (by omega)
  refine t_reach p hu ⟨by omega, by omega⟩ (fun w aw hw => ?_)
  unfold wp_X9_fee
  rw [(au.tr aw) 9 7 rfl, f.2.2.1]
  exact t_valueOf hw v2 (t_valueOf hw v (hp _ _ (yes w T (au.tr aw) ⟨b1, b2, b3, b4⟩ (by omega) eT (by omega) (by omega) (by omega) x)))
