/-! promise 26 -/
def dgl (r : Int) : Nat → Int
  | 0 => r
  | k + 1 => Int.tdiv (n32 (dgl r k)) 13
theorem dgl_r {r : Int} (h : 0 ≤ r ∧ r ≤ 4826808) : ∀ k : Nat, 0 ≤ dgl r k ∧ dgl r k ≤ 4826808 := by
  intro k
  induction k with
  | zero => exact h
  | succ k ih =>
    rw [dgl, n32_id (x := dgl r k) (by omega) (by omega), Int.tdiv_eq_ediv_of_nonneg ih.1]
    omega
def dgt (r : Int) (k : Nat) : Int := Int.tmod (n32 (dgl r k)) 13
theorem dgt_r {r : Int} (h : 0 ≤ r ∧ r ≤ 4826808) (k : Nat) : 0 ≤ dgt r k ∧ dgt r k ≤ 12 := by
  have d := dgl_r h k
  unfold dgt
  rw [n32_id (x := dgl r k) (by omega) (by omega), Int.tmod_eq_emod_of_nonneg d.1]
  omega
/-- what it is worth to come at place k -/
def eW (s : mm_M) (i c q t r : Int) (k : Nat) : Int := if t - 10 * k < 0 then 0 else tv s i c q (t - 10 * k).toNat (dgt r k) 0 - 1000 * s 211 17
theorem eW_r {s : mm_M} (hR : Rel s) {i c q t r : Int} (ask : asd s i c q) (hr : 0 ≤ r ∧ r ≤ 4826808) (k : Nat) : -200000 ≤ eW s i c q t r k ∧ eW s i c q t r k ≤ 200000 := by
  have f := hR.fee
  have p := hR.pk ask.1 ask.2.1 ask.2.2.1 ask.2.2.2 (fee := s 211 17) (by omega)
  have d := dgt_r hr k
  unfold eW
  by_cases z : t - 10 * (k : Int) < 0
  · rw [if_pos z]; omega
  · rw [if_neg z]
    have v : 0 ≤ tv s i c q (t - 10 * k).toNat (dgt r k) 0 ∧ tv s i c q (t - 10 * k).toNat (dgt r k) 0 ≤ 99000 := dv_r p (t - 10 * k).toNat (dgt r k) 0 ⟨d.1, by omega, by omega⟩
    omega
def bw (E : Nat → Int) : Nat → Int × Int
  | 0 => (-1, 0)
  | k + 1 => if (bw E k).2 < E k then ((k : Int), E k) else bw E k
theorem bw_r {E : Nat → Int} (h : ∀ k, -200000 ≤ E k ∧ E k ≤ 200000) : ∀ k : Nat, 0 ≤ (bw E k).2 ∧ (bw E k).2 ≤ 200000 := by
  intro k
  induction k with
  | zero => rw [bw]; decide
  | succ k ih =>
    rw [bw]
    by_cases z : (bw E k).2 < E k
    · rw [if_pos z]
      have := h k
      show 0 ≤ E k ∧ E k ≤ 200000
      omega
    · rw [if_neg z]; exact ih
theorem t_digit {s : mm_M} {r : Int} {k : Nat} (hr : 0 ≤ r ∧ r ≤ 4826808) (hk : k < 6) {post : Int → mm_M → Prop} (hp : post (dgt r k) s) : wp_X4_digitOf r k s post := by
  intro L4 h4 v2 e2
  have key : ∀ d x : Nat, x + d = k → L4 (dgl r x) x s := by
    intro d
    induction d with
    | zero =>
      intro x hx
      have : x = k := by omega
      subst this
      apply h4
      exact ⟨fun _ => hp, fun z => absurd (Int.le_refl _) z⟩
    | succ d ih =>
      intro x hx
      apply h4
      rw [n32_id (x := (k : Int)) (by omega) (by omega), n32_id (x := (x : Int)) (by omega) (by omega)]
      refine ⟨fun z => by omega, fun _ => ⟨fun z => by omega, fun _ v3 e3 v4 e4 => ?_⟩⟩
      rw [e3, e4, show (x : Int) + 1 = ((x + 1 : Nat) : Int) by omega]
      exact ih (x + 1) (by omega)
  rw [e2]
  exact key k 0 (by omega)
theorem t_step210 {s : mm_M} {l m W K q tc : Int} {T : Nat} {post : mm_M → Prop} (p : pok l m W K q tc) (h : onS s l m W K q tc T) (hT : T ≤ 200) (hp : ∀ u, ag s u → u 210 = s 210 → onS u l m W K q tc (T + 1) → post u) : wp_X4_weighStaying 206 s (fun s_2 => wp_X4_settle 206 s_2 post) := by
  obtain ⟨⟨c4, c5, c6, c7, c10⟩, c9, c11, hn, hs⟩ := h
  have dr := dv_r p T
  refine t_weigh p c4 c5 c6 c7 c10 c11 ⟨by omega, by omega⟩ hn dr (fun u fu u11 ug => ?_)
  have u9 : u 206 9 = tc := by rw [fu 206 9 (by omega) (by omega) (by omega)]; exact c9
  refine t_settle u9 ⟨p.2.2.2.2.2.1, p.2.2.2.2.2.2⟩ ug (fun a b h => stv_r p dr h) (fun w fw wn => hp w (fu.ag.tr (f208_ag fw)) ?_ ⟨⟨?_, ?_, ?_, ?_, ?_⟩, ?_, ?_, ?_, ?_⟩)
  · rw [fw 210 (by decide)]; exact funext fun j => fu 210 j (by omega) (by omega) (by omega)
  · rw [fw 206 (by decide), fu 206 4 (by omega) (by omega) (by omega)]; exact c4
  · rw [fw 206 (by decide), fu 206 5 (by omega) (by omega) (by omega)]; exact c5
  · rw [fw 206 (by decide), fu 206 6 (by omega) (by omega) (by omega)]; exact c6
  · rw [fw 206 (by decide), fu 206 7 (by omega) (by omega) (by omega)]; exact c7
  · rw [fw 206 (by decide), fu 206 10 (by omega) (by omega) (by omega)]; exact c10
  · rw [fw 206 (by decide)]; exact u9
  · rw [fw 206 (by decide), u11]; omega
  · intro a b h
    rw [wn a b h, dv_s]
  · intro t et a b h
    have : t = T := by omega
    subst this
    rw [fw 209 (by decide)]
    exact ug a b h
theorem t_reach210 {s : mm_M} {l m W K q tc : Int} {T : Nat} {T2 : Nat} {post : mm_M → Prop} (p : pok l m W K q tc) (h : onS s l m W K q tc T) (hT : T ≤ T2 ∧ T2 ≤ 120) (hp : ∀ u, ag s u → u 210 = s 210 → onS u l m W K q tc T2 → post u) : wp_X4_reach 206 T2 s post := by
  intro L5 h5 v2 e2
  have key : ∀ d x : Nat, x + d = T2 → ∀ u, ag s u → u 210 = s 210 → onS u l m W K q tc x → L5 x u := by
    intro d
    induction d with
    | zero =>
      intro x hx u au bu hu
      have : x = T2 := by omega
      subst this
      apply h5
      exact ⟨fun _ => hp u au bu hu, fun z => absurd (Int.le_refl _) z⟩
    | succ d ih =>
      intro x hx u au bu hu
      apply h5
      rw [n32_id (x := (T2 : Int)) (by omega) (by omega), n32_id (x := (x : Int)) (by omega) (by omega)]
      refine ⟨fun z => by omega, fun _ => ⟨fun z => by omega, fun _ => ?_⟩⟩
      refine t_step210 p hu (by omega) (fun w aw bw hw v ev => ?_)
      rw [ev, show (x : Int) + 1 = ((x + 1 : Nat) : Int) by omega]
      exact ih (x + 1) (by omega) w (au.tr aw) (bw.trans bu) hw
  rw [e2, h.2.2.1]
  exact key (T2 - T) T (by omega) s ag.rf rfl h
theorem q_when {s : mm_M} {a1 a2 a3 a4 a5 : Int} (hR : Rel s) (h1 : n32 a1 = a1) (h2 : n32 a2 = a2) (h3 : n32 a3 = a3) (h4 : n32 a4 = a4) (h5 : n32 a5 = a5) (post : Int → mm_M → Prop) (hp : ∀ r1 s1, Gd (wp_X11_when 211 a1 a2 a3 a4 a5 s1) r1 → post r1 s1) : wp_X10_when 0 a1 a2 a3 a4 a5 s post := by
  have f := hR.fee
  have k1 : n32 120 = 120 := by decide
  have k2 : n32 4826808 = 4826808 := by decide
  have no : ∀ u, ag s u → ¬ (asd s a1 a2 a5 ∧ (0 ≤ a3 ∧ a3 ≤ 120) ∧ 0 ≤ a4 ∧ a4 ≤ 4826808) → Gd (wp_X11_when 211 a1 a2 a3 a4 a5 u) (-1) := by
    intro u au q p2 k3 L61 L107 h61 h107
    have fin := k3 (-1) u rfl (hR.fr au)
    refine u_asked hR au h1 h2 h5 (fun b1 b2 b3 b4 => ⟨fun z => absurd z (by decide), fun _ => ?_⟩) (fun _ => ⟨fun _ => fin, fun z => absurd m_0 z⟩)
    refine s_in (fun c1 c2 => ⟨fun z => absurd z (by decide), fun _ => s_in (fun d1 d2 => ?_) (fun _ => ⟨fun y => absurd m_0 y, fun _ => fin⟩)⟩) (fun _ => ⟨fun _ => fin, fun z => absurd m_0 z⟩)
    rw [h3, m_0] at c1
    rw [h3, k1] at c2
    rw [h4, m_0] at d1
    rw [h4, k2] at d2
    exact absurd ⟨⟨b1, b2, b3, b4⟩, ⟨c1, c2⟩, d1, d2⟩ q
  have yes : ∀ u, ag s u → asd s a1 a2 a5 → (0 ≤ a3 ∧ a3 ≤ 120) → (0 ≤ a4 ∧ a4 ≤ 4826808) → Gd (wp_X11_when 211 a1 a2 a3 a4 a5 u) (bw (eW s a1 a2 a5 a3 a4) 6).1 := by
    intro u au ask z3 z4 p2 k3 L61 L107 h61 h107
    have er := eW_r hR (t := a3) ask z4
    have br := bw_r er
    have ask' := ask
    obtain ⟨b1, b2, b3, b4⟩ := ask'
    refine u_asked hR au h1 h2 h5 (fun _ _ _ _ => ⟨fun z => absurd z (by decide), fun _ => ?_⟩) (fun q => absurd ask q)
    refine s_in (fun _ _ => ⟨fun z => absurd z (by decide), fun _ => s_in (fun _ _ => ⟨fun _ => ?_, fun y => absurd y (by decide)⟩) (fun b => by rw [h4, m_0, k2] at b; omega)⟩) (fun b => by rw [h3, m_0, k1] at b; omega)
    rw [au 211 17 rfl]
    obtain ⟨N, eN⟩ : ∃ N : Nat, (N : Int) = a3 := ⟨a3.toNat, by omega⟩
    rw [← eN]
    refine u_works hR au b1 b2 b3 b4 (by omega) (by omega) (fun w aw wc w9 wt v8 e8 => ?_)
    have key : ∀ d x : Nat, x + d = 6 → L61 (bw (eW s a1 a2 a5 a3 a4) x).1 (bw (eW s a1 a2 a5 a3 a4) x).2 (dgl a4 x) x w := by
      intro d
      induction d with
      | zero =>
        intro x hx
        have : x = 6 := by omega
        subst this
        apply h61
        exact ⟨fun _ => k3 _ _ rfl (hR.fr aw), fun z => absurd (by decide) z⟩
      | succ d ih =>
        intro x hx
        have nx := ih (x + 1) (by omega)
        rw [show ((x + 1 : Nat) : Int) = (x : Int) + 1 by omega, bw, dgl] at nx
        have ex := er x
        have bx := br x
        have dr := dgt_r z4 x
        have last : ∀ q0 : Int, q0 = eW s a1 a2 a5 a3 a4 x → L107 (bw (eW s a1 a2 a5 a3 a4) x).1 (bw (eW s a1 a2 a5 a3 a4) x).2 (dgl a4 x) x q0 w := by
          intro q0 e0
          apply h107
          intro v11 e11 v8' e8'
          rw [e11, e0, e8', n32_id (x := (bw (eW s a1 a2 a5 a3 a4) x).2) (by omega) (by omega), n32_id (x := eW s a1 a2 a5 a3 a4 x) (by omega) (by omega)]
          refine ⟨fun z v7 e7 v6 e6 v9 e9 => ?_, fun z v9 e9 => ?_⟩
          · rw [if_pos z] at nx
            rw [e7, e6, e9]
            exact nx
          · rw [if_neg z] at nx
            rw [e9]
            exact nx
        apply h61
        rw [n32_id (x := (x : Int)) (by omega) (by omega)]
        refine ⟨fun z => by omega, fun _ v10 e10 => ?_⟩
        rw [e10, n32_id (x := a3 - 10 * (x : Int)) (by omega) (by omega)]
        refine ⟨fun z => ?_, fun z => last 0 ?_⟩
        · have hw := wt (a3 - 10 * (x : Int)).toNat (by omega)
          rw [show (((a3 - 10 * (x : Int)).toNat : Nat) : Int) = a3 - 10 * (x : Int) by omega] at hw
          refine u_at ⟨by omega, by omega⟩ hw (show vld (dgt a4 x) 0 from ⟨dr.1, by omega, by omega⟩) (last _ ?_)
          rw [aw 211 17 rfl]
          unfold eW
          rw [if_neg (by omega)]
          rfl
        · unfold eW
          rw [if_pos (by omega)]
    rw [e8]
    exact key 6 0 (by omega)
  unfold wp_X10_when
  rw [h3, h4, show mm_rt 0 9 = 206 from rfl, show mm_rt 0 1 = 9 from rfl]
  refine ⟨fun z => hp _ _ (no s ag.rf (by omega)), fun z => ⟨fun z2 => hp _ _ (no s ag.rf (by omega)), fun z2 => ⟨fun z3 => hp _ _ (no s ag.rf (by omega)), fun z3 => ⟨fun z4 => ?_, fun z4 => hp _ _ (no s ag.rf (by omega))⟩⟩⟩⟩
  refine t_begin hR h1 h2 h5 (fun b1 b2 b3 b4 u au _ hu => ⟨fun _ => ?_, fun w => absurd w (by decide)⟩) (fun q u au => ⟨fun w => absurd m_0 w, fun _ => hp _ _ (no u au (fun k => q k.1))⟩)
  have p := hR.pk b1 b2 b3 b4 (fee := s 211 17) (by omega)
  have ask : asd s a1 a2 a5 := ⟨b1, b2, b3, b4⟩
  have er := eW_r hR (t := a3) ask ⟨by omega, show a4 ≤ 4826808 by omega⟩
  have br := bw_r er
  unfold wp_X9_fee
  rw [au 9 7 rfl, f.2.2.1]
  intro L3 L72 h3' h72
  -- reading the places
  have read : ∀ w, ag s w → (∀ k : Nat, k < 6 → w 210 (k : Int) = eW s a1 a2 a5 a3 a4 k) → L72 (-1) 0 0 w := by
    intro w aw hw
    have key : ∀ d x : Nat, x + d = 6 → L72 (bw (eW s a1 a2 a5 a3 a4) x).1 (bw (eW s a1 a2 a5 a3 a4) x).2 x w := by
      intro d
      induction d with
      | zero =>
        intro x hx
        have : x = 6 := by omega
        subst this
        apply h72
        exact ⟨fun _ => hp _ _ (yes w aw ask ⟨by omega, by omega⟩ ⟨by omega, by omega⟩), fun z => absurd (by decide) z⟩
      | succ d ih =>
        intro x hx
        have nx := ih (x + 1) (by omega)
        rw [show ((x + 1 : Nat) : Int) = (x : Int) + 1 by omega, bw] at nx
        have ex := er x
        have bx := br x
        apply h72
        rw [n32_id (x := (x : Int)) (by omega) (by omega), show mm_rt 206 3 = 210 from rfl, hw x (by omega), n32_id (x := (bw (eW s a1 a2 a5 a3 a4) x).2) (by omega) (by omega), n32_id (x := eW s a1 a2 a5 a3 a4 x) (by omega) (by omega)]
        refine ⟨fun z => by omega, fun _ => ⟨⟨by omega, by omega⟩, fun z v6 e6 => ?_, fun z => ⟨⟨by omega, by omega⟩, fun v5 e5 v4 e4 v6 e6 => ?_⟩⟩⟩
        · rw [if_neg (by omega)] at nx
          rw [e6]
          exact nx
        · rw [if_pos (by omega)] at nx
          rw [e5, e4, e6]
          exact nx
    exact key 6 0 (by omega)
  -- writing them
  have wri : ∀ x : Nat, x ≤ 6 → ∀ (w : mm_M) (T : Nat), ag s w → onS w (tL s a2) (tM s a2) (tWo s a1) (tK s a1) a5 (tC s a1 (s 211 17)) T → ((T : Int) ≤ 0 ∨ (T : Int) ≤ a3 - 10 * x) → (∀ k : Nat, x ≤ k → k < 6 → w 210 (k : Int) = eW s a1 a2 a5 a3 a4 k) → L3 ((x : Int) - 1) w := by
    intro x
    induction x with
    | zero =>
      intro _ w T aw ow hT hw
      apply h3'
      exact ⟨fun _ => read w aw (fun k hk => hw k (by omega) hk), fun z => absurd (by decide) z⟩
    | succ x ih =>
      intro hx w T aw ow hT hw
      have dr := dgt_r (r := a4) ⟨by omega, by omega⟩ x
      apply h3'
      rw [show ((x + 1 : Nat) : Int) - 1 = (x : Int) by omega, n32_id (x := (x : Int)) (by omega) (by omega), show mm_rt 206 3 = 210 from rfl]
      refine ⟨fun z => by omega, fun _ v5 e5 => ?_⟩
      rw [e5, show a3 - (x : Int) * 10 = a3 - 10 * (x : Int) by omega, n32_id (x := a3 - 10 * (x : Int)) (by omega) (by omega)]
      have put : ∀ (w1 w2 : mm_M) (T1 : Nat) (y : Int), ag s w1 → onS w1 (tL s a2) (tM s a2) (tWo s a1) (tK s a1) a5 (tC s a1 (s 211 17)) T1 → ((T1 : Int) ≤ 0 ∨ (T1 : Int) ≤ a3 - 10 * x) → (∀ k : Nat, x + 1 ≤ k → k < 6 → w1 210 (k : Int) = eW s a1 a2 a5 a3 a4 k) → y = eW s a1 a2 a5 a3 a4 x → w2 = mm_up w1 210 x y → ∀ v4 : Int, v4 = (x : Int) + (-1) → L3 v4 w2 := by
        intro w1 w2 T1 y aw1 ow1 hT1 hw1 ey e2 v4 e4
        have oth : ∀ c : Nat, c ≠ 210 → w2 c = w1 c := fun c hc => by rw [e2, up_c hc]
        rw [e4, show (x : Int) + (-1) = (x : Int) - 1 by omega]
        refine ih (by omega) w2 T1 (by rw [e2]; exact aw1.up rfl) ?_ hT1 (fun k k1 k2 => ?_)
        · unfold onS
          rw [oth 206 (by decide), oth 208 (by decide), oth 209 (by decide)]
          exact ow1
        · rw [e2]
          by_cases z : k = x
          · rw [z, up_e, ey]
          · rw [up_n (Or.inr (by omega))]
            exact hw1 k (by omega) k2
      refine ⟨fun z => ⟨⟨by omega, by omega⟩, fun s6 e6 => put w s6 T 0 aw ow (by omega) hw ?_ e6⟩, fun z => ?_⟩
      · unfold eW
        rw [if_pos z]
      · obtain ⟨T2, eT2⟩ : ∃ T2 : Nat, (T2 : Int) = a3 - 10 * (x : Int) := ⟨(a3 - 10 * (x : Int)).toNat, by omega⟩
        rw [← eT2]
        refine t_reach210 p ow ⟨by omega, by omega⟩ (fun w1 a1' k210 o1 => ?_)
        refine t_digit ⟨by omega, by omega⟩ (by omega) ?_
        refine t_valueOf o1 ⟨dr.1, by omega, by omega⟩ ⟨⟨by omega, by omega⟩, fun s14 e14 => put w1 s14 T2 _ (aw.tr a1') o1 (by omega) (fun k k1 k2 => by rw [k210]; exact hw k k1 k2) ?_ e14⟩
        unfold eW
        rw [if_neg z, ← eT2]
        rfl
  exact wri 6 (Nat.le_refl 6) u 0 au hu (Or.inl (Int.le_refl 0)) (fun k k1 k2 => by omega)
