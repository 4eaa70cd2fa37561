/-! promise 27: the least fee -/
theorem bh_c {q : Int} {f g : Int → Int → Int} (h : ∀ a b, vld a b → f a b = g a b) {a b : Int} (v : vld a b) : bh q f a b = bh q g a b := by
  unfold bh
  rw [h a b v]
  by_cases z : a + b < 12
  · rw [if_pos z, if_pos z, h a (b + 1) ⟨v.1, by have := v.2.1; omega, by omega⟩]
  · rw [if_neg z, if_neg z]
theorem fo_c {q : Int} {f g : Int → Int → Int} (h : ∀ a b, vld a b → f a b = g a b) {a b : Int} (v : a + b ≤ 12) : fo q f a b = fo q g a b := by
  unfold fo
  by_cases z : a < 0 ∨ b < 0
  · rw [if_pos z, if_pos z]
  · rw [if_neg z, if_neg z, bh_c h ⟨by omega, by omega, v⟩]
theorem stv_c {l m W K q : Int} {f g : Int → Int → Int} (h : ∀ a b, vld a b → f a b = g a b) {t a b : Int} (v : vld a b) : stv l m W K q f t a b = stv l m W K q g t a b := by
  have v' := v
  obtain ⟨v1, v2, v3⟩ := v'
  unfold stv sfv
  rw [bh_c h v, fo_c h (a := a - 1) (b := b) (by omega), fo_c h (a := a) (b := b - 1) (by omega)]
/-- the table while nobody turns -/
def un (l m W K q : Int) : Nat → Int → Int → Int
  | 0 => fun _ _ => 0
  | t + 1 => fun a b => m2 0 (stv l m W K q (un l m W K q t) ((t : Int) + 1) a b)
theorem un_s {l m W K q : Int} {t : Nat} {a b : Int} : un l m W K q (t + 1) a b = m2 0 (stv l m W K q (un l m W K q t) ((t : Int) + 1) a b) := rfl
theorem un_r {l m W K q tc : Int} (p : pok l m W K q tc) : ∀ t : Nat, fok2 (un l m W K q t) := by
  intro t
  induction t with
  | zero => intro a b _; exact ⟨Int.le_refl 0, by show (0 : Int) ≤ 99000; omega⟩
  | succ t ih =>
    intro a b h
    have x := stv_r (t := (t : Int) + 1) p ih h
    rw [un_s]
    unfold m2
    split <;> omega
/-- nobody turns at minute t + 1 by a turn's cost -/
def N1 (l m W K q tc : Int) (t : Nat) : Prop := ∀ a b, vld a b → acv (stv l m W K q (un l m W K q t) ((t : Int) + 1) a b) (stv l m W K q (un l m W K q t) ((t : Int) + 1) (a + b) 0 - tc) ≠ 1
def NA (l m W K q tc : Int) (k : Nat) : Prop := ∀ t : Nat, t < k → N1 l m W K q tc t
def NV (l m W K q tc : Int) (k : Nat) : Prop := ∀ t : Nat, t < k → ∀ a b, vld a b → acv (stv l m W K q (dv l m W K q tc t) ((t : Int) + 1) a b) (stv l m W K q (dv l m W K q tc t) ((t : Int) + 1) (a + b) 0 - tc) ≠ 1
theorem acv_n {x y : Int} (h : acv x y ≠ 1) : (0 ≤ x ∧ y ≤ x) ∨ y < 0 := by
  unfold acv at h
  by_cases z : 0 ≤ x ∧ y ≤ x
  · exact Or.inl z
  · rw [if_neg z] at h
    by_cases w : 0 ≤ y
    · rw [if_pos w] at h; exact absurd rfl h
    · right; omega
theorem acv_m {x y : Int} (h : (0 ≤ x ∧ y ≤ x) ∨ y < 0) : acv x y ≠ 1 := by
  unfold acv
  by_cases z : 0 ≤ x ∧ y ≤ x
  · rw [if_pos z]; decide
  · rw [if_neg z, if_neg (by omega)]; decide
theorem m2_no {x y : Int} (h : acv x y ≠ 1) : m2 0 (m2 x y) = m2 0 x := by
  have w := acv_n h
  by_cases z : x < y
  · rw [m2_p z, m2_n (by omega), m2_n (by omega)]
  · rw [m2_n z]
theorem N1_mo {l m W K q tc tc' : Int} {t : Nat} (h : N1 l m W K q tc t) (hc : tc ≤ tc') : N1 l m W K q tc' t := fun a b v => acv_m (by
  have := acv_n (h a b v)
  omega)
theorem NA_mo {l m W K q tc tc' : Int} {k : Nat} (h : NA l m W K q tc k) (hc : tc ≤ tc') : NA l m W K q tc' k := fun t ht => N1_mo (h t ht) hc
theorem NA_le {l m W K q tc : Int} {k k' : Nat} (h : NA l m W K q tc k) (hk : k' ≤ k) : NA l m W K q tc k' := fun t ht => h t (by omega)
theorem NA_s {l m W K q tc : Int} {k : Nat} (h : NA l m W K q tc k) (h1 : N1 l m W K q tc k) : NA l m W K q tc (k + 1) := fun t ht => by
  by_cases z : t = k
  · rw [z]; exact h1
  · exact h t (by omega)
theorem dv_un {l m W K q tc : Int} : ∀ k : Nat, NA l m W K q tc k → ∀ a b, vld a b → dv l m W K q tc k a b = un l m W K q k a b := by
  intro k
  induction k with
  | zero => intro _ a b _; rfl
  | succ k ih =>
    intro h a b v
    have v' := v
    obtain ⟨v1, v2, v3⟩ := v'
    have e := ih (NA_le h (by omega))
    rw [dv_s, un_s, stv_c e v, stv_c e (a := a + b) (b := 0) ⟨by omega, by omega, by omega⟩]
    exact m2_no (h k (by omega) a b v)
theorem NV_NA {l m W K q tc : Int} (k : Nat) : NV l m W K q tc k ↔ NA l m W K q tc k := by
  have st : ∀ t : Nat, NA l m W K q tc t → ∀ a b, vld a b → acv (stv l m W K q (dv l m W K q tc t) ((t : Int) + 1) a b) (stv l m W K q (dv l m W K q tc t) ((t : Int) + 1) (a + b) 0 - tc) = acv (stv l m W K q (un l m W K q t) ((t : Int) + 1) a b) (stv l m W K q (un l m W K q t) ((t : Int) + 1) (a + b) 0 - tc) := by
    intro t h a b v
    have v' := v
    obtain ⟨v1, v2, v3⟩ := v'
    have e := dv_un t h
    rw [stv_c e v, stv_c e (a := a + b) (b := 0) ⟨by omega, by omega, by omega⟩]
  refine ⟨fun h => ?_, fun h t ht a b v => ?_⟩
  · have : ∀ j : Nat, j ≤ k → NA l m W K q tc j := by
      intro j
      induction j with
      | zero => intro _ t ht; omega
      | succ j ih =>
        intro hj
        have i := ih (by omega)
        refine NA_s i (fun a b v => ?_)
        rw [← st j i a b v]
        exact h j (by omega) a b v
    exact this k (Nat.le_refl k)
  · rw [st t (NA_le h (by omega)) a b v]
    exact h t ht a b v
theorem t_sbT {s : mm_M} {g : Int → Int → Int} {tc : Int} {post : Int → mm_M → Prop} (c9 : s 206 9 = tc) (c11 : 0 < s 206 11 ∧ s 206 11 ≤ 1000) (ht : 0 ≤ tc ∧ tc ≤ 200000) (hg : ∀ a b, vld a b → s 209 (a * 13 + b) = g a b) (hr : ∀ a b, vld a b → -9000 ≤ g a b ∧ g a b ≤ 99000) (h1 : (∃ a b, vld a b ∧ acv (g a b) (g (a + b) 0 - tc) = 1) → post 1 s) (h0 : (∀ a b, vld a b → acv (g a b) (g (a + b) 0 - tc) ≠ 1) → post 0 s) : wp_X4_somebodyTurns 206 s post := by
  intro L2 L10 h2 h10
  have nr : ∀ x y : Int, n32 (acv x y) = acv x y := fun x y => by
    unfold acv
    split
    · rfl
    · split <;> rfl
  have out : ∀ d x : Nat, x + d = 13 → (∀ a b, vld a b → a < x → acv (g a b) (g (a + b) 0 - tc) ≠ 1) → L2 x s := by
    intro d
    induction d with
    | zero =>
      intro x hx hu
      have : x = 13 := by omega
      subst this
      apply h2
      exact ⟨fun _ => h0 (fun a b h => hu a b h (by have := h.2.1; have := h.2.2; omega)), fun z => absurd (by decide) z⟩
    | succ d ih =>
      intro x hx hu
      apply h2
      rw [n32_id (x := (x : Int)) (by omega) (by omega)]
      refine ⟨fun z => by omega, fun _ => ?_⟩
      have inn : ∀ e y : Nat, x + y + e = 13 → (∀ a b, vld a b → a < x ∨ a = x ∧ b < y → acv (g a b) (g (a + b) 0 - tc) ≠ 1) → L10 x y s := by
        intro e
        induction e with
        | zero =>
          intro y hy hu
          apply h10
          rw [n32_id (x := (x : Int) + y) (by omega) (by omega)]
          refine ⟨fun _ v ev => ?_, fun z => by omega⟩
          rw [ev, show (x : Int) + 1 = ((x + 1 : Nat) : Int) by omega]
          refine ih (x + 1) (by omega) (fun a b h ha => hu a b h ?_)
          have := h.2.2
          omega
        | succ e ih2 =>
          intro y hy hu
          have vx : vld x y := ⟨by omega, by omega, by omega⟩
          apply h10
          rw [n32_id (x := (x : Int) + y) (by omega) (by omega)]
          refine ⟨fun z => by omega, fun _ => t_act c9 c11 ht hg hr vx ?_⟩
          rw [nr]
          refine ⟨fun z v ev => ?_, fun z => h1 ⟨x, y, vx, z⟩⟩
          rw [ev, show (y : Int) + 1 = ((y + 1 : Nat) : Int) by omega]
          refine ih2 (y + 1) (by omega) (fun a b h hab => ?_)
          have h' := h
          obtain ⟨q1, q2, q3⟩ := h'
          by_cases w : a = x ∧ b = y
          · rw [w.1, w.2]; exact z
          · exact hu a b h (by omega)
      exact inn (13 - x) 0 (by omega) (fun a b h hab => hu a b h (by have := h.2.1; omega))
  exact out 13 0 (by omega) (fun a b h ha => by have := h.1; omega)
theorem u_nobody {u : mm_M} {l m W K q tc : Int} {N : Nat} {post : Int → mm_M → Prop} (p : pok l m W K q tc) (c : wC u l m W K q) (c9 : 1000 * (u 211 62 + u 211 18 * u 218 (6 * u 211 63 + 4)) = tc) (hN : N ≤ 120) (wt : wT u l m W K q tc N) (h1 : NV l m W K q tc N → post 1 u) (h0 : ¬ NV l m W K q tc N → post 0 u) : wp_X11_nobodyTurns 211 N u post := by
  have nr : ∀ x y : Int, n32 (acv x y) = acv x y := fun x y => by
    unfold acv
    split
    · rfl
    · split <;> rfl
  intro L2 L9 L18 h2 h9 h18
  have out : ∀ d x : Nat, x + d = N → NV l m W K q tc x → L2 ((x : Int) + 1) u := by
    intro d
    induction d with
    | zero =>
      intro x hx hv
      have : x = N := by omega
      subst this
      apply h2
      rw [n32_id (x := (x : Int)) (by omega) (by omega), n32_id (x := (x : Int) + 1) (by omega) (by omega)]
      exact ⟨fun _ => h1 hv, fun z => by omega⟩
    | succ d ih =>
      intro x hx hv
      have hw : wAt u (dv l m W K q tc x) ((x : Int) + 1 - 1) := by
        have := wt x (by omega)
        rw [show (x : Int) + 1 - 1 = (x : Int) by omega]
        exact this
      apply h2
      rw [n32_id (x := (N : Int)) (by omega) (by omega), n32_id (x := (x : Int) + 1) (by omega) (by omega)]
      refine ⟨fun z => by omega, fun _ => ?_⟩
      have mid : ∀ e y : Nat, y + e = 13 → (∀ a b, vld a b → a < y → acv (stv l m W K q (dv l m W K q tc x) ((x : Int) + 1) a b) (stv l m W K q (dv l m W K q tc x) ((x : Int) + 1) (a + b) 0 - tc) ≠ 1) → L9 ((x : Int) + 1) y u := by
        intro e
        induction e with
        | zero =>
          intro y hy hu
          have : y = 13 := by omega
          subst this
          apply h9
          refine ⟨fun _ v ev => ?_, fun z => absurd (by decide) z⟩
          rw [ev, show (x : Int) + 1 + 1 = ((x + 1 : Nat) : Int) + 1 by omega]
          refine ih (x + 1) (by omega) (fun t ht a b v => ?_)
          by_cases z : t = x
          · subst z
            exact hu a b v (by have := v.2.1; have := v.2.2; omega)
          · exact hv t (by omega) a b v
        | succ e ih2 =>
          intro y hy hu
          apply h9
          rw [n32_id (x := (y : Int)) (by omega) (by omega)]
          refine ⟨fun z => by omega, fun _ => ?_⟩
          have inn : ∀ g z : Nat, y + z + g = 13 → (∀ a b, vld a b → a < y ∨ a = y ∧ b < z → acv (stv l m W K q (dv l m W K q tc x) ((x : Int) + 1) a b) (stv l m W K q (dv l m W K q tc x) ((x : Int) + 1) (a + b) 0 - tc) ≠ 1) → L18 ((x : Int) + 1) y z u := by
            intro g
            induction g with
            | zero =>
              intro z hz hu
              apply h18
              rw [n32_id (x := (y : Int) + z) (by omega) (by omega)]
              refine ⟨fun _ v ev => ?_, fun w => by omega⟩
              rw [ev, show (y : Int) + 1 = ((y + 1 : Nat) : Int) by omega]
              refine ih2 (y + 1) (by omega) (fun a b h ha => hu a b h ?_)
              have := h.2.2
              omega
            | succ g ih3 =>
              intro z hz hu
              have vx : vld y z := ⟨by omega, by omega, by omega⟩
              apply h18
              rw [n32_id (x := (y : Int) + z) (by omega) (by omega)]
              refine ⟨fun w => by omega, fun _ => u_act p c c9 ⟨by omega, by omega⟩ (dv_r p x) hw vx ?_⟩
              rw [nr]
              refine ⟨fun w v ev => ?_, fun w => h0 (fun k => k x (by omega) y z vx w)⟩
              rw [ev, show (z : Int) + 1 = ((z + 1 : Nat) : Int) by omega]
              refine ih3 (z + 1) (by omega) (fun a b h hab => ?_)
              have h' := h
              obtain ⟨q1, q2, q3⟩ := h'
              by_cases k : a = y ∧ b = z
              · rw [k.1, k.2]; exact w
              · exact hu a b h (by omega)
          exact inn (13 - y) 0 (by omega) (fun a b h hab => hu a b h (by have := h.2.1; omega))
      exact mid 13 0 (by omega) (fun a b h ha => by have := h.1; omega)
  exact out N 0 (by omega) (fun t ht => by omega)
/-- promise 27 -/
theorem q_least {s : mm_M} {a1 a2 a3 a4 : Int} (hR : Rel s) (h1 : n32 a1 = a1) (h2 : n32 a2 = a2) (h3 : n32 a3 = a3) (h4 : n32 a4 = a4) (post : Int → mm_M → Prop) (hp : ∀ r1 s1, Gd (wp_X11_least 211 a1 a2 a3 a4 s1) r1 → post r1 s1) : wp_X10_least 0 a1 a2 a3 a4 s post := by
  have f := hR.fee
  have k60 : n32 60 = 60 := by decide
  have no : ∀ u, ag s u → ¬ (asd s a1 a2 a4 ∧ 1 ≤ a3 ∧ a3 ≤ 60) → Gd (wp_X11_least 211 a1 a2 a3 a4 u) (-1) := by
    intro u au q p2 k2 L26 h26
    have fin := k2 (-1) u rfl (hR.fr au)
    refine u_asked hR au h1 h2 h4 (fun b1 b2 b3 b4 => ⟨fun z => absurd z (by decide), fun _ => ?_⟩) (fun _ => ⟨fun _ => fin, fun z => absurd m_0 z⟩)
    refine s_in (fun c1 c2 => ?_) (fun _ => ⟨fun y => absurd m_0 y, fun _ => fin⟩)
    rw [h3, m_1] at c1
    rw [h3, k60] at c2
    exact absurd ⟨⟨b1, b2, b3, b4⟩, c1, c2⟩ q
  have yes : ∀ u (N : Nat) (R : Int), ag s u → asd s a1 a2 a4 → (N : Int) = a3 → 1 ≤ N → N ≤ 60 → ((∃ F : Nat, R = F ∧ F ≤ 99 ∧ NA (tL s a2) (tM s a2) (tWo s a1) (tK s a1) a4 (tC s a1 F) N ∧ ∀ F' : Nat, F' < F → ¬ NA (tL s a2) (tM s a2) (tWo s a1) (tK s a1) a4 (tC s a1 F') N) ∨ (R = -1 ∧ ∀ F' : Nat, F' < 100 → ¬ NA (tL s a2) (tM s a2) (tWo s a1) (tK s a1) a4 (tC s a1 F') N)) → Gd (wp_X11_least 211 a1 a2 a3 a4 u) R := by
    intro u N R au ask eN n1 n60 res p2 k2 L26 h26
    obtain ⟨b1, b2, b3, b4⟩ := ask
    refine u_asked hR au h1 h2 h4 (fun _ _ _ _ => ⟨fun z => absurd z (by decide), fun _ => ?_⟩) (fun q => absurd ⟨b1, b2, b3, b4⟩ q)
    refine s_in (fun _ _ => ⟨fun _ => ?_, fun y => absurd y (by decide)⟩) (fun b => by rw [h3, m_1, k60] at b; omega)
    rw [← eN] at h26
    have key : ∀ d x : Nat, x + d = 100 → (∀ F' : Nat, F' < x → ¬ NA (tL s a2) (tM s a2) (tWo s a1) (tK s a1) a4 (tC s a1 F') N) → ∀ w, ag s w → L26 x w := by
      intro d
      induction d with
      | zero =>
        intro x hx hF w aw
        have : x = 100 := by omega
        subst this
        apply h26
        refine ⟨fun _ => ?_, fun z => absurd (by decide) z⟩
        rcases res with ⟨F, eR, f99, yF, nF⟩ | ⟨eR, nF⟩
        · exact absurd yF (hF F (by omega))
        · rw [eR] at k2
          exact k2 _ _ rfl (hR.fr aw)
      | succ d ih =>
        intro x hx hF w aw
        have p := hR.pk b1 b2 b3 b4 (fee := (x : Int)) (by omega)
        apply h26
        rw [n32_id (x := (x : Int)) (by omega) (by omega)]
        refine ⟨fun z => by omega, fun _ => ?_⟩
        refine u_works hR aw b1 b2 b3 b4 (by omega) (by omega) (fun w1 aw1 wc w9 wt => ?_)
        refine u_nobody p wc w9 (by omega) wt (fun nv => ⟨fun z => absurd z (by decide), fun _ => ?_⟩) (fun nv => ⟨fun _ v ev => ?_, fun z => absurd m_0 z⟩)
        · have na := (NV_NA N).mp nv
          rcases res with ⟨F, eR, f99, yF, nF⟩ | ⟨eR, nF⟩
          · have : F = x := by
              rcases Nat.lt_trichotomy F x with q | q | q
              · exact absurd yF (hF F q)
              · exact q
              · exact absurd na (nF x q)
            rw [eR, this] at k2
            exact k2 _ _ rfl (hR.fr aw1)
          · exact absurd na (nF x (by omega))
        · rw [ev, show (x : Int) + 1 = ((x + 1 : Nat) : Int) by omega]
          refine ih (x + 1) (by omega) (fun F' hF' => ?_) w1 aw1
          by_cases q : F' = x
          · rw [q]; exact fun k => nv ((NV_NA N).mpr k)
          · exact hF F' (by omega)
    exact key 100 0 (by omega) (fun F' h => by omega) u au
  unfold wp_X10_least
  rw [h3, show mm_rt 0 9 = 206 from rfl, show mm_rt 0 1 = 9 from rfl]
  refine ⟨fun z => hp _ _ (no s ag.rf (by omega)), fun z => ⟨fun z2 => hp _ _ (no s ag.rf (by omega)), fun z2 => ?_⟩⟩
  refine t_begin hR h1 h2 h4 (fun b1 b2 b3 b4 u au u8 hu => ⟨fun _ => ?_, fun w => absurd w (by decide)⟩) (fun q u au => ⟨fun w => absurd m_0 w, fun _ => hp _ _ (no u au (fun k => q k.1))⟩)
  have ask : asd s a1 a2 a4 := ⟨b1, b2, b3, b4⟩
  obtain ⟨N, eN⟩ : ∃ N : Nat, (N : Int) = a3 := ⟨a3.toNat, by omega⟩
  have yes := fun w (R : Int) (aw : ag s w) => yes w N R aw ask eN (by omega) (by omega)
  have mo : ∀ F : Nat, tC s a1 F ≤ tC s a1 ((F + 1 : Nat) : Int) := fun F => by unfold tC; omega
  have p0 := hR.pk b1 b2 b3 b4 (fee := 0) (by omega)
  have pk := fun (F : Nat) (h : F ≤ 100) => hR.pk b1 b2 b3 b4 (fee := (F : Int)) (by omega)
  rw [← eN]
  generalize tL s a2 = l at *
  generalize tM s a2 = m at *
  generalize tWo s a1 = W at *
  generalize tK s a1 = K at *
  intro L4 L33 L66 h4' h33 h66
  have ur := un_r p0
  -- the state between two minutes
  have main : ∀ d k : Nat, k + d = N → ∀ (F : Nat) (w : mm_M), F ≤ 99 → NA l m W K a4 (tC s a1 F) k → (∀ F' : Nat, F' < F → ¬ NA l m W K a4 (tC s a1 F') k) → ag s w → w 206 8 = tB s a1 → (w 206 4 = l ∧ w 206 5 = m ∧ w 206 6 = W ∧ w 206 7 = K ∧ w 206 10 = a4) → w 206 11 = k → (∀ a b, vld a b → w 208 (a * 13 + b) = un l m W K a4 k a b) → L4 F k w := by
    intro d
    induction d with
    | zero =>
      intro k hk F w f99 yF nF aw w8 wc w11 wn
      have : k = N := by omega
      subst this
      apply h4'
      exact ⟨fun _ => hp _ _ (yes w F aw (Or.inl ⟨F, rfl, f99, yF, nF⟩)), fun z => absurd (Int.le_refl _) z⟩
    | succ d ih =>
      intro k hk F w f99 yF nF aw w8 wc w11 wn
      obtain ⟨c4, c5, c6, c7, c10⟩ := wc
      apply h4'
      rw [n32_id (x := (N : Int)) (by omega) (by omega), n32_id (x := (k : Int)) (by omega) (by omega)]
      refine ⟨fun z => by omega, fun _ => ⟨fun z => by omega, fun _ => ?_⟩⟩
      refine t_weigh p0 c4 c5 c6 c7 c10 w11 ⟨by omega, by omega⟩ wn (ur k) (fun w3 f3 w311 g3 s5 e5 => ?_)
      have w38 : w3 206 8 = tB s a1 := by rw [f3 206 8 (by omega) (by omega) (by omega)]; exact w8
      rw [w38] at e5
      -- the fee rises while somebody turns
      have rise : ∀ e F : Nat, F + e = 100 → NA l m W K a4 (tC s a1 F) k → (∀ F' : Nat, F' < F → ¬ NA l m W K a4 (tC s a1 F') (k + 1)) → ∀ v, ag s v → (∀ (c : Nat) (j : Int), ¬ (c = 206 ∧ j = 9) → v c j = w3 c j) → v 206 9 = tC s a1 F → L33 F k v := by
        intro e
        induction e with
        | zero =>
          intro F hF yF nF v av fv v9
          have : F = 100 := by omega
          subst this
          apply h33
          refine ⟨fun _ => ?_, fun z => absurd (by decide) z⟩
          apply h66
          exact ⟨fun z => absurd z (by decide), fun _ => hp _ _ (yes v (-1) av (Or.inr ⟨rfl, fun F' hF' na => nF F' hF' (NA_le na (by omega))⟩))⟩
        | succ e ih2 =>
          intro F hF yF nF v av fv v9
          have pF := pk F (by omega)
          have vg : ∀ a b, vld a b → v 209 (a * 13 + b) = stv l m W K a4 (un l m W K a4 k) ((k : Int) + 1) a b := fun a b h => by rw [fv 209 _ (by omega)]; exact g3 a b h
          have v11 : v 206 11 = (k : Int) + 1 := by rw [fv 206 11 (by omega)]; exact w311
          have sr : ∀ a b, vld a b → -9000 ≤ stv l m W K a4 (un l m W K a4 k) ((k : Int) + 1) a b ∧ stv l m W K a4 (un l m W K a4 k) ((k : Int) + 1) a b ≤ 99000 := fun a b h => stv_r pF (ur k) h
          have stop : N1 l m W K a4 (tC s a1 F) k → L66 F k v := by
            intro n1
            apply h66
            rw [n32_id (x := (F : Int)) (by omega) (by omega)]
            refine ⟨fun _ => t_settle v9 ⟨pF.2.2.2.2.2.1, pF.2.2.2.2.2.2⟩ vg sr (fun x fx gx y ey => ?_), fun z => by omega⟩
            have x6 : ∀ j : Int, j ≠ 9 → x 206 j = w3 206 j := fun j hj => by rw [fx 206 (by decide)]; exact fv 206 j (by omega)
            have x61 : ∀ j : Int, j ≠ 9 → j ≠ 11 → x 206 j = w 206 j := fun j hj hj2 => by rw [x6 j hj]; exact f3 206 j (by omega) (by omega) (by omega)
            rw [ey, show (k : Int) + 1 = ((k + 1 : Nat) : Int) by omega]
            refine ih (k + 1) (by omega) F x (by omega) (NA_s yF n1) nF (av.tr (f208_ag fx)) ?_ ⟨?_, ?_, ?_, ?_, ?_⟩ ?_ (fun a b h => ?_)
            · rw [x61 8 (by decide) (by decide)]; exact w8
            · rw [x61 4 (by decide) (by decide)]; exact c4
            · rw [x61 5 (by decide) (by decide)]; exact c5
            · rw [x61 6 (by decide) (by decide)]; exact c6
            · rw [x61 7 (by decide) (by decide)]; exact c7
            · rw [x61 10 (by decide) (by decide)]; exact c10
            · rw [x6 11 (by decide), w311]; omega
            · rw [gx a b h, un_s]
              exact m2_no (n1 a b h)
          apply h33
          rw [n32_id (x := (F : Int)) (by omega) (by omega)]
          refine ⟨fun z => by omega, fun _ => t_sbT v9 (by rw [v11]; omega) ⟨pF.2.2.2.2.2.1, pF.2.2.2.2.2.2⟩ vg sr (fun ex => ⟨fun z => absurd z (by decide), fun _ v2 e2 s9 e9 => ?_⟩) (fun na => ⟨fun _ => stop na, fun z => absurd m_0 z⟩)⟩
          obtain ⟨a, b, vab, eab⟩ := ex
          have v8 : v 206 8 = tB s a1 := by rw [fv 206 8 (by omega)]; exact w38
          rw [v8, e2, show (F : Int) + 1 = ((F + 1 : Nat) : Int) by omega] at e9
          rw [e2, show (F : Int) + 1 = ((F + 1 : Nat) : Int) by omega]
          refine ih2 (F + 1) (by omega) (NA_mo yF (mo F)) (fun F' hF' na => ?_) s9 (by rw [e9]; exact av.up rfl) (fun c j h => by rw [e9, up_n (by omega)]; exact fv c j h) (by rw [e9, up_e]; rfl)
          by_cases q : F' = F
          · rw [q] at na
            exact na k (by omega) a b vab eab
          · exact nF F' (by omega) na
      refine rise (100 - F) F (by omega) yF (fun F' hF' na => nF F' hF' (NA_le na (by omega))) s5 (by rw [e5]; exact (aw.tr f3.ag).up rfl) (fun c j h => by rw [e5, up_n (by omega)]) (by rw [e5, up_e]; rfl)
  exact main N 0 (by omega) 0 u (by omega) (fun t ht => by omega) (fun F' h => by omega) au u8 hu.1 hu.2.2.1 (fun a b h => hu.2.2.2.1 a b h)
