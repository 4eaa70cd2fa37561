/-! the reference's table -/
/-- the reference's table holds at minute t -/
def wAt (u : mm_M) (f : Int → Int → Int) (t : Int) : Prop := ∀ a b, vld a b → u 246 ((t * 13 + a) * 13 + b) = f a b
/-- what it works with -/
def wC (u : mm_M) (l m W K q : Int) : Prop := u 211 59 = l ∧ u 211 60 = m ∧ u 211 61 = q ∧ (0 ≤ u 211 63 ∧ u 211 63 < 5) ∧ 1000 * u 218 (6 * u 211 63 + 1) = W ∧ 1000 * u 218 (6 * u 211 63 + 3) = K ∧ (0 ≤ u 218 (6 * u 211 63 + 4) ∧ u 218 (6 * u 211 63 + 4) ≤ 9)
theorem u_bh {u : mm_M} {q : Int} {f : Int → Int → Int} {t a b : Int} {post : Int → mm_M → Prop} (c : u 211 61 = q) (hq : 0 ≤ q ∧ q ≤ 16) (ht : 1 ≤ t ∧ t ≤ 120) (hf : fok2 f) (hw : wAt u f (t - 1)) (v : vld a b) (hp : post (bh q f a b) u) : wp_X11_behindOf 211 t a b u post := by
  have v' := v
  obtain ⟨v1, v2, v3⟩ := v'
  have y := hf a b v
  have at1 : ∀ {a b : Int} {p2 : Int → mm_M → Prop}, vld a b → p2 (f a b) u → wp_X11_worthAt 211 (t - 1) a b u p2 := by
    intro a b p2 v k
    have v' := v
    obtain ⟨v1, v2, v3⟩ := v'
    refine ⟨⟨by omega, by omega⟩, ?_⟩
    rw [show mm_rt 211 58 = 246 from rfl, hw a b v]
    exact k
  intro L31 h31
  have last : ∀ q0 : Int, (0 ≤ q0 ∧ q0 ≤ 99000) → bh q f a b = Int.tdiv (q * q0 + (16 - q) * f a b) 16 → L31 q0 u := by
    intro q0 r0 e0
    apply h31
    intro v4 e4
    refine at1 v ?_
    have s := bh_s hq r0 y
    rw [c, e4, n32_id (x := q * q0 + (16 - q) * f a b) (by omega) (by omega), ← e0]
    exact hp
  rw [n32_id (x := a + b) (by omega) (by omega)]
  refine ⟨fun z => at1 v (last _ y ?_), fun z => ?_⟩
  · unfold bh
    rw [if_neg (by omega)]
  · have w : vld a (b + 1) := ⟨by omega, by omega, by omega⟩
    refine at1 w (last _ (hf a (b + 1) w) ?_)
    unfold bh
    rw [if_pos (by omega)]
theorem u_st {u : mm_M} {l m W K q tc : Int} {f : Int → Int → Int} {t a b : Int} {post : Int → mm_M → Prop} (p : pok l m W K q tc) (c : wC u l m W K q) (ht : 1 ≤ t ∧ t ≤ 120) (hf : fok2 f) (hw : wAt u f (t - 1)) (v : vld a b) (hp : post (stv l m W K q f t a b) u) : wp_X11_staying 211 t a b u post := by
  obtain ⟨p1, p2, p3, p4, p5, p6⟩ := p
  obtain ⟨c1, c2, c3, c4, c5, c6, c7⟩ := c
  have v' := v
  obtain ⟨v1, v2, v3⟩ := v'
  intro L89 h89
  refine ⟨⟨by omega, by omega⟩, ?_⟩
  rw [show mm_rt 211 15 = 218 from rfl]
  intro v4 e4
  refine ⟨⟨by omega, by omega⟩, ?_⟩
  rw [show mm_rt 211 15 = 218 from rfl]
  intro v5 e5
  have e4 : v4 = -K := by omega
  rw [c5] at e5
  have tm := Int.tmod_nonneg m (show 0 ≤ t by omega)
  have tl := Int.tmod_lt_of_pos t (show 0 < m by omega)
  rw [c2, n32_id (x := m) (by omega) (by omega), n32_id (x := t) (by omega) (by omega), n32_id (x := Int.tmod t m) (by omega) (by omega)]
  refine ⟨by omega, fun z => ?_, fun z => ?_⟩
  · unfold stv at hp
    rw [if_pos z] at hp
    intro v6 e6
    rw [c1, n32_id (x := l) (by omega) (by omega)]
    unfold sfv at hp
    refine ⟨fun y => ?_, fun y v7 e7 => ?_⟩
    · rw [if_neg y] at hp
      rw [e6]
      have pr := pb_r (l := l) (n := a + b + 1) (by omega)
      refine s_pbM (n32_id (by omega) (by omega)) ?_
      intro v7 e7
      rw [e7, n32_id (x := pb l (a + b + 1)) (by omega) (by omega), n32_id (x := a) (by omega) (by omega)]
      refine ⟨fun x => ?_, fun x => ?_⟩
      · rw [if_neg x] at hp
        refine ⟨fun w => ?_, fun w => ?_⟩
        · rw [if_neg (by omega), fo_v ⟨by omega, by omega⟩] at hp
          refine u_bh c3 p5 ht hf hw ⟨by omega, by omega, by omega⟩ ?_
          rw [e4, show -K + bh q f a (b - 1) = bh q f a (b - 1) - K by omega]
          exact hp
        · rw [if_pos (by omega), fo_v ⟨by omega, by omega⟩] at hp
          refine u_bh c3 p5 ht hf hw ⟨by omega, by omega, by omega⟩ ?_
          rw [e4, show -K + bh q f (a - 1) b = bh q f (a - 1) b - K by omega]
          exact hp
      · rw [if_pos x] at hp
        rw [e4, e5, show -K + W = W - K by omega]
        exact hp
    · rw [if_pos y] at hp
      have s := sfv_s (l := l) p3 p5 hf v
      have last : ∀ v8 : Int, v8 = W + a * fo q f (a - 1) b → L89 v4 v6 v8 u := by
        intro v8 e8
        apply h89
        rw [n32_id (x := b) (by omega) (by omega), e6, n32_id (x := a + b + 1) (by omega) (by omega)]
        refine ⟨fun x => ⟨by omega, ?_⟩, fun x => ?_⟩
        · have b0 : b = 0 := by omega
          have ez : W + a * fo q f (a - 1) b + b * fo q f a (b - 1) = W + a * fo q f (a - 1) b := by rw [b0]; omega
          rw [ez] at hp s
          rw [e8, n32_id (x := W + a * fo q f (a - 1) b) (by omega) (by omega), e4, Int.add_comm]
          exact hp
        · refine u_bh c3 p5 ht hf hw ⟨by omega, by omega, by omega⟩ ?_
          intro v9 e9
          rw [e8, ← fo_v (q := q) (f := f) (a := a) (b := b - 1) ⟨by omega, by omega⟩] at e9
          refine ⟨by omega, ?_⟩
          rw [e9, n32_id (x := W + a * fo q f (a - 1) b + b * fo q f a (b - 1)) (by omega) (by omega), e4, Int.add_comm]
          exact hp
      rw [n32_id (x := a) (by omega) (by omega)]
      refine ⟨fun x => last v7 ?_, fun x => ?_⟩
      · have a0 : a = 0 := by omega
        rw [e7, e5, a0]
        omega
      · refine u_bh c3 p5 ht hf hw ⟨by omega, by omega, by omega⟩ ?_
        intro v8 e8
        refine last v8 ?_
        rw [e8, e7, e5, fo_v ⟨by omega, by omega⟩]
  · unfold stv at hp
    rw [if_neg z] at hp
    refine u_bh c3 p5 ht hf hw v ?_
    rw [e4, show -K + bh q f a b = bh q f a b - K by omega]
    exact hp
theorem u_tn {u : mm_M} {l m W K q tc : Int} {f : Int → Int → Int} {t a b : Int} {post : Int → mm_M → Prop} (p : pok l m W K q tc) (c : wC u l m W K q) (c9 : 1000 * (u 211 62 + u 211 18 * u 218 (6 * u 211 63 + 4)) = tc) (ht : 1 ≤ t ∧ t ≤ 120) (hf : fok2 f) (hw : wAt u f (t - 1)) (v : vld a b) (hp : post (stv l m W K q f t (a + b) 0 - tc) u) : wp_X11_turning 211 t a b u post := by
  have v' := v
  obtain ⟨v1, v2, v3⟩ := v'
  have c' := c
  obtain ⟨c1, c2, c3, c4, c5, c6, c7⟩ := c'
  refine u_st p c ht hf hw ⟨by omega, by omega, by omega⟩ ⟨⟨by omega, by omega⟩, ?_⟩
  rw [show mm_rt 211 15 = 218 from rfl]
  show post (stv l m W K q f t (a + b) 0 - 1000 * (u 211 62 + u 211 18 * u 218 (6 * u 211 63 + 4))) u
  rw [c9]
  exact hp
theorem u_act {u : mm_M} {l m W K q tc : Int} {f : Int → Int → Int} {t a b : Int} {post : Int → mm_M → Prop} (p : pok l m W K q tc) (c : wC u l m W K q) (c9 : 1000 * (u 211 62 + u 211 18 * u 218 (6 * u 211 63 + 4)) = tc) (ht : 1 ≤ t ∧ t ≤ 120) (hf : fok2 f) (hw : wAt u f (t - 1)) (v : vld a b) (hp : post (acv (stv l m W K q f t a b) (stv l m W K q f t (a + b) 0 - tc)) u) : wp_X11_actAt 211 t a b u post := by
  have v' := v
  obtain ⟨v1, v2, v3⟩ := v'
  have g1 := stv_r (t := t) p hf v
  have g2 := stv_r (t := t) (a := a + b) (b := 0) p hf ⟨by omega, by omega, by omega⟩
  have p6 := p.2.2.2.2.2
  intro L40 h40
  rw [n32_id (x := t) (by omega) (by omega)]
  refine ⟨fun _ => u_st p c ht hf hw v ?_, fun z => by omega⟩
  intro v4 e4
  refine u_tn p c c9 ht hf hw v ?_
  intro v5 e5
  have last : ¬ (0 ≤ stv l m W K q f t a b ∧ stv l m W K q f t (a + b) 0 - tc ≤ stv l m W K q f t a b) → L40 v5 u := by
    intro z
    apply h40
    unfold acv at hp
    rw [if_neg z] at hp
    rw [e5, n32_id (x := stv l m W K q f t (a + b) 0 - tc) (by omega) (by omega)]
    refine ⟨fun y => ?_, fun y => ?_⟩
    · rw [if_neg (by omega)] at hp; exact hp
    · rw [if_pos (by omega)] at hp; exact hp
  rw [e5] at last ⊢
  rw [e4, n32_id (x := stv l m W K q f t a b) (by omega) (by omega), n32_id (x := stv l m W K q f t (a + b) 0 - tc) (by omega) (by omega)]
  refine ⟨fun y => last (by omega), fun y => ⟨fun z => last (by omega), fun z => ?_⟩⟩
  unfold acv at hp
  rw [if_pos (by omega)] at hp
  exact hp
/-- the whole table up to minute N -/
def wT (u : mm_M) (l m W K q tc : Int) (N : Nat) : Prop := ∀ t : Nat, t ≤ N → wAt u (dv l m W K q tc t) t
theorem u_works {s t : mm_M} {i c q fee : Int} {N : Nat} (hR : Rel s) (at0 : ag s t) (hi : 0 ≤ i ∧ i < s 9 5) (hc : 0 ≤ c ∧ c < s 9 4) (hl : tL s c ≤ 3) (hq : 0 ≤ q ∧ q ≤ 16) (hf : 0 ≤ fee ∧ fee ≤ 100) (hN : N ≤ 120) {post : mm_M → Prop} (hp : ∀ u, ag s u → wC u (tL s c) (tM s c) (tWo s i) (tK s i) q → 1000 * (u 211 62 + u 211 18 * u 218 (6 * u 211 63 + 4)) = tC s i fee → wT u (tL s c) (tM s c) (tWo s i) (tK s i) q (tC s i fee) N → post u) : wp_X11_works 211 i c q fee N t post := by
  have p := hR.pk hi hc hl hq hf
  have n5 := hR.2.1.2.2.2.1
  have n3 := hR.2.1.2.1
  have ct := hR.2.1.ct hc.1 hc.2
  have so := hR.2.1.so hi.1 hi.2
  intro L45 L55 L65 h45 h55 h65 s1 e1
  have a1 : ag s s1 := by rw [e1]; exact at0.up rfl
  refine ⟨⟨by omega, by omega⟩, fun s2 e2 => ?_⟩
  rw [show mm_rt 211 13 = 217 from rfl, a1.c (a := 217) (fun _ => rfl), ct.2.2.2.2.2.2.1] at e2
  have a2 : ag s s2 := by rw [e2]; exact a1.up rfl
  refine ⟨⟨by omega, by omega⟩, fun s3 e3 s4 e4 s5 e5 => ?_⟩
  rw [show mm_rt 211 13 = 217 from rfl, a2.c (a := 217) (fun _ => rfl), ct.2.2.2.2.2.2.2.1] at e3
  have a3 : ag s s3 := by rw [e3]; exact a2.up rfl
  have a4 : ag s s4 := by rw [e4]; exact a3.up rfl
  have a5 : ag s s5 := by rw [e5]; exact a4.up rfl
  have z63 : s5 211 63 = i := by rw [e5, up_n (by decide), e4, up_n (by decide), e3, up_n (by decide), e2, up_n (by decide), e1, up_e]
  have z59 : s5 211 59 = tL s c := by rw [e5, up_n (by decide), e4, up_n (by decide), e3, up_n (by decide), e2, up_e]; rfl
  have z60 : s5 211 60 = tM s c := by rw [e5, up_n (by decide), e4, up_n (by decide), e3, up_e]; rfl
  have z61 : s5 211 61 = q := by rw [e5, up_n (by decide), e4, up_e]
  have z62 : s5 211 62 = fee := by rw [e5, up_e]
  have z18 : s5 211 18 = s 211 18 := a5 211 18 rfl
  have z218 : s5 218 = s 218 := a5.c (fun _ => rfl)
  have wc : ∀ u : mm_M, (∀ a : Nat, a ≠ 246 → u a = s5 a) → wC u (tL s c) (tM s c) (tWo s i) (tK s i) q ∧ 1000 * (u 211 62 + u 211 18 * u 218 (6 * u 211 63 + 4)) = tC s i fee ∧ ag s u := by
    intro u fu
    rw [fu 211 (by decide), fu 218 (by decide)]
    unfold wC
    rw [fu 211 (by decide), fu 218 (by decide), z63, z59, z60, z61, z62, z18, z218, so.2 1 (by omega) (by omega), so.2 3 (by omega) (by omega), so.2 4 (by omega) (by omega)]
    refine ⟨⟨rfl, rfl, rfl, ⟨hi.1, by omega⟩, rfl, rfl, by omega, by omega⟩, ?_, a5.tr (fun a j y => ?_)⟩
    · unfold tC tB
      rw [Int.mul_add, Int.mul_assoc]
    · rw [fu a (fun z => ?_)]
      rw [z] at y; cases (show scr 246 j = true from rfl).symm.trans y
  have dr := dv_r p
  -- the minutes
  have out : ∀ d x : Nat, x + d = N + 1 → ∀ u, (∀ a : Nat, a ≠ 246 → u a = s5 a) → (∀ t : Nat, t < x → wAt u (dv (tL s c) (tM s c) (tWo s i) (tK s i) q (tC s i fee) t) t) → L45 x u := by
    intro d
    induction d with
    | zero =>
      intro x hx u fu hu
      apply h45
      rw [n32_id (x := (N : Int)) (by omega) (by omega), n32_id (x := (x : Int)) (by omega) (by omega)]
      obtain ⟨w1, w2, w3⟩ := wc u fu
      exact ⟨fun _ => hp u w3 w1 w2 (fun t ht => hu t (by omega)), fun z => by omega⟩
    | succ d ih =>
      intro x hx u fu hu
      apply h45
      rw [n32_id (x := (N : Int)) (by omega) (by omega), n32_id (x := (x : Int)) (by omega) (by omega)]
      refine ⟨fun z => by omega, fun _ => ?_⟩
      have mid : ∀ e y : Nat, y + e = 13 → ∀ u, (∀ a : Nat, a ≠ 246 → u a = s5 a) → (∀ t : Nat, t < x → wAt u (dv (tL s c) (tM s c) (tWo s i) (tK s i) q (tC s i fee) t) t) → (∀ a b, vld a b → a < y → u 246 (((x : Int) * 13 + a) * 13 + b) = dv (tL s c) (tM s c) (tWo s i) (tK s i) q (tC s i fee) x a b) → L55 x y u := by
        intro e
        induction e with
        | zero =>
          intro y hy u fu hu hv
          have : y = 13 := by omega
          subst this
          apply h55
          refine ⟨fun _ v ev => ?_, fun z => absurd (by decide) z⟩
          rw [ev, show (x : Int) + 1 = ((x + 1 : Nat) : Int) by omega]
          refine ih (x + 1) (by omega) u fu (fun t ht => ?_)
          by_cases z : t = x
          · subst z
            exact fun a b h => hv a b h (by have := h.2.1; have := h.2.2; omega)
          · exact hu t (by omega)
        | succ e ih2 =>
          intro y hy u fu hu hv
          apply h55
          rw [n32_id (x := (y : Int)) (by omega) (by omega)]
          refine ⟨fun z => by omega, fun _ => ?_⟩
          have inn : ∀ g z : Nat, y + z + g = 13 → ∀ u, (∀ a : Nat, a ≠ 246 → u a = s5 a) → (∀ t : Nat, t < x → wAt u (dv (tL s c) (tM s c) (tWo s i) (tK s i) q (tC s i fee) t) t) → (∀ a b, vld a b → a < y ∨ a = y ∧ b < z → u 246 (((x : Int) * 13 + a) * 13 + b) = dv (tL s c) (tM s c) (tWo s i) (tK s i) q (tC s i fee) x a b) → L65 x y z u := by
            intro g
            induction g with
            | zero =>
              intro z hz u fu hu hv
              apply h65
              rw [n32_id (x := (y : Int) + z) (by omega) (by omega)]
              refine ⟨fun _ v ev => ?_, fun w => by omega⟩
              rw [ev, show (y : Int) + 1 = ((y + 1 : Nat) : Int) by omega]
              refine ih2 (y + 1) (by omega) u fu hu (fun a b h ha => hv a b h ?_)
              have := h.2.2
              omega
            | succ g ih3 =>
              intro z hz u fu hu hv
              have vx : vld y z := ⟨by omega, by omega, by omega⟩
              obtain ⟨w1, w2, w3⟩ := wc u fu
              have fin : ∀ (w : Int) (s17 : mm_M), w = dv (tL s c) (tM s c) (tWo s i) (tK s i) q (tC s i fee) x y z → s17 = mm_up u 246 (((x : Int) * 13 + y) * 13 + z) w → ∀ v8 : Int, v8 = (z : Int) + 1 → L65 x y v8 s17 := by
                intro w s17 ew e17 v8 e8
                rw [e8, show (z : Int) + 1 = ((z + 1 : Nat) : Int) by omega]
                refine ih3 (z + 1) (by omega) s17 (fun a ha => by rw [e17, up_c ha]; exact fu a ha) (fun t ht a b h => ?_) (fun a b h hab => ?_)
                · have h' := h
                  obtain ⟨q1, q2, q3⟩ := h'
                  rw [e17, up_n (Or.inr (by omega))]
                  exact hu t ht a b h
                · have h' := h
                  obtain ⟨q1, q2, q3⟩ := h'
                  rw [e17]
                  by_cases k : a = y ∧ b = z
                  · rw [k.1, k.2, up_e, ew]
                  · rw [up_n (Or.inr (by omega))]
                    exact hv a b h (by omega)
              apply h65
              rw [n32_id (x := (y : Int) + z) (by omega) (by omega), n32_id (x := (x : Int)) (by omega) (by omega), show mm_rt 211 58 = 246 from rfl]
              refine ⟨fun w => by omega, fun _ => ⟨fun nz => ?_, fun ez => ⟨⟨by omega, by omega⟩, fun s17 e17 => fin 0 s17 ?_ e17⟩⟩⟩
              · obtain ⟨x', ex⟩ : ∃ x' : Nat, x = x' + 1 := ⟨x - 1, by omega⟩
                have hw : wAt u (dv (tL s c) (tM s c) (tWo s i) (tK s i) q (tC s i fee) x') ((x : Int) - 1) := by
                  have := hu x' (by omega)
                  rw [show ((x' : Nat) : Int) = (x : Int) - 1 by omega] at this
                  exact this
                have g1 := stv_r (t := (x : Int)) p (dr x') vx
                have g2 := stv_r (t := (x : Int)) (a := (y : Int) + z) (b := 0) p (dr x') ⟨by omega, by omega, by omega⟩
                have p6 := p.2.2.2.2.2
                refine u_st p w1 ⟨by omega, by omega⟩ (dr x') hw vx ?_
                refine u_tn p w1 w2 ⟨by omega, by omega⟩ (dr x') hw vx ⟨⟨by omega, by omega⟩, fun s15 e15 => fin _ s15 ?_ e15⟩
                rw [ex, dv_s, show ((x' : Nat) : Int) + 1 = (x : Int) by omega]
                have ec : ((x' + 1 : Nat) : Int) = (x : Int) := by omega
                rw [ec]
                have e1 : mm_max (stv (tL s c) (tM s c) (tWo s i) (tK s i) q (dv (tL s c) (tM s c) (tWo s i) (tK s i) q (tC s i fee) x') x y z) (stv (tL s c) (tM s c) (tWo s i) (tK s i) q (dv (tL s c) (tM s c) (tWo s i) (tK s i) q (tC s i fee) x') x ((y : Int) + z) 0 - tC s i fee) = m2 (stv (tL s c) (tM s c) (tWo s i) (tK s i) q (dv (tL s c) (tM s c) (tWo s i) (tK s i) q (tC s i fee) x') x y z) (stv (tL s c) (tM s c) (tWo s i) (tK s i) q (dv (tL s c) (tM s c) (tWo s i) (tK s i) q (tC s i fee) x') x ((y : Int) + z) 0 - tC s i fee) := by
                  unfold mm_max m2
                  rw [n32_id (x := stv (tL s c) (tM s c) (tWo s i) (tK s i) q (dv (tL s c) (tM s c) (tWo s i) (tK s i) q (tC s i fee) x') x y z) (by omega) (by omega), n32_id (x := stv (tL s c) (tM s c) (tWo s i) (tK s i) q (dv (tL s c) (tM s c) (tWo s i) (tK s i) q (tC s i fee) x') x ((y : Int) + z) 0 - tC s i fee) (by omega) (by omega)]
                rw [e1]
                have r : -300000 ≤ m2 (stv (tL s c) (tM s c) (tWo s i) (tK s i) q (dv (tL s c) (tM s c) (tWo s i) (tK s i) q (tC s i fee) x') x y z) (stv (tL s c) (tM s c) (tWo s i) (tK s i) q (dv (tL s c) (tM s c) (tWo s i) (tK s i) q (tC s i fee) x') x ((y : Int) + z) 0 - tC s i fee) ∧ m2 (stv (tL s c) (tM s c) (tWo s i) (tK s i) q (dv (tL s c) (tM s c) (tWo s i) (tK s i) q (tC s i fee) x') x y z) (stv (tL s c) (tM s c) (tWo s i) (tK s i) q (dv (tL s c) (tM s c) (tWo s i) (tK s i) q (tC s i fee) x') x ((y : Int) + z) 0 - tC s i fee) ≤ 99000 := by
                  generalize stv (tL s c) (tM s c) (tWo s i) (tK s i) q (dv (tL s c) (tM s c) (tWo s i) (tK s i) q (tC s i fee) x') x y z = A at g1
                  generalize stv (tL s c) (tM s c) (tWo s i) (tK s i) q (dv (tL s c) (tM s c) (tWo s i) (tK s i) q (tC s i fee) x') x ((y : Int) + z) 0 = B at g2
                  unfold m2
                  split <;> omega
                generalize m2 (stv (tL s c) (tM s c) (tWo s i) (tK s i) q (dv (tL s c) (tM s c) (tWo s i) (tK s i) q (tC s i fee) x') x y z) (stv (tL s c) (tM s c) (tWo s i) (tK s i) q (dv (tL s c) (tM s c) (tWo s i) (tK s i) q (tC s i fee) x') x ((y : Int) + z) 0 - tC s i fee) = w at r
                unfold mm_max m2
                rw [n32_id (x := w) (by omega) (by omega), m_0]
              · have : x = 0 := by omega
                subst this
                rfl
          exact inn (13 - y) 0 (by omega) u fu hu (fun a b h hab => hv a b h (by have := h.2.1; omega))
      exact mid 13 0 (by omega) u fu hu (fun a b h ha => by have := h.1; omega)
  exact out (N + 1) 0 (by omega) s5 (fun _ _ => rfl) (fun t ht => by omega)
theorem u_asked {s t : mm_M} {i c q : Int} (hR : Rel s) (at0 : ag s t) (h1 : n32 i = i) (h2 : n32 c = c) (h3 : n32 q = q) {post : Int → mm_M → Prop} (k1 : (0 ≤ i ∧ i < s 9 5) → (0 ≤ c ∧ c < s 9 4) → tL s c ≤ 3 → (0 ≤ q ∧ q ≤ 16) → post 1 t) (k0 : ¬ ((0 ≤ i ∧ i < s 9 5) ∧ (0 ≤ c ∧ c < s 9 4) ∧ tL s c ≤ 3 ∧ 0 ≤ q ∧ q ≤ 16) → post 0 t) : wp_X11_isAsked 211 i c q t post := by
  have nC := hR.nC
  have nS := hR.nS
  have k16 : n32 16 = 16 := by decide
  unfold wp_X11_isAsked wp_X11_isSort wp_X11_isCounter
  rw [at0 211 14 rfl, nS.2.2.2]
  have q1 : n32 (s 9 5 - 1) = s 9 5 - 1 := n32_id (by omega) (by omega)
  have q2 : n32 (s 9 4 - 1) = s 9 4 - 1 := n32_id (by omega) (by omega)
  refine s_in (fun b1 b2 => ⟨Or.inr rfl, fun z => absurd z (by decide), fun _ => ?_⟩) (fun b => ⟨Or.inl rfl, fun _ => k0 (by rw [h1, m_0, q1] at b; omega), fun z => absurd m_0 z⟩)
  rw [h1, m_0] at b1
  rw [h1, q1] at b2
  rw [at0 211 12 rfl, nC.2.2.2]
  refine s_in (fun d1 d2 => ⟨Or.inr rfl, fun z => absurd z (by decide), fun _ => ?_⟩) (fun b => ⟨Or.inl rfl, fun _ => k0 (by rw [h2, m_0, q2] at b; omega), fun z => absurd m_0 z⟩)
  rw [h2, m_0] at d1
  rw [h2, q2] at d2
  have ct := hR.2.1.ct d1 (by omega)
  have e : t 217 (3 * c) = tL s c := by rw [at0.c (a := 217) (fun _ => rfl), ct.2.2.2.2.2.2.1]; rfl
  have lr : 0 ≤ tL s c ∧ tL s c ≤ 8 := ⟨ct.1, ct.2.1⟩
  rw [show mm_rt 211 13 = 217 from rfl, e, n32_id (x := tL s c) (by omega) (by omega)]
  refine ⟨⟨by omega, by omega⟩, fun z => k0 (by omega), fun z => ?_⟩
  refine s_in (fun f1 f2 => ⟨fun y => absurd y (by decide), fun _ => k1 ⟨b1, by omega⟩ ⟨d1, by omega⟩ (by omega) (by rw [h3, m_0] at f1; rw [h3, k16] at f2; exact ⟨f1, f2⟩)⟩) (fun b => ⟨fun _ => k0 (by rw [h3, m_0, k16] at b; omega), fun y => absurd m_0 y⟩)
