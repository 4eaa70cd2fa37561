theorem t_turned {s : mm_M} {g : Int → Int → Int} {tc a b : Int} {post : Int → mm_M → Prop} (c9 : s 206 9 = tc) (hg : ∀ a b, vld a b → s 209 (a * 13 + b) = g a b) (h : vld a b) (hp : post (g (a + b) 0 - tc) s) : wp_X4_turned 206 a b s post := by
  have h' := h
  obtain ⟨h1, h2, h3⟩ := h'
  have v : vld (a + b) 0 := ⟨by omega, by omega, by omega⟩
  refine t_index v ⟨⟨by omega, by omega⟩, ?_⟩
  rw [show mm_rt 206 2 = 209 from rfl, hg _ _ v, c9]
  exact hp
theorem t_settle {s : mm_M} {g : Int → Int → Int} {tc : Int} {post : mm_M → Prop} (c9 : s 206 9 = tc) (ht : 0 ≤ tc ∧ tc ≤ 200000) (hg : ∀ a b, vld a b → s 209 (a * 13 + b) = g a b) (hr : ∀ a b, vld a b → -9000 ≤ g a b ∧ g a b ≤ 99000) (hp : ∀ u, (∀ c : Nat, c ≠ 208 → u c = s c) → (∀ a b, vld a b → u 208 (a * 13 + b) = m2 0 (m2 (g a b) (g (a + b) 0 - tc))) → post u) : wp_X4_settle 206 s post := by
  intro L2 L10 h2 h10
  have out : ∀ d x : Nat, x + d = 13 → ∀ u, (∀ c : Nat, c ≠ 208 → u c = s c) → (∀ a b, vld a b → a < x → u 208 (a * 13 + b) = m2 0 (m2 (g a b) (g (a + b) 0 - tc))) → L2 x u := by
    intro d
    induction d with
    | zero =>
      intro x hx u fu hu
      have : x = 13 := by omega
      subst this
      apply h2
      exact ⟨fun _ => hp u fu (fun a b h => hu a b h (by have := h.2.1; have := h.2.2; omega)), fun z => absurd (by decide) z⟩
    | succ d ih =>
      intro x hx u fu hu
      apply h2
      rw [n32_id (x := (x : Int)) (by omega) (by omega)]
      refine ⟨fun z => by omega, fun _ => ?_⟩
      have inn : ∀ e y : Nat, x + y + e = 13 → ∀ u, (∀ c : Nat, c ≠ 208 → u c = s c) → (∀ a b, vld a b → a < x ∨ a = x ∧ b < y → u 208 (a * 13 + b) = m2 0 (m2 (g a b) (g (a + b) 0 - tc))) → L10 x y u := by
        intro e
        induction e with
        | zero =>
          intro y hy u fu hu
          apply h10
          rw [n32_id (x := (x : Int) + y) (by omega) (by omega)]
          refine ⟨fun _ v ev => ?_, fun z => by omega⟩
          rw [ev, show (x : Int) + 1 = ((x + 1 : Nat) : Int) by omega]
          refine ih (x + 1) (by omega) u fu (fun a b h ha => hu a b h ?_)
          have := h.2.2
          omega
        | succ e ih2 =>
          intro y hy u fu hu
          have vx : vld x y := ⟨by omega, by omega, by omega⟩
          have vy : vld ((x : Int) + y) 0 := ⟨by omega, by omega, by omega⟩
          have g1 := hr x y vx
          have g2 := hr ((x : Int) + y) 0 vy
          have ug : ∀ a b, vld a b → u 209 (a * 13 + b) = g a b := fun a b h => by rw [fu 209 (by decide)]; exact hg a b h
          have u9 : u 206 9 = tc := by rw [fu 206 (by decide)]; exact c9
          apply h10
          rw [n32_id (x := (x : Int) + y) (by omega) (by omega)]
          refine ⟨fun z => by omega, fun _ => t_index vx ?_⟩
          intro v3 e3
          rw [e3]
          refine ⟨⟨by omega, by omega⟩, t_turned u9 ug vx ⟨⟨by omega, by omega⟩, fun s9 e9 v ev => ?_⟩⟩
          have em : mm_max 0 (mm_max (g x y) (g ((x : Int) + y) 0 - tc)) = m2 0 (m2 (g x y) (g ((x : Int) + y) 0 - tc)) := by
            have e1 : mm_max (g x y) (g ((x : Int) + y) 0 - tc) = m2 (g x y) (g ((x : Int) + y) 0 - tc) := by
              unfold mm_max m2
              rw [n32_id (x := g x y) (by omega) (by omega), n32_id (x := g ((x : Int) + y) 0 - tc) (by omega) (by omega)]
            have r : -300000 ≤ m2 (g x y) (g ((x : Int) + y) 0 - tc) ∧ m2 (g x y) (g ((x : Int) + y) 0 - tc) ≤ 99000 := by
              unfold m2
              split <;> omega
            rw [e1]
            generalize m2 (g x y) (g ((x : Int) + y) 0 - tc) = w at r
            unfold mm_max m2
            rw [n32_id (x := w) (by omega) (by omega), m_0]
          rw [show mm_rt 206 1 = 208 from rfl, show mm_rt 206 2 = 209 from rfl, ug x y vx, em] at e9
          rw [ev, show (y : Int) + 1 = ((y + 1 : Nat) : Int) by omega]
          refine ih2 (y + 1) (by omega) s9 (fun c hc => by rw [e9, up_c hc]; exact fu c hc) (fun a b h hab => ?_)
          have h' := h
          obtain ⟨h1, h2, h3⟩ := h'
          rw [e9]
          by_cases z : a = x ∧ b = y
          · rw [z.1, z.2, up_e]
          · rw [up_n (Or.inr (by omega))]
            exact hu a b h (by omega)
      exact inn (13 - x) 0 (by omega) u fu (fun a b h hab => hu a b h (by have := h.2.1; omega))
  exact out 13 0 (by omega) s (fun _ _ => rfl) (fun a b h ha => by have := h.1; omega)
/-- the class's table stands at minute T -/
def onS (u : mm_M) (l m W K q tc : Int) (T : Nat) : Prop := (u 206 4 = l ∧ u 206 5 = m ∧ u 206 6 = W ∧ u 206 7 = K ∧ u 206 10 = q) ∧ u 206 9 = tc ∧ u 206 11 = T ∧ (∀ a b, vld a b → u 208 (a * 13 + b) = dv l m W K q tc T a b) ∧ (∀ t : Nat, T = t + 1 → ∀ a b, vld a b → u 209 (a * 13 + b) = stv l m W K q (dv l m W K q tc t) ((t : Int) + 1) a b)
theorem f208_ag {s u : mm_M} (h : ∀ c : Nat, c ≠ 208 → u c = s c) : ag s u := fun a j q => by
  by_cases z : a = 208
  · rw [z] at q; cases (show scr 208 j = true from rfl).symm.trans q
  · rw [h a z]
theorem t_step {s : mm_M} {l m W K q tc : Int} {T : Nat} {post : mm_M → Prop} (p : pok l m W K q tc) (h : onS s l m W K q tc T) (hT : T ≤ 200) (hp : ∀ u, ag s u → onS u l m W K q tc (T + 1) → post u) : wp_X4_weighStaying 206 s (fun s_2 => wp_X4_settle 206 s_2 post) := by
  obtain ⟨⟨c4, c5, c6, c7, c10⟩, c9, c11, hn, hs⟩ := h
  have dr := dv_r p T
  refine t_weigh p c4 c5 c6 c7 c10 c11 ⟨by omega, by omega⟩ hn dr (fun u fu u11 ug => ?_)
  have u9 : u 206 9 = tc := by rw [fu 206 9 (by omega) (by omega) (by omega)]; exact c9
  refine t_settle u9 ⟨p.2.2.2.2.2.1, p.2.2.2.2.2.2⟩ ug (fun a b h => stv_r p dr h) (fun w fw wn => hp w (fu.ag.tr (f208_ag fw)) ⟨⟨?_, ?_, ?_, ?_, ?_⟩, ?_, ?_, ?_, ?_⟩)
  · rw [fw 206 (by decide), fu 206 4 (by omega) (by omega) (by omega)]; exact c4
  · rw [fw 206 (by decide), fu 206 5 (by omega) (by omega) (by omega)]; exact c5
  · rw [fw 206 (by decide), fu 206 6 (by omega) (by omega) (by omega)]; exact c6
  · rw [fw 206 (by decide), fu 206 7 (by omega) (by omega) (by omega)]; exact c7
  · rw [fw 206 (by decide), fu 206 10 (by omega) (by omega) (by omega)]; exact c10
  · rw [fw 206 (by decide)]; exact u9
  · rw [fw 206 (by decide), u11]; omega
  · intro a b h
    rw [wn a b h, dv_s]
  · intro t et a b h
    have : t = T := by omega
    subst this
    rw [fw 209 (by decide)]
    exact ug a b h
theorem t_reach {s : mm_M} {l m W K q tc : Int} {T : Nat} {T2 : Nat} {post : mm_M → Prop} (p : pok l m W K q tc) (h : onS s l m W K q tc T) (hT : T ≤ T2 ∧ T2 ≤ 120) (hp : ∀ u, ag s u → onS u l m W K q tc T2 → post u) : wp_X4_reach 206 T2 s post := by
  intro L5 h5 v2 e2
  have key : ∀ d x : Nat, x + d = T2 → ∀ u, ag s u → onS u l m W K q tc x → L5 x u := by
    intro d
    induction d with
    | zero =>
      intro x hx u au hu
      have : x = T2 := by omega
      subst this
      apply h5
      exact ⟨fun _ => hp u au hu, fun z => absurd (Int.le_refl _) z⟩
    | succ d ih =>
      intro x hx u au hu
      apply h5
      rw [n32_id (x := (T2 : Int)) (by omega) (by omega), n32_id (x := (x : Int)) (by omega) (by omega)]
      refine ⟨fun z => by omega, fun _ => ⟨fun z => by omega, fun _ => ?_⟩⟩
      refine t_step p hu (by omega) (fun w aw hw v ev => ?_)
      rw [ev, show (x : Int) + 1 = ((x + 1 : Nat) : Int) by omega]
      exact ih (x + 1) (by omega) w (au.tr aw) hw
  rw [e2, h.2.2.1]
  exact key (T2 - T) T (by omega) s ag.rf h
theorem t_valueOf {s : mm_M} {l m W K q tc : Int} {T : Nat} {a b : Int} {post : Int → mm_M → Prop} (h : onS s l m W K q tc T) (v : vld a b) (hp : post (dv l m W K q tc T a b) s) : wp_X4_valueOf 206 a b s post := by
  have v' := v
  obtain ⟨v1, v2, v3⟩ := v'
  refine t_index v ⟨⟨by omega, by omega⟩, ?_⟩
  rw [show mm_rt 206 1 = 208 from rfl, h.2.2.2.1 a b v]
  exact hp
/-- to stay, to turn, to leave -/
def acv (x y : Int) : Int := if 0 ≤ x ∧ y ≤ x then 0 else if 0 ≤ y then 1 else 2
theorem t_act {s : mm_M} {g : Int → Int → Int} {tc a b : Int} {post : Int → mm_M → Prop} (c9 : s 206 9 = tc) (c11 : 0 < s 206 11 ∧ s 206 11 ≤ 1000) (ht : 0 ≤ tc ∧ tc ≤ 200000) (hg : ∀ a b, vld a b → s 209 (a * 13 + b) = g a b) (hr : ∀ a b, vld a b → -9000 ≤ g a b ∧ g a b ≤ 99000) (v : vld a b) (hp : post (acv (g a b) (g (a + b) 0 - tc)) s) : wp_X4_actOf 206 a b s post := by
  have v' := v
  obtain ⟨v1, v2, v3⟩ := v'
  have vy : vld (a + b) 0 := ⟨by omega, by omega, by omega⟩
  have g1 := hr a b v
  have g2 := hr (a + b) 0 vy
  intro L40 h40
  rw [n32_id (x := s 206 11) (by omega) (by omega)]
  refine ⟨fun _ => t_index v ⟨⟨by omega, by omega⟩, fun v3 e3 => t_turned c9 hg v ?_⟩, fun z => by omega⟩
  intro v4 e4
  rw [show mm_rt 206 2 = 209 from rfl, hg a b v] at e3
  have last : ¬ (0 ≤ g a b ∧ g (a + b) 0 - tc ≤ g a b) → L40 v4 s := by
    intro z
    apply h40
    unfold acv at hp
    rw [if_neg z] at hp
    rw [e4, n32_id (x := g (a + b) 0 - tc) (by omega) (by omega)]
    refine ⟨fun y => ?_, fun y => ?_⟩
    · rw [if_neg (by omega)] at hp; exact hp
    · rw [if_pos (by omega)] at hp; exact hp
  rw [e3, n32_id (x := g a b) (by omega) (by omega)]
  refine ⟨fun z => last (by omega), fun z => ?_⟩
  rw [e4] at last ⊢
  rw [n32_id (x := g (a + b) 0 - tc) (by omega) (by omega)]
  refine ⟨fun y => last (by omega), fun y => ?_⟩
  unfold acv at hp
  rw [if_pos (by omega)] at hp
  exact hp
theorem t_fill {s : mm_M} {c n : Nat} {w : Int} {post : mm_M → Prop} (hn : n ≤ 1000) (hp : ∀ u, (∀ a : Nat, a ≠ c → u a = s a) → (∀ j : Int, 0 ≤ j → j < n → u c j = w) → post u) : wp_J7_fill_53178 c n w s post := by
  intro L5 h5 v3 e3
  rw [e3]
  have key : ∀ d x : Nat, x + d = n → ∀ u, (∀ a : Nat, a ≠ c → u a = s a) → (∀ j : Int, 0 ≤ j → j < x → u c j = w) → L5 x n u := by
    intro d
    induction d with
    | zero =>
      intro x hx u fu hu
      have : x = n := by omega
      subst this
      apply h5
      exact ⟨fun _ => hp u fu hu, fun z => absurd (Int.le_refl _) z⟩
    | succ d ih =>
      intro x hx u fu hu
      apply h5
      rw [n32_id (x := (n : Int)) (by omega) (by omega), n32_id (x := (x : Int)) (by omega) (by omega)]
      refine ⟨fun z => by omega, fun _ => ⟨⟨by omega, by omega⟩, fun s3 e3 v ev => ?_⟩⟩
      rw [ev, show (x : Int) + 1 = ((x + 1 : Nat) : Int) by omega]
      refine ih (x + 1) (by omega) s3 (fun a ha => by rw [e3, up_c ha]; exact fu a ha) (fun j j1 j2 => ?_)
      rw [e3]
      by_cases z : j = x
      · rw [z, up_e]
      · rw [up_n (Or.inr z)]; exact hu j j1 (by omega)
  exact key n 0 (by omega) s (fun _ _ => rfl) (fun j j1 j2 => by omega)
/-! what a town asks of the table -/
def tL (s : mm_M) (c : Int) : Int := s 10 (3 * c)
def tM (s : mm_M) (c : Int) : Int := s 10 (3 * c + 1)
def tWo (s : mm_M) (i : Int) : Int := 1000 * s 11 (6 * i + 1)
def tK (s : mm_M) (i : Int) : Int := 1000 * s 11 (6 * i + 3)
def tB (s : mm_M) (i : Int) : Int := 1000 * s 211 18 * s 11 (6 * i + 4)
def tC (s : mm_M) (i : Int) (fee : Int) : Int := 1000 * fee + tB s i
theorem Rel.fee {s : mm_M} (hR : Rel s) : 0 ≤ s 211 17 ∧ s 211 17 ≤ 99 ∧ mm_max (s 9 7) 0 = s 211 17 ∧ 0 ≤ s 211 18 ∧ s 211 18 ≤ 9 ∧ mm_max (s 9 8) 0 = s 211 18 := by
  obtain ⟨w1, w2, w3, w4, w5, w6, w7, w8, w9, w10, w11, w12, w13, w14⟩ := hR.2.1
  rw [mx_0 w8 (by omega), mx_0 w11 (by omega), ← w10, ← w13]
  refine ⟨?_, ?_, rfl, ?_, ?_, rfl⟩
  · rw [w10]; split <;> omega
  · rw [w10]; split <;> omega
  · rw [w13]; split <;> omega
  · rw [w13]; split <;> omega
theorem Rel.pk {s : mm_M} (hR : Rel s) {i c q fee : Int} (hi : 0 ≤ i ∧ i < s 9 5) (hc : 0 ≤ c ∧ c < s 9 4) (hl : tL s c ≤ 3) (hq : 0 ≤ q ∧ q ≤ 16) (hf : 0 ≤ fee ∧ fee ≤ 100) : pok (tL s c) (tM s c) (tWo s i) (tK s i) q (tC s i fee) := by
  have a := hR.2.1.ct hc.1 hc.2
  have b := (hR.2.1.so hi.1 hi.2).1
  have f := hR.fee
  unfold tL at hl
  have m1 := mul_r (q := s 211 18) (x := s 11 (6 * i + 4)) (B := 9) (by omega) (by omega)
  unfold tL tM tWo tK tC tB pok
  rw [Int.mul_assoc]
  omega
theorem t_begin {s : mm_M} (hR : Rel s) {i c q : Int} (h1 : n32 i = i) (h2 : n32 c = c) (h3 : n32 q = q) {post : Int → mm_M → Prop} (k1 : (0 ≤ i ∧ i < s 9 5) → (0 ≤ c ∧ c < s 9 4) → tL s c ≤ 3 → (0 ≤ q ∧ q ≤ 16) → ∀ u, ag s u → u 206 8 = tB s i → onS u (tL s c) (tM s c) (tWo s i) (tK s i) q (tC s i (s 211 17)) 0 → post 1 u) (k0 : ¬ ((0 ≤ i ∧ i < s 9 5) ∧ (0 ≤ c ∧ c < s 9 4) ∧ tL s c ≤ 3 ∧ 0 ≤ q ∧ q ≤ 16) → ∀ u, ag s u → post 0 u) : wp_X4_begin 206 9 i c q s post := by
  unfold wp_X4_begin
  refine s_hasS hR (fun b1 b2 => ⟨fun z => absurd z (by decide), fun _ => s_hasC hR (fun d1 d2 => ⟨fun z => absurd z (by decide), fun _ => ?_⟩) (fun z => ⟨fun _ => k0 (by rw [h2] at z; omega) s ag.rf, fun z => absurd m_0 z⟩)⟩) (fun z => ⟨fun _ => k0 (by rw [h1] at z; omega) s ag.rf, fun z => absurd m_0 z⟩)
  rw [h1] at b1 b2
  rw [h2] at d1 d2
  have hW := hR.tw (by omega)
  have ct := hR.2.1.ct d1 d2
  have so := (hR.2.1.so b1 b2).1
  have f := hR.fee
  rw [h3]
  refine ⟨fun z => k0 (by omega) s ag.rf, fun z => ⟨fun z2 => ?_, fun z2 => k0 (by omega) s ag.rf⟩⟩
  refine t_ofC hW ⟨d1, d2⟩ (by omega) ?_
  rw [show 3 * c + 0 = 3 * c by omega]
  intro s7 e7
  have a7 : ag s s7 := by rw [e7]; exact ag.rf.up rfl
  have l7 : s7 206 4 = tL s c := by rw [e7, up_e]; rfl
  have lr : 0 ≤ tL s c ∧ tL s c ≤ 8 := ⟨ct.1, ct.2.1⟩
  rw [l7, n32_id (x := tL s c) (by omega) (by omega)]
  refine ⟨fun z3 => ?_, fun z3 => k0 (by omega) s7 a7⟩
  refine t_ofC (hW.fC a7.toC) ⟨d1, d2⟩ (by omega) ?_
  rw [a7.c (a := 10) (fun _ => rfl)]
  intro s10 e10
  have a10 : ag s s10 := by rw [e10]; exact a7.up rfl
  refine t_ofS (hW.fC a10.toC) ⟨b1, b2⟩ (by omega) ?_
  rw [a10.c (a := 11) (fun _ => rfl)]
  intro s13 e13
  have a13 : ag s s13 := by rw [e13]; exact a10.up rfl
  refine t_ofS (hW.fC a13.toC) ⟨b1, b2⟩ (by omega) ?_
  rw [a13.c (a := 11) (fun _ => rfl)]
  intro s16 e16
  have a16 : ag s s16 := by rw [e16]; exact a13.up rfl
  unfold wp_X9_bow
  refine t_ofS (hW.fC a16.toC) ⟨b1, b2⟩ (by omega) ?_
  rw [a16.c (a := 11) (fun _ => rfl), a16 9 8 rfl, f.2.2.2.2.2]
  intro s21 e21
  have a21 : ag s s21 := by rw [e21]; exact a16.up rfl
  unfold wp_X9_fee
  rw [a21 9 7 rfl, f.2.2.1]
  intro s24 e24 s25 e25 s26 e26
  have b21 : s21 206 8 = tB s i := by rw [e21, up_e]; rfl
  rw [b21] at e24
  have a24 : ag s s24 := by rw [e24]; exact a21.up rfl
  have a25 : ag s s25 := by rw [e25]; exact a24.up rfl
  have a26 : ag s s26 := by rw [e26]; exact a25.up rfl
  rw [show mm_rt 206 1 = 208 from rfl, show mm_rt 206 2 = 209 from rfl]
  refine t_fill (by omega) (fun s27 f27 g27 => t_fill (by omega) (fun s29 f29 g29 => ?_))
  have a29 : ag s s29 := a26.tr (fun a j y => by
    rw [f29 a (fun z => ?_), f27 a (fun z => ?_)]
    · rw [z] at y; cases (show scr 208 j = true from rfl).symm.trans y
    · rw [z] at y; cases (show scr 209 j = true from rfl).symm.trans y)
  have o : ∀ j, s29 206 j = s26 206 j := fun j => by rw [f29 206 (by decide), f27 206 (by decide)]
  refine k1 ⟨b1, b2⟩ ⟨d1, d2⟩ (by omega) ⟨by omega, z2⟩ s29 a29 ?_ ⟨⟨?_, ?_, ?_, ?_, ?_⟩, ?_, ?_, fun a b h => ?_, fun t et => by omega⟩
  · rw [o, e26, up_n (by decide), e25, up_n (by decide), e24, up_n (by decide)]; exact b21
  · rw [o, e26, up_n (by decide), e25, up_n (by decide), e24, up_n (by decide), e21, up_n (by decide), e16, up_n (by decide), e13, up_n (by decide), e10, up_n (by decide)]; exact l7
  · rw [o, e26, up_n (by decide), e25, up_n (by decide), e24, up_n (by decide), e21, up_n (by decide), e16, up_n (by decide), e13, up_n (by decide), e10, up_e]; rfl
  · rw [o, e26, up_n (by decide), e25, up_n (by decide), e24, up_n (by decide), e21, up_n (by decide), e16, up_n (by decide), e13, up_e]; rfl
  · rw [o, e26, up_n (by decide), e25, up_n (by decide), e24, up_n (by decide), e21, up_n (by decide), e16, up_e]; rfl
  · rw [o, e26, up_n (by decide), e25, up_e]
  · rw [o, e26, up_n (by decide), e25, up_n (by decide), e24, up_e]; rfl
  · rw [o, e26, up_e]; rfl
  · have h' := h
    obtain ⟨v1, v2, v3⟩ := h'
    rw [f29 208 (by decide), g27 _ (by omega) (by omega)]
    rfl
