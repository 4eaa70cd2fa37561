/-! one's best: the table -/
def bh (q : Int) (f : Int → Int → Int) (a b : Int) : Int := Int.tdiv (q * (if a + b < 12 then f a (b + 1) else f a b) + (16 - q) * f a b) 16
def fo (q : Int) (f : Int → Int → Int) (a b : Int) : Int := if a < 0 ∨ b < 0 then 0 else bh q f a b
def sfv (l W q : Int) (f : Int → Int → Int) (a b : Int) : Int := if l = 3 then Int.tdiv (W + a * fo q f (a - 1) b + b * fo q f a (b - 1)) (a + b + 1) else if pb l (a + b + 1) = a then W else if pb l (a + b + 1) < a then fo q f (a - 1) b else fo q f a (b - 1)
def stv (l m W K q : Int) (f : Int → Int → Int) (t a b : Int) : Int := (if Int.tmod t m = 0 then sfv l W q f a b else bh q f a b) - K
def dv (l m W K q tc : Int) : Nat → Int → Int → Int
  | 0 => fun _ _ => 0
  | t + 1 => fun a b => m2 0 (m2 (stv l m W K q (dv l m W K q tc t) ((t : Int) + 1) a b) (stv l m W K q (dv l m W K q tc t) ((t : Int) + 1) (a + b) 0 - tc))
def vld (a b : Int) : Prop := 0 ≤ a ∧ 0 ≤ b ∧ a + b ≤ 12
def fok2 (f : Int → Int → Int) : Prop := ∀ a b, vld a b → 0 ≤ f a b ∧ f a b ≤ 99000
def pok (l m W K q tc : Int) : Prop := (0 ≤ l ∧ l ≤ 3) ∧ (1 ≤ m ∧ m ≤ 9) ∧ (0 ≤ W ∧ W ≤ 99000) ∧ (0 ≤ K ∧ K ≤ 9000) ∧ (0 ≤ q ∧ q ≤ 16) ∧ 0 ≤ tc ∧ tc ≤ 200000
theorem mul_r {q x B : Int} (hq : 0 ≤ q) (hx : 0 ≤ x ∧ x ≤ B) : 0 ≤ q * x ∧ q * x ≤ q * B := ⟨Int.mul_nonneg hq hx.1, Int.mul_le_mul_of_nonneg_left hx.2 hq⟩
theorem bh_s {q x y : Int} (hq : 0 ≤ q ∧ q ≤ 16) (hx : 0 ≤ x ∧ x ≤ 99000) (hy : 0 ≤ y ∧ y ≤ 99000) : 0 ≤ q * x + (16 - q) * y ∧ q * x + (16 - q) * y ≤ 1584000 := by
  have a := mul_r hq.1 hx
  have b := mul_r (q := 16 - q) (by omega) hy
  omega
theorem bh_r {q : Int} {f : Int → Int → Int} {a b : Int} (hq : 0 ≤ q ∧ q ≤ 16) (hf : fok2 f) (h : vld a b) : 0 ≤ bh q f a b ∧ bh q f a b ≤ 99000 := by
  have y := hf a b h
  have x : 0 ≤ (if a + b < 12 then f a (b + 1) else f a b) ∧ (if a + b < 12 then f a (b + 1) else f a b) ≤ 99000 := by
    by_cases z : a + b < 12
    · rw [if_pos z]; exact hf a (b + 1) ⟨h.1, by have := h.2.1; omega, by omega⟩
    · rw [if_neg z]; exact y
  have s := bh_s hq x y
  unfold bh
  rw [Int.tdiv_eq_ediv_of_nonneg s.1]
  omega
theorem bh_12 {q : Int} {f : Int → Int → Int} {a b : Int} (h : ¬ a + b < 12) (hy : 0 ≤ f a b) : bh q f a b = f a b := by
  unfold bh
  rw [if_neg h, ← Int.add_mul, show q + (16 - q) = 16 by omega, Int.tdiv_eq_ediv_of_nonneg (by omega)]
  omega
theorem fo_v {q : Int} {f : Int → Int → Int} {a b : Int} (h : 0 ≤ a ∧ 0 ≤ b) : fo q f a b = bh q f a b := if_neg (by omega)
theorem fo_r {q : Int} {f : Int → Int → Int} {a b : Int} (hq : 0 ≤ q ∧ q ≤ 16) (hf : fok2 f) (h : a + b ≤ 12) : 0 ≤ fo q f a b ∧ fo q f a b ≤ 99000 := by
  unfold fo
  by_cases z : a < 0 ∨ b < 0
  · rw [if_pos z]; omega
  · rw [if_neg z]; exact bh_r hq hf ⟨by omega, by omega, h⟩
theorem pb_r {l n : Int} (hn : 1 ≤ n ∧ n ≤ 1000) : 0 ≤ pb l n ∧ pb l n ≤ n - 1 := by
  unfold pb
  rw [n32_id (x := n) (by omega) (by omega), Int.tdiv_eq_ediv_of_nonneg (by omega)]
  split
  · omega
  · split <;> omega
theorem sfv_s {l W q : Int} {f : Int → Int → Int} {a b : Int} (hW : 0 ≤ W ∧ W ≤ 99000) (hq : 0 ≤ q ∧ q ≤ 16) (hf : fok2 f) (h : vld a b) : 0 ≤ W + a * fo q f (a - 1) b + b * fo q f a (b - 1) ∧ W + a * fo q f (a - 1) b + b * fo q f a (b - 1) ≤ 99000 * (a + b + 1) := by
  have x := mul_r h.1 (fo_r (a := a - 1) (b := b) hq hf (by have := h.2.2; omega))
  have y := mul_r h.2.1 (fo_r (a := a) (b := b - 1) hq hf (by have := h.2.2; omega))
  omega
theorem sfv_r {l W q : Int} {f : Int → Int → Int} {a b : Int} (hW : 0 ≤ W ∧ W ≤ 99000) (hq : 0 ≤ q ∧ q ≤ 16) (hf : fok2 f) (h : vld a b) : 0 ≤ sfv l W q f a b ∧ sfv l W q f a b ≤ 99000 := by
  have h' := h
  obtain ⟨h1, h2, h3⟩ := h'
  unfold sfv
  by_cases z : l = 3
  · rw [if_pos z]
    have s := sfv_s (l := l) hW hq hf h
    rw [Int.tdiv_eq_ediv_of_nonneg s.1]
    exact ⟨Int.ediv_nonneg s.1 (by omega), Int.ediv_le_of_le_mul (by omega) s.2⟩
  · rw [if_neg z]
    by_cases y : pb l (a + b + 1) = a
    · rw [if_pos y]; exact hW
    · rw [if_neg y]
      split
      · exact fo_r hq hf (by omega)
      · exact fo_r hq hf (by omega)
theorem stv_r {l m W K q tc : Int} {f : Int → Int → Int} {t a b : Int} (p : pok l m W K q tc) (hf : fok2 f) (h : vld a b) : -9000 ≤ stv l m W K q f t a b ∧ stv l m W K q f t a b ≤ 99000 := by
  obtain ⟨p1, p2, p3, p4, p5, p6⟩ := p
  have a1 := sfv_r (l := l) p3 p5 hf h
  have a2 := bh_r p5 hf h
  unfold stv
  split <;> omega
theorem dv_s {l m W K q tc : Int} {t : Nat} {a b : Int} : dv l m W K q tc (t + 1) a b = m2 0 (m2 (stv l m W K q (dv l m W K q tc t) ((t : Int) + 1) a b) (stv l m W K q (dv l m W K q tc t) ((t : Int) + 1) (a + b) 0 - tc)) := rfl
theorem dv_r {l m W K q tc : Int} (p : pok l m W K q tc) : ∀ t : Nat, fok2 (dv l m W K q tc t) := by
  intro t
  induction t with
  | zero => intro a b _; exact ⟨Int.le_refl 0, by show (0 : Int) ≤ 99000; omega⟩
  | succ t ih =>
    intro a b h
    have x := stv_r (t := (t : Int) + 1) p ih h
    have y := stv_r (t := (t : Int) + 1) (a := a + b) (b := 0) p ih ⟨by have := h.1; have := h.2.1; omega, by omega, by have := h.2.2; omega⟩
    obtain ⟨p1, p2, p3, p4, p5, p6⟩ := p
    rw [dv_s]
    unfold m2
    split <;> split <;> omega
/-! the class's table -/
theorem t_index {s : mm_M} {a b : Int} {post : Int → mm_M → Prop} (h : vld a b) (hp : post (a * 13 + b) s) : wp_X4_indexOf a b s post := by
  obtain ⟨h1, h2, h3⟩ := h
  intro L21 h21
  rw [n32_id (x := a) (by omega) (by omega), n32_id (x := b) (by omega) (by omega), n32_id (x := a + b) (by omega) (by omega)]
  refine ⟨fun z => by omega, fun _ => ⟨fun z => by omega, fun _ => ⟨fun z => by omega, fun _ => ?_⟩⟩⟩
  apply h21
  intro v ev
  rw [ev]
  exact ⟨fun z => absurd z (by decide), fun _ => hp⟩
theorem t_fo {s : mm_M} {q : Int} {f : Int → Int → Int} {a b : Int} {post : Int → mm_M → Prop} (c : s 206 10 = q) (hq : 0 ≤ q ∧ q ≤ 16) (hb : ∀ a b, vld a b → s 207 (a * 13 + b) = f a b) (hf : fok2 f) (h : -1 ≤ a ∧ -1 ≤ b ∧ a ≤ 12 ∧ b ≤ 12 ∧ a + b ≤ 12) (hp : post (fo q f a b) s) : wp_X4_follows 206 a b s post := by
  unfold wp_X4_follows
  rw [n32_id (x := a) (by omega) (by omega), n32_id (x := b) (by omega) (by omega), n32_id (x := a + b) (by omega) (by omega), show mm_rt 206 0 = 207 from rfl]
  have neg : a < 0 ∨ b < 0 → post 0 s := fun z => by
    unfold fo at hp
    rw [if_pos z] at hp
    exact hp
  refine ⟨fun z => neg (Or.inl z), fun z => ⟨fun z2 => ?_, fun z2 => neg (Or.inr (by omega))⟩⟩
  have v : vld a b := ⟨by omega, z2, by omega⟩
  have y := hf a b v
  rw [fo_v ⟨by omega, z2⟩] at hp
  refine t_index v ⟨⟨by omega, by omega⟩, fun v3 e3 => ?_⟩
  rw [hb a b v] at e3
  refine ⟨fun z3 => ?_, fun z3 => ?_⟩
  · have v2 : vld a (b + 1) := ⟨by omega, by omega, by omega⟩
    have x := hf a (b + 1) v2
    refine t_index v2 ⟨⟨by omega, by omega⟩, ?_⟩
    have s := bh_s hq x y
    rw [hb a (b + 1) v2, c, e3, n32_id (by omega) (by omega)]
    unfold bh at hp
    rw [if_pos z3] at hp
    exact hp
  · rw [e3, ← bh_12 (q := q) z3 y.1]
    exact hp
theorem t_sfv {s : mm_M} {l W q : Int} {f : Int → Int → Int} {a b : Int} {post : Int → mm_M → Prop} (c1 : s 206 4 = l) (c2 : s 206 6 = W) (c : s 206 10 = q) (hl : 0 ≤ l ∧ l ≤ 3) (hW : 0 ≤ W ∧ W ≤ 99000) (hq : 0 ≤ q ∧ q ≤ 16) (hb : ∀ a b, vld a b → s 207 (a * 13 + b) = f a b) (hf : fok2 f) (h : vld a b) (hp : post (sfv l W q f a b) s) : wp_X4_served 206 a b s post := by
  have h' := h
  obtain ⟨h1, h2, h3⟩ := h'
  intro v3 e3
  rw [e3, c1, c2, n32_id (x := l) (by omega) (by omega)]
  unfold sfv at hp
  refine ⟨fun z => ?_, fun z => ?_⟩
  · rw [if_neg z] at hp
    have pr := pb_r (l := l) (n := a + b + 1) (by omega)
    refine s_pbX (n32_id (by omega) (by omega)) ?_
    intro v4 e4
    rw [e4, n32_id (x := pb l (a + b + 1)) (by omega) (by omega), n32_id (x := a) (by omega) (by omega)]
    refine ⟨fun y => ?_, fun y => ?_⟩
    · rw [if_neg y] at hp
      refine ⟨fun x => ?_, fun x => ?_⟩
      · rw [if_neg (by omega)] at hp
        exact t_fo c hq hb hf (by omega) hp
      · rw [if_pos (by omega)] at hp
        exact t_fo c hq hb hf (by omega) hp
    · rw [if_pos y] at hp
      rw [c2]
      exact hp
  · rw [if_pos z] at hp
    refine t_fo c hq hb hf (by omega) ?_
    refine t_fo c hq hb hf (by omega) ?_
    intro v4 e4
    have s := sfv_s (l := l) hW hq hf h
    rw [e4, n32_id (x := a + b + 1) (by omega) (by omega), n32_id (x := W + a * fo q f (a - 1) b + b * fo q f a (b - 1)) (by omega) (by omega)]
    exact ⟨fun _ => ⟨by omega, hp⟩, fun y => by omega⟩
def fN (s u : mm_M) : Prop := ∀ c j, ¬ (c = 206 ∧ j = 11) → c ≠ 207 → c ≠ 209 → u c j = s c j
theorem fN.ag {s u : mm_M} (h : fN s u) : ag s u := fun a j q => by
  refine h a j (fun z => ?_) (fun z => ?_) (fun z => ?_)
  · rw [z.1, z.2] at q; cases q
  · rw [z] at q; cases (show scr 207 j = true from rfl).symm.trans q
  · rw [z] at q; cases (show scr 209 j = true from rfl).symm.trans q
theorem t_weigh {s : mm_M} {l m W K q tc : Int} {f : Int → Int → Int} {t : Int} {post : mm_M → Prop} (p : pok l m W K q tc) (c4 : s 206 4 = l) (c5 : s 206 5 = m) (c6 : s 206 6 = W) (c7 : s 206 7 = K) (c10 : s 206 10 = q) (c11 : s 206 11 = t) (ht : 0 ≤ t ∧ t ≤ 200) (hn : ∀ a b, vld a b → s 208 (a * 13 + b) = f a b) (hf : fok2 f) (hp : ∀ u, fN s u → u 206 11 = t + 1 → (∀ a b, vld a b → u 209 (a * 13 + b) = stv l m W K q f (t + 1) a b) → post u) : wp_X4_weighStaying 206 s post := by
  have p' := p
  obtain ⟨p1, p2, p3, p4, p5, p6⟩ := p'
  intro L53 L61 L88 h53 h61 h88 s1 e1
  refine ⟨by decide, fun s2 e2 => ?_⟩
  rw [show mm_rt 206 1 = 208 from rfl, show mm_rt 206 0 = 207 from rfl] at e2
  have s2c : ∀ (c : Nat) (j : Int), ¬ (c = 206 ∧ j = 11) → c ≠ 207 → s2 c j = s c j := by
    intro c j h1 h2
    rw [e2]
    unfold mm_cp
    rw [if_neg (fun z => h2 z.1), e1, up_n (by omega)]
  have s211 : s2 206 11 = t + 1 := by
    rw [e2]
    unfold mm_cp
    rw [if_neg (fun z => absurd z.1 (by decide)), e1, up_e, c11]
  have s27 : ∀ a b, vld a b → s2 207 (a * 13 + b) = f a b := by
    intro a b h
    have h' := h
    obtain ⟨h1, h2, h3⟩ := h'
    rw [e2]
    unfold mm_cp
    rw [if_pos ⟨rfl, by omega, by omega⟩, e1, up_c (by decide), show (0 : Int) + (a * 13 + b - 0) = a * 13 + b by omega]
    exact hn a b h
  have run : ∀ v1 : Int, (v1 = 1 ∧ Int.tmod (t + 1) m = 0 ∨ v1 = 0 ∧ Int.tmod (t + 1) m ≠ 0) → L53 v1 0 s2 := by
    intro v1 hv
    have out : ∀ d x : Nat, x + d = 13 → ∀ u, (∀ c : Nat, c ≠ 209 → u c = s2 c) → (∀ a b, vld a b → a < x → u 209 (a * 13 + b) = stv l m W K q f (t + 1) a b) → L53 v1 x u := by
      intro d
      induction d with
      | zero =>
        intro x hx u fu hu
        have : x = 13 := by omega
        subst this
        apply h53
        refine ⟨fun _ => hp u (fun c j h1 h2 h3 => by rw [fu c h3]; exact s2c c j h1 h2) (by rw [fu 206 (by decide)]; exact s211) (fun a b h => hu a b h (by have := h.2.1; have := h.2.2; omega)), fun z => absurd (by decide) z⟩
      | succ d ih =>
        intro x hx u fu hu
        apply h53
        rw [n32_id (x := (x : Int)) (by omega) (by omega)]
        refine ⟨fun z => by omega, fun _ => ?_⟩
        have inn : ∀ e y : Nat, x + y + e = 13 → ∀ u, (∀ c : Nat, c ≠ 209 → u c = s2 c) → (∀ a b, vld a b → a < x ∨ a = x ∧ b < y → u 209 (a * 13 + b) = stv l m W K q f (t + 1) a b) → L61 v1 x y u := by
          intro e
          induction e with
          | zero =>
            intro y hy u fu hu
            apply h61
            rw [n32_id (x := (x : Int) + y) (by omega) (by omega)]
            refine ⟨fun _ v ev => ?_, fun z => by omega⟩
            rw [ev, show (x : Int) + 1 = ((x + 1 : Nat) : Int) by omega]
            refine ih (x + 1) (by omega) u fu (fun a b h ha => hu a b h ?_)
            have := h.2.2
            omega
          | succ e ih2 =>
            intro y hy u fu hu
            have vx : vld x y := ⟨by omega, by omega, by omega⟩
            have ub : ∀ a b, vld a b → u 207 (a * 13 + b) = f a b := fun a b h => by rw [fu 207 (by decide)]; exact s27 a b h
            have u4 : u 206 4 = l := by rw [fu 206 (by decide), s2c _ _ (by omega) (by omega)]; exact c4
            have u6 : u 206 6 = W := by rw [fu 206 (by decide), s2c _ _ (by omega) (by omega)]; exact c6
            have u10 : u 206 10 = q := by rw [fu 206 (by decide), s2c _ _ (by omega) (by omega)]; exact c10
            have u7 : u 206 7 = K := by rw [fu 206 (by decide), s2c _ _ (by omega) (by omega)]; exact c7
            have fin : ∀ q0 : Int, q0 - K = stv l m W K q f (t + 1) x y → L88 v1 x y q0 u := by
              intro q0 eq0
              apply h88
              intro v4 e4
              refine t_index vx ⟨⟨by omega, by omega⟩, fun s18 e18 v ev => ?_⟩
              rw [show mm_rt 206 2 = 209 from rfl, u7, e4, eq0] at e18
              rw [ev, show (y : Int) + 1 = ((y + 1 : Nat) : Int) by omega]
              refine ih2 (y + 1) (by omega) s18 (fun c hc => by rw [e18, up_c hc]; exact fu c hc) (fun a b h hab => ?_)
              have h' := h
              obtain ⟨h1, h2, h3⟩ := h'
              rw [e18]
              by_cases z : a = x ∧ b = y
              · rw [z.1, z.2, up_e]
              · rw [up_n (Or.inr (by omega))]
                exact hu a b h (by omega)
            apply h61
            rw [n32_id (x := (x : Int) + y) (by omega) (by omega)]
            refine ⟨fun z => by omega, fun _ => ?_⟩
            rcases hv with ⟨v0, v9⟩ | ⟨v0, v9⟩
            · rw [v0]
              rw [v0] at fin
              refine ⟨fun z => absurd z (by decide), fun _ => t_sfv u4 u6 u10 p1 p3 p5 ub hf vx (fin _ ?_)⟩
              unfold stv
              rw [if_pos v9]
            · rw [v0]
              rw [v0] at fin
              refine ⟨fun _ => t_fo u10 p5 ub hf ⟨by omega, by omega, by omega, by omega, by omega⟩ (fin _ ?_), fun z => absurd m_0 z⟩
              unfold stv
              rw [if_neg v9, fo_v ⟨by omega, by omega⟩]
        exact inn (13 - x) 0 (by omega) u fu (fun a b h hab => hu a b h (by have := h.2.1; omega))
    exact out 13 0 (by omega) s2 (fun _ _ => rfl) (fun a b h ha => by have := h.1; omega)
  have u5 : s2 206 5 = m := by rw [s2c _ _ (by omega) (by omega)]; exact c5
  have tm := Int.tmod_nonneg m (show 0 ≤ t + 1 by omega)
  have tl := Int.tmod_lt_of_pos (t + 1) (show 0 < m by omega)
  rw [u5, s211, n32_id (x := m) (by omega) (by omega), n32_id (x := t + 1) (by omega) (by omega), n32_id (x := Int.tmod (t + 1) m) (by omega) (by omega)]
  exact ⟨fun z => by omega, fun _ => ⟨by omega, fun z => run 0 (Or.inr ⟨rfl, z⟩), fun z => run 1 (Or.inl ⟨rfl, z⟩)⟩⟩
