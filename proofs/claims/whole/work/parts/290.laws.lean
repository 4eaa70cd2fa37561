theorem c_take {u : mm_M} (hz : ∀ i : Int, 0 ≤ i → i < 5 → u 27 i = 0 ∨ u 27 i = 1) {post : mm_M → Prop} (k : ∀ u', (∀ c : Nat, c ≠ 19 → c ≠ 20 → c ≠ 21 → c ≠ 22 → u' c = u c) → (∀ i : Int, 0 ≤ i → i < 500 → u' 20 i = u 25 i) → (∀ i : Int, 0 ≤ i → i < 5 → u' 21 i = u 26 i) → (∀ i : Int, 0 ≤ i → i < 5 → u' 22 i = u 27 i) → u' 19 4 = u 24 4 → post u') : wp_X3_takeOver 19 24 u post := by
  intro L32 h32
  rw [show mm_rt 24 2 = 27 from rfl, show mm_rt 19 2 = 22 from rfl] at h32
  rw [show mm_rt 24 0 = 25 from rfl, show mm_rt 24 1 = 26 from rfl, show mm_rt 19 0 = 20 from rfl, show mm_rt 19 1 = 21 from rfl]
  have loop : ∀ d x : Nat, x + d = 5 → ∀ w : mm_M, (∀ c : Nat, c ≠ 20 → c ≠ 21 → c ≠ 22 → w c = u c) → (∀ i : Int, 0 ≤ i → i < 500 → w 20 i = u 25 i) → (∀ i : Int, 0 ≤ i → i < 5 → w 21 i = u 26 i) → (∀ i : Int, 0 ≤ i → i < (x : Int) → w 22 i = u 27 i) → L32 x w := by
    intro d
    induction d with
    | zero =>
      intro x hx w f a b c
      have : x = 5 := by omega
      subst this
      apply h32
      refine ⟨fun _ s4 e4 s5 e5 => k s5 (fun c h1 h2 h3 h4 => by rw [e5, up_c h1, e4, up_c h1]; exact f c h2 h3 h4) (fun i i1 i2 => by rw [e5, up_c (by decide), e4, up_c (by decide)]; exact a i i1 i2) (fun i i1 i2 => by rw [e5, up_c (by decide), e4, up_c (by decide)]; exact b i i1 i2) (fun i i1 i2 => by rw [e5, up_c (by decide), e4, up_c (by decide)]; exact c i i1 i2) (by rw [e5, up_n (by decide), e4, up_e, f 24 (by decide) (by decide) (by decide)]), fun z => absurd (by decide) z⟩
    | succ d ih =>
      intro x hx w f a b c
      apply h32
      rw [n32_id (x := (x : Int)) (by omega) (by omega), f 27 (by decide) (by decide) (by decide)]
      refine ⟨fun z => by omega, fun _ => ⟨⟨by omega, by omega⟩, ⟨by omega, by omega⟩, hz x (by omega) (by omega), fun s6 e6 v ev => ?_⟩⟩
      rw [ev, show (x : Int) + 1 = ((x + 1 : Nat) : Int) by omega]
      refine ih (x + 1) (by omega) s6 (fun c h2 h3 h4 => by rw [e6, up_c h4]; exact f c h2 h3 h4) (fun i i1 i2 => by rw [e6, up_c (by decide)]; exact a i i1 i2) (fun i i1 i2 => by rw [e6, up_c (by decide)]; exact b i i1 i2) (fun i i1 i2 => ?_)
      rw [e6]
      by_cases q : i = x
      · rw [q, up_e]
      · rw [up_n (Or.inr q)]; exact c i i1 (by omega)
  refine ⟨by omega, fun s1 e1 => ⟨by omega, fun s2 e2 => ?_⟩⟩
  refine loop 5 0 (by omega) s2 (fun c h2 h3 _ => by rw [e2, cp_c h3, e1, cp_c h2]) (fun i i1 i2 => by rw [e2, cp_c (by decide), e1, cp_e ⟨i1, i2⟩]) (fun i i1 i2 => by rw [e2, cp_e ⟨i1, i2⟩, e1, cp_c (by decide)]) (fun i i1 i2 => by omega)
theorem u_lawsT {u : mm_M} {B : Int → Int} {n : Int} {g0 : Int → Int} (t : tx2 u B n) (hz : ∀ i : Int, 0 ≤ i → i < 5 → u 221 i = 0 ∨ u 221 i = 1) (h : lfa B n g0 = -1) {post : Int → mm_M → Prop} (k : ∀ u1 v : mm_M, fQ u u1 → mK u1 B n (lre B n g0 500) → (∀ c : Nat, c ≠ 211 → c ≠ 222 → c ≠ 223 → c ≠ 224 → v c = u1 c) → (∀ i : Int, i ≠ 1 → i ≠ 24 → v 211 i = u1 211 i) → v 211 1 = 0 → v 211 24 = yk (lre B n g0 500) → (∀ i : Int, 0 ≤ i → i < 2 * (ym (lre B n g0 500) : Int) → v 222 i = u1 219 i) → (∀ i : Int, 0 ≤ i → i < 6 → v 223 i = u1 220 i) → (∀ i : Int, 0 ≤ i → i < 5 → v 224 i = u1 221 i) → post (yk (lre B n g0 500)) v) : wp_X11_laws 211 u post := by
  have hb := t.2.2
  have zf : yf (lre B n g0 500) = -1 := by
    rcases lfa_r (g0 := g0) hb with q | q
    · exact q.2.1
    · omega
  have ok := lre_ok hb 500 zf
  intro L20 L50 L75 h20 h50 h75
  rw [show mm_rt 211 25 = 222 from rfl, show mm_rt 211 21 = 219 from rfl] at h20
  rw [show mm_rt 211 26 = 223 from rfl, show mm_rt 211 22 = 220 from rfl] at h50
  rw [show mm_rt 211 27 = 224 from rfl, show mm_rt 211 23 = 221 from rfl] at h75
  refine u_readL (g0 := g0) t (fun u1 f1 m1 => ?_)
  have m1 := m1 h
  have k := k u1
  rw [h]
  refine ⟨fun _ s3 e3 => ?_, fun z => absurd (by decide) z⟩
  have z1 : ∀ i : Int, 0 ≤ i → i < 5 → u1 221 i = 0 ∨ u1 221 i = 1 := fun i a b => by have := hz i a b; have := f1.2.2 i; omega
  generalize lre B n g0 500 = Z at *
  obtain ⟨o1, o2, o3⟩ := ok
  rw [m1.2.2.1] at e3
  have c3 : ∀ c : Nat, c ≠ 211 → s3 c = u1 c := fun c p => by rw [e3, up_c p]
  have d3 : ∀ i : Int, i ≠ 24 → s3 211 i = u1 211 i := fun i p => by rw [e3, up_n (Or.inr p)]
  have l75 : ∀ d x : Nat, x + d = 5 → ∀ w : mm_M, (∀ c : Nat, c ≠ 222 → c ≠ 223 → c ≠ 224 → w c = s3 c) → (∀ i : Int, 0 ≤ i → i < 2 * (ym Z : Int) → w 222 i = u1 219 i) → (∀ i : Int, 0 ≤ i → i < 6 → w 223 i = u1 220 i) → (∀ i : Int, 0 ≤ i → i < (x : Int) → w 224 i = u1 221 i) → L75 x w := by
    intro d
    induction d with
    | zero =>
      intro x hx w f a b c
      have : x = 5 := by omega
      subst this
      apply h75
      refine ⟨fun _ s11 e11 => ?_, fun z => absurd (by decide) z⟩
      have v24 : s11 211 24 = yk Z := by rw [e11, up_n (by decide), f 211 (by decide) (by decide) (by decide), e3, up_e]
      rw [v24]
      exact k s11 f1 m1 (fun c h1 h2 h3 h4 => by rw [e11, up_c h1, f c h2 h3 h4, c3 c h1]) (fun i i1 i2 => by rw [e11, up_n (Or.inr i1), f 211 (by decide) (by decide) (by decide), d3 i i2]) (by rw [e11, up_e]) v24 (fun i i1 i2 => by rw [e11, up_c (by decide)]; exact a i i1 i2) (fun i i1 i2 => by rw [e11, up_c (by decide)]; exact b i i1 i2) (fun i i1 i2 => by rw [e11, up_c (by decide)]; exact c i i1 i2)
    | succ d ih =>
      intro x hx w f a b c
      apply h75
      rw [n32_id (x := (x : Int)) (by omega) (by omega), f 221 (by decide) (by decide) (by decide), c3 221 (by decide)]
      refine ⟨fun z => by omega, fun _ => ⟨⟨by omega, by omega⟩, ⟨by omega, by omega⟩, z1 x (by omega) (by omega), fun s6 e6 v ev => ?_⟩⟩
      rw [ev, show (x : Int) + 1 = ((x + 1 : Nat) : Int) by omega]
      refine ih (x + 1) (by omega) s6 (fun c h2 h3 h4 => by rw [e6, up_c h4]; exact f c h2 h3 h4) (fun i i1 i2 => by rw [e6, up_c (by decide)]; exact a i i1 i2) (fun i i1 i2 => by rw [e6, up_c (by decide)]; exact b i i1 i2) (fun i i1 i2 => ?_)
      rw [e6]
      by_cases q : i = x
      · rw [q, up_e]
      · rw [up_n (Or.inr q)]; exact c i i1 (by omega)
  have l50 : ∀ d x : Nat, x + d = 6 → ∀ w : mm_M, (∀ c : Nat, c ≠ 222 → c ≠ 223 → w c = s3 c) → (∀ i : Int, 0 ≤ i → i < 2 * (ym Z : Int) → w 222 i = u1 219 i) → (∀ i : Int, 0 ≤ i → i < (x : Int) → w 223 i = u1 220 i) → L50 x w := by
    intro d
    induction d with
    | zero =>
      intro x hx w f a b
      have : x = 6 := by omega
      subst this
      apply h50
      exact ⟨fun _ => l75 5 0 (by omega) w (fun c h1 h2 _ => f c h1 h2) a b (fun i i1 i2 => by omega), fun z => absurd (by decide) z⟩
    | succ d ih =>
      intro x hx w f a b
      apply h50
      rw [n32_id (x := (x : Int)) (by omega) (by omega), f 220 (by decide) (by decide), c3 220 (by decide)]
      refine ⟨fun z => by omega, fun _ => ⟨⟨by omega, by omega⟩, ⟨by omega, by omega⟩, fun s6 e6 v ev => ?_⟩⟩
      rw [ev, show (x : Int) + 1 = ((x + 1 : Nat) : Int) by omega]
      refine ih (x + 1) (by omega) s6 (fun c h2 h3 => by rw [e6, up_c h3]; exact f c h2 h3) (fun i i1 i2 => by rw [e6, up_c (by decide)]; exact a i i1 i2) (fun i i1 i2 => ?_)
      rw [e6]
      by_cases q : i = x
      · rw [q, up_e]
      · rw [up_n (Or.inr q)]; exact b i i1 (by omega)
  have l20 : ∀ d x : Nat, x + d = 2 * ym Z → ∀ w : mm_M, (∀ c : Nat, c ≠ 222 → w c = s3 c) → (∀ i : Int, 0 ≤ i → i < (x : Int) → w 222 i = u1 219 i) → L20 x w := by
    intro d
    induction d with
    | zero =>
      intro x hx w f a
      apply h20
      rw [f 211 (by decide), d3 20 (by decide), m1.2.2.2.1, n32_id (x := (x : Int)) (by omega) (by omega), n32_id (x := 2 * (ym Z : Int)) (by omega) (by omega)]
      exact ⟨fun _ => l50 6 0 (by omega) w (fun c h1 _ => f c h1) (fun i i1 i2 => a i i1 (by omega)) (fun i i1 i2 => by omega), fun z => by omega⟩
    | succ d ih =>
      intro x hx w f a
      apply h20
      rw [f 211 (by decide), d3 20 (by decide), m1.2.2.2.1, n32_id (x := (x : Int)) (by omega) (by omega), n32_id (x := 2 * (ym Z : Int)) (by omega) (by omega), f 219 (by decide), c3 219 (by decide)]
      refine ⟨fun z => by omega, fun _ => ⟨⟨by omega, by omega⟩, ⟨by omega, by omega⟩, fun s6 e6 v ev => ?_⟩⟩
      rw [ev, show (x : Int) + 1 = ((x + 1 : Nat) : Int) by omega]
      refine ih (x + 1) (by omega) s6 (fun c h2 => by rw [e6, up_c h2]; exact f c h2) (fun i i1 i2 => ?_)
      rw [e6]
      by_cases q : i = x
      · rw [q, up_e]
      · rw [up_n (Or.inr q)]; exact a i i1 (by omega)
  exact l20 (2 * ym Z) 0 (by omega) s3 (fun _ _ => rfl) (fun i i1 i2 => by omega)
theorem sg_d {g w : Int → Int} {a b : Nat} (h : sg g a b 27) (e : ∀ k : Int, (a : Int) ≤ k → k < b → (g k < 20000 ↔ w k < 2)) : r_d w a b := by
  obtain ⟨h1, h2, h3⟩ := h
  refine ⟨fun k => dpf g k.toNat - dpf g a, ?_, ?_, fun k k1 k2 => ?_⟩
  · show dpf g ((a : Int)).toNat - dpf g a = 0
    rw [Int.toNat_natCast]; omega
  · show dpf g ((b : Int)).toNat - dpf g a = 1
    rw [Int.toNat_natCast]; omega
  · obtain ⟨m, rfl⟩ : ∃ m : Nat, k = (m : Int) := ⟨k.toNat, by omega⟩
    have q := h3 m (by omega) (by omega)
    have ek := e m k1 k2
    show 0 ≤ dpf g ((m : Int)).toNat - dpf g a ∧ (w m < 2 → dpf g ((m : Int)).toNat - dpf g a < 40 ∧ dpf g ((m : Int) + 1).toNat - dpf g a = dpf g ((m : Int)).toNat - dpf g a + 1) ∧ (2 ≤ w m → 2 ≤ dpf g ((m : Int)).toNat - dpf g a ∧ dpf g ((m : Int) + 1).toNat - dpf g a = dpf g ((m : Int)).toNat - dpf g a - 1)
    rw [Int.toNat_natCast, show ((m : Int) + 1).toNat = m + 1 by omega]
    have d1 : dpf g (m + 1) = dpf g m + (if g m < 20000 then 1 else -1) := rfl
    refine ⟨by omega, fun z => ?_, fun z => ?_⟩
    · have c := ek.2 z
      rw [if_pos c] at d1
      have := q.2.1 c
      omega
    · have c : ¬ g m < 20000 := fun y => by have := ek.1 y; omega
      rw [if_neg c] at d1
      have := q.2.2 c
      omega
/-- promise 6 -/
theorem q_laws {s : mm_M} (hR : Rel s) (post : Int → mm_M → Prop) (hp : ∀ r1 s1, Gd (wp_X11_laws 211 s1) r1 → post r1 s1) : wp_X10_laws 0 s post := by
  obtain ⟨t, t2⟩ := hR.tx
  have t2 := t2 s ag.rf
  have hb := t.2.2
  have hbz := hR.2.2.2.2.2.2.2
  have lr := lfa_r (g0 := s 25) hb
  unfold wp_X10_laws
  rw [show mm_rt 0 4 = 24 from rfl, show mm_rt 0 0 = 7 from rfl, show mm_rt 0 3 = 19 from rfl]
  refine c_readL t (fun u1 f1 c1 => ?_)
  rw [n32_id (x := lfa (s 8) (s 7 1) (s 25)) (by omega) (by omega)]
  refine ⟨fun hl => ?_, fun hl => hp _ _ (fun p2 k2 => ?_)⟩
  · have c1 := c1 hl
    obtain ⟨zf, zk⟩ : yf (lre (s 8) (s 7 1) (s 25) 500) = -1 ∧ yk (lre (s 8) (s 7 1) (s 25) 500) ≠ 0 := by
      rcases lr with q | q
      · exact q.2
      · omega
    have ok := lre_ok hb 500 zf
    have yd := lre_d hb 500 zf
    have ut := fun (u : mm_M) (t' : tx2 u (s 8) (s 7 1)) (z' : ∀ i : Int, 0 ≤ i → i < 5 → u 221 i = 0 ∨ u 221 i = 1) (post' : Int → mm_M → Prop) => u_lawsT (u := u) t' z' hl (post := post')
    generalize lre (s 8) (s 7 1) (s 25) 500 = Z at *
    obtain ⟨o1, o2, o3⟩ := ok
    obtain ⟨-, -, -, hr⟩ := c1
    obtain ⟨r4, r5, rg, rr⟩ := hr zf
    refine c_take (fun i i1 i2 => by have := (hbz i i1 i2).1; have := f1.2.2 i; omega) (fun u2 a2 b20 b21 b22 b4 => ?_)
    rw [r4] at b4
    have e7 : u2 7 1 = s 7 1 := by rw [a2 7 (by decide) (by decide) (by decide) (by decide)]; exact f1.2.1 1 (by decide)
    have hn := hb.1
    unfold wp_X8_shorten
    rw [e7, n32_id (x := s 7 1) (by omega) (by omega), m_0]
    refine ⟨fun z => absurd z (by decide), fun _ => ⟨fun _ u3 e3 => ?_, fun z => absurd hn.1 z⟩⟩
    have c3 : ∀ c : Nat, c ≠ 7 → ¬ (19 ≤ c ∧ c ≤ 22) → ¬ (24 ≤ c ∧ c ≤ 27) → u3 c = s c := fun c h1 h2 h3 => by rw [e3, up_c h1, a2 c (by omega) (by omega) (by omega) (by omega), f1.1 c h1 h3]
    have v4 : u3 19 4 = yk Z := by rw [e3, up_c (by decide)]; exact b4
    show post (u3 19 4) u3
    rw [v4]
    refine hp _ _ (fun p2 k2 => ?_)
    have t3 : tx2 u3 (s 8) (s 7 1) := ⟨by rw [c3 211 (by decide) (by decide) (by decide)]; exact t2.1, by rw [c3 212 (by decide) (by decide) (by decide)]; exact t2.2.1, hb⟩
    refine ut u3 t3 (fun i i1 i2 => by rw [c3 221 (by decide) (by decide) (by decide)]; exact (hbz i i1 i2).2) p2 (fun w v fq mk vc v2 v1 v24 v222 v223 v224 => k2 _ _ rfl ?_)
    obtain ⟨-, -, -, m20, mc, mr, m0⟩ := mk
    have lo : ∀ c : Nat, c ≠ 211 → ¬ (219 ≤ c ∧ c ≤ 224) → c ≠ 237 → c ≠ 238 → v c = u3 c := fun c h1 h2 h3 h4 => by rw [vc c h1 (by omega) (by omega) (by omega), fq.1 c h1 (by omega) (by omega) (by omega) h3 h4]
    have ls : ∀ c : Nat, c ≠ 7 → ¬ (19 ≤ c ∧ c ≤ 22) → ¬ (24 ≤ c ∧ c ≤ 27) → c ≠ 211 → ¬ (219 ≤ c ∧ c ≤ 224) → c ≠ 237 → c ≠ 238 → v c = s c := fun c h1 h2 h3 h4 h5 h6 h7 => by rw [lo c h4 h5 h6 h7, c3 c h1 h2 h3]
    have l2 : ∀ i : Int, i ≠ 1 → i ≠ 24 → i ≠ 2 → i ≠ 3 → i ≠ 4 → i ≠ 5 → i ≠ 19 → i ≠ 20 → i ≠ 44 → i ≠ 46 → v 211 i = s 211 i := fun i h1 h2 h3 h4 h5 h6 h7 h8 h9 h10 => by rw [v2 i h1 h2, fq.2.1 i h3 h4 h5 h6 h7 h8 h9 h10, c3 211 (by decide) (by decide) (by decide)]
    have x7 : v 7 1 = 0 := by rw [lo 7 (by decide) (by decide) (by decide) (by decide), e3, up_e]
    have x4 : v 19 4 = yk Z := by rw [lo 19 (by decide) (by decide) (by decide) (by decide)]; exact v4
    have x20 : ∀ i : Int, 0 ≤ i → i < 500 → v 20 i = yg Z i := fun i i1 i2 => by rw [lo 20 (by decide) (by decide) (by decide) (by decide), e3, up_c (by decide), b20 i i1 i2, rg]
    have x21 : ∀ i : Int, 0 ≤ i → i < yk Z → v 21 i = yen Z i := fun i i1 i2 => by rw [lo 21 (by decide) (by decide) (by decide) (by decide), e3, up_c (by decide), b21 i i1 (by omega)]; exact (rr i i1 i2).1
    have x22 : ∀ i : Int, 0 ≤ i → i < yk Z → v 22 i = ymo Z i := fun i i1 i2 => by rw [lo 22 (by decide) (by decide) (by decide) (by decide), e3, up_c (by decide), b22 i i1 (by omega)]; exact (rr i i1 i2).2
    have y223 : ∀ i : Int, 0 ≤ i → i ≤ yk Z → v 223 i = yst Z i := fun i i1 i2 => by
      rw [v223 i i1 (by omega)]
      unfold yst
      by_cases q : i = 0
      · rw [if_pos q, q]; exact m0 (by omega)
      · rw [if_neg q]
        have := (mr (i - 1) (by omega) (by omega)).2
        rw [show i - 1 + 1 = i by omega] at this
        exact this
    have ys1 : ∀ i : Int, 0 ≤ i → yst Z (i + 1) = yen Z i := fun i i1 => by
      unfold yst
      rw [if_neg (by omega), show i + 1 - 1 = i by omega]
    refine hR.gz (Or.inr ⟨by omega, by omega, by rw [v1, x7], fun j j1 j2 => by omega⟩) ⟨?_, ?_, ?_, ?_, ?_, ?_, ?_, ?_, ?_, ?_⟩ (Or.inr ?_) (Or.inl ⟨fun x h1 h2 => ls x (by omega) (by omega) (by omega) (by omega) (by omega) (by omega) (by omega), fun x h1 h2 => ls x (by omega) (by omega) (by omega) (by omega) (by omega) (by omega) (by omega), ?_, ?_, ?_⟩) (Or.inl ⟨fun x h1 h2 => ls x (by omega) (by omega) (by omega) (by omega) (by omega) (by omega) (by omega), ?_, ?_, ?_⟩) (Or.inl ⟨?_, ?_, ?_, ?_, ?_, ?_⟩) ?_
    case refine_11 =>
      refine ⟨by omega, by omega, by rw [v24, x4], fun _ => ?_, fun i i1 i2 => ?_⟩
      · rw [y223 0 (by omega) (by omega)]; rfl
      · rw [x4] at i2
        obtain ⟨y1, a, b, y2, y3, y4, y5⟩ := yd i i1 i2
        have l := y5.1
        have ea : v 223 i = (a : Int) := by rw [y223 i i1 (by omega)]; exact y2
        have eb : v 223 (i + 1) = (b : Int) := by rw [y223 (i + 1) (by omega) (by omega), ys1 i i1]; exact y3
        have rck : ∀ k : Int, 0 ≤ k → k < (b : Int) → r_c (v 20 k) (v 222 (2 * k)) (v 222 (2 * k + 1)) := fun k k1 k2 => by
          rw [x20 k k1 (by omega), v222 (2 * k) (by omega) (by omega), v222 (2 * k + 1) (by omega) (by omega)]
          exact mc k k1 (by omega)
        rw [ea, eb]
        refine ⟨by rw [x21 i i1 i2]; exact y3.symm, by omega, by omega, by omega, by rw [x22 i i1 i2]; exact y1, ?_, fun k k1 k2 => rck k (by omega) k2, ?_⟩
        · rw [v224 i i1 (by omega), x22 i i1 i2]; exact (mr i i1 i2).1
        · refine sg_d y5 (fun k k1 k2 => ?_)
          have r := rck k (by omega) k2
          rw [x20 k (by omega) (by omega)] at r
          unfold r_c at r
          omega
    case refine_24 =>
      intro i i1 i2
      have h := hbz i i1 i2
      have g1 := f1.2.2 i
      have g2 := fq.2.2 i
      rw [c3 221 (by decide) (by decide) (by decide)] at g2
      rw [lo 27 (by decide) (by decide) (by decide) (by decide), e3, up_c (by decide), a2 27 (by decide) (by decide) (by decide) (by decide), vc 221 (by decide) (by decide) (by decide) (by decide)]
      omega
    all_goals first | (exact l2 _ (by decide) (by decide) (by decide) (by decide) (by decide) (by decide) (by decide) (by decide) (by decide) (by decide)) | (exact ls _ (by decide) (by decide) (by decide) (by decide) (by decide) (by decide) (by decide))
  · intro L20 L50 L75 h20 h50 h75
    refine u_readL (g0 := s 25) (f1.tx2 t2) (fun u2 f2 _ => ?_)
    rw [n32_id (x := lfa (s 8) (s 7 1) (s 25)) (by omega) (by omega)]
    exact ⟨fun z => absurd z hl, fun _ => k2 _ _ rfl (hR.kq f1 f2)⟩
