def im (T : Sh) (i : Int) : Int := if i < 1 then T.mn else if i < 10 then (if (i - 1) % 3 = 0 then T.st ((i - 1) / 3) else if (i - 1) % 3 = 1 then T.bu ((i - 1) / 3) else T.ma ((i - 1) / 3)) else if i < 100 then T.rw (i - 10) else if i < 310 then T.pe (i - 100) else if i < 345 then T.t7 (i - 310) else if i < 346 then T.en else T.bk (i - 346)
theorem im_st {T : Sh} {c : Int} (h : 0 ≤ c ∧ c < 3) : im T (1 + 3 * c) = T.st c ∧ im T (1 + 3 * c + 1) = T.bu c ∧ im T (1 + 3 * c + 1 + 1) = T.ma c := by
  refine ⟨?_, ?_, ?_⟩
  · unfold im; rw [if_neg (by omega), if_pos (by omega), if_pos (by omega)]; congr 1; omega
  · unfold im; rw [if_neg (by omega), if_pos (by omega), if_neg (by omega), if_pos (by omega)]; congr 1; omega
  · unfold im; rw [if_neg (by omega), if_pos (by omega), if_neg (by omega), if_neg (by omega)]; congr 1; omega
theorem im_rw {T : Sh} {j : Int} (h : 0 ≤ j ∧ j < 90) : im T (10 + j) = T.rw j := by
  unfold im; rw [if_neg (by omega), if_neg (by omega), if_pos (by omega)]; congr 1; omega
theorem im_pe {T : Sh} {j : Int} (h : 0 ≤ j ∧ j < 210) : im T (100 + j) = T.pe j := by
  unfold im; rw [if_neg (by omega), if_neg (by omega), if_neg (by omega), if_pos (by omega)]; congr 1; omega
theorem im_t7 {T : Sh} {j : Int} (h : 0 ≤ j ∧ j < 35) : im T (310 + j) = T.t7 j := by
  unfold im; rw [if_neg (by omega), if_neg (by omega), if_neg (by omega), if_neg (by omega), if_pos (by omega)]; congr 1; omega
theorem im_bk {T : Sh} {j : Int} (h : 0 ≤ j) : im T (346 + j) = T.bk j := by
  unfold im; rw [if_neg (by omega), if_neg (by omega), if_neg (by omega), if_neg (by omega), if_neg (by omega), if_neg (by omega)]; congr 1; omega
/-- an image as the reference keeps it -/
def vi (s : mm_M) (k : Int) : Sh := ⟨s 235 (446 * k), s 236 k, fun c => s 235 (446 * k + 1 + 3 * c), fun c => s 235 (446 * k + 2 + 3 * c), fun c => s 235 (446 * k + 3 + 3 * c), fun j => s 235 (446 * k + 10 + j), fun j => s 235 (446 * k + 100 + j), fun j => s 235 (446 * k + 310 + j), s 235 (446 * k + 345), fun j => s 235 (446 * k + 346 + j)⟩
def Iv (s : mm_M) (k : Int) (T : Sh) (n : Int) (u : mm_M) : Prop := (u 211 64 = 446 * k + n) ∧ (∀ i, 0 ≤ i → i < n → u 235 (446 * k + i) = im T i) ∧ (∀ j, j < 446 * k ∨ 446 * k + n ≤ j → u 235 j = s 235 j) ∧ (∀ j, j ≠ 64 → u 211 j = s 211 j) ∧ (∀ a : Nat, a ≠ 211 → a ≠ 235 → u a = s a)
theorem Iv.at_ {s : mm_M} {k : Int} {T : Sh} {n : Int} {u : mm_M} (h : Iv s k T n u) : u 211 64 = 446 * k + n := h.1
theorem Iv.im {s : mm_M} {k : Int} {T : Sh} {n : Int} {u : mm_M} (h : Iv s k T n u) : ∀ i, 0 ≤ i → i < n → u 235 (446 * k + i) = im T i := h.2.1
theorem Iv.ot {s : mm_M} {k : Int} {T : Sh} {n : Int} {u : mm_M} (h : Iv s k T n u) : ∀ j, j < 446 * k ∨ 446 * k + n ≤ j → u 235 j = s 235 j := h.2.2.1
theorem Iv.o2 {s : mm_M} {k : Int} {T : Sh} {n : Int} {u : mm_M} (h : Iv s k T n u) : ∀ j, j ≠ 64 → u 211 j = s 211 j := h.2.2.2.1
theorem Iv.o3 {s : mm_M} {k : Int} {T : Sh} {n : Int} {u : mm_M} (h : Iv s k T n u) : ∀ a : Nat, a ≠ 211 → a ≠ 235 → u a = s a := h.2.2.2.2
theorem u_keeps {s u : mm_M} {k n v : Int} {T : Sh} {post : mm_M → Prop} (h : Iv s k T n u) (hk : 0 ≤ k ∧ k < 3) (hn : 0 ≤ n ∧ n < 446) (hv : v = im T n) (c : ∀ u', Iv s k T (n + 1) u' → post u') : wp_X11_keeps 211 v u post := by
  unfold wp_X11_keeps
  rw [show mm_rt 211 42 = 235 from rfl, h.at_]
  refine ⟨⟨by omega, by omega⟩, fun u1 e1 u2 e2 => c u2 ?_⟩
  have g : u1 211 64 = 446 * k + n := by rw [e1, up_c (by decide)]; exact h.at_
  rw [g] at e2
  subst e2; subst e1
  refine ⟨by rw [up_e]; omega, fun i i1 i2 => ?_, fun j hj => ?_, fun j hj => ?_, fun a a1 a2 => ?_⟩
  · rw [up_c (by decide)]
    by_cases q : i = n
    · rw [q, up_e]; exact hv
    · rw [up_n (Or.inr (by omega))]; exact h.im i i1 (by omega)
  · rw [up_c (by decide), up_n (Or.inr (by omega))]; exact h.ot j (by omega)
  · rw [up_n (Or.inr hj), up_c (by decide)]; exact h.o2 j hj
  · rw [up_c a1, up_c a2]; exact h.o3 a a1 a2
theorem u_image {s : mm_M} {a1 : Int} {post : Int → mm_M → Prop} (h12 : s 211 12 = 1 ∨ s 211 12 = 2 ∨ s 211 12 = 3) (ha : 0 ≤ a1 ∧ a1 < 3) (c : ∀ u, Iv (mm_up (mm_up s 234 a1 1) 236 a1 (s 211 37)) a1 (vo s) 446 u → post 1 u) : wp_X11_image 211 a1 s post := by
  intro L54 L97 L121 L146 L178 h54 h97 h121 h146 h178
  have na : n32 a1 = a1 := n32_id (by omega) (by omega)
  rw [n32_id (x := s 211 12) (by omega) (by omega)]
  refine ⟨fun q => by omega, fun _ => s_in (fun u v => ⟨fun _ => ?_, fun z => absurd z (by decide)⟩) (fun u => by rw [na, m_0, m_2] at u; omega)⟩
  rw [show mm_rt 211 41 = 234 from rfl, show mm_rt 211 43 = 236 from rfl]
  refine ⟨ha, fun s3 e3 => ⟨ha, fun s4 e4 s5 e5 => ?_⟩⟩
  have g3 : s3 211 37 = s 211 37 := by rw [e3, up_c (by decide)]
  rw [g3] at e4
  rw [← e3, ← e4] at c
  have vs : vo s4 = vo s := by
    unfold vo
    rw [e4, e3]
    simp only [up_c (s := mm_up s 234 a1 1) (a := 236) (b := 211) (by decide), up_c (s := mm_up s 234 a1 1) (a := 236) (b := 225) (by decide), up_c (s := mm_up s 234 a1 1) (a := 236) (b := 226) (by decide), up_c (s := mm_up s 234 a1 1) (a := 236) (b := 227) (by decide), up_c (s := mm_up s 234 a1 1) (a := 236) (b := 228) (by decide), up_c (s := mm_up s 234 a1 1) (a := 236) (b := 229) (by decide), up_c (s := mm_up s 234 a1 1) (a := 236) (b := 230) (by decide), up_c (s := mm_up s 234 a1 1) (a := 236) (b := 231) (by decide), up_c (s := s) (a := 234) (b := 211) (by decide), up_c (s := s) (a := 234) (b := 225) (by decide), up_c (s := s) (a := 234) (b := 226) (by decide), up_c (s := s) (a := 234) (b := 227) (by decide), up_c (s := s) (a := 234) (b := 228) (by decide), up_c (s := s) (a := 234) (b := 229) (by decide), up_c (s := s) (a := 234) (b := 230) (by decide), up_c (s := s) (a := 234) (b := 231) (by decide)]
  rw [← vs] at c
  have i0 : Iv s4 a1 (vo s4) 0 s5 := by
    rw [e5]
    exact ⟨by rw [up_e]; omega, fun i i1 i2 => by omega, fun j hj => by rw [up_c (by decide)], fun j hj => by rw [up_n (Or.inr hj)], fun a b1 b2 => by rw [up_c b1]⟩
  have f178 : ∀ d x : Nat, x + d = 100 → ∀ u : mm_M, Iv s4 a1 (vo s4) (346 + x) u → L178 x u := by
    intro d
    induction d with
    | zero =>
      intro x hx u hu
      apply h178
      have e : x = 100 := by omega
      subst e
      refine ⟨fun _ => ?_, fun q => absurd (by decide) q⟩
      exact c u hu
    | succ d ih =>
      intro x hx u hu
      apply h178
      rw [n32_id (x := (x : Int)) (by omega) (by omega)]
      refine ⟨fun q => by omega, fun _ => ⟨⟨by omega, by omega⟩, ?_⟩⟩
      refine u_keeps hu ha ⟨by omega, by omega⟩ ?_ (fun u1 hu1 y ey => ?_)
      · rw [show mm_rt 211 36 = 231 from rfl, hu.o3 231 (by decide) (by decide), im_bk (by omega)]
        rfl
      · rw [ey, show (x : Int) + 1 = ((x + 1 : Nat) : Int) by omega]
        exact ih (x + 1) (by omega) u1 (by rw [show 346 + (x : Int) + 1 = 346 + ((x + 1 : Nat) : Int) by omega] at hu1; exact hu1)
  have f146 : ∀ d x : Nat, x + d = 35 → ∀ u : mm_M, Iv s4 a1 (vo s4) (310 + x) u → L146 x u := by
    intro d
    induction d with
    | zero =>
      intro x hx u hu
      apply h146
      have e : x = 35 := by omega
      subst e
      refine ⟨fun _ => ?_, fun q => absurd (by decide) q⟩
      exact u_keeps hu ha ⟨by omega, by omega⟩ (by rw [hu.o2 35 (by decide)]; rfl) (fun u1 hu1 => f178 100 0 rfl u1 hu1)
    | succ d ih =>
      intro x hx u hu
      apply h146
      rw [n32_id (x := (x : Int)) (by omega) (by omega)]
      refine ⟨fun q => by omega, fun _ => ⟨⟨by omega, by omega⟩, ?_⟩⟩
      refine u_keeps hu ha ⟨by omega, by omega⟩ ?_ (fun u1 hu1 y ey => ?_)
      · rw [show mm_rt 211 34 = 230 from rfl, hu.o3 230 (by decide) (by decide), im_t7 ⟨by omega, by omega⟩]
        rfl
      · rw [ey, show (x : Int) + 1 = ((x + 1 : Nat) : Int) by omega]
        exact ih (x + 1) (by omega) u1 (by rw [show 310 + (x : Int) + 1 = 310 + ((x + 1 : Nat) : Int) by omega] at hu1; exact hu1)
  have f121 : ∀ d x : Nat, x + d = 210 → ∀ u : mm_M, Iv s4 a1 (vo s4) (100 + x) u → L121 x u := by
    intro d
    induction d with
    | zero =>
      intro x hx u hu
      apply h121
      have e : x = 210 := by omega
      subst e
      refine ⟨fun _ => ?_, fun q => absurd (by decide) q⟩
      exact f146 35 0 rfl u hu
    | succ d ih =>
      intro x hx u hu
      apply h121
      rw [n32_id (x := (x : Int)) (by omega) (by omega)]
      refine ⟨fun q => by omega, fun _ => ⟨⟨by omega, by omega⟩, ?_⟩⟩
      refine u_keeps hu ha ⟨by omega, by omega⟩ ?_ (fun u1 hu1 y ey => ?_)
      · rw [show mm_rt 211 33 = 229 from rfl, hu.o3 229 (by decide) (by decide), im_pe ⟨by omega, by omega⟩]
        rfl
      · rw [ey, show (x : Int) + 1 = ((x + 1 : Nat) : Int) by omega]
        exact ih (x + 1) (by omega) u1 (by rw [show 100 + (x : Int) + 1 = 100 + ((x + 1 : Nat) : Int) by omega] at hu1; exact hu1)
  have f97 : ∀ d x : Nat, x + d = 90 → ∀ u : mm_M, Iv s4 a1 (vo s4) (10 + x) u → L97 x u := by
    intro d
    induction d with
    | zero =>
      intro x hx u hu
      apply h97
      have e : x = 90 := by omega
      subst e
      refine ⟨fun _ => ?_, fun q => absurd (by decide) q⟩
      exact f121 210 0 rfl u hu
    | succ d ih =>
      intro x hx u hu
      apply h97
      rw [n32_id (x := (x : Int)) (by omega) (by omega)]
      refine ⟨fun q => by omega, fun _ => ⟨⟨by omega, by omega⟩, ?_⟩⟩
      refine u_keeps hu ha ⟨by omega, by omega⟩ ?_ (fun u1 hu1 y ey => ?_)
      · rw [show mm_rt 211 32 = 228 from rfl, hu.o3 228 (by decide) (by decide), im_rw ⟨by omega, by omega⟩]
        rfl
      · rw [ey, show (x : Int) + 1 = ((x + 1 : Nat) : Int) by omega]
        exact ih (x + 1) (by omega) u1 (by rw [show 10 + (x : Int) + 1 = 10 + ((x + 1 : Nat) : Int) by omega] at hu1; exact hu1)
  have f54 : ∀ d x : Nat, x + d = 3 → ∀ u : mm_M, Iv s4 a1 (vo s4) (1 + 3 * x) u → L54 x u := by
    intro d
    induction d with
    | zero =>
      intro x hx u hu
      apply h54
      have e : x = 3 := by omega
      subst e
      refine ⟨fun _ => ?_, fun q => absurd (by decide) q⟩
      exact f97 90 0 rfl u hu
    | succ d ih =>
      intro x hx u hu
      apply h54
      rw [n32_id (x := (x : Int)) (by omega) (by omega), show mm_rt 211 29 = 225 from rfl, show mm_rt 211 30 = 226 from rfl, show mm_rt 211 31 = 227 from rfl]
      have q := im_st (T := vo s4) (c := x) ⟨by omega, by omega⟩
      refine ⟨fun q => by omega, fun _ => ⟨⟨by omega, by omega⟩, ?_⟩⟩
      refine u_keeps hu ha ⟨by omega, by omega⟩ (by rw [hu.o3 225 (by decide) (by decide), q.1]; rfl) (fun u1 hu1 => ⟨⟨by omega, by omega⟩, ?_⟩)
      refine u_keeps hu1 ha ⟨by omega, by omega⟩ (by rw [hu1.o3 226 (by decide) (by decide), q.2.1]; rfl) (fun u2 hu2 => ⟨⟨by omega, by omega⟩, ?_⟩)
      refine u_keeps hu2 ha ⟨by omega, by omega⟩ (by rw [hu2.o3 227 (by decide) (by decide), q.2.2]; rfl) (fun u3 hu3 y ey => ?_)
      rw [ey, show (x : Int) + 1 = ((x + 1 : Nat) : Int) by omega]
      exact ih (x + 1) (by omega) u3 (by rw [show 1 + 3 * (x : Int) + 1 + 1 + 1 = 1 + 3 * ((x + 1 : Nat) : Int) by omega] at hu3; exact hu3)
  exact u_keeps i0 ha ⟨by omega, by omega⟩ (by rw [i0.o2 28 (by decide)]; rfl) (fun u1 hu1 => f54 3 0 rfl u1 hu1)
theorem Iv.eqv {s u : mm_M} {k : Int} {T : Sh} (h : Iv s k T 446 u) (hl : s 236 k = T.lot) : eqv T (vi u k) := by
  have g : ∀ i, 0 ≤ i → i < 446 → u 235 (446 * k + i) = Jvm.Pilot.CLastServedLaw_law_r5834_17db7c.im T i := h.im
  refine ⟨?_, ?_, fun c a b => ?_, fun c a b => ?_, fun c a b => ?_, fun j a b => ?_, fun j a b => ?_, fun j a b => ?_, ?_, fun j a b => ?_⟩
  · have := g 0 (by omega) (by omega)
    rw [show 446 * k + 0 = 446 * k by omega] at this
    exact this
  · show u 236 k = _
    rw [h.o3 236 (by decide) (by decide)]; exact hl
  · show u 235 (446 * k + 1 + 3 * c) = _
    rw [show 446 * k + 1 + 3 * c = 446 * k + (1 + 3 * c) by omega, g _ (by omega) (by omega)]; exact (im_st ⟨a, b⟩).1
  · show u 235 (446 * k + 2 + 3 * c) = _
    rw [show 446 * k + 2 + 3 * c = 446 * k + (1 + 3 * c + 1) by omega, g _ (by omega) (by omega)]; exact (im_st ⟨a, b⟩).2.1
  · show u 235 (446 * k + 3 + 3 * c) = _
    rw [show 446 * k + 3 + 3 * c = 446 * k + (1 + 3 * c + 1 + 1) by omega, g _ (by omega) (by omega)]; exact (im_st ⟨a, b⟩).2.2
  · show u 235 (446 * k + 10 + j) = _
    rw [show 446 * k + 10 + j = 446 * k + (10 + j) by omega, g _ (by omega) (by omega)]; exact im_rw ⟨a, b⟩
  · show u 235 (446 * k + 100 + j) = _
    rw [show 446 * k + 100 + j = 446 * k + (100 + j) by omega, g _ (by omega) (by omega)]; exact im_pe ⟨a, b⟩
  · show u 235 (446 * k + 310 + j) = _
    rw [show 446 * k + 310 + j = 446 * k + (310 + j) by omega, g _ (by omega) (by omega)]; exact im_t7 ⟨a, b⟩
  · exact g 345 (by omega) (by omega)
  · show u 235 (446 * k + 346 + j) = _
    rw [show 446 * k + 346 + j = 446 * k + (346 + j) by omega, g _ (by omega) (by omega)]; exact im_bk a
theorem rt_i : ∀ k, k < 3 → mm_rt 71 k = 72 + 42 * k := by decide +kernel
theorem t_told {s : mm_M} {post : Int → mm_M → Prop} (hR : Rel s) (h1 : 0 < s 9 4 → post 1 s) (h0 : s 9 4 = 0 → post 0 s) : wp_X9_isTold 9 s post := by
  have := hR.nC
  unfold wp_X9_isTold
  rw [this.1]
  exact ⟨fun q => h0 (by omega), fun q => h1 (by omega)⟩
/-- promise 30 -/
theorem q_image {s : mm_M} {a1 : Int} (hR : Rel s) (h1 : n32 a1 = a1) (post : Int → mm_M → Prop) (hp : ∀ r1 s1, Gd (wp_X11_image 211 a1 s1) r1 → post r1 s1) : wp_X10_image 0 a1 s post := by
  have nC := hR.nC
  have no : (s 9 4 = 0 ∨ a1 < 0 ∨ 3 ≤ a1) → Gd (wp_X11_image 211 a1 s) 0 := by
    intro h p2 k3
    intro L54 L97 L121 L146 L178 h54 h97 h121 h146 h178
    rw [nC.2.2.2, nC.1]
    refine ⟨fun q => k3 _ _ rfl hR, fun q => s_in (fun u v => ?_) (fun u => ⟨fun z => absurd m_0 z, fun _ => k3 _ _ rfl hR⟩)⟩
    rw [h1, m_0] at u
    rw [h1, m_2] at v
    omega
  unfold wp_X10_image
  rw [show mm_rt 0 1 = 9 from rfl, show mm_rt 0 6 = 71 from rfl, show mm_rt 0 5 = 29 from rfl, show mm_rt 0 7 = 198 from rfl, h1]
  refine t_told hR (fun hC => ⟨fun z => absurd z (by decide), fun _ => ⟨fun q => hp _ _ (no (by omega)), fun q => ⟨fun q2 => ⟨⟨by omega, by omega⟩, ?_⟩, fun q2 => hp _ _ (no (by omega))⟩⟩⟩) (fun hC => ⟨fun _ => hp _ _ (no (Or.inl hC)), fun z => absurd m_0 z⟩)
  rw [rt_i a1.toNat (by omega)]
  obtain ⟨r, w⟩ := hR.sh hC
  have hW := hR.tw hC
  have ib : isb (72 + 42 * a1.toNat) := by unfold isb; omega
  refine t_take ib (Or.inl rfl) (by omega) hW.c0.2 hW.s0.2 r w (fun s1 r1 g1 => ⟨⟨by omega, by omega⟩, fun s2 e2 => hp _ _ ?_⟩)
  intro p2 k3
  have f12 : s2 211 12 = s 9 4 := by rw [e2, up_c (by decide), g1 211 (by omega)]; exact nC.2.2.2
  refine u_image (by omega) ⟨by omega, q2⟩ (fun u hu => k3 _ _ rfl ?_)
  have vs : vo s2 = vo s := by
    unfold vo
    rw [e2]
    simp only [up_c (s := s1) (a := 198) (b := 211) (by decide), up_c (s := s1) (a := 198) (b := 225) (by decide), up_c (s := s1) (a := 198) (b := 226) (by decide), up_c (s := s1) (a := 198) (b := 227) (by decide), up_c (s := s1) (a := 198) (b := 228) (by decide), up_c (s := s1) (a := 198) (b := 229) (by decide), up_c (s := s1) (a := 198) (b := 230) (by decide), up_c (s := s1) (a := 198) (b := 231) (by decide)]
    rw [g1 211 (by omega), g1 225 (by omega), g1 226 (by omega), g1 227 (by omega), g1 228 (by omega), g1 229 (by omega), g1 230 (by omega), g1 231 (by omega)]
  rw [vs] at hu
  have f37 : s2 211 37 = (vo s).lot := by rw [e2, up_c (by decide), g1 211 (by omega)]; rfl
  rw [f37] at hu
  have ev := hu.eqv (by rw [up_e])
  have o : ∀ a : Nat, a ≠ 211 → a ≠ 235 → a ≠ 234 → a ≠ 236 → u a = s2 a := fun a b1 b2 b3 b4 => by rw [hu.o3 a b1 b2, up_c b4, up_c b3]
  have oo : ∀ a : Nat, a ≠ 211 → a ≠ 235 → a ≠ 234 → a ≠ 236 → a ≠ 198 → (a < 72 + 42 * a1.toNat ∨ 72 + 42 * a1.toNat + 42 ≤ a) → u a = s a := fun a b1 b2 b3 b4 b5 b6 => by rw [o a b1 b2 b3 b4, e2, up_c b5, g1 a b6]
  have o2 : ∀ j, j ≠ 64 → u 211 j = s 211 j := fun j hj => by rw [hu.o2 j hj, up_c (by decide), up_c (by decide), e2, up_c (by decide), g1 211 (by omega)]
  have c9 : u 9 = s 9 := oo 9 (by decide) (by decide) (by decide) (by decide) (by decide) (by omega)
  refine hR.go (Or.inl ?_) ?_ (Or.inl ?_) (Or.inl ?_) (Or.inr ?_) (Or.inl ?_) ⟨oo 27 (by decide) (by decide) (by decide) (by decide) (by decide) (by omega), oo 221 (by decide) (by decide) (by decide) (by decide) (by decide) (by omega)⟩
  · refine ⟨?_, ?_, ?_, ?_⟩ <;> first | (rw [oo _ (by decide) (by decide) (by decide) (by decide) (by decide) (by omega)]) | (exact o2 _ (by decide))
  · refine ⟨?_, ?_, ?_, ?_, ?_, ?_, ?_, ?_, ?_, ?_⟩ <;> first | (rw [oo _ (by decide) (by decide) (by decide) (by decide) (by decide) (by omega)]) | (exact o2 _ (by decide))
  · refine ⟨?_, ?_, ?_, ?_, ?_, ?_, ?_, ?_⟩ <;> first | (rw [oo _ (by decide) (by decide) (by decide) (by decide) (by decide) (by omega)]) | (exact o2 _ (by decide))
  · exact ⟨fun a h1 h2 => oo a (by omega) (by omega) (by omega) (by omega) (by omega) (by omega), fun a h1 h2 => oo a (by omega) (by omega) (by omega) (by omega) (by omega) (by omega), o2 _ (by decide), o2 _ (by decide), o2 _ (by decide)⟩
  · intro k hk
    have hI := hR.2.2.2.2.1 k hk
    have e198 : u 198 k = if (k : Int) = a1 then 1 else s 198 k := by
      rw [o 198 (by decide) (by decide) (by decide) (by decide), e2]
      by_cases q : (k : Int) = a1
      · rw [if_pos q, q, up_e]
      · rw [if_neg q, up_n (Or.inr q), g1 198 (by omega)]
    have e234 : u 234 k = if (k : Int) = a1 then 1 else s 234 k := by
      rw [hu.o3 234 (by decide) (by decide), up_c (by decide)]
      by_cases q : (k : Int) = a1
      · rw [if_pos q, q, up_e]
      · rw [if_neg q, up_n (Or.inr q), e2, up_c (by decide), g1 234 (by omega)]
    by_cases q : (k : Int) = a1
    · rw [if_pos q] at e198 e234
      refine ⟨Or.inr e198, by rw [e198, e234], fun _ => ⟨by rw [c9]; exact hC, ?_⟩⟩
      unfold r_J
      rw [c9]
      have ek : a1.toNat = k := by omega
      rw [ek] at r1 oo
      have r2 : rep u (72 + 42 * k) (s 9 4) (s 9 5) (vo s) := r1.cg hW.c0.2 (fun a h1 h2 => by rw [o a (by omega) (by omega) (by omega) (by omega), e2, up_c (by omega)])
      rw [← q] at ev
      exact rs_of (ev.rep hW.c0.2 hW.s0.2 w r2) (ev.wf hW.c0.2 hW.s0.2 w)
    · rw [if_neg q] at e198 e234
      rw [e198, e234, c9]
      refine ⟨hI.1, hI.2.1, fun z => ⟨hC, ?_⟩⟩
      have hJ := (hI.2.2 z).2
      unfold r_J at hJ ⊢
      rw [c9]
      have ok : ∀ i, 0 ≤ i → i < 446 → u 235 (446 * k + i) = s 235 (446 * k + i) := fun i i1 i2 => by
        rw [hu.ot _ (by omega), up_c (by decide), up_c (by decide), e2, up_c (by decide), g1 235 (by omega)]
      have o6 : u 236 k = s 236 k := by
        rw [hu.o3 236 (by decide) (by decide), up_n (Or.inr (by omega)), up_c (by decide), e2, up_c (by decide), g1 236 (by omega)]
      obtain ⟨rj, wj⟩ := rs_to hJ
      have rj2 := rj.cg (s' := u) hW.c0.2 (fun a h1 h2 => oo a (by omega) (by omega) (by omega) (by omega) (by omega) (by omega))
      have ev2 : eqv (vi s k) (vi u k) := by
        refine ⟨?_, o6, fun c a b => ?_, fun c a b => ?_, fun c a b => ?_, fun j a b => ?_, fun j a b => ?_, fun j a b => ?_, ok 345 (by omega) (by omega), fun j a b => ?_⟩
        · have := ok 0 (by omega) (by omega)
          rw [show 446 * (k : Int) + 0 = 446 * k by omega] at this
          exact this
        · show u 235 (446 * k + 1 + 3 * c) = s 235 (446 * k + 1 + 3 * c)
          rw [show 446 * (k : Int) + 1 + 3 * c = 446 * k + (1 + 3 * c) by omega]; exact ok _ (by omega) (by omega)
        · show u 235 (446 * k + 2 + 3 * c) = s 235 (446 * k + 2 + 3 * c)
          rw [show 446 * (k : Int) + 2 + 3 * c = 446 * k + (2 + 3 * c) by omega]; exact ok _ (by omega) (by omega)
        · show u 235 (446 * k + 3 + 3 * c) = s 235 (446 * k + 3 + 3 * c)
          rw [show 446 * (k : Int) + 3 + 3 * c = 446 * k + (3 + 3 * c) by omega]; exact ok _ (by omega) (by omega)
        · show u 235 (446 * k + 10 + j) = s 235 (446 * k + 10 + j)
          rw [show 446 * (k : Int) + 10 + j = 446 * k + (10 + j) by omega]; exact ok _ (by omega) (by omega)
        · show u 235 (446 * k + 100 + j) = s 235 (446 * k + 100 + j)
          rw [show 446 * (k : Int) + 100 + j = 446 * k + (100 + j) by omega]; exact ok _ (by omega) (by omega)
        · show u 235 (446 * k + 310 + j) = s 235 (446 * k + 310 + j)
          rw [show 446 * (k : Int) + 310 + j = 446 * k + (310 + j) by omega]; exact ok _ (by omega) (by omega)
        · show u 235 (446 * k + 346 + j) = s 235 (446 * k + 346 + j)
          rw [show 446 * (k : Int) + 346 + j = 446 * k + (346 + j) by omega]; exact ok _ (by omega) (by omega)
      exact rs_of (ev2.rep hW.c0.2 hW.s0.2 wj rj2) (ev2.wf hW.c0.2 hW.s0.2 wj)
  · refine ⟨?_, ?_, ?_, ?_, ?_, ?_⟩ <;> first | (rw [oo _ (by decide) (by decide) (by decide) (by decide) (by decide) (by omega)]) | (exact o2 _ (by decide))
