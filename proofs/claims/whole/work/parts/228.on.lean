def Jv (s : mm_M) (k : Int) (n x1 x2 x3 x4 x5 : Int) (u : mm_M) : Prop := (u 211 64 = 446 * k + n) ∧ (u 211 37 = s 236 k) ∧ (u 211 28 = s 235 (446 * k)) ∧ (∀ c, 0 ≤ c → c < x1 → u 225 c = s 235 (446 * k + 1 + 3 * c) ∧ u 226 c = s 235 (446 * k + 2 + 3 * c) ∧ u 227 c = s 235 (446 * k + 3 + 3 * c)) ∧ (∀ j, 0 ≤ j → j < x2 → u 228 j = s 235 (446 * k + 10 + j)) ∧ (∀ j, 0 ≤ j → j < x3 → u 229 j = s 235 (446 * k + 100 + j)) ∧ (∀ j, 0 ≤ j → j < x4 → u 230 j = s 235 (446 * k + 310 + j)) ∧ (0 < x5 → u 211 35 = s 235 (446 * k + 345)) ∧ (∀ j, 0 ≤ j → j < x5 - 1 → u 231 j = s 235 (446 * k + 346 + j)) ∧ (agR s u)
theorem Jv.at_ {s : mm_M} {k : Int} {n x1 x2 x3 x4 x5 : Int} {u : mm_M} (h : Jv s k n x1 x2 x3 x4 x5 u) : u 211 64 = 446 * k + n := h.1
theorem Jv.lo {s : mm_M} {k : Int} {n x1 x2 x3 x4 x5 : Int} {u : mm_M} (h : Jv s k n x1 x2 x3 x4 x5 u) : u 211 37 = s 236 k := h.2.1
theorem Jv.mn {s : mm_M} {k : Int} {n x1 x2 x3 x4 x5 : Int} {u : mm_M} (h : Jv s k n x1 x2 x3 x4 x5 u) : u 211 28 = s 235 (446 * k) := h.2.2.1
theorem Jv.p1 {s : mm_M} {k : Int} {n x1 x2 x3 x4 x5 : Int} {u : mm_M} (h : Jv s k n x1 x2 x3 x4 x5 u) : ∀ c, 0 ≤ c → c < x1 → u 225 c = s 235 (446 * k + 1 + 3 * c) ∧ u 226 c = s 235 (446 * k + 2 + 3 * c) ∧ u 227 c = s 235 (446 * k + 3 + 3 * c) := h.2.2.2.1
theorem Jv.p2 {s : mm_M} {k : Int} {n x1 x2 x3 x4 x5 : Int} {u : mm_M} (h : Jv s k n x1 x2 x3 x4 x5 u) : ∀ j, 0 ≤ j → j < x2 → u 228 j = s 235 (446 * k + 10 + j) := h.2.2.2.2.1
theorem Jv.p3 {s : mm_M} {k : Int} {n x1 x2 x3 x4 x5 : Int} {u : mm_M} (h : Jv s k n x1 x2 x3 x4 x5 u) : ∀ j, 0 ≤ j → j < x3 → u 229 j = s 235 (446 * k + 100 + j) := h.2.2.2.2.2.1
theorem Jv.p4 {s : mm_M} {k : Int} {n x1 x2 x3 x4 x5 : Int} {u : mm_M} (h : Jv s k n x1 x2 x3 x4 x5 u) : ∀ j, 0 ≤ j → j < x4 → u 230 j = s 235 (446 * k + 310 + j) := h.2.2.2.2.2.2.1
theorem Jv.en {s : mm_M} {k : Int} {n x1 x2 x3 x4 x5 : Int} {u : mm_M} (h : Jv s k n x1 x2 x3 x4 x5 u) : 0 < x5 → u 211 35 = s 235 (446 * k + 345) := h.2.2.2.2.2.2.2.1
theorem Jv.p5 {s : mm_M} {k : Int} {n x1 x2 x3 x4 x5 : Int} {u : mm_M} (h : Jv s k n x1 x2 x3 x4 x5 u) : ∀ j, 0 ≤ j → j < x5 - 1 → u 231 j = s 235 (446 * k + 346 + j) := h.2.2.2.2.2.2.2.2.1
theorem Jv.fr {s : mm_M} {k : Int} {n x1 x2 x3 x4 x5 : Int} {u : mm_M} (h : Jv s k n x1 x2 x3 x4 x5 u) : agR s u := h.2.2.2.2.2.2.2.2.2
theorem Jv.i {s u : mm_M} {k n x1 x2 x3 x4 x5 : Int} (h : Jv s k n x1 x2 x3 x4 x5 u) : u 235 = s 235 := h.fr.c (fun _ => rfl)
theorem Jv.w {s u : mm_M} {k n x1 x2 x3 x4 x5 : Int} (h : Jv s k n x1 x2 x3 x4 x5 u) : Jv s k (n + 1) x1 x2 x3 x4 x5 (mm_up u 211 64 (446 * k + n + 1)) := by
  have o : ∀ a : Nat, a ≠ 211 → mm_up u 211 64 (446 * k + n + 1) a = u a := fun a ha => up_c ha
  refine ⟨by rw [up_e]; omega, by rw [up_n (by decide)]; exact h.lo, by rw [up_n (by decide)]; exact h.mn, ?_, ?_, ?_, ?_, by rw [up_n (by decide)]; exact h.en, ?_, h.fr.up rfl⟩
  · rw [o 225 (by decide), o 226 (by decide), o 227 (by decide)]; exact h.p1
  · rw [o 228 (by decide)]; exact h.p2
  · rw [o 229 (by decide)]; exact h.p3
  · rw [o 230 (by decide)]; exact h.p4
  · rw [o 231 (by decide)]; exact h.p5
theorem u_kept {s u : mm_M} {k n x1 x2 x3 x4 x5 : Int} {post : Int → mm_M → Prop} (h : Jv s k n x1 x2 x3 x4 x5 u) (hk : 0 ≤ k ∧ k < 3) (hn : 0 ≤ n ∧ n < 446) (c : ∀ u', Jv s k (n + 1) x1 x2 x3 x4 x5 u' → (∀ a : Nat, a ≠ 211 → u' a = u a) → post (s 235 (446 * k + n)) u') : wp_X11_kept 211 u post := by
  unfold wp_X11_kept
  rw [show mm_rt 211 42 = 235 from rfl, h.at_]
  intro u1 e1
  have w := h.w
  rw [← e1] at w
  have g : u1 211 64 = 446 * k + n + 1 := by rw [w.at_]; omega
  rw [g, show 446 * k + n + 1 - 1 = 446 * k + n by omega, w.i]
  exact ⟨⟨by omega, by omega⟩, c u1 w (fun a ha => by rw [e1, up_c ha])⟩
theorem u_on {s : mm_M} {a1 : Int} {post : Int → mm_M → Prop} (ha : 0 ≤ a1 ∧ a1 < 3) (h1 : s 234 a1 = 1) (c : ∀ u, Jv s a1 446 3 90 210 35 101 u → post 1 u) : wp_X11_on 211 a1 s post := by
  intro L49 L92 L116 L141 L173 h49 h92 h116 h141 h173
  have na : n32 a1 = a1 := n32_id (by omega) (by omega)
  refine s_in (fun u v => ⟨fun z => absurd z (by decide), fun _ => ⟨ha, ?_⟩⟩) (fun u => by rw [na, m_0, m_2] at u; omega)
  rw [show mm_rt 211 41 = 234 from rfl, show mm_rt 211 43 = 236 from rfl, h1]
  refine ⟨fun _ => ⟨ha, fun s3 e3 s4 e4 => ?_⟩, fun z => absurd z (by decide)⟩
  have scR28 : scR 211 28 = true := rfl
  have scR35 : scR 211 35 = true := rfl
  have scR37 : scR 211 37 = true := rfl
  have f173 : ∀ d x : Nat, x + d = 100 → ∀ u : mm_M, Jv s a1 (346 + x) 3 90 210 35 (1 + x) u → L173 x u := by
    intro d
    induction d with
    | zero =>
      intro x hx u hu
      apply h173
      have e : x = 100 := by omega
      subst e
      refine ⟨fun _ => ?_, fun q => absurd (by decide) q⟩
      exact c u hu
    | succ d ih =>
      intro x hx u hu
      apply h173
      rw [n32_id (x := (x : Int)) (by omega) (by omega)]
      refine ⟨fun q => by omega, fun _ => u_kept hu ha ⟨by omega, by omega⟩ (fun u1 hu1 _ => ⟨⟨by omega, by omega⟩, fun u2 e2 y ey => ?_⟩)⟩
      rw [show mm_rt 211 36 = 231 from rfl] at e2
      rw [ey, show (x : Int) + 1 = ((x + 1 : Nat) : Int) by omega]
      refine ih (x + 1) (by omega) u2 ?_
      subst e2
      refine ⟨by rw [up_c (by decide), hu1.at_]; omega, by rw [up_c (by decide)]; exact hu1.lo, by rw [up_c (by decide)]; exact hu1.mn, by rw [up_c (b := 225) (by decide), up_c (b := 226) (by decide), up_c (b := 227) (by decide)]; exact hu1.p1, by rw [up_c (b := 228) (by decide)]; exact hu1.p2, by rw [up_c (b := 229) (by decide)]; exact hu1.p3, by rw [up_c (b := 230) (by decide)]; exact hu1.p4, by rw [up_c (by decide)]; exact fun _ => hu1.en (by omega), fun j j1 j2 => ?_, hu1.fr.up (scR_ref (by decide) (by decide))⟩
      by_cases q : j = x
      · rw [q, up_e]; congr 1; omega
      · rw [up_n (Or.inr q)]; exact hu1.p5 j j1 (by omega)
  have f141 : ∀ d x : Nat, x + d = 35 → ∀ u : mm_M, Jv s a1 (310 + x) 3 90 210 x 0 u → L141 x u := by
    intro d
    induction d with
    | zero =>
      intro x hx u hu
      apply h141
      have e : x = 35 := by omega
      subst e
      refine ⟨fun _ => ?_, fun q => absurd (by decide) q⟩
      refine u_kept hu ha ⟨by omega, by omega⟩ (fun u1 hu1 _ u2 e2 => ?_)
      refine f173 100 0 rfl u2 ?_
      subst e2
      exact ⟨by rw [up_n (by decide), hu1.at_]; omega, by rw [up_n (by decide)]; exact hu1.lo, by rw [up_n (by decide)]; exact hu1.mn, by rw [up_c (b := 225) (by decide), up_c (b := 226) (by decide), up_c (b := 227) (by decide)]; exact hu1.p1, by rw [up_c (b := 228) (by decide)]; exact hu1.p2, by rw [up_c (b := 229) (by decide)]; exact hu1.p3, by rw [up_c (b := 230) (by decide)]; exact hu1.p4, by rw [up_e]; exact fun _ => rfl, fun j j1 j2 => by omega, hu1.fr.up scR35⟩
    | succ d ih =>
      intro x hx u hu
      apply h141
      rw [n32_id (x := (x : Int)) (by omega) (by omega)]
      refine ⟨fun q => by omega, fun _ => u_kept hu ha ⟨by omega, by omega⟩ (fun u1 hu1 _ => ⟨⟨by omega, by omega⟩, fun u2 e2 y ey => ?_⟩)⟩
      rw [show mm_rt 211 34 = 230 from rfl] at e2
      rw [ey, show (x : Int) + 1 = ((x + 1 : Nat) : Int) by omega]
      refine ih (x + 1) (by omega) u2 ?_
      subst e2
      refine ⟨by rw [up_c (by decide), hu1.at_]; omega, by rw [up_c (by decide)]; exact hu1.lo, by rw [up_c (by decide)]; exact hu1.mn, by rw [up_c (b := 225) (by decide), up_c (b := 226) (by decide), up_c (b := 227) (by decide)]; exact hu1.p1, by rw [up_c (b := 228) (by decide)]; exact hu1.p2, by rw [up_c (b := 229) (by decide)]; exact hu1.p3, fun j j1 j2 => ?_, by rw [up_c (by decide)]; exact hu1.en, by rw [up_c (b := 231) (by decide)]; exact hu1.p5, hu1.fr.up (scR_ref (by decide) (by decide))⟩
      by_cases q : j = x
      · rw [q, up_e]; congr 1; omega
      · rw [up_n (Or.inr q)]; exact hu1.p4 j j1 (by omega)
  have f116 : ∀ d x : Nat, x + d = 210 → ∀ u : mm_M, Jv s a1 (100 + x) 3 90 x 0 0 u → L116 x u := by
    intro d
    induction d with
    | zero =>
      intro x hx u hu
      apply h116
      have e : x = 210 := by omega
      subst e
      refine ⟨fun _ => ?_, fun q => absurd (by decide) q⟩
      exact f141 35 0 rfl u hu
    | succ d ih =>
      intro x hx u hu
      apply h116
      rw [n32_id (x := (x : Int)) (by omega) (by omega)]
      refine ⟨fun q => by omega, fun _ => u_kept hu ha ⟨by omega, by omega⟩ (fun u1 hu1 _ => ⟨⟨by omega, by omega⟩, fun u2 e2 y ey => ?_⟩)⟩
      rw [show mm_rt 211 33 = 229 from rfl] at e2
      rw [ey, show (x : Int) + 1 = ((x + 1 : Nat) : Int) by omega]
      refine ih (x + 1) (by omega) u2 ?_
      subst e2
      refine ⟨by rw [up_c (by decide), hu1.at_]; omega, by rw [up_c (by decide)]; exact hu1.lo, by rw [up_c (by decide)]; exact hu1.mn, by rw [up_c (b := 225) (by decide), up_c (b := 226) (by decide), up_c (b := 227) (by decide)]; exact hu1.p1, by rw [up_c (b := 228) (by decide)]; exact hu1.p2, fun j j1 j2 => ?_, by rw [up_c (b := 230) (by decide)]; exact hu1.p4, by rw [up_c (by decide)]; exact hu1.en, by rw [up_c (b := 231) (by decide)]; exact hu1.p5, hu1.fr.up (scR_ref (by decide) (by decide))⟩
      by_cases q : j = x
      · rw [q, up_e]; congr 1; omega
      · rw [up_n (Or.inr q)]; exact hu1.p3 j j1 (by omega)
  have f92 : ∀ d x : Nat, x + d = 90 → ∀ u : mm_M, Jv s a1 (10 + x) 3 x 0 0 0 u → L92 x u := by
    intro d
    induction d with
    | zero =>
      intro x hx u hu
      apply h92
      have e : x = 90 := by omega
      subst e
      refine ⟨fun _ => ?_, fun q => absurd (by decide) q⟩
      exact f116 210 0 rfl u hu
    | succ d ih =>
      intro x hx u hu
      apply h92
      rw [n32_id (x := (x : Int)) (by omega) (by omega)]
      refine ⟨fun q => by omega, fun _ => u_kept hu ha ⟨by omega, by omega⟩ (fun u1 hu1 _ => ⟨⟨by omega, by omega⟩, fun u2 e2 y ey => ?_⟩)⟩
      rw [show mm_rt 211 32 = 228 from rfl] at e2
      rw [ey, show (x : Int) + 1 = ((x + 1 : Nat) : Int) by omega]
      refine ih (x + 1) (by omega) u2 ?_
      subst e2
      refine ⟨by rw [up_c (by decide), hu1.at_]; omega, by rw [up_c (by decide)]; exact hu1.lo, by rw [up_c (by decide)]; exact hu1.mn, by rw [up_c (b := 225) (by decide), up_c (b := 226) (by decide), up_c (b := 227) (by decide)]; exact hu1.p1, fun j j1 j2 => ?_, by rw [up_c (b := 229) (by decide)]; exact hu1.p3, by rw [up_c (b := 230) (by decide)]; exact hu1.p4, by rw [up_c (by decide)]; exact hu1.en, by rw [up_c (b := 231) (by decide)]; exact hu1.p5, hu1.fr.up (scR_ref (by decide) (by decide))⟩
      by_cases q : j = x
      · rw [q, up_e]; congr 1; omega
      · rw [up_n (Or.inr q)]; exact hu1.p2 j j1 (by omega)
  have f49 : ∀ d x : Nat, x + d = 3 → ∀ u : mm_M, Jv s a1 (1 + 3 * x) x 0 0 0 0 u → L49 x u := by
    intro d
    induction d with
    | zero =>
      intro x hx u hu
      apply h49
      have e : x = 3 := by omega
      subst e
      refine ⟨fun _ => ?_, fun q => absurd (by decide) q⟩
      exact f92 90 0 rfl u hu
    | succ d ih =>
      intro x hx u hu
      apply h49
      rw [n32_id (x := (x : Int)) (by omega) (by omega), show mm_rt 211 29 = 225 from rfl, show mm_rt 211 30 = 226 from rfl, show mm_rt 211 31 = 227 from rfl]
      have keep : ∀ {n : Int} {v w : mm_M} {cl : Nat} {z : Int}, (cl = 225 ∨ cl = 226 ∨ cl = 227) → Jv s a1 n x 0 0 0 0 v → w = mm_up v cl x z → Jv s a1 n x 0 0 0 0 w := by
        intro n v w cl z hc hv e
        have o : ∀ c : Int, c < x → w 225 c = v 225 c ∧ w 226 c = v 226 c ∧ w 227 c = v 227 c := fun c hx => by
          rw [e]
          exact ⟨up_n (Or.inr (by omega)), up_n (Or.inr (by omega)), up_n (Or.inr (by omega))⟩
        have o2 : w 211 = v 211 := by rw [e, up_c (by omega)]
        refine ⟨by rw [o2]; exact hv.at_, by rw [o2]; exact hv.lo, by rw [o2]; exact hv.mn, fun c c1 c2 => ?_, fun j j1 j2 => by omega, fun j j1 j2 => by omega, fun j j1 j2 => by omega, fun j => by omega, fun j j1 j2 => by omega, by rw [e]; exact hv.fr.up (scR_ref (by omega) (by omega))⟩
        rw [(o c c2).1, (o c c2).2.1, (o c c2).2.2]
        exact hv.p1 c c1 c2
      refine ⟨fun q => by omega, fun _ => u_kept hu ha ⟨by omega, by omega⟩ (fun u1 hu1 g1 => ⟨⟨by omega, by omega⟩, fun u2 e2 => ?_⟩)⟩
      refine u_kept (keep (Or.inl rfl) hu1 e2) ha ⟨by omega, by omega⟩ (fun u3 hu3 g3 => ⟨⟨by omega, by omega⟩, fun u4 e4 => ?_⟩)
      refine u_kept (keep (Or.inr (Or.inl rfl)) hu3 e4) ha ⟨by omega, by omega⟩ (fun u5 hu5 g5 => ⟨⟨by omega, by omega⟩, fun u6 e6 y ey => ?_⟩)
      have hu6 := keep (Or.inr (Or.inr rfl)) hu5 e6
      have k1 : u6 225 x = s 235 (446 * a1 + (1 + 3 * x)) := by rw [e6, up_c (by decide), g5 225 (by decide), e4, up_c (by decide), g3 225 (by decide), e2, up_e]
      have k2 : u6 226 x = s 235 (446 * a1 + (1 + 3 * x + 1)) := by rw [e6, up_c (by decide), g5 226 (by decide), e4, up_e]
      have k3 : u6 227 x = s 235 (446 * a1 + (1 + 3 * x + 1 + 1)) := by rw [e6, up_e]
      rw [ey, show (x : Int) + 1 = ((x + 1 : Nat) : Int) by omega]
      refine ih (x + 1) (by omega) u6 ⟨by rw [hu6.at_]; omega, hu6.lo, hu6.mn, fun c c1 c2 => ?_, fun j j1 j2 => by omega, fun j j1 j2 => by omega, fun j j1 j2 => by omega, fun j => by omega, fun j j1 j2 => by omega, hu6.fr⟩
      by_cases q : c = x
      · subst q
        rw [k1, k2, k3]
        exact ⟨by congr 1; omega, by congr 1; omega, by congr 1; omega⟩
      · exact hu6.p1 c c1 (by omega)
  have j4 : Jv s a1 0 0 0 0 0 0 (mm_up s4 211 28 (s 235 (446 * a1))) := by
    rw [e4, e3]
    exact ⟨by rw [up_n (by decide), up_e]; omega, by rw [up_n (by decide), up_n (by decide), up_e], by rw [up_e], fun j j1 j2 => by omega, fun j j1 j2 => by omega, fun j j1 j2 => by omega, fun j j1 j2 => by omega, fun j => by omega, fun j j1 j2 => by omega, ((agR.rf.up scR37).up rfl).up scR28⟩
  unfold wp_X11_kept
  intro s5 e5 
  have g4 : s4 211 64 = 446 * a1 := by rw [e4, up_e]
  rw [g4] at e5
  have g5 : s5 211 64 = 446 * a1 + 1 := by rw [e5, up_e]
  rw [g5, show mm_rt 211 42 = 235 from rfl]
  refine ⟨⟨by omega, by omega⟩, fun s7 e7 => ?_⟩
  have g6 : s5 235 (446 * a1 + 1 - 1) = s 235 (446 * a1) := by rw [e5, up_c (by decide), e4, up_c (by decide), e3, up_c (by decide)]; congr 1; omega
  rw [g6] at e7
  refine f49 3 0 rfl s7 ?_
  subst e7; subst e5; subst e4; subst e3
  exact ⟨by rw [up_n (by decide), up_e]; omega, by rw [up_n (by decide), up_n (by decide), up_n (by decide), up_e], by rw [up_e], fun j j1 j2 => by omega, fun j j1 j2 => by omega, fun j j1 j2 => by omega, fun j j1 j2 => by omega, fun j => by omega, fun j j1 j2 => by omega, (((agR.rf.up scR37).up rfl).up rfl).up scR28⟩
theorem Jv.eqv {s u : mm_M} {k : Int} (h : Jv s k 446 3 90 210 35 101 u) : eqv (vi s k) (vo u) :=
  ⟨h.mn, h.lo, fun c a b => (h.p1 c a b).1, fun c a b => (h.p1 c a b).2.1, fun c a b => (h.p1 c a b).2.2, h.p2, h.p3, h.p4, h.en (by omega), fun j a b => h.p5 j a (by omega)⟩
/-- promise 31 -/
theorem q_on {s : mm_M} {a1 : Int} (hR : Rel s) (h1 : n32 a1 = a1) (post : Int → mm_M → Prop) (hp : ∀ r1 s1, Gd (wp_X11_on 211 a1 s1) r1 → post r1 s1) : wp_X10_on 0 a1 s post := by
  have no : (a1 < 0 ∨ 3 ≤ a1 ∨ (0 ≤ a1 ∧ a1 < 3 ∧ s 234 a1 = 0)) → Gd (wp_X11_on 211 a1 s) 0 := by
    intro h p2 k3
    intro L49 L92 L116 L141 L173 h49 h92 h116 h141 h173
    refine s_in (fun u v => ⟨fun z => absurd z (by decide), fun _ => ?_⟩) (fun u => ⟨fun _ => k3 _ _ rfl hR, fun z => absurd m_0 z⟩)
    rw [h1, m_0] at u
    rw [h1, m_2] at v
    have h0 : s 234 a1 = 0 := by omega
    rw [show mm_rt 211 41 = 234 from rfl, h0]
    exact ⟨⟨by omega, by omega⟩, fun z => absurd m_0 z, fun _ => k3 _ _ rfl hR⟩
  unfold wp_X10_on
  rw [show mm_rt 0 6 = 71 from rfl, show mm_rt 0 5 = 29 from rfl, show mm_rt 0 7 = 198 from rfl, h1]
  refine ⟨fun q => hp _ _ (no (by omega)), fun q => ⟨fun q2 => hp _ _ (no (by omega)), fun q2 => ⟨⟨by omega, by omega⟩, ?_⟩⟩⟩
  have ek : ((a1.toNat : Nat) : Int) = a1 := by omega
  have hI := hR.2.2.2.2.1 a1.toNat (by omega)
  rw [ek] at hI
  have n1 : n32 (s 198 a1) = s 198 a1 := n32_id (by omega) (by omega)
  rw [n1]
  refine ⟨fun z => ⟨⟨by omega, by omega⟩, ?_⟩, fun z => hp _ _ (no (Or.inr (Or.inr ⟨by omega, by omega, by rw [hI.2.1]; exact z⟩)))⟩
  have z1 : s 198 a1 = 1 := by omega
  obtain ⟨hC, hJ⟩ := hI.2.2 z1
  rw [rt_i a1.toNat (by omega)]
  have hW := hR.tw hC
  obtain ⟨rj, wj⟩ := rs_to hJ
  have ib : isb (72 + 42 * a1.toNat) := by unfold isb; omega
  refine t_take (Or.inl rfl) ib (by omega) hW.c0.2 hW.s0.2 rj wj (fun s1 r1 g1 => hp _ _ ?_)
  intro p2 k3
  have a : agC s s1 := fun x j q => by
    have : x < 29 ∨ 71 ≤ x := by
      by_cases h : 29 ≤ x ∧ x < 71
      · rw [scC_shop h.1 h.2] at q; cases q
      · omega
    rw [g1 x (by omega)]
  refine u_on ⟨by omega, by omega⟩ (by rw [g1 234 (by omega), hI.2.1]; exact z1) (fun u hu => k3 _ _ rfl ?_)
  have ev := hu.eqv
  have r1 : rep s1 29 (s 9 4) (s 9 5) (vi s a1) := by
    have r1 : rep s1 29 (s 9 4) (s 9 5) (vi s ((a1.toNat : Nat) : Int)) := r1
    rw [ek] at r1
    exact r1
  have wj : wf (s 9 4) (s 9 5) (vi s a1) := by
    have wj : wf (s 9 4) (s 9 5) (vi s ((a1.toNat : Nat) : Int)) := wj
    rw [ek] at wj
    exact wj
  have ei : vi s1 a1 = vi s a1 := by
    unfold vi
    rw [g1 235 (by omega), g1 236 (by omega)]
  rw [ei] at ev
  exact hR.shop hC a hu.fr (ev.rep hW.c0.2 hW.s0.2 wj r1) (ev.wf hW.c0.2 hW.s0.2 wj) rfl
