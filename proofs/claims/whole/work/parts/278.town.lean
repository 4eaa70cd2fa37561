/-! promise 5 -/
theorem cp_i {s : mm_M} {a b : Nat} {n i : Int} (h : 0 ≤ i ∧ i < n) : mm_cp s a 0 b 0 n b i = s a i := by
  unfold mm_cp
  rw [if_pos ⟨rfl, h.1, by omega⟩, show (0 : Int) + (i - 0) = i by omega]
theorem cp_o {s : mm_M} {a b c : Nat} {n : Int} (h : c ≠ b) : mm_cp s a 0 b 0 n c = s c := by
  funext i
  unfold mm_cp
  rw [if_neg (fun z => h z.1)]
theorem t_takeT {u : mm_M} {post : mm_M → Prop} (k : ∀ u', (∀ c : Nat, c ≠ 9 → c ≠ 10 → c ≠ 11 → u' c = u c) → (∀ i : Int, 0 ≤ i → i < 9 → u' 10 i = u 15 i) → (∀ i : Int, 0 ≤ i → i < 30 → u' 11 i = u 16 i) → (u' 9 4 = u 14 4 ∧ u' 9 5 = u 14 5 ∧ u' 9 6 = u 14 6 ∧ u' 9 7 = u 14 7 ∧ u' 9 8 = u 14 8) → post u') : wp_X9_takeOver 9 14 u post := by
  refine ⟨by decide, fun s1 e1 => ⟨by decide, fun s2 e2 s3 e3 s4 e4 s5 e5 s6 e6 s7 e7 => ?_⟩⟩
  rw [show mm_rt 14 0 = 15 from rfl, show mm_rt 9 0 = 10 from rfl] at e1
  rw [show mm_rt 14 1 = 16 from rfl, show mm_rt 9 1 = 11 from rfl] at e2
  have o2 : ∀ c : Nat, c ≠ 10 → c ≠ 11 → s2 c = u c := fun c a b => by rw [e2, cp_o b, e1, cp_o a]
  have o7 : ∀ c : Nat, c ≠ 9 → s7 c = s2 c := fun c a => by rw [e7, up_c a, e6, up_c a, e5, up_c a, e4, up_c a, e3, up_c a]
  have p3 : s3 14 = u 14 := by rw [e3, up_c (by decide), o2 14 (by decide) (by decide)]
  have p4 : s4 14 = u 14 := by rw [e4, up_c (by decide), p3]
  have p5 : s5 14 = u 14 := by rw [e5, up_c (by decide), p4]
  have p6 : s6 14 = u 14 := by rw [e6, up_c (by decide), p5]
  rw [o2 14 (by decide) (by decide)] at e3
  rw [p3] at e4
  rw [p4] at e5
  rw [p5] at e6
  rw [p6] at e7
  refine k s7 (fun c a b d => by rw [o7 c a, o2 c b d]) (fun i a b => ?_) (fun i a b => ?_) ⟨?_, ?_, ?_, ?_, ?_⟩
  · rw [o7 10 (by decide), e2, cp_o (by decide), e1, cp_i ⟨a, b⟩]
  · rw [o7 11 (by decide), e2, cp_i ⟨a, b⟩, e1, cp_o (c := 16) (by decide)]
  · rw [e7, up_n (by decide), e6, up_n (by decide), e5, up_n (by decide), e4, up_n (by decide), e3, up_e]
  · rw [e7, up_n (by decide), e6, up_n (by decide), e5, up_n (by decide), e4, up_e]
  · rw [e7, up_n (by decide), e6, up_n (by decide), e5, up_e]
  · rw [e7, up_n (by decide), e6, up_e]
  · rw [e7, up_e]
theorem t_open {u : mm_M} {C : Int} (hc : u 9 4 = C) (hC : 0 ≤ C ∧ C ≤ 3) {post : mm_M → Prop} (k : ∀ u', (∀ c : Nat, ¬ (29 ≤ c ∧ c < 71) → u' c = u c) → (u' 29 7 = 0 ∧ u' 29 8 = 0 ∧ u' 33 1 = 0) → (∀ j : Int, 0 ≤ j → j < 35 → u' 32 j = 0) → (∀ p : Nat, p < 30 → u' (35 + p) 0 = -1) → (∀ c : Nat, (c : Int) < C → u' (65 + 2 * c) 1 = 0 ∧ u' (65 + 2 * c) 2 = u 10 (3 * c + 2) ∧ u' (65 + 2 * c) 3 = 0) → post u') : wp_X7_open 29 u post := by
  intro L28 L52 h28 h52 s1 e1 s2 e2 s3 e3
  rw [show mm_rt 29 6 = 33 from rfl] at e3
  rw [show mm_rt 29 5 = 32 from rfl]
  refine t_fill (by omega) (fun s4 f4 g4 => ?_)
  have o4 : ∀ c : Nat, c ≠ 29 → c ≠ 32 → c ≠ 33 → s4 c = u c := fun c a b d => by rw [f4 c b, e3, up_c d, e2, up_c a, e1, up_c a]
  have z7 : s4 29 7 = 0 := by rw [f4 29 (by decide), e3, up_c (by decide), e2, up_n (by decide), e1, up_e]
  have z8 : s4 29 8 = 0 := by rw [f4 29 (by decide), e3, up_c (by decide), e2, up_e]
  have z1 : s4 33 1 = 0 := by rw [f4 33 (by decide), e3, up_e]
  -- the counters
  have desks : ∀ d x : Nat, x + d = 3 → ∀ w, (∀ c : Nat, ¬ (29 ≤ c ∧ c < 71) → w c = u c) → (w 29 7 = 0 ∧ w 29 8 = 0 ∧ w 33 1 = 0) → (∀ j : Int, 0 ≤ j → j < 35 → w 32 j = 0) → (∀ p : Nat, p < 30 → w (35 + p) 0 = -1) → (∀ c : Nat, c < x → (c : Int) < C → w (65 + 2 * c) 1 = 0 ∧ w (65 + 2 * c) 2 = u 10 (3 * c + 2) ∧ w (65 + 2 * c) 3 = 0) → L52 x w := by
    intro d
    induction d with
    | zero =>
      intro x hx w a b c d' e
      have : x = 3 := by omega
      subst this
      apply h52
      exact ⟨fun _ => k w a b c d' (fun i hi => e i (by omega) hi), fun z => absurd (by decide) z⟩
    | succ d ih =>
      intro x hx w a b c d' e
      have w9 : w 9 4 = C := by rw [a 9 (by omega)]; exact hc
      have w10 : w 10 = u 10 := a 10 (by omega)
      apply h52
      rw [n32_id (x := (x : Int)) (by omega) (by omega), show mm_rt 29 0 = 9 from rfl, show mm_rt 29 4 = 31 from rfl, show ((x : Int)).toNat = x by omega, (rt_d x (by omega)).1]
      refine ⟨fun z => by omega, fun _ => ⟨⟨by omega, by omega⟩, ?_⟩⟩
      have go : ∀ r : Int, ((x : Int) < C → r = u 10 (3 * x + 2)) → wp_X2_open (65 + 2 * x) r w (fun s_14 => (∀ v1_16 : Int, v1_16 = (x : Int) + 1 → L52 v1_16 s_14)) := by
        intro r hr y1 i1 y2 i2 y3 i3 v ev
        rw [ev, show (x : Int) + 1 = ((x + 1 : Nat) : Int) by omega]
        have o : ∀ c : Nat, c ≠ 65 + 2 * x → y3 c = w c := fun c hc => by rw [i3, up_c hc, i2, up_c hc, i1, up_c hc]
        refine ih (x + 1) (by omega) y3 (fun c hc => by rw [o c (by omega)]; exact a c hc) ⟨by rw [o 29 (by omega)]; exact b.1, by rw [o 29 (by omega)]; exact b.2.1, by rw [o 33 (by omega)]; exact b.2.2⟩ (fun j j1 j2 => by rw [o 32 (by omega)]; exact c j j1 j2) (fun p hp => by rw [o (35 + p) (by omega)]; exact d' p hp) (fun i hi hC' => ?_)
        by_cases q : i = x
        · subst q
          refine ⟨?_, ?_, ?_⟩
          · rw [i3, up_n (Or.inr (by decide)), i2, up_n (Or.inr (by decide)), i1, up_e]
          · rw [i3, up_n (Or.inr (by decide)), i2, up_e]; exact hr hC'
          · rw [i3, up_e]
        · rw [o (65 + 2 * i) (by omega)]
          exact e i (by omega) hC'
      unfold wp_X9_ofCounter wp_X9_hasCounter
      rw [w9, n32_id (x := (x : Int)) (by omega) (by omega), n32_id (x := C) (by omega) (by omega)]
      have k2 : n32 2 = 2 := by decide
      refine ⟨fun z => by omega, fun _ => ⟨fun z => ⟨fun _ => go 0 (fun y => by omega), fun y => absurd m_0 y⟩, fun z => ⟨fun y => by omega, fun _ => ⟨fun y => absurd y (by decide), fun _ => ?_⟩⟩⟩⟩
      rw [k2, show mm_rt 9 0 = 10 from rfl, w10, show (x : Int) * 3 + 2 = 3 * x + 2 by omega]
      exact ⟨fun y => absurd y (by decide), fun _ => ⟨fun _ => ⟨⟨by omega, by omega⟩, go _ (fun _ => rfl)⟩, fun y => absurd (by decide) y⟩⟩
  have people : ∀ d x : Nat, x + d = 30 → ∀ w, (∀ c : Nat, ¬ (29 ≤ c ∧ c < 71) → w c = u c) → (w 29 7 = 0 ∧ w 29 8 = 0 ∧ w 33 1 = 0) → (∀ j : Int, 0 ≤ j → j < 35 → w 32 j = 0) → (∀ p : Nat, p < x → w (35 + p) 0 = -1) → L28 x w := by
    intro d
    induction d with
    | zero =>
      intro x hx w a b c e
      have : x = 30 := by omega
      subst this
      apply h28
      exact ⟨fun _ => desks 3 0 (by omega) w a b c e (fun i hi _ => by omega), fun z => absurd (by decide) z⟩
    | succ d ih =>
      intro x hx w a b c e
      apply h28
      rw [n32_id (x := (x : Int)) (by omega) (by omega), show mm_rt 29 3 = 30 from rfl, show ((x : Int)).toNat = x by omega, rt_p x (by omega)]
      refine ⟨fun z => by omega, fun _ => ⟨⟨by omega, by omega⟩, fun s9 e9 v ev => ?_⟩⟩
      rw [ev, show (x : Int) + 1 = ((x + 1 : Nat) : Int) by omega]
      have o : ∀ c : Nat, c ≠ 35 + x → s9 c = w c := fun c hc => by rw [e9, up_c hc]
      refine ih (x + 1) (by omega) s9 (fun c hc => by rw [o c (by omega)]; exact a c hc) ⟨by rw [o 29 (by omega)]; exact b.1, by rw [o 29 (by omega)]; exact b.2.1, by rw [o 33 (by omega)]; exact b.2.2⟩ (fun j j1 j2 => by rw [o 32 (by omega)]; exact c j j1 j2) (fun p hp => ?_)
      by_cases q : p = x
      · rw [q, e9, up_e]
      · rw [o (35 + p) (by omega)]; exact e p (by omega)
  exact people 30 0 (by omega) s4 (fun c hc => o4 c (by omega) (by omega) (by omega)) ⟨z7, z8, z1⟩ (fun j j1 j2 => g4 j j1 j2) (fun p hp => by omega)
theorem Rel.tx {s : mm_M} (hR : Rel s) : tx s (s 8) (s 7 1) ∧ ∀ u, ag s u → tx2 u (s 8) (s 7 1) := by
  obtain ⟨h1, h2, h3, h4⟩ := hR.1
  have hb : bok (s 8) (s 7 1) := ⟨⟨h1, h2⟩, fun j a b => ⟨(h4 j a b).1, (h4 j a b).2.1⟩⟩
  refine ⟨⟨rfl, rfl, hb⟩, fun u au => ⟨by rw [au 211 1 rfl]; exact h3, fun j a b => ?_, hb⟩⟩
  rw [au.c (a := 212) (fun _ => rfl)]
  exact (h4 j a b).2.2
/-- what the reference does with a town that is told -/
theorem u_town {u : mm_M} {B : Int → Int} {n : Int} (t : tx2 u B n) (ht : tfa B n = -1) {post : Int → mm_M → Prop} (k : ∀ u', (∀ c : Nat, c ≠ 211 → ¬ (213 ≤ c ∧ c ≤ 218) → ¬ (225 ≤ c ∧ c ≤ 227) → c ≠ 229 → c ≠ 230 → c ≠ 234 → u' c = u c) → (u' 211 24 = u 211 24 ∧ u' 211 38 = u 211 38) → (u' 211 1 = 0 ∧ u' 211 12 = zC (tre B n 500) ∧ u' 211 14 = zS (tre B n 500) ∧ u' 211 28 = 0 ∧ u' 211 35 = 0 ∧ u' 211 37 = 0) → (u' 211 16 = (if zcl (tre B n 500) = -1 then 120 else zcl (tre B n 500)) ∧ u' 211 17 = (if zfe (tre B n 500) = -1 then 0 else zfe (tre B n 500)) ∧ u' 211 18 = (if zbo (tre B n 500) = -1 then 0 else zbo (tre B n 500))) → (∀ i : Int, 0 ≤ i → i < 3 * zC (tre B n 500) → u' 217 i = zcf (tre B n 500) i) → (∀ i : Int, 0 ≤ i → i < 6 * zS (tre B n 500) → u' 218 i = zsf (tre B n 500) i) → (∀ c : Int, 0 ≤ c → c < 3 → u' 225 c = u' 217 (3 * c + 2) ∧ u' 226 c = 0 ∧ u' 227 c = 0) → (∀ p : Int, 0 ≤ p → p < 30 → u' 229 (7 * p + 2) = -1) → (∀ j : Int, 0 ≤ j → j < 35 → u' 230 j = 0) → (∀ i : Int, 0 ≤ i → i < 3 → u' 234 i = 0) → post (zC (tre B n 500)) u') : wp_X11_town 211 u post := by
  have hb := t.2.2
  have zf : zfa (tre B n 500) = -1 := by
    unfold tfa at ht
    by_cases q : zfa (tre B n 500) = -1
    · exact q
    · rw [if_neg q] at ht; exact ht
  have ok := tre_ok hb 500 zf
  obtain ⟨o1, o2, o3, o4, o5, -⟩ := ok
  intro L28 L54 L100 L124 L158 L201 L227 L258 h28 h54 h100 h124 h158 h201 h227 h258
  refine u_readT t (fun u1 f1 m1 => ?_)
  rw [ht]
  refine ⟨fun _ s3 e3 s4 e4 => ?_, fun z => absurd (by decide) z⟩
  obtain ⟨-, -, ⟨r6, r8, rl, rf, rb⟩, rc, rs, -⟩ := m1 ht
  generalize tre B n 500 = Z at *
  rw [r6] at e3
  have q8 : s3 211 8 = zS Z := by rw [e3, up_n (by decide)]; exact r8
  rw [q8] at e4
  have b4 : (∀ c : Nat, c ≠ 211 → s4 c = u1 c) := fun c a => by rw [e4, up_c a, e3, up_c a]
  have b12 : s4 211 12 = zC Z := by rw [e4, up_n (by decide), e3, up_e]
  have b14 : s4 211 14 = zS Z := by rw [e4, up_e]
  have b24 : s4 211 24 = u 211 24 ∧ s4 211 38 = u 211 38 := ⟨by rw [e4, up_n (by decide), e3, up_n (by decide), f1.2 24 (by decide) (by decide) (by decide) (by decide) (by decide) (by decide) (by decide)], by rw [e4, up_n (by decide), e3, up_n (by decide), f1.2 38 (by decide) (by decide) (by decide) (by decide) (by decide) (by decide) (by decide)]⟩
  -- last: images
  have l258 : ∀ d x : Nat, x + d = 3 → ∀ w, (∀ y, y = mm_up w 211 1 0 → ∀ z : mm_M, True) → (∀ w', (∀ c : Nat, c ≠ 234 → c ≠ 211 → w' c = w c) → (∀ i : Int, i ≠ 1 → w' 211 i = w 211 i) → w' 211 1 = 0 → (∀ i : Int, 0 ≤ i → i < 3 → w' 234 i = 0) → post (w' 211 12) w') → (∀ i : Int, 0 ≤ i → i < x → w 234 i = 0) → L258 x w := by
    intro d
    induction d with
    | zero =>
      intro x hx w _ kk w34
      have : x = 3 := by omega
      subst this
      apply h258
      refine ⟨fun _ s32 e32 => kk s32 (fun c a b => by rw [e32, up_c b]) (fun i a => by rw [e32, up_n (by omega)]) (by rw [e32, up_e]) (fun i a b => by rw [e32, up_c (by decide)]; exact w34 i a b), fun z => absurd (by decide) z⟩
    | succ d ih =>
      intro x hx w h0 kk w34
      apply h258
      rw [n32_id (x := (x : Int)) (by omega) (by omega), show mm_rt 211 41 = 234 from rfl]
      refine ⟨fun z => by omega, fun _ => ⟨⟨by omega, by omega⟩, fun s33 e33 v ev => ?_⟩⟩
      rw [ev, show (x : Int) + 1 = ((x + 1 : Nat) : Int) by omega]
      refine ih (x + 1) (by omega) s33 (fun _ _ _ => trivial) (fun w' a b c d => kk w' (fun i i1 i2 => by rw [a i i1 i2, e33, up_c i1]) (fun i i1 => by rw [b i i1, e33, up_c (by decide)]) c d) (fun i a b => ?_)
      rw [e33]
      by_cases q : i = x
      · rw [q, up_e]
      · rw [up_n (Or.inr q)]; exact w34 i a (by omega)
  -- counts
  have l227 : ∀ d x : Nat, x + d = 35 → ∀ w, (∀ w', (∀ c : Nat, c ≠ 230 → c ≠ 234 → c ≠ 211 → w' c = w c) → (∀ i : Int, i ≠ 1 → i ≠ 35 → i ≠ 37 → w' 211 i = w 211 i) → (w' 211 1 = 0 ∧ w' 211 35 = 0 ∧ w' 211 37 = 0) → (∀ j : Int, 0 ≤ j → j < 35 → w' 230 j = 0) → (∀ i : Int, 0 ≤ i → i < 3 → w' 234 i = 0) → post (w' 211 12) w') → (∀ j : Int, 0 ≤ j → j < x → w 230 j = 0) → L227 x w := by
    intro d
    induction d with
    | zero =>
      intro x hx w kk w30
      have : x = 35 := by omega
      subst this
      apply h227
      refine ⟨fun _ s27 e27 s28 e28 => l258 3 0 (by omega) s28 (fun _ _ _ => trivial) (fun w' a b c d => kk w' (fun i i1 i2 i3 => by rw [a i i2 i3, e28, up_c i3, e27, up_c i3]) (fun i i1 i2 i3 => by rw [b i i1, e28, up_n (by omega), e27, up_n (by omega)]) ⟨c, by rw [b 35 (by decide), e28, up_n (by decide), e27, up_e], by rw [b 37 (by decide), e28, up_e]⟩ (fun j j1 j2 => by rw [a 230 (by decide) (by decide), e28, up_c (by decide), e27, up_c (by decide)]; exact w30 j j1 j2) d) (fun i a b => by omega), fun z => absurd (by decide) z⟩
    | succ d ih =>
      intro x hx w kk w30
      apply h227
      rw [n32_id (x := (x : Int)) (by omega) (by omega), show mm_rt 211 34 = 230 from rfl]
      refine ⟨fun z => by omega, fun _ => ⟨⟨by omega, by omega⟩, fun s30 e30 v ev => ?_⟩⟩
      rw [ev, show (x : Int) + 1 = ((x + 1 : Nat) : Int) by omega]
      refine ih (x + 1) (by omega) s30 (fun w' a b c d e => kk w' (fun i i1 i2 i3 => by rw [a i i1 i2 i3, e30, up_c i1]) (fun i i1 i2 i3 => by rw [b i i1 i2 i3, e30, up_c (by decide)]) c d e) (fun j j1 j2 => ?_)
      rw [e30]
      by_cases q : j = x
      · rw [q, up_e]
      · rw [up_n (Or.inr q)]; exact w30 j j1 (by omega)
  -- people
  have l201 : ∀ d x : Nat, x + d = 30 → ∀ w, (∀ w', (∀ c : Nat, c ≠ 229 → c ≠ 230 → c ≠ 234 → c ≠ 211 → w' c = w c) → (∀ i : Int, i ≠ 1 → i ≠ 35 → i ≠ 37 → w' 211 i = w 211 i) → (w' 211 1 = 0 ∧ w' 211 35 = 0 ∧ w' 211 37 = 0) → (∀ p : Int, 0 ≤ p → p < 30 → w' 229 (7 * p + 2) = -1) → (∀ j : Int, 0 ≤ j → j < 35 → w' 230 j = 0) → (∀ i : Int, 0 ≤ i → i < 3 → w' 234 i = 0) → post (w' 211 12) w') → (∀ p : Int, 0 ≤ p → p < x → w 229 (7 * p + 2) = -1) → L201 x w := by
    intro d
    induction d with
    | zero =>
      intro x hx w kk w29
      have : x = 30 := by omega
      subst this
      apply h201
      refine ⟨fun _ => l227 35 0 (by omega) w (fun w' a b c d e => kk w' (fun i i1 i2 i3 i4 => a i i2 i3 i4) b c (fun p p1 p2 => by rw [a 229 (by decide) (by decide) (by decide)]; exact w29 p p1 p2) d e) (fun j j1 j2 => by omega), fun z => absurd (by decide) z⟩
    | succ d ih =>
      intro x hx w kk w29
      apply h201
      rw [n32_id (x := (x : Int)) (by omega) (by omega), show mm_rt 211 33 = 229 from rfl]
      refine ⟨fun z => by omega, fun _ => ⟨⟨by omega, by omega⟩, fun s25 e25 v ev => ?_⟩⟩
      rw [ev, show (x : Int) + 1 = ((x + 1 : Nat) : Int) by omega]
      refine ih (x + 1) (by omega) s25 (fun w' a b c d e f => kk w' (fun i i1 i2 i3 i4 => by rw [a i i1 i2 i3 i4, e25, up_c i1]) (fun i i1 i2 i3 => by rw [b i i1 i2 i3, e25, up_c (by decide)]) c d e f) (fun p p1 p2 => ?_)
      rw [e25]
      by_cases q : p = x
      · rw [q, up_e]
      · rw [up_n (Or.inr (by omega))]; exact w29 p p1 (by omega)
  -- counters
  have l158 : ∀ d x : Nat, x + d = 3 → ∀ w, (∀ w', (∀ c : Nat, ¬ (225 ≤ c ∧ c ≤ 227) → c ≠ 229 → c ≠ 230 → c ≠ 234 → c ≠ 211 → w' c = w c) → (∀ i : Int, i ≠ 1 → i ≠ 35 → i ≠ 37 → w' 211 i = w 211 i) → (w' 211 1 = 0 ∧ w' 211 35 = 0 ∧ w' 211 37 = 0) → (∀ c : Int, 0 ≤ c → c < 3 → w' 225 c = w 217 (3 * c + 2) ∧ w' 226 c = 0 ∧ w' 227 c = 0) → (∀ p : Int, 0 ≤ p → p < 30 → w' 229 (7 * p + 2) = -1) → (∀ j : Int, 0 ≤ j → j < 35 → w' 230 j = 0) → (∀ i : Int, 0 ≤ i → i < 3 → w' 234 i = 0) → post (w' 211 12) w') → (∀ c : Int, 0 ≤ c → c < x → w 225 c = w 217 (3 * c + 2) ∧ w 226 c = 0 ∧ w 227 c = 0) → L158 x w := by
    intro d
    induction d with
    | zero =>
      intro x hx w kk wc
      have : x = 3 := by omega
      subst this
      apply h158
      refine ⟨fun _ => l201 30 0 (by omega) w (fun w' a b c d e f => kk w' (fun i i1 i2 i3 i4 i5 => a i i2 i3 i4 i5) b c (fun i i1 i2 => by rw [a 225 (by decide) (by decide) (by decide) (by decide), a 226 (by decide) (by decide) (by decide) (by decide), a 227 (by decide) (by decide) (by decide) (by decide)]; exact wc i i1 i2) d e f) (fun p p1 p2 => by omega), fun z => absurd (by decide) z⟩
    | succ d ih =>
      intro x hx w kk wc
      apply h158
      rw [n32_id (x := (x : Int)) (by omega) (by omega), show mm_rt 211 29 = 225 from rfl, show mm_rt 211 30 = 226 from rfl, show mm_rt 211 31 = 227 from rfl, show mm_rt 211 13 = 217 from rfl]
      refine ⟨fun z => by omega, fun _ => ⟨⟨by omega, by omega⟩, ⟨by omega, by omega⟩, fun s20 e20 => ⟨⟨by omega, by omega⟩, fun s21 e21 => ⟨⟨by omega, by omega⟩, fun s22 e22 v ev => ?_⟩⟩⟩⟩
      rw [ev, show (x : Int) + 1 = ((x + 1 : Nat) : Int) by omega]
      have o : ∀ c : Nat, ¬ (225 ≤ c ∧ c ≤ 227) → s22 c = w c := fun c hc => by rw [e22, up_c (by omega), e21, up_c (by omega), e20, up_c (by omega)]
      refine ih (x + 1) (by omega) s22 (fun w' a b c d e f g => kk w' (fun i i1 i2 i3 i4 i5 => by rw [a i i1 i2 i3 i4 i5, o i i1]) (fun i i1 i2 i3 => by rw [b i i1 i2 i3, o 211 (by omega)]) c (fun i i1 i2 => by have := d i i1 i2; rw [o 217 (by omega)] at this; exact this) e f g) (fun c c1 c2 => ?_)
      rw [o 217 (by omega)]
      by_cases q : c = x
      · rw [q]
        refine ⟨?_, ?_, ?_⟩
        · rw [e22, up_c (by decide), e21, up_c (by decide), e20, up_e]
        · rw [e22, up_c (by decide), e21, up_e]
        · rw [e22, up_e]
      · have := wc c c1 (by omega)
        rw [e22, up_c (b := 225) (by decide), up_c (b := 226) (by decide), up_n (Or.inr q), e21, up_c (b := 225) (by decide), up_n (Or.inr q), up_c (b := 227) (by decide), e20, up_n (Or.inr q), up_c (b := 226) (by decide), up_c (b := 227) (by decide)]
        exact this
  -- fee and bow
  have l124 : ∀ w, (∀ c : Nat, c ≠ 211 → ¬ (217 ≤ c ∧ c ≤ 218) → w c = u1 c) → w 211 12 = zC Z → w 211 14 = zS Z → (w 211 24 = u 211 24 ∧ w 211 38 = u 211 38) → w 211 16 = (if zcl Z = -1 then 120 else zcl Z) → (∀ i : Int, 0 ≤ i → i < 3 * zC Z → w 217 i = zcf Z i) → (∀ i : Int, 0 ≤ i → i < 6 * zS Z → w 218 i = zsf Z i) → ∀ q0 : Int, q0 = (if zfe Z = -1 then 0 else zfe Z) → L124 q0 w := by
    intro w a w12 w14 w24 w16 w17 w18 q0 eq0
    apply h124
    intro s12 e12
    have v216 : s12 216 2 = zbo Z := by rw [e12, up_c (by decide), a 216 (by decide) (by omega)]; exact rb
    rw [show mm_rt 211 11 = 216 from rfl, v216, n32_id (x := zbo Z) (by omega) (by omega)]
    have go : ∀ (r : Int) (s13 s14 : mm_M), r = (if zbo Z = -1 then 0 else zbo Z) → s13 = mm_up s12 211 18 r → s14 = mm_up s13 211 28 0 → L158 0 s14 := by
      intro r s13 s14 er e13 e14
      have o : ∀ c : Nat, c ≠ 211 → s14 c = w c := fun c hc => by rw [e14, up_c hc, e13, up_c hc, e12, up_c hc]
      have o2 : ∀ i : Int, i ≠ 17 → i ≠ 18 → i ≠ 28 → s14 211 i = w 211 i := fun i a b c => by rw [e14, up_n (by omega), e13, up_n (by omega), e12, up_n (by omega)]
      refine l158 3 0 (by omega) s14 (fun w' b c d e f g hh => ?_) (fun c c1 c2 => by omega)
      have fin := k w' (fun i i1 i2 i3 i4 i5 i6 => ?_) ⟨?_, ?_⟩ ⟨d.1, ?_, ?_, ?_, d.2.1, d.2.2⟩ ⟨?_, ?_, ?_⟩ (fun i i1 i2 => ?_) (fun i i1 i2 => ?_) (fun i i1 i2 => ?_) f g hh
      · have e12' : w' 211 12 = zC Z := by rw [c 12 (by decide) (by decide) (by decide), o2 12 (by decide) (by decide) (by decide)]; exact w12
        rw [e12']
        exact fin
      · rw [b i i3 i4 i5 i6 i1, o i i1, a i i1 (by omega), f1.1 i i1 (by omega)]
      · rw [c 24 (by decide) (by decide) (by decide), o2 24 (by decide) (by decide) (by decide)]; exact w24.1
      · rw [c 38 (by decide) (by decide) (by decide), o2 38 (by decide) (by decide) (by decide)]; exact w24.2
      · rw [c 12 (by decide) (by decide) (by decide), o2 12 (by decide) (by decide) (by decide)]; exact w12
      · rw [c 14 (by decide) (by decide) (by decide), o2 14 (by decide) (by decide) (by decide)]; exact w14
      · rw [c 28 (by decide) (by decide) (by decide), e14, up_e]
      · rw [c 16 (by decide) (by decide) (by decide), o2 16 (by decide) (by decide) (by decide)]; exact w16
      · rw [c 17 (by decide) (by decide) (by decide), e14, up_n (by decide), e13, up_n (by decide), e12, up_e]; exact eq0
      · rw [c 18 (by decide) (by decide) (by decide), e14, up_n (by decide), e13, up_e]; exact er
      · rw [b 217 (by decide) (by decide) (by decide) (by decide) (by decide), o 217 (by decide)]; exact w17 i i1 i2
      · rw [b 218 (by decide) (by decide) (by decide) (by decide) (by decide), o 218 (by decide)]; exact w18 i i1 i2
      · rw [b 217 (by decide) (by decide) (by decide) (by decide) (by decide)]; exact e i i1 i2
    exact ⟨fun z s13 e13 s14 e14 => go _ s13 s14 (by rw [if_neg z]) e13 e14, fun z s16 e16 s17 e17 => go 0 s16 s17 (by rw [if_pos z]) e16 e17⟩
  have l100 : ∀ w, (∀ c : Nat, c ≠ 211 → ¬ (217 ≤ c ∧ c ≤ 218) → w c = u1 c) → w 211 12 = zC Z → w 211 14 = zS Z → (w 211 24 = u 211 24 ∧ w 211 38 = u 211 38) → (∀ i : Int, 0 ≤ i → i < 3 * zC Z → w 217 i = zcf Z i) → (∀ i : Int, 0 ≤ i → i < 6 * zS Z → w 218 i = zsf Z i) → ∀ q0 : Int, q0 = (if zcl Z = -1 then 120 else zcl Z) → L100 q0 w := by
    intro w a w12 w14 w24 w17 w18 q0 eq0
    apply h100
    intro s11 e11
    have v216 : s11 216 1 = zfe Z := by rw [e11, up_c (by decide), a 216 (by decide) (by omega)]; exact rf
    rw [show mm_rt 211 11 = 216 from rfl, v216, n32_id (x := zfe Z) (by omega) (by omega)]
    have go := l124 s11 (fun c c1 c2 => by rw [e11, up_c c1]; exact a c c1 c2) (by rw [e11, up_n (by decide)]; exact w12) (by rw [e11, up_n (by decide)]; exact w14) ⟨by rw [e11, up_n (by decide)]; exact w24.1, by rw [e11, up_n (by decide)]; exact w24.2⟩ (by rw [e11, up_e]; exact eq0) (fun i i1 i2 => by rw [e11, up_c (by decide)]; exact w17 i i1 i2) (fun i i1 i2 => by rw [e11, up_c (by decide)]; exact w18 i i1 i2)
    exact ⟨fun z => go _ (by rw [if_neg z]), fun z => go 0 (by rw [if_pos z])⟩
  have l54 : ∀ d x : Nat, x + d = 30 → ∀ w, (∀ c : Nat, c ≠ 211 → ¬ (217 ≤ c ∧ c ≤ 218) → w c = u1 c) → w 211 12 = zC Z → w 211 14 = zS Z → (w 211 24 = u 211 24 ∧ w 211 38 = u 211 38) → (∀ i : Int, 0 ≤ i → i < 3 * zC Z → w 217 i = zcf Z i) → (∀ i : Int, 0 ≤ i → i < x → w 218 i = u1 215 i) → L54 x w := by
    intro d
    induction d with
    | zero =>
      intro x hx w a w12 w14 w24 w17 w18
      have : x = 30 := by omega
      subst this
      apply h54
      have v216 : w 216 0 = zcl Z := by rw [a 216 (by decide) (by omega)]; exact rl
      rw [show mm_rt 211 11 = 216 from rfl, v216, n32_id (x := zcl Z) (by omega) (by omega)]
      have go := l100 w a w12 w14 w24 w17 (fun i i1 i2 => by rw [w18 i i1 (by omega)]; exact rs i i1 i2)
      exact ⟨fun _ => ⟨fun z => go _ (by rw [if_neg z]), fun z => go 120 (by rw [if_pos z])⟩, fun z => absurd (by decide) z⟩
    | succ d ih =>
      intro x hx w a w12 w14 w24 w17 w18
      apply h54
      rw [n32_id (x := (x : Int)) (by omega) (by omega), show mm_rt 211 15 = 218 from rfl, show mm_rt 211 10 = 215 from rfl]
      refine ⟨fun z => by omega, fun _ => ⟨⟨by omega, by omega⟩, ⟨by omega, by omega⟩, fun s9 e9 v ev => ?_⟩⟩
      rw [ev, show (x : Int) + 1 = ((x + 1 : Nat) : Int) by omega]
      refine ih (x + 1) (by omega) s9 (fun c c1 c2 => by rw [e9, up_c (by omega)]; exact a c c1 c2) (by rw [e9, up_c (by decide)]; exact w12) (by rw [e9, up_c (by decide)]; exact w14) ⟨by rw [e9, up_c (by decide)]; exact w24.1, by rw [e9, up_c (by decide)]; exact w24.2⟩ (fun i i1 i2 => by rw [e9, up_c (by decide)]; exact w17 i i1 i2) (fun i i1 i2 => ?_)
      rw [e9]
      by_cases q : i = x
      · rw [q, up_e, a 215 (by decide) (by omega)]
      · rw [up_n (Or.inr q)]; exact w18 i i1 (by omega)
  have l28 : ∀ d x : Nat, x + d = 9 → ∀ w, (∀ c : Nat, c ≠ 211 → c ≠ 217 → w c = u1 c) → w 211 12 = zC Z → w 211 14 = zS Z → (w 211 24 = u 211 24 ∧ w 211 38 = u 211 38) → (∀ i : Int, 0 ≤ i → i < x → w 217 i = u1 213 i) → L28 x w := by
    intro d
    induction d with
    | zero =>
      intro x hx w a w12 w14 w24 w17
      have : x = 9 := by omega
      subst this
      apply h28
      exact ⟨fun _ => l54 30 0 (by omega) w (fun c c1 c2 => a c c1 (by omega)) w12 w14 w24 (fun i i1 i2 => by rw [w17 i i1 (by omega)]; exact rc i i1 i2) (fun i i1 i2 => by omega), fun z => absurd (by decide) z⟩
    | succ d ih =>
      intro x hx w a w12 w14 w24 w17
      apply h28
      rw [n32_id (x := (x : Int)) (by omega) (by omega), show mm_rt 211 13 = 217 from rfl, show mm_rt 211 7 = 213 from rfl]
      refine ⟨fun z => by omega, fun _ => ⟨⟨by omega, by omega⟩, ⟨by omega, by omega⟩, fun s7 e7 v ev => ?_⟩⟩
      rw [ev, show (x : Int) + 1 = ((x + 1 : Nat) : Int) by omega]
      refine ih (x + 1) (by omega) s7 (fun c c1 c2 => by rw [e7, up_c c2]; exact a c c1 c2) (by rw [e7, up_c (by decide)]; exact w12) (by rw [e7, up_c (by decide)]; exact w14) ⟨by rw [e7, up_c (by decide)]; exact w24.1, by rw [e7, up_c (by decide)]; exact w24.2⟩ (fun i i1 i2 => ?_)
      rw [e7]
      by_cases q : i = x
      · rw [q, up_e, a 213 (by decide) (by decide)]
      · rw [up_n (Or.inr q)]; exact w17 i i1 (by omega)
  exact l28 9 0 (by omega) s4 (fun c c1 _ => b4 c c1) b12 b14 b24 (fun i i1 i2 => by omega)
