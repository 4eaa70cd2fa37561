/-! the place of one in a row -/
theorem s_plX {s : mm_M} {t w : Nat} {p m : Int} {post : Int → mm_M → Prop} (hw : mm_rt t 0 = w) (hm : s t 1 = m) (h0 : 0 ≤ m ∧ m ≤ 30) (hp : n32 p = p) (hr : ∀ k : Int, 0 ≤ k → k < m → n32 (s w k) = s w k) (hf : ∀ k : Int, 0 ≤ k → k < m → s w k = p → (∀ j : Int, 0 ≤ j → j < k → s w j ≠ p) → post k s) (hn : (∀ k : Int, 0 ≤ k → k < m → s w k ≠ p) → post (-1) s) : wp_X2_placeOf t p s post := by
  intro L2 h2
  have nm : n32 m = m := n32_id (by omega) (by omega)
  have key : ∀ d k : Nat, (k : Int) + d = m → (∀ j : Int, 0 ≤ j → j < k → s w j ≠ p) → L2 k s := by
    intro d
    induction d with
    | zero =>
      intro k hk hj
      have nk : n32 (k : Int) = k := n32_id (by omega) (by omega)
      apply h2
      rw [hm, nm, nk]
      exact ⟨fun _ => hn (fun j a b => hj j a (by omega)), fun q => by omega⟩
    | succ d ih =>
      intro k hk hj
      have nk : n32 (k : Int) = k := n32_id (by omega) (by omega)
      apply h2
      rw [hm, nm, nk, hw, hp, hr k (by omega) (by omega)]
      refine ⟨fun q => by omega, fun _ => ⟨fun q => by omega, fun _ => ⟨⟨by omega, by omega⟩, fun q v e => ?_, fun q => hf k (by omega) (by omega) q hj⟩⟩⟩
      subst e
      have := ih (k + 1) (by omega) (fun j a b => by
        by_cases hjk : j = k
        · rw [hjk]; exact q
        · exact hj j a (by omega))
      rw [show ((k + 1 : Nat) : Int) = (k : Int) + 1 by omega] at this
      exact this
  exact key m.toNat 0 (by omega) (fun j a b => by omega)
theorem s_plM {s : mm_M} {p c : Int} {post : Int → mm_M → Prop} (hc : s 229 (7 * p + 1) = c) (h0 : 0 ≤ p ∧ p < 30) (hc0 : 0 ≤ c ∧ c < 3) (hp : n32 p = p) {k0 : Int} (hk : 0 ≤ k0 ∧ k0 < 30) (h : s 228 (30 * c + k0) = p) (hr : ∀ j : Int, 0 ≤ j → j < k0 → n32 (s 228 (30 * c + j)) ≠ p) (hq : post k0 s) : wp_X11_placeOf 211 p s post := by
  intro L9 h9
  refine ⟨⟨by omega, by omega⟩, fun v ev => ?_⟩
  rw [show mm_rt 211 33 = 229 from rfl, hc] at ev
  subst ev
  have key : ∀ d k : Nat, (k : Int) + d = k0 → L9 v k s := by
    intro d
    induction d with
    | zero =>
      intro k hk2
      apply h9
      rw [show mm_rt 211 32 = 228 from rfl]
      have e : (k : Int) = k0 := by omega
      rw [e, h, hp]
      exact ⟨⟨by omega, by omega⟩, fun _ => hq, fun q => absurd rfl q⟩
    | succ d ih =>
      intro k hk2
      apply h9
      rw [show mm_rt 211 32 = 228 from rfl, hp]
      refine ⟨⟨by omega, by omega⟩, fun q => absurd q (hr k (by omega) (by omega)), fun _ w e => ?_⟩
      subst e
      have := ih (k + 1) (by omega)
      rw [show ((k + 1 : Nat) : Int) = (k : Int) + 1 by omega] at this
      exact this
  exact key k0.toNat 0 (by omega)
/-- is one there, in the reference -/
theorem s_here {s : mm_M} {a : Int} {post : Int → mm_M → Prop} (hR : Rel s) (ha : n32 a = a) (h1 : 0 < s 9 4 → 0 ≤ a → a < 30 → s 229 (7 * a + 2) ≠ -1 → post 1 s) (h0 : (a < 0 ∨ 30 ≤ a ∨ s (35 + a.toNat) 0 = -1) → post 0 s) : wp_X11_isHere 211 a s post := by
  have hC := hR.nC
  have k29 : n32 29 = 29 := rfl
  unfold wp_X11_isHere
  rw [hC.2.2.2, hC.1]
  refine ⟨fun q => h0 ?_, fun q => s_in (fun u v => ⟨fun z => absurd z (by decide), fun _ => ?_⟩) (fun u => ⟨fun _ => h0 (by rw [ha, m_0, k29] at u; omega), fun z => absurd m_0 z⟩)⟩
  · obtain ⟨-, -, -, -, x5⟩ := hR.2.2.2.2.2.2.1 (by omega)
    by_cases hr : 0 ≤ a ∧ a < 30
    · exact Or.inr (Or.inr (x5 a.toNat (by omega)))
    · omega
  · rw [ha, m_0] at u
    rw [ha, k29] at v
    obtain ⟨-, -, -, -, -, -, -, hP, -⟩ := hR.2.2.2.1 (by omega)
    have hp := hP a.toNat (by omega)
    rw [show ((a.toNat : Nat) : Int) = a by omega, show 29 + 6 + a.toNat = 35 + a.toNat by omega] at hp
    refine ⟨⟨by omega, by omega⟩, ?_⟩
    rw [show mm_rt 211 33 = 229 from rfl]
    dsimp only
    rw [n32_id (x := s 229 (7 * a + 2)) (by omega) (by omega)]
    exact ⟨fun z => h0 (Or.inr (Or.inr (by rw [hp.1]; exact z))), fun z => h1 (by omega) u (by omega) z⟩
/-- one who is there, by both -/
theorem Rel.pr {s : mm_M} (hR : Rel s) {a : Int} (h1 : 0 ≤ a) (h2 : a < 30) (h3 : s (35 + a.toNat) 0 ≠ -1) : 0 < s 9 4 ∧ s (35 + a.toNat) 0 = s 229 (7 * a + 2) ∧ -1 ≤ s 229 (7 * a + 2) ∧ s 229 (7 * a + 2) ≤ 2 ∧ (s 229 (7 * a + 2) = 0 → ∃ k : Int, 0 ≤ k ∧ k < s 227 (s 229 (7 * a + 1)) ∧ s 228 (30 * s 229 (7 * a + 1) + k) = a) ∧ s (35 + a.toNat) 1 = s 229 (7 * a) ∧ 0 ≤ s 229 (7 * a) ∧ s 229 (7 * a) < s 9 5 ∧ s (35 + a.toNat) 2 = s 229 (7 * a + 1) ∧ 0 ≤ s 229 (7 * a + 1) ∧ s 229 (7 * a + 1) < s 9 4 ∧ s (35 + a.toNat) 3 = s 229 (7 * a + 3) ∧ s (35 + a.toNat) 4 = s 229 (7 * a + 4) ∧ s (35 + a.toNat) 5 = s 229 (7 * a + 5) ∧ s (35 + a.toNat) 6 = s 229 (7 * a + 6) := by
  have hC := hR.nC
  have hc : 0 < s 9 4 := by
    by_cases hc : 0 < s 9 4
    · exact hc
    · obtain ⟨-, -, -, -, x5⟩ := hR.2.2.2.2.2.2.1 (by omega)
      exact absurd (x5 a.toNat (by omega)) h3
  obtain ⟨-, -, -, -, -, -, -, hP, -⟩ := hR.2.2.2.1 hc
  have hp := hP a.toNat (by omega)
  rw [show ((a.toNat : Nat) : Int) = a by omega, show 29 + 6 + a.toNat = 35 + a.toNat by omega] at hp
  obtain ⟨p1, p2, p3, p4, p5⟩ := hp
  obtain ⟨q1, q2, q3, q4, q5, q6, q7, q8, q9, q10, q11, q12, q13, q14, q15, q16, q17⟩ := p5 (by rw [← p1]; exact h3)
  exact ⟨hc, p1, p2, p3, p4, q1, q2, q3, q4, q5, q6, q7, q10, q13, q15⟩
/-- the rows: whom they hold -/
theorem Rel.rw {s : mm_M} (hR : Rel s) {c : Int} (h1 : 0 ≤ c) (h2 : c < s 9 4) : ∀ k : Int, 0 ≤ k → k < s 227 c → s 229 (7 * s 228 (30 * c + k) + 2) = 0 ∧ s 229 (7 * s 228 (30 * c + k) + 1) = c ∧ ∀ k2 : Int, 0 ≤ k2 → k2 < s 227 c → s 228 (30 * c + k) = s 228 (30 * c + k2) → k = k2 := by
  obtain ⟨-, -, -, -, -, -, hD, -⟩ := hR.2.2.2.1 (by omega)
  have q := hD c.toNat (by omega)
  rw [show ((c.toNat : Nat) : Int) = c by omega] at q
  obtain ⟨-, -, -, -, -, -, -, -, -, q6⟩ := q
  intro k a b
  exact (q6 k a b).2.2.2
/-- promise 13 -/
theorem q_person {s : mm_M} {a1 a2 : Int} (hR : Rel s) (h1 : n32 a1 = a1) (h2 : n32 a2 = a2) (post : Int → mm_M → Prop) (hp : ∀ r1 s1, Gd (wp_X11_person 211 a1 a2 s1) r1 → post r1 s1) : wp_X10_person 0 a1 a2 s post := by
  have hC := hR.nC
  unfold wp_X10_person
  rw [show mm_rt 0 5 = 29 from rfl, h2]
  refine s_who hR h1 (fun b1 b2 b3 => ⟨fun z => (by cases z), fun t ht => ?_⟩) (fun b => ⟨fun _ => hp _ _ ?_, fun t ht => (by cases ht)⟩)
  · cases ht
    obtain ⟨c0, c1, c2, c3, c4, c5, c6, c7, c8, c9, c10, c11, c12, c13, c14⟩ := hR.pr b1 b2 b3
    have n2 : n32 (s 229 (7 * a1 + 2)) = s 229 (7 * a1 + 2) := n32_id (by omega) (by omega)
    have go : ∀ r : Int, (∀ p2 : Int → mm_M → Prop, (∀ r2 s2, n32 r = n32 r2 → Rel s2 → p2 r2 s2) → ((a2 = 0 → p2 (s 229 (7 * a1 + 0)) s) ∧ (a2 = 1 → p2 (s 229 (7 * a1 + 1)) s) ∧ (a2 = 2 → p2 (s 229 (7 * a1 + 2)) s) ∧ (a2 = 3 → p2 (s 229 (7 * a1 + 3)) s) ∧ (a2 = 4 → p2 (s 229 (7 * a1 + 4)) s) ∧ (a2 = 5 → p2 (s 229 (7 * a1 + 5)) s) ∧ (a2 = 6 → (¬ s 229 (7 * a1 + 2) = 0 → p2 (-1) s) ∧ (s 229 (7 * a1 + 2) = 0 → wp_X11_placeOf 211 a1 s p2)) ∧ (a2 = 7 → p2 (s 229 (7 * a1 + 6)) s) ∧ (a2 < 0 ∨ 7 < a2 → p2 (-1) s))) → Gd (wp_X11_person 211 a1 a2 s) r := by
      intro r h p2 h3
      obtain ⟨g0, g1, g2, g3, g4, g5, g6, g7, g8⟩ := h p2 h3
      have of : ∀ (w : Int) (P : Int → mm_M → Prop), 0 ≤ w → w < 7 → P (s 229 (7 * a1 + w)) s → wp_X11_of 211 a1 w s P := fun w P x y z => ⟨⟨by omega, by omega⟩, z⟩
      unfold wp_X11_person
      refine s_here hR h1 (fun _ _ _ _ => ⟨fun _ => ?_, fun z => absurd z (by decide)⟩) (fun z => by clear c4; omega)
      rw [h2]
      refine ⟨fun q => of _ _ (by omega) (by omega) (g0 q), fun q0 => ⟨fun q => of _ _ (by omega) (by omega) (g1 q), fun q1 => ⟨fun q => of _ _ (by omega) (by omega) (g2 q), fun q2 => ⟨fun q => of _ _ (by omega) (by omega) (g3 q), fun q3 => ⟨fun q => of _ _ (by omega) (by omega) (g4 q), fun q4 => ⟨fun q => of _ _ (by omega) (by omega) (g5 q), fun q5 => ⟨fun q => of _ _ (by omega) (by omega) ?_, fun q6 => ⟨fun q => of _ _ (by omega) (by omega) (g7 q), fun q7 => g8 (by clear c4; omega)⟩⟩⟩⟩⟩⟩⟩⟩
      rw [n2]
      exact g6 q
    refine ⟨fun q6 => ?_, fun q6 => ?_⟩
    · unfold wp_X5_fact
      rw [h2]
      refine ⟨fun q => hp _ _ (go _ fun p2 h3 => ⟨fun _ => h3 _ _ (by rw [c5, Int.add_zero]) hR, fun z => by omega, fun z => by omega, fun z => by omega, fun z => by omega, fun z => by omega, fun z => by omega, fun z => by omega, fun z => by omega⟩), fun q0 => ⟨fun q => hp _ _ (go _ fun p2 h3 => ⟨fun z => by omega, fun _ => h3 _ _ (by rw [c8]) hR, fun z => by omega, fun z => by omega, fun z => by omega, fun z => by omega, fun z => by omega, fun z => by omega, fun z => by omega⟩), fun q1 => ⟨fun q => hp _ _ (go _ fun p2 h3 => ⟨fun z => by omega, fun z => by omega, fun _ => h3 _ _ (by rw [c1]) hR, fun z => by omega, fun z => by omega, fun z => by omega, fun z => by omega, fun z => by omega, fun z => by omega⟩), fun q2 => ⟨fun q => hp _ _ (go _ fun p2 h3 => ⟨fun z => by omega, fun z => by omega, fun z => by omega, fun _ => h3 _ _ (by rw [c11]) hR, fun z => by omega, fun z => by omega, fun z => by omega, fun z => by omega, fun z => by omega⟩), fun q3 => ⟨fun q => hp _ _ (go _ fun p2 h3 => ⟨fun z => by omega, fun z => by omega, fun z => by omega, fun z => by omega, fun _ => h3 _ _ (by rw [c12]) hR, fun z => by omega, fun z => by omega, fun z => by omega, fun z => by omega⟩), fun q4 => ⟨fun q => hp _ _ (go _ fun p2 h3 => ⟨fun z => by omega, fun z => by omega, fun z => by omega, fun z => by omega, fun z => by omega, fun _ => h3 _ _ (by rw [c13]) hR, fun z => by omega, fun z => by omega, fun z => by omega⟩), fun q5 => ⟨fun q => absurd q q6, fun _ => ⟨fun q => hp _ _ (go _ fun p2 h3 => ⟨fun z => by omega, fun z => by omega, fun z => by omega, fun z => by omega, fun z => by omega, fun z => by omega, fun z => by omega, fun _ => h3 _ _ (by rw [c14]) hR, fun z => by omega⟩), fun q7 => hp _ _ (go _ fun p2 h3 => ⟨fun z => by omega, fun z => by omega, fun z => by omega, fun z => by omega, fun z => by omega, fun z => by omega, fun z => by omega, fun z => by omega, fun _ => h3 _ _ rfl hR⟩)⟩⟩⟩⟩⟩⟩⟩⟩
    · unfold wp_X7_placeOf
      have ec : n32 (s (35 + a1.toNat) 2) = s (35 + a1.toNat) 2 := n32_id (by omega) (by omega)
      refine s_desk hR ec (fun u v => ⟨fun z => (by cases z), fun t ht => ?_⟩) (fun z => by omega)
      cases ht
      rw [c8]
      obtain ⟨d1, d2, d3, -, -, d6⟩ := hR.dk c9 c10
      have dr := hR.rw c9 c10
      refine s_plX (w := 66 + 2 * (s 229 (7 * a1 + 1)).toNat) (m := s 227 (s 229 (7 * a1 + 1))) (rt_d _ (by omega)).2 d1 ⟨d2, d3⟩ h1 (fun k x y => n32_id (by rw [(d6 k x y).1]; have := (d6 k x y).2; omega) (by rw [(d6 k x y).1]; have := (d6 k x y).2; omega)) (fun k x y z zz => hp _ _ (go _ fun p2 h3 => ⟨fun z => by omega, fun z => by omega, fun z => by omega, fun z => by omega, fun z => by omega, fun z => by omega, fun _ => ⟨fun q => ?_, fun q => ?_⟩, fun z => by omega, fun z => by omega⟩)) (fun z => hp _ _ (go _ fun p2 h3 => ⟨fun z => by omega, fun z => by omega, fun z => by omega, fun z => by omega, fun z => by omega, fun z => by omega, fun _ => ⟨fun q => h3 _ _ rfl hR, fun q => ?_⟩, fun z => by omega, fun z => by omega⟩))
      · have := (dr k x y).1
        rw [(d6 k x y).1] at z
        rw [z] at this
        exact absurd this q
      · rw [(d6 k x y).1] at z
        refine s_plM (k0 := k) rfl ⟨b1, b2⟩ (by omega) h1 (by omega) z (fun j j1 j2 => ?_) (h3 _ _ rfl hR)
        have e := d6 j j1 (by omega)
        rw [n32_id (x := s 228 (30 * s 229 (7 * a1 + 1) + j)) (by omega) (by omega), ← e.1]
        exact zz j j1 j2
      · obtain ⟨k, x, y, w⟩ := c4 q
        exact absurd (by rw [(d6 k x y).1]; exact w) (z k x y)
  · intro p2 h3
    unfold wp_X11_person
    refine s_here hR h1 (fun c0 c1 c2 c3 => ?_) (fun _ => ⟨fun z => absurd m_0 z, fun _ => h3 _ _ rfl hR⟩)
    obtain ⟨-, -, -, -, -, -, -, hP, -⟩ := hR.2.2.2.1 c0
    have hp := hP a1.toNat (by omega)
    rw [show ((a1.toNat : Nat) : Int) = a1 by omega, show 29 + 6 + a1.toNat = 35 + a1.toNat by omega] at hp
    have e := hp.1
    clear hp hP
    omega
