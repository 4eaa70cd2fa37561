/-! what is only read -/
theorem rt_d : ∀ c, c < 3 → mm_rt 31 c = 65 + 2 * c ∧ mm_rt (65 + 2 * c) 0 = 66 + 2 * c := by decide +kernel
theorem rt_p : ∀ p, p < 30 → mm_rt 30 p = 35 + p := by decide +kernel
theorem Rel.nC {s : mm_M} (h : Rel s) : n32 (s 9 4) = s 9 4 ∧ 0 ≤ s 9 4 ∧ s 9 4 ≤ 3 ∧ s 211 12 = s 9 4 := by
  have hW := h.2.1
  exact ⟨n32_id (by have := hW.1; omega) (by have := hW.2.1; omega), hW.1, hW.2.1, hW.2.2.2.2.1⟩
theorem Rel.nS {s : mm_M} (h : Rel s) : n32 (s 9 5) = s 9 5 ∧ 0 ≤ s 9 5 ∧ s 9 5 ≤ 5 ∧ s 211 14 = s 9 5 := by
  have hW := h.2.1
  exact ⟨n32_id (by have := hW.2.2.1; omega) (by have := hW.2.2.2.1; omega), hW.2.2.1, hW.2.2.2.1, hW.2.2.2.2.2.1⟩
theorem Rel.st {s : mm_M} (h : Rel s) (p : Nat) (hp : p < 30) : -1 ≤ s (35 + p) 0 ∧ s (35 + p) 0 ≤ 2 := by
  by_cases hc : 0 < s 9 4
  · obtain ⟨-, -, -, -, -, -, -, hP, -⟩ := h.2.2.2.1 hc
    have q := hP p hp
    have q1 : s (35 + p) 0 = s 229 (7 * p + 2) := q.1
    rw [q1]
    exact ⟨q.2.1, q.2.2.1⟩
  · have := h.2.2.2.2.2.2.1 (by have := h.nC; omega)
    rw [this.2.2.2.2 p hp]
    omega
theorem s_hasC {s : mm_M} {a : Int} {post : Int → mm_M → Prop} (hR : Rel s) (h1 : 0 ≤ n32 a → n32 a < s 9 4 → post 1 s) (h0 : n32 a < 0 ∨ s 9 4 ≤ n32 a → post 0 s) : wp_X9_hasCounter 9 a s post := by
  obtain ⟨c1, c2, c3, -⟩ := hR.nC
  unfold wp_X9_hasCounter
  rw [c1]
  exact ⟨fun h => h0 (Or.inl h), fun h => ⟨fun h2 => h0 (Or.inr h2), fun h2 => ⟨fun h3 => by omega, fun _ => h1 (by omega) (by omega)⟩⟩⟩
theorem s_hasS {s : mm_M} {a : Int} {post : Int → mm_M → Prop} (hR : Rel s) (h1 : 0 ≤ n32 a → n32 a < s 9 5 → post 1 s) (h0 : n32 a < 0 ∨ s 9 5 ≤ n32 a → post 0 s) : wp_X9_hasSort 9 a s post := by
  obtain ⟨c1, c2, c3, -⟩ := hR.nS
  unfold wp_X9_hasSort
  rw [c1]
  exact ⟨fun h => h0 (Or.inl h), fun h => ⟨fun h2 => h0 (Or.inr h2), fun h2 => ⟨fun h3 => by omega, fun _ => h1 (by omega) (by omega)⟩⟩⟩
theorem s_isC {s : mm_M} {a : Int} {post : Int → mm_M → Prop} (hR : Rel s) (h1 : 0 ≤ n32 a → n32 a < s 9 4 → post 1 s) (h0 : n32 a < 0 ∨ s 9 4 ≤ n32 a → post 0 s) : wp_X11_isCounter 211 a s post := by
  obtain ⟨c1, c2, c3, c4⟩ := hR.nC
  unfold wp_X11_isCounter
  rw [c4]
  have e : n32 (s 9 4 - 1) = s 9 4 - 1 := n32_id (by omega) (by omega)
  exact s_in (fun a b => ⟨Or.inr rfl, h1 (by rw [m_0] at a; omega) (by rw [e] at b; omega)⟩) (fun h => ⟨Or.inl rfl, h0 (by rw [m_0, e] at h; omega)⟩)
theorem s_isS {s : mm_M} {a : Int} {post : Int → mm_M → Prop} (hR : Rel s) (h1 : 0 ≤ n32 a → n32 a < s 9 5 → post 1 s) (h0 : n32 a < 0 ∨ s 9 5 ≤ n32 a → post 0 s) : wp_X11_isSort 211 a s post := by
  obtain ⟨c1, c2, c3, c4⟩ := hR.nS
  unfold wp_X11_isSort
  rw [c4]
  have e : n32 (s 9 5 - 1) = s 9 5 - 1 := n32_id (by omega) (by omega)
  exact s_in (fun a b => ⟨Or.inr rfl, h1 (by rw [m_0] at a; omega) (by rw [e] at b; omega)⟩) (fun h => ⟨Or.inl rfl, h0 (by rw [m_0, e] at h; omega)⟩)
theorem s_ofC {s : mm_M} {a w : Int} {post : Int → mm_M → Prop} (hR : Rel s) (ha : n32 a = a) (h : 0 ≤ a ∧ a < s 9 4) (hw : 0 ≤ w ∧ w < 3) (hp : post (s 10 (3 * a + w)) s) : wp_X9_ofCounter 9 a w s post := by
  obtain ⟨c1, c2, c3, c4⟩ := hR.nC
  have ew : n32 w = w := n32_id (by omega) (by omega)
  unfold wp_X9_ofCounter
  refine s_hasC hR (fun _ _ => ⟨fun q => absurd q (by decide), fun _ => ?_⟩) (fun q => by rw [ha] at q; omega)
  rw [ew, show mm_rt 9 0 = 10 from rfl]
  exact ⟨fun q => by omega, fun _ => ⟨fun _ => ⟨⟨by omega, by omega⟩, by rw [show a * 3 + w = 3 * a + w by omega]; exact hp⟩, fun q => by omega⟩⟩
theorem s_ofS {s : mm_M} {a w : Int} {post : Int → mm_M → Prop} (hR : Rel s) (ha : n32 a = a) (h : 0 ≤ a ∧ a < s 9 5) (hw : 0 ≤ w ∧ w < 6) (hp : post (s 11 (6 * a + w)) s) : wp_X9_ofSort 9 a w s post := by
  obtain ⟨c1, c2, c3, c4⟩ := hR.nS
  have ew : n32 w = w := n32_id (by omega) (by omega)
  unfold wp_X9_ofSort
  refine s_hasS hR (fun _ _ => ⟨fun q => absurd q (by decide), fun _ => ?_⟩) (fun q => by rw [ha] at q; omega)
  rw [ew, show mm_rt 9 1 = 11 from rfl]
  exact ⟨fun q => by omega, fun _ => ⟨fun _ => ⟨⟨by omega, by omega⟩, by rw [show a * 6 + w = 6 * a + w by omega]; exact hp⟩, fun q => by omega⟩⟩
theorem s_desk {s : mm_M} {a : Int} {post : Option Nat → mm_M → Prop} (hR : Rel s) (ha : n32 a = a) (h1 : 0 ≤ a → a < s 9 4 → post (some (65 + 2 * a.toNat)) s) (h0 : a < 0 ∨ s 9 4 ≤ a → post none s) : wp_X7_deskOf 29 a s post := by
  obtain ⟨c1, c2, c3, c4⟩ := hR.nC
  unfold wp_X7_deskOf
  rw [show mm_rt 29 0 = 9 from rfl, show mm_rt 29 4 = 31 from rfl]
  refine s_hasC hR (fun a1 a2 => ⟨fun q => absurd q (by decide), fun _ => ?_⟩) (fun q => ⟨fun _ => h0 (by rw [ha] at q; exact q), fun q => absurd m_0 q⟩)
  rw [ha] at a1 a2
  exact ⟨⟨by omega, by omega⟩, by rw [(rt_d a.toNat (by omega)).1]; exact h1 a1 a2⟩
theorem s_who {s : mm_M} {a : Int} {post : Option Nat → mm_M → Prop} (hR : Rel s) (ha : n32 a = a) (h1 : 0 ≤ a → a < 30 → s (35 + a.toNat) 0 ≠ -1 → post (some (35 + a.toNat)) s) (h0 : (a < 0 ∨ 30 ≤ a ∨ s (35 + a.toNat) 0 = -1) → post none s) : wp_X7_whoIsThere 29 a s post := by
  unfold wp_X7_whoIsThere
  rw [ha, show mm_rt 29 3 = 30 from rfl]
  refine ⟨fun h => h0 (Or.inl h), fun h => ⟨fun h2 => ⟨⟨by omega, h2⟩, ?_⟩, fun h2 => h0 (Or.inr (Or.inl (by omega)))⟩⟩
  rw [rt_p a.toNat (by omega)]
  have e := hR.st a.toNat (by omega)
  rw [n32_id (x := s (35 + a.toNat) 0) (by omega) (by omega)]
  exact ⟨fun q => h1 (by omega) h2 q, fun q => h0 (Or.inr (Or.inr q))⟩
/-- a counter of the shop that goes on -/
theorem Rel.dk {s : mm_M} (hR : Rel s) {a : Int} (h1 : 0 ≤ a) (h2 : a < s 9 4) : s (65 + 2 * a.toNat) 1 = s 227 a ∧ 0 ≤ s 227 a ∧ s 227 a ≤ 30 ∧ s (65 + 2 * a.toNat) 2 = s 225 a ∧ s (65 + 2 * a.toNat) 3 = s 226 a ∧ ∀ k : Int, 0 ≤ k → k < s 227 a → s (66 + 2 * a.toNat) k = s 228 (30 * a + k) ∧ 0 ≤ s 228 (30 * a + k) ∧ s 228 (30 * a + k) < 30 := by
  obtain ⟨-, -, -, -, -, -, hD, -⟩ := hR.2.2.2.1 (by omega)
  have ec : ((a.toNat : Nat) : Int) = a := by omega
  have q := hD a.toNat (by omega)
  rw [ec, show 29 + 36 + 2 * a.toNat = 65 + 2 * a.toNat by omega, show 29 + 37 + 2 * a.toNat = 66 + 2 * a.toNat by omega] at q
  obtain ⟨q1, q2, q3, q4, q5, -, -, -, -, q6⟩ := q
  exact ⟨q1, q2, q3, q4, q5, fun k a b => ⟨(q6 k a b).1, (q6 k a b).2.1, (q6 k a b).2.2.1⟩⟩
theorem m_m1 : n32 (-1) = -1 := rfl
/-- promise 15 -/
theorem q_inside {s : mm_M} {a1 a2 : Int} (hR : Rel s) (h1 : n32 a1 = a1) (h2 : n32 a2 = a2) (post : Int → mm_M → Prop) (hp : ∀ r1 s1, Gd (wp_X11_inside 211 a1 a2 s1) r1 → post r1 s1) : wp_X10_inside 0 a1 a2 s post := by
  unfold wp_X10_inside
  rw [show mm_rt 0 5 = 29 from rfl]
  refine s_desk hR h1 (fun b1 b2 => ⟨fun q => (by cases q), fun t ht => ?_⟩) (fun b => ⟨fun _ => hp _ _ ?_, fun t ht => by cases ht⟩)
  · cases ht
    obtain ⟨d1, d2, d3, -, -, d6⟩ := hR.dk b1 b2
    have hC := hR.nC
    have nd : n32 (s 227 a1) = s 227 a1 := n32_id (by omega) (by omega)
    have nd1 : n32 (s 227 a1 - 1) = s 227 a1 - 1 := n32_id (by omega) (by omega)
    have no : (a2 < 0 ∨ s 227 a1 ≤ a2) → Gd (wp_X11_inside 211 a1 a2 s) (-1) := by
      intro h p2 h3
      unfold wp_X11_inside
      refine s_isC hR (fun _ _ => ⟨fun q => absurd q (by decide), fun _ => ⟨⟨b1, by omega⟩, ?_⟩⟩) (fun q => by rw [h1] at q; omega)
      rw [show mm_rt 211 31 = 227 from rfl]
      exact s_in (fun u v => by rw [h2, m_0] at u; rw [h2, nd1] at v; omega) (fun _ => ⟨fun _ => h3 _ _ rfl hR, fun q => absurd m_0 q⟩)
    unfold wp_X2_at
    rw [d1, h2, nd, (rt_d a1.toNat (by omega)).2]
    refine ⟨fun q => hp _ _ (no (Or.inl q)), fun q1 => ⟨fun q => hp _ _ (no (Or.inr q)), fun q2 => ⟨fun q => by omega, fun q3 => ⟨⟨by omega, by omega⟩, hp _ _ ?_⟩⟩⟩⟩
    intro p2 h3
    unfold wp_X11_inside
    refine s_isC hR (fun _ _ => ⟨fun q => absurd q (by decide), fun _ => ⟨⟨b1, by omega⟩, ?_⟩⟩) (fun q => by rw [h1] at q; omega)
    rw [show mm_rt 211 31 = 227 from rfl, show mm_rt 211 32 = 228 from rfl]
    refine s_in (fun u v => ⟨fun q => absurd q (by decide), fun _ => ⟨⟨by omega, by omega⟩, h3 _ _ ?_ hR⟩⟩) (fun q => by rw [h2, m_0, nd1] at q; omega)
    rw [(d6 a2 (by omega) (by omega)).1]
  · intro p2 h3
    unfold wp_X11_inside
    exact s_isC hR (fun u v => by rw [h1] at u v; omega) (fun _ => ⟨fun _ => h3 _ _ rfl hR, fun q => absurd m_0 q⟩)
/-- promise 7 -/
theorem q_counter {s : mm_M} {a1 a2 : Int} (hR : Rel s) (h1 : n32 a1 = a1) (h2 : n32 a2 = a2) (post : Int → mm_M → Prop) (hp : ∀ r1 s1, Gd (wp_X11_counter 211 a1 a2 s1) r1 → post r1 s1) : wp_X10_counter 0 a1 a2 s post := by
  unfold wp_X10_counter
  rw [show mm_rt 0 5 = 29 from rfl, show mm_rt 0 1 = 9 from rfl, h2]
  refine s_desk hR h1 (fun b1 b2 => ⟨fun q => (by cases q), fun t ht => ?_⟩) (fun b => ⟨fun _ => hp _ _ ?_, fun t ht => by cases ht⟩)
  · cases ht
    obtain ⟨d1, d2, d3, d4, d5, -⟩ := hR.dk b1 b2
    have hC := hR.nC
    have hW := hR.2.1
    have hc : ∀ j : Int, 0 ≤ j → j < 3 * s 9 4 → s 217 j = s 10 j := hW.2.2.2.2.2.2.2.2.2.2.2.2.2.2.2.1
    have go : ∀ r : Int, (∀ p2 : Int → mm_M → Prop, (∀ r2 s2, n32 r = n32 r2 → Rel s2 → p2 r2 s2) → ((a2 = 0 → ((0 ≤ 3 * a1 ∧ 3 * a1 < 9) ∧ p2 (s 217 (3 * a1)) s)) ∧ (¬ a2 = 0 → ((a2 = 1 → ((0 ≤ (3 * a1) + 1 ∧ (3 * a1) + 1 < 9) ∧ p2 (s 217 ((3 * a1) + 1)) s)) ∧ (¬ a2 = 1 → ((a2 = 2 → ((0 ≤ a1 ∧ a1 < 3) ∧ p2 (s 225 a1) s)) ∧ (¬ a2 = 2 → ((a2 = 3 → ((0 ≤ a1 ∧ a1 < 3) ∧ p2 (s 227 a1) s)) ∧ (¬ a2 = 3 → ((a2 = 4 → ((0 ≤ a1 ∧ a1 < 3) ∧ p2 (s 226 a1) s)) ∧ (¬ a2 = 4 → p2 (-1) s))))))))))) → Gd (wp_X11_counter 211 a1 a2 s) r := by
      intro r h p2 h3
      unfold wp_X11_counter
      refine s_isC hR (fun _ _ => ⟨fun _ => ?_, fun q => absurd q (by decide)⟩) (fun q => by rw [h1] at q; omega)
      rw [h2]
      exact h p2 h3
    refine ⟨fun q => s_ofC hR h1 ⟨b1, b2⟩ (by omega) (hp _ _ (go _ (fun p2 h3 => ?_))), fun q => ⟨fun q1 => s_ofC hR h1 ⟨b1, b2⟩ (by omega) (hp _ _ (go _ (fun p2 h3 => ?_))), fun q1 => ⟨fun q2 => hp _ _ (go _ (fun p2 h3 => ?_)), fun q2 => ⟨fun q3 => hp _ _ (go _ (fun p2 h3 => ?_)), fun q3 => ⟨fun q4 => hp _ _ (go _ (fun p2 h3 => ?_)), fun q4 => hp _ _ (go _ (fun p2 h3 => ?_))⟩⟩⟩⟩⟩
    · exact ⟨fun _ => ⟨⟨by omega, by omega⟩, h3 _ _ (by rw [hc _ (by omega) (by omega), show 3 * a1 + 0 = 3 * a1 by omega]) hR⟩, fun z => absurd q z⟩
    · exact ⟨fun z => absurd z q, fun _ => ⟨fun _ => ⟨⟨by omega, by omega⟩, h3 _ _ (by rw [hc _ (by omega) (by omega)]) hR⟩, fun z => absurd q1 z⟩⟩
    · exact ⟨fun z => absurd z q, fun _ => ⟨fun z => absurd z q1, fun _ => ⟨fun _ => ⟨⟨by omega, by omega⟩, h3 _ _ (by rw [d4]) hR⟩, fun z => absurd q2 z⟩⟩⟩
    · exact ⟨fun z => absurd z q, fun _ => ⟨fun z => absurd z q1, fun _ => ⟨fun z => absurd z q2, fun _ => ⟨fun _ => ⟨⟨by omega, by omega⟩, h3 _ _ (by rw [d1]) hR⟩, fun z => absurd q3 z⟩⟩⟩⟩
    · exact ⟨fun z => absurd z q, fun _ => ⟨fun z => absurd z q1, fun _ => ⟨fun z => absurd z q2, fun _ => ⟨fun z => absurd z q3, fun _ => ⟨fun _ => ⟨⟨by omega, by omega⟩, h3 _ _ (by rw [d5]) hR⟩, fun z => absurd q4 z⟩⟩⟩⟩⟩
    · exact ⟨fun z => absurd z q, fun _ => ⟨fun z => absurd z q1, fun _ => ⟨fun z => absurd z q2, fun _ => ⟨fun z => absurd z q3, fun _ => ⟨fun z => absurd z q4, fun _ => h3 _ _ rfl hR⟩⟩⟩⟩⟩
  · intro p2 h3
    unfold wp_X11_counter
    exact s_isC hR (fun u v => by rw [h1] at u v; omega) (fun _ => ⟨fun q => absurd m_0 q, fun _ => h3 _ _ rfl hR⟩)
