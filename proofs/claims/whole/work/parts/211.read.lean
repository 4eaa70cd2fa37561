theorem Rel.bk {s : mm_M} (hR : Rel s) : s 33 1 = s 211 35 ∧ 0 ≤ s 211 35 ∧ s 211 35 ≤ 20 ∧ ∀ j : Int, 0 ≤ j → j < 5 * s 211 35 → s 34 j = s 231 j := by
  by_cases hc : 0 < s 9 4
  · obtain ⟨-, -, -, -, -, -, -, -, -, -, h1, h2, h3, h4⟩ := hR.2.2.2.1 hc
    exact ⟨h1, h2, h3, h4⟩
  · obtain ⟨-, -, h3, h4, -⟩ := hR.2.2.2.2.2.2.1 (by have := hR.nC; omega)
    rw [h3, h4]
    exact ⟨rfl, by omega, by omega, fun j a b => by omega⟩
theorem m_4 : n32 4 = 4 := rfl
theorem m_2 : n32 2 = 2 := rfl
/-- Book.fact, in range -/
theorem s_fact {s : mm_M} {a w : Int} {post : Int → mm_M → Prop} (hR : Rel s) (h1 : n32 a = a) (h2 : n32 w = w) (hy : 0 ≤ a → a < s 211 35 → 0 ≤ w → w < 5 → post (s 231 (5 * a + w)) s) (hn : (a < 0 ∨ s 211 35 ≤ a ∨ w < 0 ∨ 5 ≤ w) → post (-1) s) : wp_X0_fact 33 a w s post := by
  obtain ⟨b1, b2, b3, b4⟩ := hR.bk
  have nb : n32 (s 211 35) = s 211 35 := n32_id (by omega) (by omega)
  unfold wp_X0_fact
  rw [h1, h2, b1, nb, show mm_rt 33 0 = 34 from rfl]
  refine ⟨fun q => hn (Or.inl q), fun q1 => ⟨fun q => hn (Or.inr (Or.inl q)), fun q2 => ⟨fun q => by omega, fun q3 => ⟨fun q => hn (Or.inr (Or.inr (Or.inl q))), fun q4 => ⟨fun q5 => ⟨⟨by omega, by omega⟩, ?_⟩, fun q => hn (Or.inr (Or.inr (Or.inr (by omega))))⟩⟩⟩⟩⟩
  rw [b4 _ (by omega) (by omega), show a * 5 + w = 5 * a + w by omega]
  exact hy (by omega) (by omega) (by omega) q5
/-- promise 22 -/
theorem q_book {s : mm_M} {a1 a2 : Int} (hR : Rel s) (h1 : n32 a1 = a1) (h2 : n32 a2 = a2) (post : Int → mm_M → Prop) (hp : ∀ r1 s1, Gd (wp_X11_book 211 a1 a2 s1) r1 → post r1 s1) : wp_X10_book 0 a1 a2 s post := by
  obtain ⟨b1, b2, b3, b4⟩ := hR.bk
  have nb : n32 (s 211 35 - 1) = s 211 35 - 1 := n32_id (by omega) (by omega)
  unfold wp_X10_book
  rw [show mm_rt 0 5 = 29 from rfl, show mm_rt 29 6 = 33 from rfl, h1]
  refine ⟨fun q => ?_, fun q => hp _ _ ?_⟩
  · refine s_fact hR h1 h2 (fun c1 c2 c3 c4 => hp _ _ ?_) (fun c => hp _ _ ?_)
    · intro p2 h3
      unfold wp_X11_book
      rw [h1, show mm_rt 211 36 = 231 from rfl]
      refine ⟨fun _ => s_in (fun _ _ => ⟨fun z => absurd z (by decide), fun _ => s_in (fun _ _ => ⟨fun z => absurd z (by decide), fun _ => ⟨⟨by omega, by omega⟩, h3 _ _ rfl hR⟩⟩) (fun z => by rw [h2, m_0, m_4] at z; omega)⟩) (fun z => by rw [h1, m_0, nb] at z; omega), fun z => absurd z q⟩
    · intro p2 h3
      unfold wp_X11_book
      rw [h1, show mm_rt 211 36 = 231 from rfl]
      refine ⟨fun _ => s_in (fun u v => ⟨fun z => absurd z (by decide), fun _ => s_in (fun u2 v2 => ?_) (fun _ => ⟨fun _ => h3 _ _ rfl hR, fun z => absurd m_0 z⟩)⟩) (fun _ => ⟨fun _ => h3 _ _ rfl hR, fun z => absurd m_0 z⟩), fun z => absurd z q⟩
      rw [h1, m_0] at u
      rw [h1, nb] at v
      rw [h2, m_0] at u2
      rw [h2, m_4] at v2
      omega
  · intro p2 h3
    unfold wp_X11_book
    rw [h1]
    exact ⟨fun z => absurd q z, fun _ => h3 _ _ (by rw [b1]) hR⟩
/-- who is meant by a law of places -/
def pb (l n : Int) : Int := if l = 0 then 0 else if l = 2 then Int.tdiv (n32 n) 2 else n - 1
theorem s_pbX {s : mm_M} {l n : Int} {post : Int → mm_M → Prop} (h : n32 l = l) (hp : post (pb l n) s) : wp_X10_placeBy l n s post := by
  unfold wp_X10_placeBy
  unfold pb at hp
  rw [h]
  refine ⟨fun q => ⟨fun q2 => ?_, fun q2 => ?_⟩, fun q => ?_⟩
  · rw [if_neg q, if_neg q2] at hp; exact hp
  · rw [if_neg q, if_pos q2] at hp; exact hp
  · rw [if_pos q] at hp; exact hp
theorem s_pbM {s : mm_M} {l n : Int} {post : Int → mm_M → Prop} (h : n32 l = l) (hp : post (pb l n) s) : wp_X11_placeBy l n s post := s_pbX (post := post) h hp
/-- how many of the first k entries are out of order -/
def jf (b : Int → Int) (c l : Int) : Nat → Int
  | 0 => 0
  | k + 1 => if n32 (b (5 * (k : Int) + 1)) = c ∧ ¬ n32 (b (5 * (k : Int) + 4)) = n32 (pb l (b (5 * (k : Int) + 3))) then jf b c l k + 1 else jf b c l k
theorem jf_s (b : Int → Int) (c l : Int) (k : Nat) : jf b c l (k + 1) = if n32 (b (5 * (k : Int) + 1)) = c ∧ ¬ n32 (b (5 * (k : Int) + 4)) = n32 (pb l (b (5 * (k : Int) + 3))) then jf b c l k + 1 else jf b c l k := rfl
theorem s_out {s : mm_M} {a l : Int} {post : Int → mm_M → Prop} (hR : Rel s) (h1 : n32 a = a) (h2 : n32 l = l) (hp : post (jf (s 231) a l (s 211 35).toNat) s) : wp_X0_outOfOrder 33 a l s post := by
  obtain ⟨b1, b2, b3, b4⟩ := hR.bk
  intro L5 L30 h5 h30
  have key : ∀ d k : Nat, k + d = (s 211 35).toNat → L5 (jf (s 231) a l k) k s := by
    intro d
    induction d with
    | zero =>
      intro k hk
      apply h5
      have : k = (s 211 35).toNat := by omega
      rw [b1, n32_id (x := s 211 35) (by omega) (by omega), n32_id (x := (k : Int)) (by omega) (by omega)]
      refine ⟨fun _ => by rw [this]; exact hp, fun q => by omega⟩
    | succ d ih =>
      intro k hk
      have ek : n32 (k : Int) = k := n32_id (by omega) (by omega)
      have nx := ih (k + 1) (by omega)
      rw [jf_s] at nx
      have ec : ((k + 1 : Nat) : Int) = (k : Int) + 1 := by omega
      rw [ec] at nx
      apply h5
      rw [b1, n32_id (x := s 211 35) (by omega) (by omega), ek, h1]
      refine ⟨fun q => by omega, fun _ => s_fact hR ek m_1 (fun _ _ _ _ => ⟨fun q => ?_, fun q => ?_⟩) (fun q => by omega)⟩
      · rw [if_neg (fun z => q z.1)] at nx
        apply h30
        intro v5 e5
        subst e5
        exact ⟨fun _ v e => by subst e; exact nx, fun z => absurd m_0 z⟩
      · apply h30
        intro v5 e5
        subst e5
        refine ⟨fun z => absurd z (by decide), fun _ => s_fact hR ek m_4 (fun _ _ _ _ => s_fact hR ek (rfl : n32 3 = 3) (fun _ _ _ _ => s_pbX h2 ⟨fun z => ?_, fun z => ?_⟩) (fun q => by omega)) (fun q => by omega)⟩
        · intro v e
          subst e
          rw [if_neg (fun y => y.2 z)] at nx
          exact nx
        · intro v e w e2
          subst e; subst e2
          rw [if_pos ⟨q, z⟩] at nx
          exact nx
  exact key (s 211 35).toNat 0 (by omega)
/-- promise 23 -/
theorem q_judge {s : mm_M} {a1 a2 : Int} (hR : Rel s) (h1 : n32 a1 = a1) (h2 : n32 a2 = a2) (post : Int → mm_M → Prop) (hp : ∀ r1 s1, Gd (wp_X11_judge 211 a1 a2 s1) r1 → post r1 s1) : wp_X10_judge 0 a1 a2 s post := by
  obtain ⟨b1, b2, b3, b4⟩ := hR.bk
  unfold wp_X10_judge
  rw [show mm_rt 0 1 = 9 from rfl, show mm_rt 0 5 = 29 from rfl, show mm_rt 29 6 = 33 from rfl, h2]
  have no : (a1 < 0 ∨ s 9 4 ≤ a1 ∨ a2 < 0 ∨ 2 < a2) → Gd (wp_X11_judge 211 a1 a2 s) (-1) := by
    intro h p2 h3 L24 h24
    refine s_isC hR (fun u v => ⟨fun z => absurd z (by decide), fun _ => s_in (fun u2 v2 => ?_) (fun _ => ⟨fun z => absurd m_0 z, fun _ => h3 _ _ rfl hR⟩)⟩) (fun _ => ⟨fun _ => h3 _ _ rfl hR, fun z => absurd m_0 z⟩)
    rw [h1] at u v
    rw [h2, m_0] at u2
    rw [h2, m_2] at v2
    omega
  refine s_hasC hR (fun u v => ⟨fun z => absurd z (by decide), fun _ => ⟨fun q => hp _ _ (no (by omega)), fun q => ⟨fun q2 => s_out hR h1 h2 (hp _ _ ?_), fun q2 => hp _ _ (no (by omega))⟩⟩⟩) (fun z => ⟨fun _ => hp _ _ (no (by rw [h1] at z; omega)), fun z => absurd m_0 z⟩)
  rw [h1] at u v
  intro p2 h3 L24 h24
  refine s_isC hR (fun _ _ => ⟨fun z => absurd z (by decide), fun _ => s_in (fun _ _ => ⟨fun _ => ?_, fun z => absurd z (by decide)⟩) (fun z => by rw [h2, m_0, m_2] at z; omega)⟩) (fun z => by rw [h1] at z; omega)
  have key : ∀ d k : Nat, k + d = (s 211 35).toNat → L24 (jf (s 231) a1 a2 k) k s := by
    intro d
    induction d with
    | zero =>
      intro k hk
      apply h24
      have : k = (s 211 35).toNat := by omega
      rw [n32_id (x := s 211 35) (by omega) (by omega), n32_id (x := (k : Int)) (by omega) (by omega)]
      refine ⟨fun _ => h3 _ _ (by rw [this]) hR, fun q => by omega⟩
    | succ d ih =>
      intro k hk
      have ek : n32 (k : Int) = k := n32_id (by omega) (by omega)
      have nx := ih (k + 1) (by omega)
      rw [jf_s] at nx
      have ec : ((k + 1 : Nat) : Int) = (k : Int) + 1 := by omega
      rw [ec] at nx
      apply h24
      rw [n32_id (x := s 211 35) (by omega) (by omega), ek, h1, show mm_rt 211 36 = 231 from rfl]
      refine ⟨fun q => by omega, fun _ => ⟨⟨by omega, by omega⟩, fun q => ?_, fun q => ⟨⟨by omega, by omega⟩, ⟨by omega, by omega⟩, s_pbM h2 ⟨fun z => ?_, fun z => ?_⟩⟩⟩⟩
      · intro v e w e2
        subst e; subst e2
        rw [if_neg (fun z => q z.1)] at nx
        rw [Int.add_zero]
        exact nx
      · intro v e w e2
        subst e; subst e2
        rw [if_neg (fun y => y.2 z)] at nx
        rw [Int.add_zero]
        exact nx
      · intro v e w e2
        subst e; subst e2
        rw [if_pos ⟨q, z⟩] at nx
        exact nx
  exact key (s 211 35).toNat 0 (by omega)
/-- promise 17 -/
theorem q_comer {s : mm_M} {a1 a2 : Int} (hR : Rel s) (h1 : n32 a1 = a1) (h2 : n32 a2 = a2) (post : Int → mm_M → Prop) (hp : ∀ r1 s1, Gd (wp_X11_comer 211 a1 a2 s1) r1 → post r1 s1) : wp_X10_comer 0 a1 a2 s post := by
  obtain ⟨c1, c2, c3, c4⟩ := hR.2.2.2.2.2.1
  have nn : n32 (s 199 8) = s 199 8 := n32_id (by omega) (by omega)
  have k200 : n32 200 = 200 := rfl
  have k20 : n32 20 = 20 := rfl
  unfold wp_X10_comer
  rw [show mm_rt 0 8 = 199 from rfl]
  -- the reference refuses too
  have no : (8 ≤ s 199 8 ∨ a1 < 0 ∨ 200 < a1 ∨ a2 < 1 ∨ 20 < a2 ∨ (0 < s 199 8 ∧ a1 < s 200 (s 199 8 - 1))) → Gd (wp_X11_comer 211 a1 a2 s) (-1) := by
    intro h p2 h3 L54 h54
    refine s_in (fun u v => ⟨fun z => absurd z (by decide), fun _ => s_in (fun u2 v2 => ⟨fun z => absurd z (by decide), fun _ => ?_⟩) (fun _ => ⟨fun _ => h3 _ _ rfl hR, fun z => absurd m_0 z⟩)⟩) (fun _ => ⟨fun _ => h3 _ _ rfl hR, fun z => absurd m_0 z⟩)
    rw [h1, m_0] at u
    rw [h1, k200] at v
    rw [h2, m_1] at u2
    rw [h2, k20] at v2
    rw [c3, nn, show mm_rt 211 39 = 232 from rfl, h1]
    refine ⟨fun _ => h3 _ _ rfl hR, fun q => ⟨fun q2 => by omega, fun q2 => ⟨⟨by omega, by omega⟩, ?_⟩⟩⟩
    have d := c4 (s 199 8 - 1) (by omega) (by omega)
    rw [d.1, n32_id (x := s 200 (s 199 8 - 1)) (by omega) (by omega)]
    exact ⟨fun q3 => by omega, fun _ => h3 _ _ rfl hR⟩
  intro L64 h64
  have yes : 0 ≤ a1 → a1 ≤ 200 → 1 ≤ a2 → a2 ≤ 20 → s 199 8 < 8 → (0 < s 199 8 → s 200 (s 199 8 - 1) ≤ a1) → L64 s := by
    intro v1 v2 v3 v4 v5 v6
    apply h64
    rw [show mm_rt 199 2 = 200 from rfl, show mm_rt 199 3 = 201 from rfl]
    refine ⟨⟨by omega, by omega⟩, fun t1 e1 => ?_⟩
    have g1 : t1 199 8 = s 199 8 := by rw [e1, up_c (by decide)]
    rw [g1]
    refine ⟨⟨by omega, by omega⟩, fun t2 e2 t3 e3 => hp _ _ ?_⟩
    have g2 : t2 199 8 = s 199 8 := by rw [e2, up_c (by decide), g1]
    have f38 : t3 211 38 = s 199 8 := by rw [e3, up_c (by decide), e2, up_c (by decide), e1, up_c (by decide), c3]
    have f8 : t3 199 8 = s 199 8 + 1 := by rw [e3, up_e, g2]
    have fo : ∀ a : Nat, a ≠ 199 → a ≠ 200 → a ≠ 201 → t3 a = s a := fun a x y z => by rw [e3, up_c x, e2, up_c z, e1, up_c y]
    have f9 : ∀ j : Int, j ≠ 8 → t3 199 j = s 199 j := fun j x => by rw [e3, up_n (Or.inr x), e2, up_c (by decide), e1, up_c (by decide)]
    have f0 : t3 200 = mm_up s 200 (s 199 8) a1 200 := by rw [e3, up_c (by decide), e2, up_c (by decide), e1]
    have fz : t3 201 = mm_up s 201 (s 199 8) a2 201 := by
      rw [e3, up_c (by decide), e2, e1]
      funext j
      unfold mm_up
      by_cases hj : j = s 199 8
      · rw [if_pos ⟨rfl, hj⟩, if_pos ⟨rfl, hj⟩]
      · rw [if_neg (fun q => hj q.2), if_neg (fun q => by have := q.1; omega), if_neg (fun q => hj q.2)]
    intro p2 h3 L54 h54
    refine s_in (fun _ _ => ⟨fun z => absurd z (by decide), fun _ => s_in (fun _ _ => ⟨fun z => absurd z (by decide), fun _ => ?_⟩) (fun z => by rw [h2, m_1, k20] at z; omega)⟩) (fun z => by rw [h1, m_0, k200] at z; omega)
    have fin : L54 t3 := by
      apply h54
      rw [f38, show mm_rt 211 39 = 232 from rfl, show mm_rt 211 40 = 233 from rfl]
      refine ⟨⟨by omega, by omega⟩, fun t4 e4 => ?_⟩
      have g4 : t4 211 38 = s 199 8 := by rw [e4, up_c (by decide), f38]
      rw [g4]
      refine ⟨⟨by omega, by omega⟩, fun t5 e5 t6 e6 => ?_⟩
      have g5 : t5 211 38 = s 199 8 := by rw [e5, up_c (by decide), g4]
      have g6 : t6 211 38 = s 199 8 + 1 := by rw [e6, up_e, g5]
      have uo : ∀ a : Nat, a ≠ 211 → a ≠ 232 → a ≠ 233 → t6 a = t3 a := fun a x y z => by rw [e6, up_c x, e5, up_c z, e4, up_c y]
      have u1 : ∀ j : Int, j ≠ 38 → t6 211 j = s 211 j := fun j x => by rw [e6, up_n (Or.inr x), e5, up_c (by decide), e4, up_c (by decide), fo 211 (by decide) (by decide) (by decide)]
      have ut : ∀ a : Nat, a ≠ 199 → a ≠ 200 → a ≠ 201 → a ≠ 211 → a ≠ 232 → a ≠ 233 → t6 a = s a := fun a q1 q2 q3 q4 q5 q6 => by rw [uo a q4 q5 q6, fo a q1 q2 q3]
      refine h3 _ _ (by rw [f8, g6]) ?_
      refine hR.go (Or.inl ?_) ?_ (Or.inl ?_) (Or.inl ?_) (Or.inl ?_) (Or.inr ?_) ⟨ut 27 (by decide) (by decide) (by decide) (by decide) (by decide) (by decide), ut 221 (by decide) (by decide) (by decide) (by decide) (by decide) (by decide)⟩
      · exact ⟨by rw [ut 7 (by decide) (by decide) (by decide) (by decide) (by decide) (by decide)], u1 1 (by decide), ut 8 (by decide) (by decide) (by decide) (by decide) (by decide) (by decide), ut 212 (by decide) (by decide) (by decide) (by decide) (by decide) (by decide)⟩
      · refine ⟨?_, ?_, ?_, ?_, ?_, u1 12 (by decide), u1 14 (by decide), u1 16 (by decide), u1 17 (by decide), u1 18 (by decide)⟩ <;> exact ut _ (by decide) (by decide) (by decide) (by decide) (by decide) (by decide)
      · refine ⟨by rw [ut 19 (by decide) (by decide) (by decide) (by decide) (by decide) (by decide)], ?_, ?_, ?_, ?_, ?_, ?_, u1 24 (by decide)⟩ <;> exact ut _ (by decide) (by decide) (by decide) (by decide) (by decide) (by decide)
      · exact ⟨fun a x y => ut a (by omega) (by omega) (by omega) (by omega) (by omega) (by omega), fun a x y => ut a (by omega) (by omega) (by omega) (by omega) (by omega) (by omega), u1 28 (by decide), u1 35 (by decide), u1 37 (by decide)⟩
      · exact ⟨fun a x y => ut a (by omega) (by omega) (by omega) (by omega) (by omega) (by omega), ut _ (by decide) (by decide) (by decide) (by decide) (by decide) (by decide), ut _ (by decide) (by decide) (by decide) (by decide) (by decide) (by decide), ut _ (by decide) (by decide) (by decide) (by decide) (by decide) (by decide)⟩
      · have w8 : t6 199 8 = s 199 8 + 1 := by rw [uo 199 (by decide) (by decide) (by decide), f8]
        have w0 : ∀ k : Int, t6 200 k = if k = s 199 8 then a1 else s 200 k := fun k => by
          rw [uo 200 (by decide) (by decide) (by decide), f0]
          unfold mm_up
          by_cases hj : k = s 199 8
          · rw [if_pos ⟨rfl, hj⟩, if_pos hj]
          · rw [if_neg (fun q => hj q.2), if_neg hj]
        have w1 : ∀ k : Int, t6 201 k = if k = s 199 8 then a2 else s 201 k := fun k => by
          rw [uo 201 (by decide) (by decide) (by decide), fz]
          unfold mm_up
          by_cases hj : k = s 199 8
          · rw [if_pos ⟨rfl, hj⟩, if_pos hj]
          · rw [if_neg (fun q => hj q.2), if_neg hj]
        have w2 : ∀ k : Int, t6 232 k = if k = s 199 8 then a1 else s 232 k := fun k => by
          rw [e6, up_c (by decide), e5, up_c (by decide), e4]
          by_cases hj : k = s 199 8
          · rw [hj, up_e, if_pos rfl]
          · rw [up_n (Or.inr hj), fo 232 (by decide) (by decide) (by decide), if_neg hj]
        have w3 : ∀ k : Int, t6 233 k = if k = s 199 8 then a2 else s 233 k := fun k => by
          rw [e6, up_c (by decide), e5]
          by_cases hj : k = s 199 8
          · rw [hj, up_e, if_pos rfl]
          · rw [up_n (Or.inr hj), e4, up_c (by decide), fo 233 (by decide) (by decide) (by decide), if_neg hj]
        refine ⟨by omega, by omega, by rw [g6, w8], fun k k1 k2 => ?_⟩
        rw [w8] at k2 ⊢
        rw [w0, w0, w1, w2, w3]
        by_cases hk : k = s 199 8
        · rw [if_pos hk, if_pos hk, if_pos hk, if_pos hk]
          exact ⟨rfl, rfl, v1, v2, v3, v4, fun z => by omega⟩
        · rw [if_neg hk, if_neg hk, if_neg hk, if_neg hk]
          obtain ⟨x1, x2, x3, x4, x5, x6, x7⟩ := c4 k k1 (by omega)
          refine ⟨x1, x2, x3, x4, x5, x6, fun z => ?_⟩
          by_cases hk2 : k + 1 = s 199 8
          · rw [if_pos hk2]
            have := v6 (by omega)
            rw [show s 199 8 - 1 = k by omega] at this
            exact this
          · rw [if_neg hk2]
            exact x7 (by omega)
    rw [f38, nn, show mm_rt 211 39 = 232 from rfl, h1, fo 232 (by decide) (by decide) (by decide)]
    refine ⟨fun q => by omega, fun q => ⟨fun q2 => fin, fun q2 => ⟨⟨by omega, by omega⟩, ?_⟩⟩⟩
    have d := c4 (s 199 8 - 1) (by omega) (by omega)
    rw [d.1, n32_id (x := s 200 (s 199 8 - 1)) (by omega) (by omega)]
    exact ⟨fun _ => fin, fun q3 => by have := v6 (by omega); omega⟩
  rw [nn, h1, h2, show mm_rt 199 2 = 200 from rfl]
  refine ⟨fun q => by omega, fun q1 => ⟨fun q => hp _ _ (no (by omega)), fun q2 => ⟨fun q => hp _ _ (no (by omega)), fun q3 => ⟨fun q => hp _ _ (no (by omega)), fun q4 => ⟨fun q => hp _ _ (no (by omega)), fun q5 => ⟨fun q6 => ⟨fun q7 => yes (by omega) (by omega) (by omega) (by omega) (by omega) (by omega), fun q7 => ⟨⟨by omega, by omega⟩, ?_⟩⟩, fun q => hp _ _ (no (by omega))⟩⟩⟩⟩⟩⟩
  have d := c4 (s 199 8 - 1) (by omega) (by omega)
  rw [n32_id (x := s 200 (s 199 8 - 1)) (by omega) (by omega)]
  exact ⟨fun q8 => yes (by omega) (by omega) (by omega) (by omega) (by omega) (fun _ => q8), fun q8 => hp _ _ (no (by omega))⟩
