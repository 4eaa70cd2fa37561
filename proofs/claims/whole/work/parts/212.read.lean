theorem sq_ne {x : Int} (h1 : -2147483648 ≤ x) (h2 : x ≤ 2147483647) (h : x ≠ 0) : n64 (x * x) = x * x ∧ x * x ≠ 0 := by
  have a : 0 ≤ x * x := by
    rcases Int.le_total 0 x with q | q
    · exact Int.mul_nonneg q q
    · have := Int.mul_nonneg (show 0 ≤ -x by omega) (show 0 ≤ -x by omega)
      rw [Int.neg_mul_neg] at this
      exact this
  have b : x * x ≤ 2147483648 * 2147483648 := by
    rcases Int.le_total 0 x with q | q
    · exact Int.mul_le_mul (by omega) (by omega) q (by omega)
    · have := Int.mul_le_mul (show -x ≤ 2147483648 by omega) (show -x ≤ 2147483648 by omega) (by omega) (by omega)
      rw [Int.neg_mul_neg] at this
      exact this
  refine ⟨n64_id (by omega) (by omega), fun q => ?_⟩
  rcases Int.mul_eq_zero.mp q with z | z <;> exact h z
theorem s_unl {s : mm_M} {a b c : Int} {post : Int → mm_M → Prop} (h : n32 a ≠ 0) (hp : post (Int.tdiv (n64 (n32 a * c - b * b)) (n64 (n32 a * n32 a))) s) : wp_X10_unlike (n32 a) b c s post := by
  have q := sq_ne (n32_ge a) (by have := n32_lt a; omega) h
  have e : n64 (n32 a) = n32 a := n64_id (by have := n32_ge a; omega) (by have := n32_lt a; omega)
  have e0 : n64 0 = 0 := rfl
  unfold wp_X10_unlike
  rw [e, e0]
  exact ⟨fun _ => ⟨by rw [q.1]; exact q.2, hp⟩, fun z => absurd z h⟩
theorem s_unlM {s : mm_M} {a b c : Int} {post : Int → mm_M → Prop} (h : n32 a ≠ 0) (hp : post (Int.tdiv (n64 (n32 a * b - c * c)) (n64 (n32 a * n32 a))) s) : wp_X11_unlikeOf (n32 a) b c s post := by
  have q := sq_ne (n32_ge a) (by have := n32_lt a; omega) h
  exact ⟨by rw [q.1]; exact q.2, hp⟩
theorem Rel.ct {s : mm_M} (hR : Rel s) : ∀ j : Int, 0 ≤ j → j < 7 * s 9 5 → s 32 j = s 230 j := by
  intro j a b
  have hW := hR.2.1
  have hc : 0 < s 9 4 := by
    have := hW.2.2.2.2.2.2.1
    have := hW.1
    omega
  obtain ⟨-, -, -, -, -, -, -, -, h9, -⟩ := hR.2.2.2.1 hc
  exact h9 j a b
theorem s_cnt {s : mm_M} {a w : Int} {post : Int → mm_M → Prop} (hR : Rel s) (ha : n32 a = a) (h : 0 ≤ a ∧ a < s 9 5) (hw : 0 ≤ w ∧ w < 7) (hp : post (s 230 (7 * a + w)) s) : wp_X7_counted 29 a w s post := by
  have hS := hR.nS
  have ew : n32 w = w := n32_id (by omega) (by omega)
  unfold wp_X7_counted
  rw [show mm_rt 29 0 = 9 from rfl, show mm_rt 29 5 = 32 from rfl, ew]
  refine s_hasS hR (fun _ _ => ⟨fun z => absurd z (by decide), fun _ => ⟨fun z => by omega, fun _ => ⟨fun _ => ⟨⟨by omega, by omega⟩, ?_⟩, fun z => by omega⟩⟩⟩) (fun z => by rw [ha] at z; omega)
  rw [hR.ct _ (by omega) (by omega), show a * 7 + w = 7 * a + w by omega]
  exact hp
/-- promise 8 -/
theorem q_sort {s : mm_M} {a1 a2 : Int} (hR : Rel s) (h1 : n32 a1 = a1) (h2 : n32 a2 = a2) (post : Int → mm_M → Prop) (hp : ∀ r1 s1, Gd (wp_X11_sort 211 a1 a2 s1) r1 → post r1 s1) : wp_X10_sort 0 a1 a2 s post := by
  have hS := hR.nS
  have hW := hR.2.1
  have hc : ∀ j : Int, 0 ≤ j → j < 6 * s 9 5 → s 218 j = s 11 j := hW.2.2.2.2.2.2.2.2.2.2.2.2.2.2.2.2.2.1
  have k5 : n32 5 = 5 := rfl
  have k10 : n32 10 = 10 := rfl
  have k16 : n32 16 = 16 := rfl
  intro L34 h34
  rw [show mm_rt 0 1 = 9 from rfl, h2]
  refine s_hasS hR (fun u v => ?_) (fun z => ⟨fun z => absurd m_0 z, fun _ => hp _ _ ?_⟩)
  · rw [h1] at u v
    -- the reference's part behind isSort
    have go : ∀ r : Int, (∀ p2 : Int → mm_M → Prop, (∀ r2 s2, n32 r = n32 r2 → Rel s2 → p2 r2 s2) → (0 ≤ a2 ∧ a2 ≤ 5 → p2 (s 218 (6 * a1 + a2)) s) ∧ (10 ≤ a2 ∧ a2 ≤ 16 → p2 (s 230 (7 * a1 + a2 - 10)) s) ∧ (a2 = 17 → n32 (s 230 (7 * a1 + 1)) ≠ 0 → p2 (Int.tdiv (n64 (n32 (s 230 (7 * a1 + 1)) * n32 (s 230 (7 * a1 + 4)) - n32 (s 230 (7 * a1 + 3)) * n32 (s 230 (7 * a1 + 3)))) (n64 (n32 (s 230 (7 * a1 + 1)) * n32 (s 230 (7 * a1 + 1))))) s) ∧ ((a2 = 17 ∧ n32 (s 230 (7 * a1 + 1)) = 0 ∨ a2 < 0 ∨ 5 < a2 ∧ a2 < 10 ∨ 17 < a2) → p2 (-2147483648) s)) → Gd (wp_X11_sort 211 a1 a2 s) r := by
      intro r h p2 h3
      obtain ⟨g1, g2, g3, g4⟩ := h p2 h3
      unfold wp_X11_sort
      refine s_isS hR (fun _ _ => ⟨fun _ => ?_, fun z => absurd z (by decide)⟩) (fun z => by rw [h1] at z; omega)
      rw [show mm_rt 211 34 = 230 from rfl]
      refine s_in (fun x y => ⟨fun z => absurd z (by decide), fun _ => ?_⟩) (fun x => ⟨fun _ => ?_, fun z => absurd m_0 z⟩)
      · rw [h2, m_0] at x
        rw [h2, k5] at y
        unfold wp_X11_sortHas
        rw [show mm_rt 211 15 = 218 from rfl]
        exact ⟨⟨by omega, by omega⟩, g1 ⟨x, y⟩⟩
      · rw [h2, m_0, k5] at x
        refine s_in (fun x2 y2 => ⟨fun z => absurd z (by decide), fun _ => ?_⟩) (fun x2 => ⟨fun _ => ?_, fun z => absurd m_0 z⟩)
        · rw [h2, k10] at x2
          rw [h2, k16] at y2
          exact ⟨⟨by omega, by omega⟩, g2 ⟨x2, y2⟩⟩
        · rw [h2, k10, k16] at x2
          refine ⟨⟨by omega, by omega⟩, fun v3 e3 => ?_⟩
          rw [h2]
          refine ⟨fun q => g4 (by omega), fun q => ⟨fun q2 => ⟨⟨by omega, by omega⟩, ⟨by omega, by omega⟩, ?_⟩, fun q2 => g4 (Or.inl ⟨q, by rw [← e3]; exact q2⟩)⟩⟩
          rw [e3] at q2 ⊢
          exact s_unlM q2 (g3 q q2)
    have l34 : (a2 < 0 ∨ 6 ≤ a2) → L34 s := by
      intro hr
      apply h34
      rw [h2, show mm_rt 0 5 = 29 from rfl]
      refine ⟨fun q => hp _ _ (go _ (fun p2 h3 => ⟨fun z => by omega, fun z => by omega, fun z => by omega, fun _ => h3 _ _ rfl hR⟩)), fun q => ⟨fun q2 v3 e3 => ?_, fun q2 => hp _ _ (go _ (fun p2 h3 => ⟨fun z => by omega, fun z => by omega, fun z => by omega, fun _ => h3 _ _ rfl hR⟩))⟩⟩
      have nv : n32 v3 = v3 := n32_id (by omega) (by omega)
      rw [nv]
      refine ⟨fun q3 => s_cnt hR h1 ⟨u, v⟩ (by omega) (hp _ _ (go _ (fun p2 h3 => ⟨fun z => by omega, fun z => h3 _ _ (by rw [e3, show 7 * a1 + (a2 - 10) = 7 * a1 + a2 - 10 by omega]) hR, fun z => by omega, fun z => by omega⟩))), fun q3 => ?_⟩
      unfold wp_X7_unlikeOf
      refine s_cnt hR h1 ⟨u, v⟩ (by omega) (fun w2 ew => ?_)
      subst ew
      refine ⟨fun q4 => s_cnt hR h1 ⟨u, v⟩ (by omega) (s_cnt hR h1 ⟨u, v⟩ (by omega) (s_unl q4 (hp _ _ (go _ (fun p2 h3 => ⟨fun z => by omega, fun z => by omega, fun _ _ => h3 _ _ rfl hR, fun z => by omega⟩))))), fun q4 => hp _ _ (go _ (fun p2 h3 => ⟨fun z => by omega, fun z => by omega, fun _ z => absurd q4 z, fun _ => h3 _ _ rfl hR⟩))⟩
    refine ⟨fun _ => ⟨fun q => l34 (Or.inl q), fun q => ⟨fun q2 => l34 (Or.inr q2), fun q2 => s_ofS hR h1 ⟨u, v⟩ (by omega) (hp _ _ (go _ (fun p2 h3 => ⟨fun z => h3 _ _ (by rw [hc _ (by omega) (by omega)]) hR, fun z => by omega, fun z => by omega, fun z => by omega⟩)))⟩⟩, fun z => absurd z (by decide)⟩
  · intro p2 h3
    unfold wp_X11_sort
    exact s_isS hR (fun x y => by rw [h1] at x y z; omega) (fun _ => ⟨fun z => absurd m_0 z, fun _ => h3 _ _ rfl hR⟩)
/-- how many of the first k numbers are taken -/
def hm (f : Nat → Int) : Nat → Int
  | 0 => 0
  | k + 1 => if f k = -1 then hm f k else hm f k + 1
theorem hm_s (f : Nat → Int) (k : Nat) : hm f (k + 1) = if f k = -1 then hm f k else hm f k + 1 := rfl
theorem s_how {s : mm_M} {post : Int → mm_M → Prop} (hR : Rel s) (hp : post (hm (fun p => s (35 + p) 0) 30) s) : wp_X7_howMany 29 s post := by
  intro L4 h4
  have key : ∀ d k : Nat, k + d = 30 → L4 (hm (fun p => s (35 + p) 0) k) k s := by
    intro d
    induction d with
    | zero =>
      intro k hk
      apply h4
      have : k = 30 := by omega
      subst this
      exact ⟨fun _ => hp, fun q => absurd (show (30 : Int) ≤ n32 ((30 : Nat) : Int) by decide) q⟩
    | succ d ih =>
      intro k hk
      have ek : n32 (k : Int) = k := n32_id (by omega) (by omega)
      have nx := ih (k + 1) (by omega)
      rw [hm_s] at nx
      have ec : ((k + 1 : Nat) : Int) = (k : Int) + 1 := by omega
      rw [ec] at nx
      apply h4
      rw [ek]
      refine ⟨fun q => by omega, fun _ => s_who hR ek (fun _ _ q => ⟨fun z => (by cases z), fun t ht v e w e2 => ?_⟩) (fun q => ⟨fun _ v e => ?_, fun t ht => (by cases ht)⟩)⟩
      · subst e; subst e2
        rw [Int.toNat_natCast] at q
        rw [if_neg q] at nx
        exact nx
      · subst e
        rw [Int.toNat_natCast] at q
        rw [if_pos (by omega)] at nx
        exact nx
  exact key 30 0 rfl
theorem hm_c {f g : Nat → Int} : ∀ k : Nat, (∀ p, p < k → f p = g p) → hm f k = hm g k := by
  intro k
  induction k with
  | zero => intro _; rfl
  | succ k ih => intro h; rw [hm_s, hm_s, ih (fun p hp => h p (by omega)), h k (by omega)]
theorem hm_z {f : Nat → Int} : ∀ k : Nat, (∀ p, p < k → f p = -1) → hm f k = 0 := by
  intro k
  induction k with
  | zero => intro _; rfl
  | succ k ih => intro h; rw [hm_s, if_pos (h k (by omega)), ih (fun p hp => h p (by omega))]
theorem mx_0 {x : Int} (h1 : -1 ≤ x) (h2 : x ≤ 1000) : mm_max x 0 = if x < 0 then 0 else x := by
  unfold mm_max
  rw [n32_id (x := x) (by omega) (by omega), m_0]
theorem q_count {s : mm_M} {a1 : Int} (hR : Rel s) (h1 : n32 a1 = a1) (post : Int → mm_M → Prop) (hp : ∀ r1 s1, Gd (wp_X11_count 211 a1 s1) r1 → post r1 s1) : wp_X10_count 0 a1 s post := by
  have hC := hR.nC
  have hS := hR.nS
  obtain ⟨w1, w2, w3, w4, w5, w6, w7, w8, w9, w10, w11, w12, w13, w14, w15, -⟩ := hR.2.1
  have hT := hR.1
  have hL := hR.2.2.1
  have hCm := hR.2.2.2.2.2.1
  have hmin : s 29 7 = s 211 28 := by
    by_cases hc : 0 < s 9 4
    · exact (hR.2.2.2.1 hc).1
    · obtain ⟨x1, x2, -⟩ := hR.2.2.2.2.2.2.1 (by omega)
      rw [x1, x2]
  unfold wp_X10_count
  rw [h1, show mm_rt 0 1 = 9 from rfl, show mm_rt 0 5 = 29 from rfl, show mm_rt 0 3 = 19 from rfl, show mm_rt 0 8 = 199 from rfl, show mm_rt 0 0 = 7 from rfl]
  have go : ∀ r : Int, (∀ p2 : Int → mm_M → Prop, (∀ r2 s2, n32 r = n32 r2 → Rel s2 → p2 r2 s2) → ∀ L93 : Int → Int → mm_M → Prop, (∀ (v2 : Int) (v3 : Int) (s1 : mm_M), ((30 ≤ n32 v3 → p2 v2 s1) ∧ (¬ 30 ≤ n32 v3 → ((n32 (s1 211 12) ≤ 0 → p2 v2 s1) ∧ (¬ n32 (s1 211 12) ≤ 0 → (wp_X11_of 211 v3 2 s1 (fun r_4 s_3 => ((¬ n32 r_4 = (-1) → (∀ v2_5 : Int, v2_5 = v2 + 1 → (∀ v3_6 : Int, v3_6 = v3 + 1 → L93 v2_5 v3_6 s_3))) ∧ (n32 r_4 = (-1) → (∀ v2_7 : Int, v2_7 = v2 + 0 → (∀ v3_8 : Int, v3_8 = v3 + 1 → L93 v2_7 v3_8 s_3)))))))))) → L93 v2 v3 s1) → ((a1 = 0 → p2 (s 211 12) s) ∧ (¬ a1 = 0 → ((a1 = 1 → p2 (s 211 14) s) ∧ (¬ a1 = 1 → ((a1 = 2 → p2 (s 211 28) s) ∧ (¬ a1 = 2 → ((a1 = 3 → p2 (s 211 16) s) ∧ (¬ a1 = 3 → ((a1 = 4 → p2 (s 211 17) s) ∧ (¬ a1 = 4 → ((a1 = 5 → p2 (s 211 18) s) ∧ (¬ a1 = 5 → ((a1 = 6 → p2 (s 211 24) s) ∧ (¬ a1 = 6 → ((a1 = 7 → L93 0 0 s) ∧ (¬ a1 = 7 → ((a1 = 8 → p2 (s 211 38) s) ∧ (¬ a1 = 8 → ((a1 = 9 → p2 (s 211 1) s) ∧ (¬ a1 = 9 → p2 (-1) s))))))))))))))))))))) → Gd (wp_X11_count 211 a1 s) r := by
    intro r h p2 h3 L93 h93
    rw [h1]
    exact h p2 h3 L93 h93
  have nt : ∀ {A B : Prop}, (a1 = 0 → A) → (¬ a1 = 0 → B) → (a1 = 0 → A) ∧ (¬ a1 = 0 → B) := fun x y => ⟨x, y⟩
  refine ⟨fun q => hp _ _ (go _ fun p2 h3 L93 h93 => ⟨fun _ => h3 _ _ (by rw [w5]) hR, fun z => absurd q z⟩), fun q0 => ⟨fun q => hp _ _ (go _ fun p2 h3 L93 h93 => ⟨fun z => absurd z q0, fun _ => ⟨fun _ => h3 _ _ (by rw [w6]) hR, fun z => absurd q z⟩⟩), fun q1 => ⟨fun q => hp _ _ (go _ fun p2 h3 L93 h93 => ⟨fun z => absurd z q0, fun _ => ⟨fun z => absurd z q1, fun _ => ⟨fun _ => h3 _ _ (by rw [hmin]) hR, fun z => absurd q z⟩⟩⟩), fun q2 => ⟨fun q => ?_, fun q3 => ⟨fun q => ?_, fun q4 => ⟨fun q => ?_, fun q5 => ⟨fun q => ?_, fun q6 => ⟨fun q => ?_, fun q7 => ⟨fun q => ?_, fun q8 => ⟨fun q => ?_, fun q9 => ?_⟩⟩⟩⟩⟩⟩⟩⟩⟩⟩
  · unfold wp_X9_isTold
    rw [hC.1]
    refine ⟨fun z => ⟨fun _ => hp _ _ ?_, fun z => absurd m_0 z⟩, fun z => ⟨fun z => absurd z (by decide), fun _ => ?_⟩⟩
    · exact go _ fun p2 h3 L93 h93 => ⟨fun z => absurd z q0, fun _ => ⟨fun z => absurd z q1, fun _ => ⟨fun z => absurd z q2, fun _ => ⟨fun _ => h3 _ _ (by rw [w15, if_pos (by omega)]) hR, fun z => absurd q z⟩⟩⟩⟩
    · have n6 : n32 (s 9 6) = s 9 6 := n32_id (by omega) (by omega)
      unfold wp_X9_closing
      rw [n6]
      refine ⟨fun y => hp _ _ ?_, fun y => hp _ _ ?_⟩
      · exact go _ fun p2 h3 L93 h93 => ⟨fun z => absurd z q0, fun _ => ⟨fun z => absurd z q1, fun _ => ⟨fun z => absurd z q2, fun _ => ⟨fun _ => h3 _ _ (by rw [w15, if_neg (by omega), if_neg y]) hR, fun z => absurd q z⟩⟩⟩⟩
      · exact go _ fun p2 h3 L93 h93 => ⟨fun z => absurd z q0, fun _ => ⟨fun z => absurd z q1, fun _ => ⟨fun z => absurd z q2, fun _ => ⟨fun _ => h3 _ _ (by rw [w15, if_neg (by omega), if_pos y]) hR, fun z => absurd q z⟩⟩⟩⟩
  · unfold wp_X9_fee
    exact hp _ _ (go _ fun p2 h3 L93 h93 => ⟨fun z => absurd z q0, fun _ => ⟨fun z => absurd z q1, fun _ => ⟨fun z => absurd z q2, fun _ => ⟨fun z => absurd z q3, fun _ => ⟨fun _ => h3 _ _ (by rw [w10, mx_0 w8 (by omega)]) hR, fun z => absurd q z⟩⟩⟩⟩⟩)
  · unfold wp_X9_bow
    exact hp _ _ (go _ fun p2 h3 L93 h93 => ⟨fun z => absurd z q0, fun _ => ⟨fun z => absurd z q1, fun _ => ⟨fun z => absurd z q2, fun _ => ⟨fun z => absurd z q3, fun _ => ⟨fun z => absurd z q4, fun _ => ⟨fun _ => h3 _ _ (by rw [w13, mx_0 w11 (by omega)]) hR, fun z => absurd q z⟩⟩⟩⟩⟩⟩)
  · exact hp _ _ (go _ fun p2 h3 L93 h93 => ⟨fun z => absurd z q0, fun _ => ⟨fun z => absurd z q1, fun _ => ⟨fun z => absurd z q2, fun _ => ⟨fun z => absurd z q3, fun _ => ⟨fun z => absurd z q4, fun _ => ⟨fun z => absurd z q5, fun _ => ⟨fun _ => h3 _ _ (by rw [hL.2.2.1]) hR, fun z => absurd q z⟩⟩⟩⟩⟩⟩⟩)
  · refine s_how hR (hp _ _ (go _ fun p2 h3 L93 h93 => ⟨fun z => absurd z q0, fun _ => ⟨fun z => absurd z q1, fun _ => ⟨fun z => absurd z q2, fun _ => ⟨fun z => absurd z q3, fun _ => ⟨fun z => absurd z q4, fun _ => ⟨fun z => absurd z q5, fun _ => ⟨fun z => absurd z q6, fun _ => ⟨fun _ => ?_, fun z => absurd q z⟩⟩⟩⟩⟩⟩⟩⟩))
    by_cases hc : 0 < s 9 4
    · obtain ⟨-, -, -, -, -, -, -, hP, -⟩ := hR.2.2.2.1 hc
      have ef : hm (fun p => s (35 + p) 0) 30 = hm (fun p => s 229 (7 * (p : Int) + 2)) 30 := hm_c 30 (fun p hp => (hP p hp).1)
      have key : ∀ d k : Nat, k + d = 30 → L93 (hm (fun p => s 229 (7 * (p : Int) + 2)) k) k s := by
        intro d
        induction d with
        | zero =>
          intro k hk
          apply h93
          have : k = 30 := by omega
          subst this
          exact ⟨fun _ => h3 _ _ (by rw [ef]) hR, fun q => absurd (show (30 : Int) ≤ n32 ((30 : Nat) : Int) by decide) q⟩
        | succ d ih =>
          intro k hk
          have ek : n32 (k : Int) = k := n32_id (by omega) (by omega)
          have nx := ih (k + 1) (by omega)
          rw [hm_s] at nx
          have ec : ((k + 1 : Nat) : Int) = (k : Int) + 1 := by omega
          rw [ec] at nx
          have hpk := hP k (by omega)
          have n7 : n32 (s 229 (7 * (k : Int) + 2)) = s 229 (7 * (k : Int) + 2) := n32_id (by omega) (by omega)
          apply h93
          rw [ek, w5, hC.1]
          refine ⟨fun q => by omega, fun _ => ⟨fun q => by omega, fun _ => ⟨⟨by omega, by omega⟩, ?_⟩⟩⟩
          rw [show mm_rt 211 33 = 229 from rfl]
          dsimp only
          rw [n7]
          refine ⟨fun q v e w e2 => ?_, fun q v e w e2 => ?_⟩
          · subst e; subst e2
            rw [if_neg q] at nx
            exact nx
          · subst e; subst e2
            rw [if_pos q] at nx
            rw [Int.add_zero]
            exact nx
      exact key 30 0 rfl
    · obtain ⟨-, -, -, -, x5⟩ := hR.2.2.2.2.2.2.1 (by omega)
      rw [hm_z 30 x5] at h3
      apply h93
      rw [w5, hC.1]
      exact ⟨fun q => absurd q (by decide), fun _ => ⟨fun _ => h3 _ _ rfl hR, fun q => by omega⟩⟩
  · exact hp _ _ (go _ fun p2 h3 L93 h93 => ⟨fun z => absurd z q0, fun _ => ⟨fun z => absurd z q1, fun _ => ⟨fun z => absurd z q2, fun _ => ⟨fun z => absurd z q3, fun _ => ⟨fun z => absurd z q4, fun _ => ⟨fun z => absurd z q5, fun _ => ⟨fun z => absurd z q6, fun _ => ⟨fun z => absurd z q7, fun _ => ⟨fun _ => h3 _ _ (by rw [hCm.2.2.1]) hR, fun z => absurd q z⟩⟩⟩⟩⟩⟩⟩⟩⟩)
  · exact hp _ _ (go _ fun p2 h3 L93 h93 => ⟨fun z => absurd z q0, fun _ => ⟨fun z => absurd z q1, fun _ => ⟨fun z => absurd z q2, fun _ => ⟨fun z => absurd z q3, fun _ => ⟨fun z => absurd z q4, fun _ => ⟨fun z => absurd z q5, fun _ => ⟨fun z => absurd z q6, fun _ => ⟨fun z => absurd z q7, fun _ => ⟨fun z => absurd z q8, fun _ => ⟨fun _ => h3 _ _ (by rw [hT.2.2.1]) hR, fun z => absurd q z⟩⟩⟩⟩⟩⟩⟩⟩⟩⟩)
  · exact hp _ _ (go _ fun p2 h3 L93 h93 => ⟨fun z => absurd z q0, fun _ => ⟨fun z => absurd z q1, fun _ => ⟨fun z => absurd z q2, fun _ => ⟨fun z => absurd z q3, fun _ => ⟨fun z => absurd z q4, fun _ => ⟨fun z => absurd z q5, fun _ => ⟨fun z => absurd z q6, fun _ => ⟨fun z => absurd z q7, fun _ => ⟨fun z => absurd z q8, fun _ => ⟨fun z => absurd z q9, fun _ => h3 _ _ rfl hR⟩⟩⟩⟩⟩⟩⟩⟩⟩⟩)
