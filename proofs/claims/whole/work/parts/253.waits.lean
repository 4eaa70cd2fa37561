/-! promises 19 and 21 -/
def wtv (s : mm_M) (l : Int) (n : Nat) (a2 a3 : Int) : Int :=
  if a3 = 0 then rO s l n n a2 else if a3 = 1 then rWt s l n n a2 else if a3 = 2 then tot (rWt s l n n) n else if a3 = 3 then unl n (tot (fun k => rWt s l n n k * rWt s l n n k) n) (tot (rWt s l n n) n) else totM (rWt s l n n) n
theorem Rel.cM {s : mm_M} (hR : Rel s) : ∃ n : Nat, s 199 8 = n ∧ n ≤ 8 ∧ cM s s n := by
  have c := hR.2.2.2.2.2.1
  obtain ⟨c1, c2, c3, c4⟩ := c
  have sr := r_C.srt ⟨c1, c2, c3, c4⟩
  refine ⟨(s 199 8).toNat, by omega, by omega, ⟨by omega, sr⟩, by omega, fun k k1 k2 => ?_, ag.rf⟩
  have := c4 k k1 (by omega)
  exact ⟨this.1, this.2.1⟩
theorem rv.w {s u : mm_M} {l : Int} {n : Nat} (h : rv s u l n n) : (∀ k : Nat, k < n → u 243 k = rWt s l n n k ∧ 0 ≤ rWt s l n n k ∧ rWt s l n n k ≤ 400) ∧ u 211 54 = tot (rWt s l n n) n ∧ u 211 55 = totM (rWt s l n n) n := by
  have ok := rn_ok (l := l) h.1.1.2 n (Nat.le_refl n)
  have al := cn_all (V := (rn s l n n).1) n (by rw [ok.2.1]; exact Int.le_refl _)
  refine ⟨fun k hk => ⟨h.2.2.1 k hk (al k hk), ok.2.2.2.2.1 k (by omega) (by omega)⟩, ?_, ?_⟩
  · rw [h.2.2.2.1, sm_all n al]
  · rw [h.2.2.2.2, mx_all n al]
theorem u_waits {s t : mm_M} {n : Nat} {l a2 a3 : Int} (hL : r_L s) (c : cM s t n) (hn : 0 < n) (hl : 0 ≤ l ∧ l ≤ 8 ∧ l ≠ 3) (h2 : n32 a2 = a2) (h3 : 0 ≤ a3 ∧ a3 ≤ 4) (hk : a3 < 2 → 0 ≤ a2 ∧ a2 < n) {post : Int → mm_M → Prop} (hp : ∀ u, ag s u → post (wtv s l n a2 a3) u) : wp_X11_waits 211 l a2 a3 t post := by
  have n8 := c.1.2.1
  intro L52 L110 h52 h110
  have go : L52 t := by
    apply h52
    refine u_runs hL c ⟨hl.1, hl.2.1⟩ (fun u hu => ?_)
    have au : ag s u := hu.1.2.2.2
    obtain ⟨w1, w2, w3⟩ := hu.w
    have hp := hp u au
    rw [n32_id (x := a3) (by omega) (by omega), show mm_rt 211 52 = 242 from rfl, show mm_rt 211 53 = 243 from rfl]
    refine ⟨fun q => ⟨fun q3 => ?_, fun q3 => ⟨fun q2 => ?_, fun q2 => ?_⟩⟩, fun q => ⟨fun q0 => ?_, fun q0 => ?_⟩⟩
    · have r := tot_r (f := fun k => rWt s l n n k * rWt s l n n k) (B := 160000) (n := n) (fun k hk => sq_r (w1 k hk).2)
      have r1 := tot_r (f := rWt s l n n) (B := 400) (n := n) (fun k hk => (w1 k hk).2) n (Nat.le_refl n)
      have key : ∀ d x : Nat, x + d = n → L110 (tot (fun k => rWt s l n n k * rWt s l n n k) x) x u := by
        intro d
        induction d with
        | zero =>
          intro x hx
          have : x = n := by omega
          subst this
          apply h110
          rw [hu.1.2.1, w2]
          refine ⟨fun _ => ?_, fun z => absurd (Int.le_refl _) z⟩
          rw [n32_id (x := (x : Int)) (by omega) (by omega), n32_id (x := tot (rWt s l x x) x) (by omega) (by omega)]
          have d8 : ∀ y : Nat, y ≤ 8 → 0 < y → n64 ((y : Int) * (y : Int)) ≠ 0 := by decide +kernel
          refine ⟨d8 x n8 hn, ?_⟩
          unfold wtv at hp
          rw [if_neg (by omega), if_neg (by omega), if_neg (by omega), if_pos q3] at hp
          exact hp
        | succ d ih =>
          intro x hx
          have wx := w1 x (by omega)
          have sq := sq_r wx.2
          apply h110
          rw [hu.1.2.1, n32_id (x := (n : Int)) (by omega) (by omega), n32_id (x := (x : Int)) (by omega) (by omega), show mm_rt 211 53 = 243 from rfl, wx.1, n32_id (x := rWt s l n n x * rWt s l n n x) (by omega) (by omega)]
          refine ⟨fun z => by omega, fun _ => ⟨⟨by omega, by omega⟩, ⟨by omega, by omega⟩, fun v1 e1 v2 e2 => ?_⟩⟩
          rw [e1, e2, show (x : Int) + 1 = ((x + 1 : Nat) : Int) by omega]
          exact ih (x + 1) (by omega)
      exact key n 0 (by omega)
    · unfold wtv at hp
      rw [if_neg (by omega), if_neg (by omega), if_neg (by omega), if_neg (by omega)] at hp
      rw [w3]; exact hp
    · unfold wtv at hp
      rw [if_neg (by omega), if_neg (by omega), if_pos q2] at hp
      rw [w2]; exact hp
    · have k := hk (by omega)
      unfold wtv at hp
      rw [if_neg q0, if_pos (by omega)] at hp
      have w := (w1 a2.toNat (by omega)).1
      rw [show ((a2.toNat : Nat) : Int) = a2 by omega] at w
      rw [w]
      exact ⟨⟨by omega, by omega⟩, hp⟩
    · have k := hk (by omega)
      unfold wtv at hp
      rw [if_pos q0] at hp
      rw [hu.2.1 a2 k.1 k.2]
      exact ⟨⟨by omega, by omega⟩, hp⟩
  rw [c.2.1, n32_id (x := (n : Int)) (by omega) (by omega), n32_id (x := l) (by omega) (by omega), n32_id (x := a3) (by omega) (by omega)]
  have k8 : n32 8 = 8 := by decide
  have k4 : n32 4 = 4 := by decide
  refine ⟨fun q => by omega, fun _ => s_in (fun _ _ => ⟨fun z => absurd z (by decide), fun _ => ⟨fun z => absurd z hl.2.2, fun _ => s_in (fun _ _ => ⟨fun z => absurd z (by decide), fun _ => ⟨fun _ => go, fun q => ?_⟩⟩) (fun b => ?_)⟩⟩) (fun b => ?_)⟩
  · rw [c.2.1]
    have k := hk (by omega)
    refine s_in (fun _ _ => ⟨fun _ => go, fun z => absurd z (by decide)⟩) (fun b => ?_)
    rw [h2, m_0, n32_id (x := (n : Int) - 1) (by omega) (by omega)] at b
    omega
  · rw [m_0, k4, n32_id (x := a3) (by omega) (by omega)] at b
    omega
  · rw [m_0, k8, n32_id (x := l) (by omega) (by omega)] at b
    omega
/-- promise 19 -/
theorem q_waits {s : mm_M} {a1 a2 a3 : Int} (hR : Rel s) (h1 : n32 a1 = a1) (h2 : n32 a2 = a2) (h3 : n32 a3 = a3) (post : Int → mm_M → Prop) (hp : ∀ r1 s1, Gd (wp_X11_waits 211 a1 a2 a3 s1) r1 → post r1 s1) : wp_X10_waits 0 a1 a2 a3 s post := by
  obtain ⟨n, en, n8, c⟩ := hR.cM
  have hL := hR.2.2.1
  have k8 : n32 8 = 8 := by decide
  have k4 : n32 4 = 4 := by decide
  have no : ∀ u, ag s u → (n = 0 ∨ a1 < 0 ∨ 8 < a1 ∨ a1 = 3 ∨ a3 < 0 ∨ 4 < a3 ∨ a3 < 2 ∧ (a2 < 0 ∨ n ≤ a2)) → Gd (wp_X11_waits 211 a1 a2 a3 u) (-1) := by
    intro u au q p2 k2 L52 L110 h52 h110
    have cu := au.cM c
    have f := k2 (-1) u rfl (hR.fr au)
    rw [cu.2.1, n32_id (x := (n : Int)) (by omega) (by omega), h1, h3]
    refine ⟨fun _ => f, fun z => s_in (fun b1 b2 => ⟨fun _ => f, fun _ => ⟨fun _ => f, fun z3 => s_in (fun d1 d2 => ⟨fun _ => f, fun _ => ⟨fun y => ?_, fun y => ?_⟩⟩) (fun _ => ⟨fun _ => f, fun y => absurd m_0 y⟩)⟩⟩) (fun _ => ⟨fun _ => f, fun y => absurd m_0 y⟩)⟩
    · rw [h1, m_0] at b1
      rw [h1, k8] at b2
      rw [h3, m_0] at d1
      rw [h3, k4] at d2
      omega
    · rw [cu.2.1]
      refine s_in (fun f1 f2 => ?_) (fun _ => ⟨fun y => absurd m_0 y, fun _ => f⟩)
      rw [h1, m_0] at b1
      rw [h1, k8] at b2
      rw [h3, m_0] at d1
      rw [h3, k4] at d2
      rw [h2, m_0] at f1
      rw [h2, n32_id (x := (n : Int) - 1) (by omega) (by omega)] at f2
      omega
  have yes : ∀ u, ag s u → 0 < n → 0 ≤ a1 → a1 ≤ 8 → a1 ≠ 3 → 0 ≤ a3 → a3 ≤ 4 → (a3 < 2 → 0 ≤ a2 ∧ a2 < n) → Gd (wp_X11_waits 211 a1 a2 a3 u) (wtv s a1 n a2 a3) := by
    intro u au b1 b2 b3 b4 b5 b6 b7 p2 k2
    exact u_waits hL (au.cM c) b1 ⟨b2, b3, b4⟩ h2 ⟨b5, b6⟩ b7 (fun u2 a2 => k2 _ _ rfl (hR.fr a2))
  unfold wp_X10_waits wp_X10_isSettledLaw
  rw [show mm_rt 0 8 = 199 from rfl, en, n32_id (x := (n : Int)) (by omega) (by omega), h1, h3]
  refine ⟨fun q => hp _ _ (no s ag.rf (by omega)), fun q => ⟨fun b => ⟨fun z => absurd m_0 z, fun _ => hp _ _ (no s ag.rf (by omega))⟩, fun b => ⟨fun b2 => ⟨fun z => absurd m_0 z, fun _ => hp _ _ (no s ag.rf (by omega))⟩, fun b2 => ⟨fun b3 => ⟨fun z => absurd m_0 z, fun _ => hp _ _ (no s ag.rf (by omega))⟩, fun b3 => ⟨fun _ => ?_, fun z => absurd z (by decide)⟩⟩⟩⟩⟩
  refine t_serveAll hL c.1 ⟨by omega, by omega⟩ (fun u hu => ?_)
  have au := hu.1
  have cu := au.cR c.1
  have w := hu.w c.1
  refine ⟨fun q0 => ?_, fun q0 => ⟨fun q1 => ?_, fun q1 => ⟨fun q2 => ?_, fun q2 => ⟨fun q3 => ?_, fun q3 => ⟨fun q4 => ?_, fun q4 => hp _ _ (no u au (by omega))⟩⟩⟩⟩⟩
  · unfold wp_X6_servedAt
    rw [cu.1, h2, n32_id (x := (n : Int)) (by omega) (by omega), show mm_rt 199 4 = 202 from rfl]
    refine ⟨fun z => hp _ _ (no u au (by omega)), fun z => ⟨fun z2 => hp _ _ (no u au (by omega)), fun z2 => ⟨fun z3 => by omega, fun _ => ⟨⟨by omega, by omega⟩, ?_⟩⟩⟩⟩
    have y := yes u au (by omega) (by omega) (by omega) b3 (by omega) (by omega) (fun _ => by omega)
    unfold wtv at y
    rw [if_pos q0] at y
    rw [hu.2.1 a2 (by omega) (by omega)]
    exact hp _ _ y
  · unfold wp_X6_waitOf
    rw [cu.1, h2, n32_id (x := (n : Int)) (by omega) (by omega), show mm_rt 199 5 = 203 from rfl]
    refine ⟨fun z => hp _ _ (no u au (by omega)), fun z => ⟨fun z2 => hp _ _ (no u au (by omega)), fun z2 => ⟨fun z3 => by omega, fun _ => ⟨⟨by omega, by omega⟩, ?_⟩⟩⟩⟩
    have y := yes u au (by omega) (by omega) (by omega) b3 (by omega) (by omega) (fun _ => by omega)
    unfold wtv at y
    rw [if_neg q0, if_pos q1] at y
    have wa := (w a2.toNat (by omega)).1
    rw [show ((a2.toNat : Nat) : Int) = a2 by omega] at wa
    rw [wa]
    exact hp _ _ y
  · refine t_together cu.1 n8 w ?_
    have y := yes u au (by omega) (by omega) (by omega) b3 (by omega) (by omega) (fun _ => by omega)
    unfold wtv at y
    rw [if_neg q0, if_neg q1, if_pos q2] at y
    exact hp _ _ y
  · refine t_unlike cu.1 n8 (by omega) w ?_
    have y := yes u au (by omega) (by omega) (by omega) b3 (by omega) (by omega) (fun _ => by omega)
    unfold wtv at y
    rw [if_neg q0, if_neg q1, if_neg q2, if_pos q3] at y
    exact hp _ _ y
  · refine t_longest cu.1 n8 w ?_
    have y := yes u au (by omega) (by omega) (by omega) b3 (by omega) (by omega) (fun _ => by omega)
    unfold wtv at y
    rw [if_neg q0, if_neg q1, if_neg q2, if_neg q3] at y
    exact hp _ _ y
theorem rn_ag {s u : mm_M} (h : ag s u) {l : Int} {n : Nat} : ∀ i : Nat, rn u l n i = rn s l n i ∧ rO u l n i = rO s l n i ∧ rWt u l n i = rWt s l n i := by
  have e200 : u 200 = s 200 := h.c (fun _ => rfl)
  have e201 : u 201 = s 201 := h.c (fun _ => rfl)
  intro i
  induction i with
  | zero => exact ⟨rfl, rfl, rfl⟩
  | succ i ih =>
    have t : rtm u l n i = rtm s l n i := by unfold rtm; rw [ih.1, e200]
    have w : rwh u l n i = rwh s l n i := by unfold rwh; rw [ih.1, t, whR_ag h]
    refine ⟨?_, ?_, ?_⟩
    · rw [rn_s, rn_s, ih.1, t, w, e201]
    · rw [rO, rO, ih.2.1, w]
    · rw [rWt, rWt, ih.2.2, w, t, e200]
/-- the best law so far: which, waits together, the longest -/
def bl (A B : Int → Int) (m : Int) : Nat → Int × Int × Int
  | 0 => (-1, 0, 0)
  | l + 1 => if l = 3 ∨ 4 ≤ l ∧ m ≤ (l : Int) - 4 then bl A B m l else if (bl A B m l).1 = -1 ∨ A l < (bl A B m l).2.1 ∨ A l = (bl A B m l).2.1 ∧ B l < (bl A B m l).2.2 then ((l : Int), A l, B l) else bl A B m l
theorem bl_r {A B : Int → Int} {m : Int} (h : ∀ l : Int, 0 ≤ A l ∧ A l ≤ 10000 ∧ 0 ≤ B l ∧ B l ≤ 10000) : ∀ l : Nat, -1 ≤ (bl A B m l).1 ∧ (bl A B m l).1 < l ∧ 0 ≤ (bl A B m l).2.1 ∧ (bl A B m l).2.1 ≤ 10000 ∧ 0 ≤ (bl A B m l).2.2 ∧ (bl A B m l).2.2 ≤ 10000 := by
  intro l
  induction l with
  | zero => rw [bl]; decide
  | succ l ih =>
    rw [bl]
    by_cases q : l = 3 ∨ 4 ≤ l ∧ m ≤ (l : Int) - 4
    · rw [if_pos q]; omega
    · rw [if_neg q]
      by_cases r : (bl A B m l).1 = -1 ∨ A l < (bl A B m l).2.1 ∨ A l = (bl A B m l).2.1 ∧ B l < (bl A B m l).2.2
      · rw [if_pos r]
        have := h l
        show -1 ≤ (l : Int) ∧ (l : Int) < _ ∧ 0 ≤ A l ∧ A l ≤ 10000 ∧ 0 ≤ B l ∧ B l ≤ 10000
        omega
      · rw [if_neg r]; omega
theorem bl_sk {A B : Int → Int} {m : Int} {l : Nat} (q : l = 3 ∨ 4 ≤ l ∧ m ≤ (l : Int) - 4) : bl A B m (l + 1) = bl A B m l := by rw [bl, if_pos q]
theorem bl_y {A B : Int → Int} {m : Int} {l : Nat} (q : ¬ (l = 3 ∨ 4 ≤ l ∧ m ≤ (l : Int) - 4)) (r : (bl A B m l).1 = -1 ∨ A l < (bl A B m l).2.1 ∨ A l = (bl A B m l).2.1 ∧ B l < (bl A B m l).2.2) : bl A B m (l + 1) = ((l : Int), A l, B l) := by rw [bl, if_neg q, if_pos r]
theorem bl_n {A B : Int → Int} {m : Int} {l : Nat} (q : ¬ (l = 3 ∨ 4 ≤ l ∧ m ≤ (l : Int) - 4)) (r : ¬ ((bl A B m l).1 = -1 ∨ A l < (bl A B m l).2.1 ∨ A l = (bl A B m l).2.1 ∧ B l < (bl A B m l).2.2)) : bl A B m (l + 1) = bl A B m l := by rw [bl, if_neg q, if_neg r]
theorem bl_end {A B : Int → Int} {m : Int} {l : Nat} (h : 4 + m ≤ l) (h4 : 4 ≤ l) : ∀ d : Nat, bl A B m (l + d) = bl A B m l := by
  intro d
  induction d with
  | zero => rfl
  | succ d ih => rw [show l + (d + 1) = (l + d) + 1 by omega, bl_sk (Or.inr ⟨by omega, by omega⟩), ih]
/-- promise 21 -/
theorem q_best {s : mm_M} (hR : Rel s) (post : Int → mm_M → Prop) (hp : ∀ r1 s1, Gd (wp_X11_best 211 s1) r1 → post r1 s1) : wp_X10_best 0 s post := by
  obtain ⟨n, en, n8, c⟩ := hR.cM
  have hL := hR.2.2.1
  have L0 := hL.1
  have L1 := hL.2.1
  obtain ⟨m, em⟩ : ∃ m : Nat, s 19 4 = m := ⟨(s 19 4).toNat, by omega⟩
  have wr : ∀ l : Int, ∀ k : Nat, k < n → 0 ≤ rWt s l n n k ∧ rWt s l n n k ≤ 400 := fun l k hk => (rn_ok (l := l) c.1.2 n (Nat.le_refl n)).2.2.2.2.1 k (by omega) (by omega)
  have AB : ∀ l : Int, 0 ≤ tot (rWt s l n n) n ∧ tot (rWt s l n n) n ≤ 10000 ∧ 0 ≤ totM (rWt s l n n) n ∧ totM (rWt s l n n) n ≤ 10000 := by
    intro l
    have a := tot_r (f := rWt s l n n) (B := 400) (n := n) (wr l) n (Nat.le_refl n)
    have b := totM_r (f := rWt s l n n) (B := 400) (by omega) (n := n) (wr l) n (Nat.le_refl n)
    omega
  generalize hA : (fun l : Int => tot (rWt s l n n) n) = A
  generalize hB : (fun l : Int => totM (rWt s l n n) n) = B
  have eA : ∀ l : Int, tot (rWt s l n n) n = A l := fun l => by rw [← hA]
  have eB : ∀ l : Int, totM (rWt s l n n) n = B l := fun l => by rw [← hB]
  have AB2 : ∀ l : Int, 0 ≤ A l ∧ A l ≤ 10000 ∧ 0 ≤ B l ∧ B l ≤ 10000 := fun l => by rw [← eA, ← eB]; exact AB l
  have br := bl_r (m := s 19 4) AB2
  have ref : ∀ u, ag s u → 0 < n → Gd (wp_X11_best 211 u) (bl A B (s 19 4) 9).1 := by
    intro u au n0 p2 k2 L18 h18
    have cu := au.cM c
    rw [cu.2.1, n32_id (x := (n : Int)) (by omega) (by omega)]
    refine ⟨fun _ => ?_, fun z => by omega⟩
    have key : ∀ d x : Nat, x + d = 4 + m → ∀ v, cM s v n → L18 (bl A B (s 19 4) x).1 (bl A B (s 19 4) x).2.1 (bl A B (s 19 4) x).2.2 x v := by
      intro d
      induction d with
      | zero =>
        intro x hx v cv
        have e24 : v 211 24 = s 19 4 := by rw [cv.2.2.2 211 24 rfl]; exact hL.2.2.1
        apply h18
        rw [e24, n32_id (x := 4 + s 19 4) (by omega) (by omega), n32_id (x := (x : Int)) (by omega) (by omega)]
        refine ⟨fun _ => ?_, fun z => by omega⟩
        have e9 := bl_end (A := A) (B := B) (m := s 19 4) (l := x) (by omega) (by omega) (9 - x)
        rw [show x + (9 - x) = 9 by omega] at e9
        exact k2 _ _ (by rw [e9]) (hR.fr cv.2.2.2)
      | succ d ih =>
        intro x hx v cv
        have e24 : v 211 24 = s 19 4 := by rw [cv.2.2.2 211 24 rfl]; exact hL.2.2.1
        have bx := br x
        have nx := ih (x + 1) (by omega)
        rw [show ((x + 1 : Nat) : Int) = (x : Int) + 1 by omega] at nx
        apply h18
        rw [e24, n32_id (x := 4 + s 19 4) (by omega) (by omega), n32_id (x := (x : Int)) (by omega) (by omega)]
        refine ⟨fun z => by omega, fun _ => ⟨fun q3 => u_runs hL cv ⟨by omega, by omega⟩ (fun w hw => ?_), fun q3 v4 e4 => ?_⟩⟩
        · have w23 := hw.w
          have cw := hw.1
          have nq : ¬ (x = 3 ∨ 4 ≤ x ∧ s 19 4 ≤ (x : Int) - 4) := by omega
          rw [w23.2.1, w23.2.2, eA, eB]
          have abx := AB2 x
          rw [n32_id (x := (bl A B (s 19 4) x).1) (by omega) (by omega), n32_id (x := (bl A B (s 19 4) x).2.1) (by omega) (by omega), n32_id (x := (bl A B (s 19 4) x).2.2) (by omega) (by omega), n32_id (x := A x) (by omega) (by omega), n32_id (x := B x) (by omega) (by omega)]
          have take : (bl A B (s 19 4) x).1 = -1 ∨ A x < (bl A B (s 19 4) x).2.1 ∨ A x = (bl A B (s 19 4) x).2.1 ∧ B x < (bl A B (s 19 4) x).2.2 → ∀ v1 : Int, v1 = x → ∀ v2 : Int, v2 = A x → ∀ v3 : Int, v3 = B x → ∀ v4 : Int, v4 = (x : Int) + 1 → L18 v1 v2 v3 v4 w := by
            intro r v1 e1 v2 e2 v3 e3 v4 e4
            have y := nx w cw
            rw [bl_y nq r] at y
            rw [e1, e2, e3, e4]
            exact y
          have pass : ¬ ((bl A B (s 19 4) x).1 = -1 ∨ A x < (bl A B (s 19 4) x).2.1 ∨ A x = (bl A B (s 19 4) x).2.1 ∧ B x < (bl A B (s 19 4) x).2.2) → ∀ v4 : Int, v4 = (x : Int) + 1 → L18 (bl A B (s 19 4) x).1 (bl A B (s 19 4) x).2.1 (bl A B (s 19 4) x).2.2 v4 w := by
            intro r v4 e4
            have y := nx w cw
            rw [bl_n nq r] at y
            rw [e4]
            exact y
          refine ⟨fun z => take (Or.inl z), fun z => ⟨fun z1 => pass (by omega), fun z1 => ⟨fun z2 => take (by omega), fun z2 => ⟨fun z3 => take (by omega), fun z3 => pass (by omega)⟩⟩⟩⟩
        · have y := nx v cv
          rw [bl_sk (Or.inl (by omega))] at y
          rw [e4]
          exact y
    exact key (4 + m) 0 (by omega) u cu
  have nob : n = 0 → Gd (wp_X11_best 211 s) (-1) := by
    intro q p2 k2 L18 h18
    rw [c.2.1, n32_id (x := (n : Int)) (by omega) (by omega)]
    exact ⟨fun z => by omega, fun _ => k2 _ _ rfl hR⟩
  unfold wp_X10_best
  rw [show mm_rt 0 8 = 199 from rfl, en, n32_id (x := (n : Int)) (by omega) (by omega)]
  refine ⟨fun q => ?_, fun q => hp _ _ (nob (by omega))⟩
  intro L9 L37 L78 h9 h37 h78
  have key : ∀ d x : Nat, x + d = 9 → ∀ v, ag s v → L9 (bl A B (s 19 4) x).1 (bl A B (s 19 4) x).2.1 (bl A B (s 19 4) x).2.2 x v := by
    intro d
    induction d with
    | zero =>
      intro x hx v av
      have : x = 9 := by omega
      subst this
      apply h9
      exact ⟨fun _ => hp _ _ (ref v av (by omega)), fun z => absurd (by decide) z⟩
    | succ d ih =>
      intro x hx v av
      have bx := br x
      have nx := ih (x + 1) (by omega)
      rw [show ((x + 1 : Nat) : Int) = (x : Int) + 1 by omega] at nx
      have lv4 : v 19 4 = s 19 4 := av 19 4 rfl
      have cv := av.cR c.1
      have main : ¬ (x = 3 ∨ 4 ≤ x ∧ s 19 4 ≤ (x : Int) - 4) → L37 (bl A B (s 19 4) x).1 (bl A B (s 19 4) x).2.1 (bl A B (s 19 4) x).2.2 x v := by
        intro nq
        apply h37
        refine t_serveAll (av.rL hL) cv ⟨by omega, by omega⟩ (fun w hw => ?_)
        have aw : ag s w := av.tr hw.1
        have cw := hw.1.cR cv
        have ww := hw.w cv
        rw [(rn_ag av n).2.2] at ww
        refine t_together cw.1 n8 ww ?_
        intro v5 e5
        refine t_longest cw.1 n8 ww ?_
        intro v6 e6
        rw [eA] at e5
        rw [eB] at e6
        have abx := AB2 x
        rw [e5, e6, n32_id (x := (bl A B (s 19 4) x).2.1) (by omega) (by omega), n32_id (x := (bl A B (s 19 4) x).2.2) (by omega) (by omega), n32_id (x := A x) (by omega) (by omega), n32_id (x := B x) (by omega) (by omega)]
        have last : ∀ q0 : Int, n32 q0 = q0 → (q0 ≠ 0 ↔ (A x < (bl A B (s 19 4) x).2.1 ∨ A x = (bl A B (s 19 4) x).2.1 ∧ B x < (bl A B (s 19 4) x).2.2)) → L78 (bl A B (s 19 4) x).1 (bl A B (s 19 4) x).2.1 (bl A B (s 19 4) x).2.2 x (A x) (B x) q0 w := by
          intro q0 n0 hq
          apply h78
          intro v7 e7
          rw [e7, n0, n32_id (x := (bl A B (s 19 4) x).1) (by omega) (by omega)]
          have y := nx w aw
          refine ⟨fun z v1 e1 v2 e2 v3 e3 v4 e4 => ?_, fun z => ⟨fun z2 v4 e4 => ?_, fun z2 v1 e1 v2 e2 v3 e3 v4 e4 => ?_⟩⟩
          · rw [bl_y nq (Or.inl z)] at y
            rw [e1, e2, e3, e4]; exact y
          · rw [bl_n nq (fun r => by rcases r with r | r; exact z r; exact hq.mpr r z2)] at y
            rw [e4]; exact y
          · rw [bl_y nq (Or.inr (hq.mp z2))] at y
            rw [e1, e2, e3, e4]; exact y
        refine ⟨fun z => last 1 rfl ⟨fun _ => Or.inl z, fun _ => by decide⟩, fun z => ⟨fun z2 => last 0 rfl ⟨fun y => absurd rfl y, fun y => by omega⟩, fun z2 => ⟨fun z3 => last 0 rfl ⟨fun y => absurd rfl y, fun y => by omega⟩, fun z3 => last 1 rfl ⟨fun _ => by omega, fun _ => by decide⟩⟩⟩⟩
      apply h9
      rw [n32_id (x := (x : Int)) (by omega) (by omega), show mm_rt 199 0 = 19 from rfl]
      refine ⟨fun z => by omega, fun _ => ⟨fun z => main (by omega), fun z => ?_⟩⟩
      refine t_isTold (av.rL hL) ⟨by omega, by omega⟩ (fun q1 q2 => ⟨fun _ => main (by omega), fun y => absurd y (by decide)⟩) (fun q => ⟨fun y => absurd m_0 y, fun _ v4 e4 => ?_⟩)
      have y := nx v av
      rw [bl_sk (by omega)] at y
      rw [e4]
      exact y
  exact key 9 0 (by omega) s ag.rf
