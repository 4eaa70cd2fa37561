/-! what a told law says -/
def brg (v : Int) : Int := if n64 (-1000000) ≤ n64 v then (if n64 v ≤ n64 1000000 then v else 1000000) else -1000000
def joi (w a b : Int) : Int := if w = 5 then (if n64 b ≤ n64 a then 0 else 1) else if w = 6 then (if n64 a = n64 b then 1 else 0) else brg (if w = 2 then a + b else if w = 3 then a - b else a * b)
def es (w nn nm : Int → Int) (a : Int) : Nat → Int × (Int → Int)
  | 0 => (0, fun _ => 0)
  | n + 1 => if w (a + n) = 0 then ((es w nn nm a n).1 + 1, fu (es w nn nm a n).2 (es w nn nm a n).1 (nn (a + n)))
    else if w (a + n) = 1 then ((es w nn nm a n).1 + 1, fu (es w nn nm a n).2 (es w nn nm a n).1 (nm (nn (a + n))))
    else ((es w nn nm a n).1 - 1, fu (es w nn nm a n).2 ((es w nn nm a n).1 - 2) (joi (w (a + n)) (n32 ((es w nn nm a n).2 ((es w nn nm a n).1 - 2))) (n32 ((es w nn nm a n).2 ((es w nn nm a n).1 - 1)))))
theorem es_0 {w nn nm : Int → Int} {a : Int} {n : Nat} (h : w (a + n) = 0) : es w nn nm a (n + 1) = ((es w nn nm a n).1 + 1, fu (es w nn nm a n).2 (es w nn nm a n).1 (nn (a + n))) := by
  rw [es, if_pos h]
theorem es_1 {w nn nm : Int → Int} {a : Int} {n : Nat} (h : w (a + n) = 1) : es w nn nm a (n + 1) = ((es w nn nm a n).1 + 1, fu (es w nn nm a n).2 (es w nn nm a n).1 (nm (nn (a + n)))) := by
  rw [es, if_neg (by omega), if_pos h]
theorem es_2 {w nn nm : Int → Int} {a : Int} {n : Nat} (h : 2 ≤ w (a + n)) : es w nn nm a (n + 1) = ((es w nn nm a n).1 - 1, fu (es w nn nm a n).2 ((es w nn nm a n).1 - 2) (joi (w (a + n)) (n32 ((es w nn nm a n).2 ((es w nn nm a n).1 - 2))) (n32 ((es w nn nm a n).2 ((es w nn nm a n).1 - 1))))) := by
  rw [es, if_neg (by omega), if_neg (by omega)]
theorem es_d {w nn nm d : Int → Int} {a b : Int} (h0 : d a = 0) (hs : ∀ k, a ≤ k → k < b → 0 ≤ d k ∧ (w k < 2 → d k < 40 ∧ d (k + 1) = d k + 1) ∧ (2 ≤ w k → 2 ≤ d k ∧ d (k + 1) = d k - 1)) (hw : ∀ k, a ≤ k → k < b → 0 ≤ w k) : ∀ n : Nat, a + n ≤ b → (es w nn nm a n).1 = d (a + n) ∧ 0 ≤ d (a + n) ∧ d (a + n) ≤ 40 := by
  intro n
  induction n with
  | zero => intro _; rw [show a + ((0 : Nat) : Int) = a by omega, h0]; exact ⟨rfl, by omega, by omega⟩
  | succ n ih =>
    intro hn
    have i := ih (by omega)
    have q := hs (a + n) (by omega) (by omega)
    have hw0 := hw (a + n) (by omega) (by omega)
    rw [show a + ((n + 1 : Nat) : Int) = a + n + 1 by omega]
    by_cases q2 : w (a + n) < 2
    · have e := q.2.1 q2
      by_cases q3 : w (a + n) = 0
      · rw [es_0 q3, e.2]; dsimp only [sd_mn, sd_lot, sd_st, sd_bu, sd_ma, sd_rw, sd_pe, sd_t7, sd_en, sd_bk]; rw [i.1]; exact ⟨rfl, by omega, by omega⟩
      · rw [es_1 (by omega), e.2]; dsimp only [sd_mn, sd_lot, sd_st, sd_bu, sd_ma, sd_rw, sd_pe, sd_t7, sd_en, sd_bk]; rw [i.1]; exact ⟨rfl, by omega, by omega⟩
    · have e := q.2.2 (by omega)
      rw [es_2 (by omega), e.2]; dsimp only [sd_mn, sd_lot, sd_st, sd_bu, sd_ma, sd_rw, sd_pe, sd_t7, sd_en, sd_bk]; rw [i.1]; exact ⟨rfl, by omega, by omega⟩
/-- what law i of the told ones says of one with these names -/
def lv (s : mm_M) (i : Int) (nm : Int → Int) : Int := (es (fun k => s 222 (2 * k)) (fun k => s 222 (2 * k + 1)) nm (s 223 i) (s 223 (i + 1) - s 223 i).toNat).2 0
/-- those of whom one is next, as the class gathers them -/
def crw (s : mm_M) (m : Int) (N : Int → Int → Int) : Prop := (s 1 5 = m) ∧ (0 ≤ m ∧ m ≤ 30) ∧ (∀ k, 0 ≤ k → k < m → s 2 k = N k 0) ∧ (∀ k, 0 ≤ k → k < m → s 3 k = N k 1) ∧ (∀ k, 0 ≤ k → k < m → s 4 k = N k 2) ∧ (∀ k, 0 ≤ k → k < m → s 5 k = N k 3) ∧ (∀ k, 0 ≤ k → k < m → N k 4 = k) ∧ (∀ k, 0 ≤ k → k < m → N k 5 = m - 1 - k) ∧ (∀ k, 0 ≤ k → k < m → N k 6 = m) ∧ (∀ k, 0 ≤ k → k < m → N k 7 = s 1 6) ∧ (∀ k, 0 ≤ k → k < m → N k 8 = s 1 7) ∧ (∀ k, 0 ≤ k → k < m → s 6 k = N k 9)
theorem crw.m0 {s : mm_M} {m : Int} {N : Int → Int → Int} (h : crw s m N) : s 1 5 = m := h.1
theorem crw.m1 {s : mm_M} {m : Int} {N : Int → Int → Int} (h : crw s m N) : 0 ≤ m ∧ m ≤ 30 := h.2.1
theorem crw.a0 {s : mm_M} {m : Int} {N : Int → Int → Int} (h : crw s m N) : ∀ k, 0 ≤ k → k < m → s 2 k = N k 0 := h.2.2.1
theorem crw.a1 {s : mm_M} {m : Int} {N : Int → Int → Int} (h : crw s m N) : ∀ k, 0 ≤ k → k < m → s 3 k = N k 1 := h.2.2.2.1
theorem crw.a2 {s : mm_M} {m : Int} {N : Int → Int → Int} (h : crw s m N) : ∀ k, 0 ≤ k → k < m → s 4 k = N k 2 := h.2.2.2.2.1
theorem crw.a3 {s : mm_M} {m : Int} {N : Int → Int → Int} (h : crw s m N) : ∀ k, 0 ≤ k → k < m → s 5 k = N k 3 := h.2.2.2.2.2.1
theorem crw.a4 {s : mm_M} {m : Int} {N : Int → Int → Int} (h : crw s m N) : ∀ k, 0 ≤ k → k < m → N k 4 = k := h.2.2.2.2.2.2.1
theorem crw.a5 {s : mm_M} {m : Int} {N : Int → Int → Int} (h : crw s m N) : ∀ k, 0 ≤ k → k < m → N k 5 = m - 1 - k := h.2.2.2.2.2.2.2.1
theorem crw.a6 {s : mm_M} {m : Int} {N : Int → Int → Int} (h : crw s m N) : ∀ k, 0 ≤ k → k < m → N k 6 = m := h.2.2.2.2.2.2.2.2.1
theorem crw.a7 {s : mm_M} {m : Int} {N : Int → Int → Int} (h : crw s m N) : ∀ k, 0 ≤ k → k < m → N k 7 = s 1 6 := h.2.2.2.2.2.2.2.2.2.1
theorem crw.a8 {s : mm_M} {m : Int} {N : Int → Int → Int} (h : crw s m N) : ∀ k, 0 ≤ k → k < m → N k 8 = s 1 7 := h.2.2.2.2.2.2.2.2.2.2.1
theorem crw.a9 {s : mm_M} {m : Int} {N : Int → Int → Int} (h : crw s m N) : ∀ k, 0 ≤ k → k < m → s 6 k = N k 9 := h.2.2.2.2.2.2.2.2.2.2.2
theorem t_named {s : mm_M} {m : Int} {N : Int → Int → Int} (h : crw s m N) {n k : Int} (hn : 0 ≤ n ∧ n ≤ 9) (hk : 0 ≤ k ∧ k < m) {post : Int → mm_M → Prop} (hp : post (N k n) s) : wp_X1_named 1 n k s post := by
  have m1 := h.m1
  unfold wp_X1_named
  rw [show mm_rt 1 0 = 2 from rfl, show mm_rt 1 1 = 3 from rfl, show mm_rt 1 2 = 4 from rfl, show mm_rt 1 3 = 5 from rfl, show mm_rt 1 4 = 6 from rfl, h.m0, n32_id (x := m) (by omega) (by omega), n32_id (x := k) (by omega) (by omega), n32_id (x := n) (by omega) (by omega)]
  refine ⟨fun q => by omega, fun _ => ⟨fun q => by omega, fun _ => ⟨fun _ => ?_, fun q => by omega⟩⟩⟩
  refine ⟨fun q => ⟨⟨by omega, by omega⟩, ?_⟩, fun _ => ⟨fun q => ⟨⟨by omega, by omega⟩, ?_⟩, fun _ => ⟨fun q => ⟨⟨by omega, by omega⟩, ?_⟩, fun _ => ⟨fun q => ⟨⟨by omega, by omega⟩, ?_⟩, fun _ => ⟨fun q => ?_, fun _ => ⟨fun q => ?_, fun _ => ⟨fun q => ?_, fun _ => ⟨fun q => ?_, fun _ => ⟨fun q => ?_, fun _ => ⟨fun q => ⟨⟨by omega, by omega⟩, ?_⟩, fun _ => by omega⟩⟩⟩⟩⟩⟩⟩⟩⟩⟩
  · subst q; rw [h.a0 k hk.1 hk.2]; exact hp
  · subst q; rw [h.a1 k hk.1 hk.2]; exact hp
  · subst q; rw [h.a2 k hk.1 hk.2]; exact hp
  · subst q; rw [h.a3 k hk.1 hk.2]; exact hp
  · subst q; rw [h.a4 k hk.1 hk.2] at hp; exact hp
  · subst q; rw [h.a5 k hk.1 hk.2] at hp; exact hp
  · subst q; rw [h.a6 k hk.1 hk.2] at hp; exact hp
  · subst q; rw [h.a7 k hk.1 hk.2] at hp; exact hp
  · subst q; rw [h.a8 k hk.1 hk.2] at hp; exact hp
  · subst q; rw [h.a9 k hk.1 hk.2]; exact hp
/-- only the class's stack is used -/
def f23 (s u : mm_M) : Prop := ∀ a j, ¬ (a = 19 ∧ j = 6) → a ≠ 23 → u a j = s a j
theorem f23.c {s u : mm_M} (h : f23 s u) {a : Nat} (h1 : a ≠ 19) (h2 : a ≠ 23) : u a = s a := funext fun j => h a j (fun z => h1 z.1) h2
theorem f23.tr {s u v : mm_M} (h : f23 s u) (h2 : f23 u v) : f23 s v := fun a j q r => (h2 a j q r).trans (h a j q r)
theorem f23.crw {s u : mm_M} (h : f23 s u) {m : Int} {N : Int → Int → Int} (c : crw s m N) : crw u m N := by
  have e : ∀ a : Nat, a < 19 → u a = s a := fun a ha => h.c (by omega) (by omega)
  exact ⟨by rw [e 1 (by omega)]; exact c.m0, c.m1, by rw [e 2 (by omega)]; exact c.a0, by rw [e 3 (by omega)]; exact c.a1, by rw [e 4 (by omega)]; exact c.a2, by rw [e 5 (by omega)]; exact c.a3, c.a4, c.a5, c.a6, by rw [e 1 (by omega)]; exact c.a7, by rw [e 1 (by omega)]; exact c.a8, by rw [e 6 (by omega)]; exact c.a9⟩
theorem f23.rL {s u : mm_M} (h : f23 s u) (c : r_L s) : r_L u := by
  unfold r_L
  rw [h 19 4 (by omega) (by omega), h.c (a := 211) (by omega) (by omega), h.c (a := 20) (by omega) (by omega), h.c (a := 21) (by omega) (by omega), h.c (a := 22) (by omega) (by omega), h.c (a := 222) (by omega) (by omega), h.c (a := 223) (by omega) (by omega), h.c (a := 224) (by omega) (by omega)]
  exact c
theorem f23.lv {s u : mm_M} (h : f23 s u) (i : Int) (nm : Int → Int) : lv u i nm = lv s i nm := by
  unfold Jvm.Pilot.CLastServedLaw_law_r5834_17db7c.lv
  rw [h.c (a := 222) (by omega) (by omega), h.c (a := 223) (by omega) (by omega)]
theorem t_joined {s : mm_M} {x w a b : Int} {post : Int → mm_M → Prop} (h : (w = 2 ∧ x = 43) ∨ (w = 3 ∧ x = 45) ∨ (w = 4 ∧ x = 42) ∨ (w = 5 ∧ x = 60) ∨ (w = 6 ∧ x = 61)) (hp : post (joi w a b) s) : wp_X3_joined x a b s post := by
  have bd : ∀ v : Int, post (brg v) s → wp_X3_bounded v s (fun r_2 s_1 => post r_2 s_1) := by
    intro v hv
    unfold wp_X3_bounded
    unfold brg at hv
    refine ⟨fun q => ⟨fun q2 => ?_, fun q2 => ?_⟩, fun q => ?_⟩
    · rw [if_pos q, if_pos q2] at hv; exact hv
    · rw [if_pos q, if_neg q2] at hv; exact hv
    · rw [if_neg q] at hv; exact hv
  unfold wp_X3_joined
  rw [n32_id (x := x) (by omega) (by omega)]
  unfold joi at hp
  refine ⟨fun q => bd _ ?_, fun q1 => ⟨fun q => bd _ ?_, fun q2 => ⟨fun q => bd _ ?_, fun q3 => ⟨fun q => ⟨fun z => ?_, fun z => ?_⟩, fun q4 => ⟨fun z => ?_, fun z => ?_⟩⟩⟩⟩⟩
  · rw [if_neg (by omega), if_neg (by omega), if_neg (by omega), if_neg (by omega)] at hp; exact hp
  · rw [if_neg (by omega), if_neg (by omega), if_pos (by omega)] at hp; exact hp
  · rw [if_neg (by omega), if_neg (by omega), if_neg (by omega), if_pos (by omega)] at hp; exact hp
  · rw [if_pos (by omega), if_pos z] at hp; exact hp
  · rw [if_pos (by omega), if_neg z] at hp; exact hp
  · rw [if_neg (by omega), if_pos (by omega), if_neg z] at hp; exact hp
  · rw [if_neg (by omega), if_pos (by omega), if_pos z] at hp; exact hp
theorem t_push {s : mm_M} {v d : Int} {post : mm_M → Prop} (h : s 19 6 = d) (hd : 0 ≤ d ∧ d < 40) (k : ∀ u : mm_M, u 19 6 = d + 1 → u 23 = fu (s 23) d v → f23 s u → post u) : wp_X3_push 19 v s post := by
  unfold wp_X3_push
  rw [h, n32_id (x := d) (by omega) (by omega), show mm_rt 19 3 = 23 from rfl]
  refine ⟨fun q => by omega, fun _ => ⟨fun q => by omega, fun _ => ⟨hd, fun s1 e1 s2 e2 => ?_⟩⟩⟩
  have g : s1 19 6 = d := by rw [e1, up_c (by decide)]; exact h
  rw [g] at e2
  subst e2; subst e1
  refine k _ up_e (by rw [up_c (by decide), up_f]) (fun a j q1 q2 => ?_)
  rw [up_n (by omega), up_c q2]
theorem t_pop {s : mm_M} {d : Int} {post : Int → mm_M → Prop} (h : s 19 6 = d) (hd : 0 < d ∧ d ≤ 40) (k : ∀ u : mm_M, u 19 6 = d - 1 → u 23 = s 23 → f23 s u → post (s 23 (d - 1)) u) : wp_X3_pop 19 s post := by
  unfold wp_X3_pop
  rw [h, n32_id (x := d) (by omega) (by omega), show mm_rt 19 3 = 23 from rfl]
  refine ⟨fun q => by omega, fun _ => ⟨fun q s1 e1 => ?_, fun q => by omega⟩⟩
  have g : s1 19 6 = d - 1 := by rw [e1, up_e]
  have g2 : s1 23 = s 23 := by rw [e1, up_c (by decide)]
  rw [g, g2]
  refine ⟨by omega, k s1 g g2 (fun a j q1 q2 => ?_)⟩
  rw [e1, up_n (by omega)]
theorem t_work {s : mm_M} {m i k : Int} {N : Int → Int → Int} (hL : r_L s) (hc : crw s m N) (hi : 0 ≤ i ∧ i < s 19 4) (hk : 0 ≤ k ∧ k < m) {post : Int → mm_M → Prop} (hp : ∀ u, f23 s u → post (lv s i (N k)) u) : wp_X3_work 19 i 1 k s post := by
  obtain ⟨l0, l1, l2, l3, l4⟩ := hL
  obtain ⟨b1, b2, b3, b4, b5, b6, b7, d, d0, d1, d2⟩ := l4 i hi.1 hi.2
  have hw : ∀ x, s 223 i ≤ x → x < s 223 (i + 1) → 0 ≤ s 222 (2 * x) := fun x x1 x2 => by have := b7 x x1 x2; unfold r_c at this; omega
  have ed := es_d (nn := fun x => s 222 (2 * x + 1)) (nm := N k) d0 d2 hw
  intro L31 L110 h31 h110 s1 e1
  have f1 : f23 s s1 := fun a j q1 q2 => by rw [e1, up_n (by omega)]
  have ni : n32 i = i := n32_id (by omega) (by omega)
  have nj : n32 (i - 1) = i - 1 := n32_id (by omega) (by omega)
  unfold wp_X3_endAt
  rw [ni, nj, show mm_rt 19 1 = 21 from rfl, f1.c (a := 21) (by omega) (by omega)]
  refine ⟨fun q => by omega, fun _ => ⟨fun q => by omega, fun _ => ⟨⟨by omega, by omega⟩, fun v4 e4 => ?_⟩⟩⟩
  have e4 : v4 = s 223 (i + 1) := by
    rw [e4, ← b1]
    unfold mm_min
    rw [n32_id (x := s 223 (i + 1)) (by omega) (by omega), show n32 500 = 500 from rfl]
    by_cases q : 500 < s 223 (i + 1)
    · omega
    · rw [if_neg q]
  have fin : ∀ r : Int, r = s 223 i → ∀ v5, v5 = mm_max r 0 → L31 v4 v5 s1 := by
    intro r hr v5 e5
    have e5 : v5 = s 223 i := by
      rw [e5, hr]
      unfold mm_max
      rw [n32_id (x := s 223 i) (by omega) (by omega), m_0]
      rw [if_neg (by omega)]
    rw [e4, e5]
    have key : ∀ r n : Nat, s 223 i + n + r = s 223 (i + 1) → ∀ u, f23 s u → u 19 6 = (es (fun x => s 222 (2 * x)) (fun x => s 222 (2 * x + 1)) (N k) (s 223 i) n).1 → (∀ j, 0 ≤ j → j < (es (fun x => s 222 (2 * x)) (fun x => s 222 (2 * x + 1)) (N k) (s 223 i) n).1 → u 23 j = (es (fun x => s 222 (2 * x)) (fun x => s 222 (2 * x + 1)) (N k) (s 223 i) n).2 j) → L31 (s 223 (i + 1)) (s 223 i + n) u := by
      intro r
      induction r with
      | zero =>
        intro n hn u fu ht hs
        have en := ed n (by omega)
        apply h31
        rw [n32_id (x := s 223 (i + 1)) (by omega) (by omega), n32_id (x := s 223 i + n) (by omega) (by omega)]
        refine ⟨fun _ => ?_, fun q => by omega⟩
        have e1 : (es (fun x => s 222 (2 * x)) (fun x => s 222 (2 * x + 1)) (N k) (s 223 i) n).1 = 1 := by
          rw [en.1, show s 223 i + (n : Int) = s 223 (i + 1) by omega]; exact d1
        rw [e1] at ht hs
        refine t_pop ht (by omega) (fun v g1 g2 g3 => ?_)
        rw [show (1 : Int) - 1 = 0 by omega, hs 0 (by omega) (by omega)]
        have : n = (s 223 (i + 1) - s 223 i).toNat := by omega
        have hp := hp v (fu.tr g3)
        unfold lv at hp
        rw [← this] at hp
        exact hp
      | succ r ih =>
        intro n hn u fu ht hs
        have en := ed n (by omega)
        have en1 := ed (n + 1) (by omega)
        have cc := b7 (s 223 i + n) (by omega) (by omega)
        have dd := d2 (s 223 i + n) (by omega) (by omega)
        dsimp only [sd_mn, sd_lot, sd_st, sd_bu, sd_ma, sd_rw, sd_pe, sd_t7, sd_en, sd_bk] at dd
        rw [← en.1] at dd en
        rw [show s 223 i + ((n + 1 : Nat) : Int) = s 223 i + n + 1 by omega] at en1
        have goto : ∀ v, L31 (s 223 (i + 1)) (s 223 i + ((n + 1 : Nat) : Int)) v → ∀ v5 : Int, v5 = s 223 i + n + 1 → L31 (s 223 (i + 1)) v5 v := fun v hv v5 e5 => by
          rw [e5, show s 223 i + (n : Int) + 1 = s 223 i + ((n + 1 : Nat) : Int) by omega]; exact hv
        apply h31
        rw [n32_id (x := s 223 (i + 1)) (by omega) (by omega), n32_id (x := s 223 i + n) (by omega) (by omega), show mm_rt 19 0 = 20 from rfl, fu.c (a := 20) (by omega) (by omega)]
        refine ⟨fun q => by omega, fun _ => ⟨⟨by omega, by omega⟩, fun v6 e6 => ?_⟩⟩
        rw [← e6] at cc
        unfold r_c at cc
        rw [n32_id (x := v6) (by omega) (by omega)]
        refine ⟨fun q => ⟨fun q2 => ?_, fun q2 => ?_⟩, fun q => ?_⟩
        · have w0 : s 222 (2 * (s 223 i + n)) = 0 := by omega
          have dk := dd.2.1 (by omega)
          apply h110
          refine t_push ht (by omega) (fun v g1 g2 g3 => goto v (ih (n + 1) (by omega) v (fu.tr g3) ?_ (fun j j1 j2 => ?_)))
          · rw [g1, es_0 (w := fun x => s 222 (2 * x)) w0]
          · rw [es_0 (w := fun x => s 222 (2 * x)) w0] at j2 ⊢
            dsimp only [sd_mn, sd_lot, sd_st, sd_bu, sd_ma, sd_rw, sd_pe, sd_t7, sd_en, sd_bk] at j2 ⊢
            rw [g2]
            by_cases z : j = (es (fun x => s 222 (2 * x)) (fun x => s 222 (2 * x + 1)) (N k) (s 223 i) n).1
            · rw [z, fu_e, fu_e]; omega
            · rw [fu_n z, fu_n z]; exact hs j j1 (by omega)
        · have w0 : s 222 (2 * (s 223 i + n)) = 1 := by omega
          have dk := dd.2.1 (by omega)
          refine t_named (fu.crw hc) (by omega) hk ?_
          apply h110
          refine t_push ht (by omega) (fun v g1 g2 g3 => goto v (ih (n + 1) (by omega) v (fu.tr g3) ?_ (fun j j1 j2 => ?_)))
          · rw [g1, es_1 (w := fun x => s 222 (2 * x)) w0]
          · rw [es_1 (w := fun x => s 222 (2 * x)) w0] at j2 ⊢
            dsimp only [sd_mn, sd_lot, sd_st, sd_bu, sd_ma, sd_rw, sd_pe, sd_t7, sd_en, sd_bk] at j2 ⊢
            rw [g2]
            by_cases z : j = (es (fun x => s 222 (2 * x)) (fun x => s 222 (2 * x + 1)) (N k) (s 223 i) n).1
            · rw [z, fu_e, fu_e, show v6 - 10000 = s 222 (2 * (s 223 i + n) + 1) by omega]
            · rw [fu_n z, fu_n z]; exact hs j j1 (by omega)
        · have w0 : 2 ≤ s 222 (2 * (s 223 i + n)) := by omega
          have dk := dd.2.2 w0
          refine t_pop ht (by omega) (fun v g1 g2 g3 v7 e7 => ?_)
          refine t_pop g1 (by omega) (fun v' g1' g2' g3' => ?_)
          rw [e7, g2, hs _ (by omega) (by omega), show (es (fun x => s 222 (2 * x)) (fun x => s 222 (2 * x + 1)) (N k) (s 223 i) n).1 - 1 - 1 = (es (fun x => s 222 (2 * x)) (fun x => s 222 (2 * x + 1)) (N k) (s 223 i) n).1 - 2 by omega, hs _ (by omega) (by omega)]
          refine t_joined (w := s 222 (2 * (s 223 i + n))) (by omega) ?_
          refine t_push g1' (by omega) (fun x h1 h2 h3 => goto x (ih (n + 1) (by omega) x (((fu.tr g3).tr g3').tr h3) ?_ (fun j j1 j2 => ?_)))
          · rw [h1, es_2 (w := fun x => s 222 (2 * x)) w0]; dsimp only [sd_mn, sd_lot, sd_st, sd_bu, sd_ma, sd_rw, sd_pe, sd_t7, sd_en, sd_bk]; omega
          · rw [es_2 (w := fun x => s 222 (2 * x)) w0] at j2 ⊢
            dsimp only [sd_mn, sd_lot, sd_st, sd_bu, sd_ma, sd_rw, sd_pe, sd_t7, sd_en, sd_bk] at j2 ⊢
            rw [h2, g2', g2, show (es (fun x => s 222 (2 * x)) (fun x => s 222 (2 * x + 1)) (N k) (s 223 i) n).1 - 1 - 1 = (es (fun x => s 222 (2 * x)) (fun x => s 222 (2 * x + 1)) (N k) (s 223 i) n).1 - 2 by omega]
            by_cases z : j = (es (fun x => s 222 (2 * x)) (fun x => s 222 (2 * x + 1)) (N k) (s 223 i) n).1 - 2
            · rw [z, fu_e, fu_e]
            · rw [fu_n z, fu_n z]; exact hs j j1 (by omega)
    have := key (s 223 (i + 1) - s 223 i).toNat 0 (by omega) s1 f1 (by rw [e1, up_e]; rfl) (fun j j1 j2 => by have : j < 0 := j2; omega)
    rw [show s 223 i + ((0 : Nat) : Int) = s 223 i by omega] at this
    exact this
  refine ⟨fun q => fin 0 ?_, fun q => ⟨fun q2 => by omega, fun _ => ⟨⟨by omega, by omega⟩, fin _ ?_⟩⟩⟩
  · have : i = 0 := by omega
    rw [this, l3 (by omega)]
  · have := (l4 (i - 1) (by omega) (by omega)).1
    rw [f1.c (a := 21) (by omega) (by omega), ← this]
    congr 1
    omega
/-- only the reference's stack is used -/
def f40 (s u : mm_M) : Prop := ∀ a : Nat, a ≠ 240 → u a = s a
theorem u_brg {s : mm_M} {v : Int} {post : Int → mm_M → Prop} (hv : post (brg v) s) : wp_X11_brought v s post := by
  unfold wp_X11_brought
  unfold brg at hv
  refine ⟨fun q => ⟨fun q2 => ?_, fun q2 => ?_⟩, fun q => ?_⟩
  · rw [if_pos q, if_pos q2] at hv; exact hv
  · rw [if_pos q, if_neg q2] at hv; exact hv
  · rw [if_neg q] at hv; exact hv
theorem u_says {s : mm_M} {i : Int} (hL : r_L s) (hi : 0 ≤ i ∧ i < s 19 4) {post : Int → mm_M → Prop} (hp : ∀ u, f40 s u → post (lv s i (s 239)) u) : wp_X11_says 211 i s post := by
  obtain ⟨l0, l1, l2, l3, l4⟩ := hL
  obtain ⟨b1, b2, b3, b4, b5, b6, b7, d, d0, d1, d2⟩ := l4 i hi.1 hi.2
  have hw : ∀ x, s 223 i ≤ x → x < s 223 (i + 1) → 0 ≤ s 222 (2 * x) := fun x x1 x2 => by have := b7 x x1 x2; unfold r_c at this; omega
  have ed := es_d (nn := fun x => s 222 (2 * x + 1)) (nm := s 239) d0 d2 hw
  intro L9 L42 L197 h9 h42 h197
  refine ⟨⟨by omega, by omega⟩, fun v3 e3 => ?_⟩
  rw [show mm_rt 211 26 = 223 from rfl] at e3
  have key : ∀ r n : Nat, s 223 i + n + r = s 223 (i + 1) → ∀ u, f40 s u → (∀ j, 0 ≤ j → j < (es (fun x => s 222 (2 * x)) (fun x => s 222 (2 * x + 1)) (s 239) (s 223 i) n).1 → u 240 j = (es (fun x => s 222 (2 * x)) (fun x => s 222 (2 * x + 1)) (s 239) (s 223 i) n).2 j) → L9 (es (fun x => s 222 (2 * x)) (fun x => s 222 (2 * x + 1)) (s 239) (s 223 i) n).1 (s 223 i + n) u := by
    intro r
    induction r with
    | zero =>
      intro n hn u fu hs
      have en := ed n (by omega)
      apply h9
      rw [show mm_rt 211 26 = 223 from rfl, show mm_rt 211 49 = 240 from rfl, fu 223 (by omega), n32_id (x := s 223 (i + 1)) (by omega) (by omega), n32_id (x := s 223 i + n) (by omega) (by omega)]
      refine ⟨⟨by omega, by omega⟩, fun _ => ?_, fun q => by omega⟩
      have e1 : (es (fun x => s 222 (2 * x)) (fun x => s 222 (2 * x + 1)) (s 239) (s 223 i) n).1 = 1 := by
        rw [en.1, show s 223 i + (n : Int) = s 223 (i + 1) by omega]; exact d1
      rw [e1] at hs
      rw [hs 0 (by omega) (by omega)]
      have : n = (s 223 (i + 1) - s 223 i).toNat := by omega
      have hp := hp u fu
      unfold lv at hp
      rw [← this] at hp
      exact hp
    | succ r ih =>
      intro n hn u fu hs
      have en := ed n (by omega)
      have en1 := ed (n + 1) (by omega)
      have cc := b7 (s 223 i + n) (by omega) (by omega)
      have dd := d2 (s 223 i + n) (by omega) (by omega)
      dsimp only [sd_mn, sd_lot, sd_st, sd_bu, sd_ma, sd_rw, sd_pe, sd_t7, sd_en, sd_bk] at dd
      rw [← en.1] at dd en
      have goto : ∀ v top, top = (es (fun x => s 222 (2 * x)) (fun x => s 222 (2 * x + 1)) (s 239) (s 223 i) (n + 1)).1 → L9 (es (fun x => s 222 (2 * x)) (fun x => s 222 (2 * x + 1)) (s 239) (s 223 i) (n + 1)).1 (s 223 i + ((n + 1 : Nat) : Int)) v → ∀ v5 : Int, v5 = s 223 i + n + 1 → L9 top v5 v := fun v top et hv v5 e5 => by
        rw [et, e5, show s 223 i + (n : Int) + 1 = s 223 i + ((n + 1 : Nat) : Int) by omega]; exact hv
      have fup : ∀ j v, f40 s (mm_up u 240 j v) := fun j v a ha => by rw [up_c ha]; exact fu a ha
      apply h9
      rw [show mm_rt 211 26 = 223 from rfl, show mm_rt 211 49 = 240 from rfl, show mm_rt 211 25 = 222 from rfl, fu 223 (by omega), fu 222 (by omega), n32_id (x := s 223 (i + 1)) (by omega) (by omega), n32_id (x := s 223 i + n) (by omega) (by omega)]
      refine ⟨⟨by omega, by omega⟩, fun q => by omega, fun _ => ⟨⟨by omega, by omega⟩, fun v4 e4 => ?_⟩⟩
      unfold r_c at cc
      rw [n32_id (x := v4) (by omega) (by omega)]
      refine ⟨fun q => ?_, fun q => ⟨fun q1 => ?_, fun q1 => ?_⟩⟩
      · have w0 : s 222 (2 * (s 223 i + n)) = 0 := by omega
        have dk := dd.2.1 (by omega)
        apply h42
        rw [show mm_rt 211 49 = 240 from rfl, show mm_rt 211 25 = 222 from rfl, show mm_rt 211 48 = 239 from rfl, fu 222 (by omega), n32_id (x := v4) (by omega) (by omega)]
        refine ⟨fun z => absurd q z, fun _ => ⟨⟨by omega, by omega⟩, ⟨by omega, by omega⟩, fun u1 e1 t et => goto u1 t ?_ (ih (n + 1) (by omega) u1 (by rw [e1]; exact fup _ _) (fun j j1 j2 => ?_))⟩⟩
        · rw [et, es_0 (w := fun x => s 222 (2 * x)) w0]
        · rw [es_0 (w := fun x => s 222 (2 * x)) w0] at j2 ⊢
          dsimp only [sd_mn, sd_lot, sd_st, sd_bu, sd_ma, sd_rw, sd_pe, sd_t7, sd_en, sd_bk] at j2 ⊢
          rw [e1, up_f]
          by_cases z : j = (es (fun x => s 222 (2 * x)) (fun x => s 222 (2 * x + 1)) (s 239) (s 223 i) n).1
          · rw [z, fu_e, fu_e]
          · rw [fu_n z, fu_n z]; exact hs j j1 (by omega)
      · have w0 : 2 ≤ s 222 (2 * (s 223 i + n)) := by omega
        have dk := dd.2.2 w0
        refine ⟨⟨by omega, by omega⟩, fun v5 e5 => ⟨⟨by omega, by omega⟩, fun v7 e7 t et => ?_⟩⟩
        rw [hs _ (by omega) (by omega)] at e5 e7
        have put : ∀ u1 : mm_M, u1 = mm_up u 240 (t - 1) (joi (s 222 (2 * (s 223 i + n))) v5 v7) → ∀ x : Int, x = s 223 i + n + 1 → L9 t x u1 := by
          intro u1 e1
          refine goto u1 t ?_ (ih (n + 1) (by omega) u1 (by rw [e1]; exact fup _ _) (fun j j1 j2 => ?_))
          · rw [et, es_2 (w := fun x => s 222 (2 * x)) w0]; dsimp only [sd_mn, sd_lot, sd_st, sd_bu, sd_ma, sd_rw, sd_pe, sd_t7, sd_en, sd_bk]; omega
          · rw [es_2 (w := fun x => s 222 (2 * x)) w0] at j2 ⊢
            dsimp only [sd_mn, sd_lot, sd_st, sd_bu, sd_ma, sd_rw, sd_pe, sd_t7, sd_en, sd_bk] at j2 ⊢
            rw [e1, up_f, ← e5, ← e7, show t - 1 = (es (fun x => s 222 (2 * x)) (fun x => s 222 (2 * x + 1)) (s 239) (s 223 i) n).1 - 2 by omega]
            by_cases z : j = (es (fun x => s 222 (2 * x)) (fun x => s 222 (2 * x + 1)) (s 239) (s 223 i) n).1 - 2
            · rw [z, fu_e, fu_e]
            · rw [fu_n z, fu_n z]; exact hs j j1 (by omega)
        have g97 : ∀ x : Int, brg x = joi (s 222 (2 * (s 223 i + n))) v5 v7 → L197 t (s 223 i + n) x (t - 1) u := by
          intro x hx
          apply h197
          refine u_brg ⟨⟨by omega, by omega⟩, fun u1 e1 => put u1 ?_⟩
          rw [e1, show mm_rt 211 49 = 240 from rfl, hx]
        rw [← e4] at put g97
        unfold joi at put g97
        refine ⟨fun q5 => ⟨fun q6 => ⟨fun q2 => ⟨fun q3 => g97 _ ?_, fun q3 => g97 _ ?_⟩, fun q2 => g97 _ ?_⟩, fun q6 => ⟨fun z => ⟨⟨by omega, by omega⟩, fun u1 e1 => put u1 ?_⟩, fun z => ⟨⟨by omega, by omega⟩, fun u1 e1 => put u1 ?_⟩⟩⟩, fun q5 => ⟨fun z => ⟨⟨by omega, by omega⟩, fun u1 e1 => put u1 ?_⟩, fun z => ⟨⟨by omega, by omega⟩, fun u1 e1 => put u1 ?_⟩⟩⟩
        · rw [if_neg q5, if_neg q6, if_neg q2, if_neg q3]
        · rw [if_neg q5, if_neg q6, if_neg q2, if_pos q3]
        · rw [if_neg q5, if_neg q6, if_pos q2]
        · rw [e1, if_neg q5, if_pos q6, if_neg z]
        · rw [e1, if_neg q5, if_pos q6, if_pos z]
        · rw [e1, if_pos q5, if_pos z]
        · rw [e1, if_pos q5, if_neg z]
      · have w0 : s 222 (2 * (s 223 i + n)) = 1 := by omega
        have dk := dd.2.1 (by omega)
        apply h42
        rw [show mm_rt 211 49 = 240 from rfl, show mm_rt 211 25 = 222 from rfl, show mm_rt 211 48 = 239 from rfl, fu 222 (by omega), fu 239 (by omega), n32_id (x := v4) (by omega) (by omega)]
        refine ⟨fun _ => ⟨⟨by omega, by omega⟩, ⟨by omega, by omega⟩, ⟨by omega, by omega⟩, fun u1 e1 t et => goto u1 t ?_ (ih (n + 1) (by omega) u1 (by rw [e1]; exact fup _ _) (fun j j1 j2 => ?_))⟩, fun z => absurd z q⟩
        · rw [et, es_1 (w := fun x => s 222 (2 * x)) w0]
        · rw [es_1 (w := fun x => s 222 (2 * x)) w0] at j2 ⊢
          dsimp only [sd_mn, sd_lot, sd_st, sd_bu, sd_ma, sd_rw, sd_pe, sd_t7, sd_en, sd_bk] at j2 ⊢
          rw [e1, up_f]
          by_cases z : j = (es (fun x => s 222 (2 * x)) (fun x => s 222 (2 * x + 1)) (s 239) (s 223 i) n).1
          · rw [z, fu_e, fu_e]
          · rw [fu_n z, fu_n z]; exact hs j j1 (by omega)
  have := key (s 223 (i + 1) - s 223 i).toNat 0 (by omega) s (fun _ _ => rfl) (fun j j1 j2 => by have : j < 0 := j2; omega)
  rw [show s 223 i + ((0 : Nat) : Int) = s 223 i by omega] at this
  rw [e3]
  exact this
/-- the best of n by their worth: its place and its worth -/
def bs (mo : Int) (f : Int → Int) : Nat → Int × Int
  | 0 => (-1, 0)
  | n + 1 => if n = 0 ∨ (if mo = 0 then ¬ n32 (bs mo f n).2 < n32 (f n) else ¬ n32 (f n) < n32 (bs mo f n).2) then ((n : Int), f n) else bs mo f n
theorem bs_r (mo : Int) (f : Int → Int) : ∀ n : Nat, 0 < n → 0 ≤ (bs mo f n).1 ∧ (bs mo f n).1 < n := by
  intro n
  induction n with
  | zero => intro h; omega
  | succ n ih =>
    intro _
    rw [bs]
    by_cases h : n = 0 ∨ (if mo = 0 then ¬ n32 (bs mo f n).2 < n32 (f n) else ¬ n32 (f n) < n32 (bs mo f n).2)
    · rw [if_pos h]; dsimp only [sd_mn, sd_lot, sd_st, sd_bu, sd_ma, sd_rw, sd_pe, sd_t7, sd_en, sd_bk]; omega
    · rw [if_neg h]
      have := ih (by rcases Nat.eq_zero_or_pos n with z | z; exact absurd (Or.inl z) h; exact z)
      omega
theorem bs_c {mo : Int} {f g : Int → Int} : ∀ n : Nat, (∀ k : Int, 0 ≤ k → k < n → f k = g k) → bs mo f n = bs mo g n := by
  intro n
  induction n with
  | zero => intro _; rfl
  | succ n ih =>
    intro h
    rw [bs, bs, ih (fun k a b => h k a (by omega)), h n (by omega) (by omega)]
theorem t_isTold {s : mm_M} {a : Int} (hL : r_L s) (ha : 0 ≤ a ∧ a ≤ 8) {post : Int → mm_M → Prop} (h1 : 4 ≤ a → a - 4 < s 19 4 → post 1 s) (h0 : a < 4 ∨ s 19 4 ≤ a - 4 → post 0 s) : wp_X3_isTold 19 a s post := by
  have l0 := hL.1
  have l1 := hL.2.1
  unfold wp_X3_isTold
  rw [n32_id (x := a) (by omega) (by omega), n32_id (x := a - 4) (by omega) (by omega), n32_id (x := s 19 4) (by omega) (by omega)]
  exact ⟨fun q => h0 (by omega), fun q => ⟨fun q2 => h0 (by omega), fun q2 => ⟨fun q3 => by omega, fun _ => h1 (by omega) (by omega)⟩⟩⟩
theorem u_isTold {s : mm_M} {a : Int} (hL : r_L s) (ha : 0 ≤ a ∧ a ≤ 8) {post : Int → mm_M → Prop} (h1 : 4 ≤ a → a - 4 < s 19 4 → post 1 s) (h0 : a < 4 ∨ s 19 4 ≤ a - 4 → post 0 s) : wp_X11_isTold 211 a s post := by
  have l0 := hL.1
  have l1 := hL.2.1
  unfold wp_X11_isTold
  rw [hL.2.2.1, n32_id (x := a) (by omega) (by omega), n32_id (x := a - 4) (by omega) (by omega), n32_id (x := s 19 4) (by omega) (by omega)]
  exact ⟨fun q => h0 (by omega), fun q => ⟨fun q2 => h0 (by omega), fun q2 => h1 (by omega) (by omega)⟩⟩
theorem t_best {s : mm_M} {m a : Int} {N : Int → Int → Int} (hL : r_L s) (hc : crw s m N) (ha : 4 ≤ a ∧ a ≤ 8) (hi : a - 4 < s 19 4) {post : Int → mm_M → Prop} (hp : ∀ u, f23 s u → post (bs (s 22 (a - 4)) (fun k => lv s (a - 4) (N k)) m.toNat).1 u) : wp_X3_placeOfNext 19 a 1 s post := by
  have m1 := hc.m1
  intro L30 L85 h30 h85
  refine t_isTold hL (by omega) (fun _ _ => ⟨fun _ v3 e3 => ?_, fun z => absurd z (by decide)⟩) (fun z => by omega)
  rw [e3]
  have b5 := (hL.2.2.2.2 (a - 4) (by omega) hi).2.2.2.2.1
  have key : ∀ d x : Nat, (x : Int) + d = m → ∀ u, f23 s u → L30 (a - 4) (bs (s 22 (a - 4)) (fun k => lv s (a - 4) (N k)) x).1 (bs (s 22 (a - 4)) (fun k => lv s (a - 4) (N k)) x).2 x u := by
    intro d
    induction d with
    | zero =>
      intro x hx u fu
      apply h30
      rw [(fu.crw hc).m0, n32_id (x := m) (by omega) (by omega), n32_id (x := (x : Int)) (by omega) (by omega)]
      refine ⟨fun _ => ?_, fun q => by omega⟩
      have hp := hp u fu
      rw [show m.toNat = x by omega] at hp
      exact hp
    | succ d ih =>
      intro x hx u fu
      apply h30
      rw [(fu.crw hc).m0, n32_id (x := m) (by omega) (by omega), n32_id (x := (x : Int)) (by omega) (by omega)]
      refine ⟨fun q => by omega, fun _ => ?_⟩
      have c4 : u 19 4 = s 19 4 := fu 19 4 (by omega) (by omega)
      refine t_work (fu.rL hL) (fu.crw hc) (by rw [c4]; omega) ⟨by omega, by omega⟩ (fun v fv v7 e7 => ⟨⟨by omega, by omega⟩, ?_⟩)
      have fv := fu.tr fv
      rw [fu.lv] at e7
      rw [show mm_rt 19 2 = 22 from rfl, fv.c (a := 22) (by omega) (by omega), n32_id (x := s 22 (a - 4)) (by omega) (by omega)]
      have nx := ih (x + 1) (by omega) v fv
      have wi : ∀ q0 : Int, n32 q0 = q0 → (q0 ≠ 0 ↔ (if s 22 (a - 4) = 0 then ¬ n32 (bs (s 22 (a - 4)) (fun k => lv s (a - 4) (N k)) x).2 < n32 v7 else ¬ n32 v7 < n32 (bs (s 22 (a - 4)) (fun k => lv s (a - 4) (N k)) x).2)) → L85 (a - 4) (bs (s 22 (a - 4)) (fun k => lv s (a - 4) (N k)) x).1 (bs (s 22 (a - 4)) (fun k => lv s (a - 4) (N k)) x).2 x v7 q0 v := by
        intro q0 hq0 hq
        apply h85
        intro v8 e8
        rw [e8, hq0]
        rw [show ((x + 1 : Nat) : Int) = (x : Int) + 1 by omega, bs] at nx
        have e1 : n32 (bs (s 22 (a - 4)) (fun k => lv s (a - 4) (N k)) x).1 = -1 ↔ x = 0 := by
          rcases Nat.eq_zero_or_pos x with z | z
          · subst z; exact ⟨fun _ => rfl, fun _ => rfl⟩
          · have := bs_r (s 22 (a - 4)) (fun k => lv s (a - 4) (N k)) x z
            rw [n32_id (by omega) (by omega)]
            omega
        refine ⟨fun z v4 e4 v5 e5 v6 e6 => ?_, fun z => ⟨fun z2 v6 e6 => ?_, fun z2 v4 e4 v5 e5 v6 e6 => ?_⟩⟩
        · rw [if_pos (Or.inl (e1.mp z))] at nx
          rw [e4, e5, e6, e7]
          exact nx
        · rw [if_neg (fun y => by
            rcases y with y | y
            · exact z (e1.mpr y)
            · rw [← e7] at y; exact absurd z2 (hq.mpr y))] at nx
          rw [e6]
          exact nx
        · rw [if_pos (Or.inr (by rw [← e7]; exact hq.mp z2))] at nx
          rw [e4, e5, e6, e7]
          exact nx
      refine ⟨fun z => ⟨fun y => wi 0 rfl ?_, fun y => wi 1 rfl ?_⟩, fun z => ⟨fun y => wi 0 rfl ?_, fun y => wi 1 rfl ?_⟩⟩
      · rw [if_pos z]; exact ⟨fun h => absurd rfl h, fun h => absurd y h⟩
      · rw [if_pos z]; exact ⟨fun _ => y, fun _ => by decide⟩
      · rw [if_neg z]; exact ⟨fun h => absurd rfl h, fun h => absurd y h⟩
      · rw [if_neg z]; exact ⟨fun _ => y, fun _ => by decide⟩
  exact key m.toNat 0 (by omega) s (fun _ _ _ _ => rfl)
