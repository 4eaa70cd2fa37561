/-! the class's row -/
theorem r_C.srt {s : mm_M} (h : r_C s) : srt (s 200) (s 201) (s 199 8).toNat := by
  obtain ⟨a, b, c, d⟩ := h
  refine ⟨by omega, fun k k1 k2 => ?_⟩
  have := d k k1 (by omega)
  exact ⟨this.2.2.1, this.2.2.2.1, this.2.2.2.2.1, this.2.2.2.2.2.1, fun q => this.2.2.2.2.2.2 (by omega)⟩
/-- the row that the class holds: n comers -/
def cR (s : mm_M) (n : Nat) : Prop := s 199 8 = n ∧ srt (s 200) (s 201) n
theorem t_when {s : mm_M} {n V : Nat} {now : Int} (h : cR s n) (hV : V < 256) (hn : 0 ≤ now ∧ now ≤ 1000) {post : Int → mm_M → Prop} (hp : post (tmv (s 200) V n now) s) : wp_X6_whenServed 199 V now s post := by
  have n8 := h.2.1
  obtain ⟨o1, o2, o3⟩ := fst0_ok V n
  intro L2 h2
  have key : ∀ d x : Nat, x + d = n → x ≤ fst0 V n → L2 x s := by
    intro d
    induction d with
    | zero =>
      intro x hx hf
      apply h2
      rw [h.1, n32_id (x := (n : Int)) (by omega) (by omega), n32_id (x := (x : Int)) (by omega) (by omega)]
      refine ⟨fun _ => ?_, fun q => by omega⟩
      unfold tmv at hp
      rw [if_neg (by omega)] at hp
      exact hp
    | succ d ih =>
      intro x hx hf
      apply h2
      rw [h.1, n32_id (x := (n : Int)) (by omega) (by omega), n32_id (x := (x : Int)) (by omega) (by omega), b_bt V hV x (by omega), show mm_rt 199 2 = 200 from rfl]
      refine ⟨fun q => by omega, fun _ => ⟨fun q => by omega, fun _ => ?_⟩⟩
      have k := h.2.2 x (by omega) (by omega)
      by_cases q : V.testBit x = true
      · rw [if_pos q]
        refine ⟨fun _ v ev => ?_, fun z => absurd z (by decide)⟩
        rw [ev, show (x : Int) + 1 = ((x + 1 : Nat) : Int) by omega]
        refine ih (x + 1) (by omega) ?_
        rcases Nat.lt_or_ge x (fst0 V n) with z | z
        · omega
        · have e : fst0 V n = x := by omega
          have := o3 (by omega)
          rw [e, q] at this
          cases this
      · rw [if_neg q]
        refine ⟨fun z => absurd m_0 z, fun _ => ⟨⟨by omega, by omega⟩, ?_⟩⟩
        have e : fst0 V n = x := by
          rcases Nat.lt_or_ge x (fst0 V n) with z | z
          · exact absurd (o2 x z) q
          · omega
        unfold tmv at hp
        rw [if_pos (by omega), e] at hp
        have em : mm_max now (s 200 x) = m2 now (s 200 x) := by
          unfold mm_max m2
          rw [n32_id (x := now) (by omega) (by omega), n32_id (x := s 200 x) (by omega) (by omega)]
        rw [em]
        exact hp
  exact key n 0 (by omega) (by omega)
theorem t_stands {s : mm_M} {n V k : Nat} {t : Int} (h : cR s n) (hV : V < 256) (hk : k < n) (ht : 0 ≤ t ∧ t ≤ 1000) {post : Int → mm_M → Prop} (h1 : V.testBit k = false ∧ s 200 k ≤ t → post 1 s) (h0 : ¬ (V.testBit k = false ∧ s 200 k ≤ t) → post 0 s) : wp_X6_stands 199 k V t s post := by
  have n8 := h.2.1
  have c := h.2.2 k (by omega) (by omega)
  unfold wp_X6_stands
  rw [b_bt V hV k (by omega), show mm_rt 199 2 = 200 from rfl, n32_id (x := t) (by omega) (by omega), n32_id (x := s 200 k) (by omega) (by omega)]
  by_cases q : V.testBit k = true
  · rw [if_pos q]
    exact ⟨fun _ => h0 (fun z => by rw [q] at z; cases z.1), fun z => absurd z (by decide)⟩
  · rw [if_neg q]
    exact ⟨fun z => absurd m_0 z, fun _ => ⟨⟨by omega, by omega⟩, fun z => h0 (fun y => by omega), fun z => h1 ⟨b_no q, by omega⟩⟩⟩
theorem crx.up {b u : mm_M} {mn le x : Int} {N : Int → Int → Int} (h : crx b u mn le x N) {a : Nat} {j v : Int} (ha : ¬ (1 ≤ a ∧ a ≤ 6)) : crx (mm_up b a j v) (mm_up u a j v) mn le x N := by
  refine ⟨by rw [up_c (by omega)]; exact h.m0, by rw [up_c (by omega)]; exact h.m1, by rw [up_c (by omega)]; exact h.m2, fun k k1 k2 => by rw [up_c (by omega)]; exact h.a0 k k1 k2, fun k k1 k2 => by rw [up_c (by omega)]; exact h.a1 k k1 k2, fun k k1 k2 => by rw [up_c (by omega)]; exact h.a2 k k1 k2, fun k k1 k2 => by rw [up_c (by omega)]; exact h.a3 k k1 k2, fun k k1 k2 => by rw [up_c (by omega)]; exact h.a9 k k1 k2, fun c hc => ?_⟩
  funext i
  have := congrFun (h.fr c hc) i
  unfold mm_up
  rw [this]
def fW (s u : mm_M) : Prop := ∀ a j, ¬ (1 ≤ a ∧ a ≤ 6) → a ≠ 23 → a ≠ 204 → ¬ (a = 19 ∧ j = 6) → u a j = s a j
theorem fW.c {s u : mm_M} (h : fW s u) {a : Nat} (h1 : ¬ (1 ≤ a ∧ a ≤ 6)) (h2 : a ≠ 23) (h3 : a ≠ 204) (h4 : a ≠ 19) : u a = s a := funext fun j => h a j h1 h2 h3 (fun z => h4 z.1)
theorem fW.ag {s u : mm_M} (h : fW s u) : ag s u := fun a j q => by
  refine h a j (fun z => ?_) (fun z => ?_) (fun z => ?_) (fun z => ?_)
  · unfold scr at q
    rw [decide_eq_true (show 1 ≤ a ∧ a ≤ 6 from z)] at q
    simp only [Bool.true_or] at q
    cases q
  · rw [z] at q; cases (show scr 23 j = true from rfl).symm.trans q
  · rw [z] at q; cases (show scr 204 j = true from rfl).symm.trans q
  · rw [z.1, z.2] at q; cases q
theorem t_whoR {s : mm_M} {n V : Nat} {t l : Int} (hL : r_L s) (h : cR s n) (hV : V < 256) (ht : 0 ≤ t ∧ t ≤ 1000) (hl : 0 ≤ l ∧ l ≤ 8) (hm : 0 < (gth (s 200) V t n).1) {post : Int → mm_M → Prop} (hp : ∀ u, fW s u → post (whR s l n V t) u) : wp_X6_whoIsNext 199 l V t s post := by
  have n8 := h.2.1
  have go := gth_ok (ca := s 200) (V := V) (t := t) n
  have pr := plR_r (s := s) (l := l) (t := t) (g := gth (s 200) V t n) ⟨hm, by omega⟩
  intro L17 L92 L124 h17 h92 h124
  rw [show mm_rt 199 1 = 1 from rfl]
  have last : ∀ u, fW s u → u 204 (plR s l t (gth (s 200) V t n)) = whR s l n V t → L124 (gth (s 200) V t n).1 (plR s l t (gth (s 200) V t n)) u := by
    intro u fu eu
    apply h124
    intro v ev
    rw [ev, n32_id (x := plR s l t (gth (s 200) V t n)) (by omega) (by omega), n32_id (x := (gth (s 200) V t n).1) (by omega) (by omega), show mm_rt 199 6 = 204 from rfl]
    refine ⟨fun q => by omega, fun _ => ⟨fun q => by omega, fun _ => ⟨⟨by omega, by omega⟩, ?_⟩⟩⟩
    rw [eu]
    exact hp u fu
  have mid : ∀ u b, crx b u t (200 - t) (gth (s 200) V t n).1 (nmR (s 200) (s 201) t (gth (s 200) V t n).1 (gth (s 200) V t n).2) → (∀ a : Nat, a ≠ 204 → b a = s a) → (∀ p : Int, 0 ≤ p → p < (gth (s 200) V t n).1 → b 204 p = (gth (s 200) V t n).2 p) → L92 (gth (s 200) V t n).1 u := by
    intro u b hu hb hg
    have ua : ∀ a : Nat, ¬ (1 ≤ a ∧ a ≤ 6) → a ≠ 204 → u a = s a := fun a h1 h2 => (hu.fr a h1).trans (hb a h2)
    have fu : fW s u := fun a j h1 _ h3 _ => by rw [ua a h1 h3]
    have u204 : u 204 = b 204 := hu.fr 204 (by omega)
    apply h92
    rw [show mm_rt 199 0 = 19 from rfl, show mm_rt 199 1 = 1 from rfl]
    have l4 : u 19 4 = s 19 4 := by rw [ua 19 (by omega) (by omega)]
    refine t_isTold (fu.ag.rL hL) hl (fun q1 q2 => ⟨fun z => absurd z (by decide), fun _ => ?_⟩) (fun q => ⟨fun _ => ?_, fun z => absurd m_0 z⟩)
    · have cr : crw u (gth (s 200) V t n).1 (nmR (s 200) (s 201) t (gth (s 200) V t n).1 (gth (s 200) V t n).2) := ⟨hu.m0, by omega, hu.a0, hu.a1, hu.a2, hu.a3, fun _ _ _ => rfl, fun _ _ _ => rfl, fun _ _ _ => rfl, fun _ _ _ => by rw [hu.m1]; rfl, fun _ _ _ => by rw [hu.m2]; rfl, hu.a9⟩
      refine t_best (fu.ag.rL hL) cr ⟨q1, by omega⟩ q2 (fun v fv => ?_)
      rw [l4] at q2
      have e : (bs (u 22 (l - 4)) (fun k => lv u (l - 4) (nmR (s 200) (s 201) t (gth (s 200) V t n).1 (gth (s 200) V t n).2 k)) (gth (s 200) V t n).1.toNat).1 = plR s l t (gth (s 200) V t n) := by
        unfold plR lv
        rw [if_pos ⟨q1, q2⟩, ua 22 (by omega) (by omega), ua 222 (by omega) (by omega), ua 223 (by omega) (by omega)]
      rw [e]
      refine last v (fun a j h1 h2 h3 h4 => by rw [fv a j h4 h2]; exact fu a j h1 h2 h3 h4) ?_
      rw [fv.c (a := 204) (by omega) (by omega), u204]
      exact hg _ pr.1 pr.2
    · rw [l4] at q
      refine s_pbX (n32_id (by omega) (by omega)) ?_
      have e : pb l (gth (s 200) V t n).1 = plR s l t (gth (s 200) V t n) := by
        unfold plR
        rw [if_neg (by omega)]
      rw [e]
      refine last u fu ?_
      rw [u204]
      exact hg _ pr.1 pr.2
  refine t_gather (fun u0 k0 => ?_)
  have key : ∀ d x : Nat, x + d = n → ∀ u b, crx b u t (200 - t) (gth (s 200) V t x).1 (nmR (s 200) (s 201) t (gth (s 200) V t n).1 (gth (s 200) V t n).2) → (∀ a : Nat, a ≠ 204 → b a = s a) → (∀ p : Int, 0 ≤ p → p < (gth (s 200) V t x).1 → b 204 p = (gth (s 200) V t n).2 p) → L17 (gth (s 200) V t x).1 x u := by
    intro d
    induction d with
    | zero =>
      intro x hx u b hu hb hg
      have : x = n := by omega
      subst this
      have e8 : u 199 8 = x := by rw [hu.fr 199 (by omega), hb 199 (by omega)]; exact h.1
      apply h17
      rw [e8]
      exact ⟨fun _ => mid u b hu hb hg, fun q => absurd (Int.le_refl _) q⟩
    | succ d ih =>
      intro x hx u b hu hb hg
      have ua : ∀ a : Nat, ¬ (1 ≤ a ∧ a ≤ 6) → a ≠ 204 → u a = s a := fun a h1 h2 => (hu.fr a h1).trans (hb a h2)
      have e8 : u 199 8 = n := by rw [ua 199 (by omega) (by omega)]; exact h.1
      have hu' : cR u n := ⟨e8, by rw [ua 200 (by omega) (by omega), ua 201 (by omega) (by omega)]; exact h.2⟩
      have gx := gth_ok (ca := s 200) (V := V) (t := t) x
      apply h17
      rw [e8, n32_id (x := (n : Int)) (by omega) (by omega), n32_id (x := (x : Int)) (by omega) (by omega)]
      refine ⟨fun q => by omega, fun _ => ⟨fun q => by omega, fun _ => ?_⟩⟩
      refine t_stands hu' hV (by omega) ht (fun q => ⟨fun z => absurd z (by decide), fun _ => ⟨⟨by omega, by omega⟩, ⟨by omega, by omega⟩, ⟨by omega, by omega⟩, ?_⟩⟩) (fun q => ⟨fun _ v ev => ?_, fun z => absurd m_0 z⟩)
      · rw [ua 200 (by omega) (by omega)] at q
        have ga := gth_at (show x < n by omega) q
        rw [show mm_rt 199 1 = 1 from rfl, show mm_rt 199 2 = 200 from rfl, show mm_rt 199 3 = 201 from rfl, show mm_rt 199 6 = 204 from rfl, ua 200 (by omega) (by omega), ua 201 (by omega) (by omega)]
        have N0 : nmR (s 200) (s 201) t (gth (s 200) V t n).1 (gth (s 200) V t n).2 (gth (s 200) V t x).1 0 = s 200 x := by
          show s 200 ((gth (s 200) V t n).2 (gth (s 200) V t x).1) = _
          rw [ga]
        have N1 : nmR (s 200) (s 201) t (gth (s 200) V t n).1 (gth (s 200) V t n).2 (gth (s 200) V t x).1 1 = t - s 200 x := by
          show t - s 200 ((gth (s 200) V t n).2 (gth (s 200) V t x).1) = _
          rw [ga]
        have N2 : nmR (s 200) (s 201) t (gth (s 200) V t n).1 (gth (s 200) V t n).2 (gth (s 200) V t x).1 2 = s 201 x := by
          show s 201 ((gth (s 200) V t n).2 (gth (s 200) V t x).1) = _
          rw [ga]
        refine t_appN hu ⟨gx.1, by omega⟩ N0 N1 N2 rfl rfl (fun v hv => ⟨⟨gx.1, by omega⟩, fun s10 e10 v4 e4 v5 e5 => ?_⟩)
        have gy := gth_y q
        have g1 : (gth (s 200) V t (x + 1)).1 = (gth (s 200) V t x).1 + 1 := by rw [gy]
        have nx := ih (x + 1) (by omega) s10 (mm_up b 204 (gth (s 200) V t x).1 x) (by rw [e10, g1]; exact hv.up (by omega)) (fun a ha => by rw [up_c ha]; exact hb a ha) (fun p p1 p2 => by
          rw [g1] at p2
          by_cases z : p = (gth (s 200) V t x).1
          · rw [z, up_e, ga]
          · rw [up_n (Or.inr z)]; exact hg p p1 (by omega))
        rw [e4, e5, ← g1, show (x : Int) + 1 = ((x + 1 : Nat) : Int) by omega]
        exact nx
      · rw [ua 200 (by omega) (by omega)] at q
        have gy := gth_n q
        have nx := ih (x + 1) (by omega) u b (by rw [gy]; exact hu) hb (by rw [gy]; exact hg)
        rw [gy] at nx
        rw [ev, show (x : Int) + 1 = ((x + 1 : Nat) : Int) by omega]
        exact nx
  have z0 : (gth (s 200) V t 0).1 = 0 := rfl
  have := key n 0 (by omega) u0 s (k0 _) (fun _ _ => rfl) (fun p p1 p2 => by rw [z0] at p2; omega)
  rw [z0] at this
  exact this
/-- what serving the row leaves: order and waits -/
def sv (s u : mm_M) (l : Int) (n i : Nat) : Prop := ag s u ∧ (∀ j : Int, 0 ≤ j → j < i → u 202 j = rO s l n i j) ∧ (∀ k : Nat, k < n → (rn s l n i).1.testBit k = true → u 203 k = rWt s l n i k)
theorem ag.cR {s u : mm_M} (h : ag s u) {n : Nat} (c : cR s n) : cR u n := ⟨by rw [h 199 8 rfl]; exact c.1, by rw [h.c (a := 200) (fun _ => rfl), h.c (a := 201) (fun _ => rfl)]; exact c.2⟩
theorem whR_ag {s u : mm_M} (h : ag s u) {l : Int} {n V : Nat} {t : Int} : whR u l n V t = whR s l n V t := by
  unfold whR plR lv
  rw [h.c (a := 200) (fun _ => rfl), h.c (a := 201) (fun _ => rfl), h.c (a := 22) (fun _ => rfl), h.c (a := 222) (fun _ => rfl), h.c (a := 223) (fun _ => rfl), h 19 4 rfl]
theorem t_serveAll {s : mm_M} {n : Nat} {l : Int} (hL : r_L s) (h : cR s n) (hl : 0 ≤ l ∧ l ≤ 8) {post : mm_M → Prop} (hp : ∀ u, sv s u l n n → post u) : wp_X6_serveAll 199 l s post := by
  have n8 := h.2.1
  have ok := rn_ok (l := l) h.2
  intro L7 h7
  have key : ∀ d x : Nat, x + d = n → ∀ u, sv s u l n x → L7 (rn s l n x).1 (rn s l n x).2 x u := by
    intro d
    induction d with
    | zero =>
      intro x hx u hu
      have : x = n := by omega
      subst this
      apply h7
      rw [(hu.1.cR h).1]
      exact ⟨fun _ => hp u hu, fun q => absurd (Int.le_refl _) q⟩
    | succ d ih =>
      intro x hx u hu
      obtain ⟨a1, a2, a3, a4, a5, a5', a6⟩ := ok x (by omega)
      obtain ⟨b1, b2, b3, b4, b5, b6, b7, b8⟩ := a6 (by omega)
      have cu := hu.1.cR h
      have e200 : u 200 = s 200 := hu.1.c (fun _ => rfl)
      apply h7
      rw [cu.1, n32_id (x := (n : Int)) (by omega) (by omega), n32_id (x := (x : Int)) (by omega) (by omega)]
      refine ⟨fun q => by omega, fun _ => ⟨fun q => by omega, fun _ => ?_⟩⟩
      refine t_when cu a1 ⟨a3, by omega⟩ ?_
      intro v3 e3
      have ev3 : v3 = rtm s l n x := by rw [e3, e200]; rfl
      rw [ev3]
      refine t_whoR (hu.1.rL hL) cu a1 ⟨b2, by omega⟩ hl (by rw [e200]; exact b4) (fun w fw v5 e5 => ?_)
      have ev5 : v5 = rwh s l n x := by rw [e5, whR_ag hu.1]; rfl
      rw [ev5, n32_id (x := rwh s l n x) (by omega) (by omega), show mm_rt 199 2 = 200 from rfl, show mm_rt 199 3 = 201 from rfl, show mm_rt 199 4 = 202 from rfl, show mm_rt 199 5 = 203 from rfl]
      refine ⟨fun q => by omega, fun _ => ⟨fun _ => ⟨⟨by omega, by omega⟩, fun s10 e10 => ⟨⟨by omega, by omega⟩, ⟨by omega, by omega⟩, fun s11 e11 => ⟨⟨by omega, by omega⟩, fun v3' e3' v2' e2' v4' e4' => ?_⟩⟩⟩, fun q => by omega⟩⟩
      have w1 : ag s w := hu.1.tr fw.ag
      have w200 : w 200 = s 200 := w1.c (fun _ => rfl)
      have w201 : w 201 = s 201 := w1.c (fun _ => rfl)
      have w202 : w 202 = u 202 := fw.c (by omega) (by omega) (by omega) (by omega)
      have w203 : w 203 = u 203 := fw.c (by omega) (by omega) (by omega) (by omega)
      have s10c : s10 200 = s 200 := by rw [e10, up_c (by omega), w200]
      rw [s10c] at e11
      have s11t : s11 201 = s 201 := by rw [e11, up_c (by omega), e10, up_c (by omega), w201]
      rw [s11t] at e3'
      have eb : (((rwh s l n x).toNat : Nat) : Int) = rwh s l n x := by omega
      have bo := b_or (rn s l n x).1 a1 (rwh s l n x).toNat (by omega)
      rw [eb] at bo
      rw [bo.1] at e2'
      have nx := ih (x + 1) (by omega) s11 ⟨?_, ?_, ?_⟩
      · rw [rn_s, show ((x + 1 : Nat) : Int) = (x : Int) + 1 by omega] at nx
        rw [e2', e3', e4']
        exact nx
      · rw [e11, e10]
        exact (w1.up rfl).up rfl
      · intro j j1 j2
        show s11 202 j = fu _ _ _ j
        rw [e11, up_c (by omega), e10]
        by_cases z : j = x
        · rw [z, up_e, fu_e]
        · rw [up_n (Or.inr z), fu_n z, w202]
          exact hu.2.1 j j1 (by omega)
      · intro k hk hb
        have hb := b_in.mp hb
        show s11 203 k = fu _ _ _ (k : Int)
        rw [e11]
        by_cases z : (k : Int) = rwh s l n x
        · rw [z, up_e, fu_e]
        · rw [up_n (Or.inr z), fu_n z, e10, up_c (by omega), w203]
          refine hu.2.2 k hk ?_
          rcases hb with hb | hb
          · exact hb
          · have hb : (rwh s l n x).toNat = k := hb
            omega
  exact key n 0 (by omega) s ⟨ag.rf, fun j j1 j2 => by omega, fun k hk hb => by
    have hb : (0 : Nat).testBit k = true := hb
    rw [Nat.zero_testBit] at hb
    cases hb⟩
/-- the waits that the class holds behind it -/
theorem sv.w {s u : mm_M} {l : Int} {n : Nat} (h : sv s u l n n) (c : cR s n) : ∀ k : Nat, k < n → u 203 k = rWt s l n n k ∧ 0 ≤ rWt s l n n k ∧ rWt s l n n k ≤ 400 := by
  intro k hk
  have ok := rn_ok (l := l) c.2 n (Nat.le_refl n)
  have al := cn_all (V := (rn s l n n).1) n (by rw [ok.2.1]; exact Int.le_refl _) k hk
  have r := ok.2.2.2.2.1 k (by omega) (by omega)
  exact ⟨h.2.2 k hk al, r.1, r.2⟩
theorem tot_r {f : Int → Int} {B : Int} {n : Nat} (h : ∀ k : Nat, k < n → 0 ≤ f k ∧ f k ≤ B) : ∀ m : Nat, m ≤ n → 0 ≤ tot f m ∧ tot f m ≤ B * m := by
  intro m
  induction m with
  | zero => intro _; rw [tot]; omega
  | succ m ih =>
    intro hm
    have a := ih (by omega)
    have b := h m (by omega)
    rw [tot, show ((m + 1 : Nat) : Int) = (m : Int) + 1 by omega, Int.mul_add]
    omega
theorem totM_r {f : Int → Int} {B : Int} (hB : 0 ≤ B) {n : Nat} (h : ∀ k : Nat, k < n → 0 ≤ f k ∧ f k ≤ B) : ∀ m : Nat, m ≤ n → 0 ≤ totM f m ∧ totM f m ≤ B := by
  intro m
  induction m with
  | zero => intro _; rw [totM]; omega
  | succ m ih =>
    intro hm
    have a := ih (by omega)
    have b := h m (by omega)
    rw [totM]
    unfold m2
    split <;> omega
theorem t_together {s : mm_M} {n : Nat} {f : Int → Int} (c : s 199 8 = n) (hn : n ≤ 8) (hf : ∀ k : Nat, k < n → s 203 k = f k ∧ 0 ≤ f k ∧ f k ≤ 400) {post : Int → mm_M → Prop} (hp : post (tot f n) s) : wp_X6_together 199 s post := by
  intro L4 h4
  have key : ∀ d x : Nat, x + d = n → L4 (tot f x) x s := by
    intro d
    induction d with
    | zero =>
      intro x hx
      have : x = n := by omega
      subst this
      apply h4
      rw [c]
      exact ⟨fun _ => hp, fun q => absurd (Int.le_refl _) q⟩
    | succ d ih =>
      intro x hx
      apply h4
      rw [c, n32_id (x := (n : Int)) (by omega) (by omega), n32_id (x := (x : Int)) (by omega) (by omega), show mm_rt 199 5 = 203 from rfl]
      refine ⟨fun q => by omega, fun _ => ⟨fun q => by omega, fun _ => ⟨⟨by omega, by omega⟩, fun v1 e1 v2 e2 => ?_⟩⟩⟩
      rw [e1, e2, (hf x (by omega)).1, show (x : Int) + 1 = ((x + 1 : Nat) : Int) by omega]
      exact ih (x + 1) (by omega)
  exact key n 0 (by omega)
theorem t_longest {s : mm_M} {n : Nat} {f : Int → Int} (c : s 199 8 = n) (hn : n ≤ 8) (hf : ∀ k : Nat, k < n → s 203 k = f k ∧ 0 ≤ f k ∧ f k ≤ 400) {post : Int → mm_M → Prop} (hp : post (totM f n) s) : wp_X6_longest 199 s post := by
  have r := totM_r (f := f) (B := 400) (by omega) (n := n) (fun k hk => (hf k hk).2)
  intro L4 h4
  have key : ∀ d x : Nat, x + d = n → L4 (totM f x) x s := by
    intro d
    induction d with
    | zero =>
      intro x hx
      have : x = n := by omega
      subst this
      apply h4
      rw [c]
      exact ⟨fun _ => hp, fun q => absurd (Int.le_refl _) q⟩
    | succ d ih =>
      intro x hx
      have rx := r x (by omega)
      have fx := hf x (by omega)
      apply h4
      rw [c, n32_id (x := (n : Int)) (by omega) (by omega), n32_id (x := (x : Int)) (by omega) (by omega), show mm_rt 199 5 = 203 from rfl]
      refine ⟨fun q => by omega, fun _ => ⟨fun q => by omega, fun _ => ⟨⟨by omega, by omega⟩, fun v1 e1 v2 e2 => ?_⟩⟩⟩
      have nx := ih (x + 1) (by omega)
      rw [totM] at nx
      have em : mm_max (totM f x) (f x) = m2 (totM f x) (f x) := by
        unfold mm_max m2
        rw [n32_id (x := totM f x) (by omega) (by omega), n32_id (x := f x) (by omega) (by omega)]
      rw [e1, e2, fx.1, em, show (x : Int) + 1 = ((x + 1 : Nat) : Int) by omega]
      exact nx
  exact key n 0 (by omega)
theorem sq_r {a : Int} (h : 0 ≤ a ∧ a ≤ 400) : 0 ≤ a * a ∧ a * a ≤ 160000 := by
  have : a * a ≤ 400 * 400 := Int.mul_le_mul h.2 h.2 h.1 (by omega)
  exact ⟨Int.mul_nonneg h.1 h.1, by omega⟩
def unl (n q t : Int) : Int := Int.tdiv (n64 (n * q - t * t)) (n64 (n * n))
theorem t_unlike {s : mm_M} {n : Nat} {f : Int → Int} (c : s 199 8 = n) (hn : n ≤ 8) (h0 : 0 < n) (hf : ∀ k : Nat, k < n → s 203 k = f k ∧ 0 ≤ f k ∧ f k ≤ 400) {post : Int → mm_M → Prop} (hp : post (unl n (tot (fun k => f k * f k) n) (tot f n)) s) : wp_X6_unlikeOfAll 199 s post := by
  have r := tot_r (f := fun k => f k * f k) (B := 160000) (n := n) (fun k hk => sq_r (hf k hk).2)
  have r1 := tot_r (f := f) (B := 400) (n := n) (fun k hk => (hf k hk).2) n (Nat.le_refl n)
  intro L4 L40 h4 h40
  have key : ∀ d x : Nat, x + d = n → L4 (tot (fun k => f k * f k) x) x s := by
    intro d
    induction d with
    | zero =>
      intro x hx
      have : x = n := by omega
      subst this
      have rx := r x (by omega)
      apply h4
      rw [c]
      refine ⟨fun _ => ?_, fun q => absurd (Int.le_refl _) q⟩
      apply h40
      refine t_together c hn hf ?_
      rw [c, n32_id (x := (x : Int)) (by omega) (by omega), n32_id (x := tot f x) (by omega) (by omega), n32_id (x := tot (fun k => f k * f k) x) (by omega) (by omega)]
      have d8 : ∀ y : Nat, y ≤ 8 → 0 < y → ¬ n64 (y : Int) = n64 0 ∧ n64 ((y : Int) * (y : Int)) ≠ 0 := by decide +kernel
      exact ⟨fun _ => ⟨(d8 x hn h0).2, hp⟩, fun q => absurd q (d8 x hn h0).1⟩
    | succ d ih =>
      intro x hx
      apply h4
      rw [c, n32_id (x := (n : Int)) (by omega) (by omega), n32_id (x := (x : Int)) (by omega) (by omega), show mm_rt 199 5 = 203 from rfl]
      refine ⟨fun q => by omega, fun _ => ⟨fun q => by omega, fun _ => ⟨⟨by omega, by omega⟩, ⟨by omega, by omega⟩, fun v1 e1 v2 e2 => ?_⟩⟩⟩
      rw [e1, e2, (hf x (by omega)).1, show (x : Int) + 1 = ((x + 1 : Nat) : Int) by omega]
      exact ih (x + 1) (by omega)
  exact key n 0 (by omega)
