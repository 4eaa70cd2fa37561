/-! promise 20: the mean by lot -/
/-- when the counter is free behind those of V, in their order -/
def hF (ca tk : Int → Int) (V : Nat) : Nat → Int
  | 0 => 0
  | k + 1 => if V.testBit k = true then m2 (hF ca tk V k) (ca k) + tk k else hF ca tk V k
theorem hF_y {ca tk : Int → Int} {V k : Nat} (h : V.testBit k = true) : hF ca tk V (k + 1) = m2 (hF ca tk V k) (ca k) + tk k := by rw [hF, if_pos h]
theorem hF_n {ca tk : Int → Int} {V k : Nat} (h : V.testBit k = false) : hF ca tk V (k + 1) = hF ca tk V k := by rw [hF, if_neg (by rw [h]; decide)]
theorem hF_r {ca tk : Int → Int} {n V : Nat} (h : srt ca tk n) : ∀ k : Nat, k ≤ n → 0 ≤ hF ca tk V k ∧ hF ca tk V k ≤ 200 + 20 * k := by
  intro k
  induction k with
  | zero => intro _; rw [hF]; omega
  | succ k ih =>
    intro hk
    have a := ih (by omega)
    have b := h.2 k (by omega) (by omega)
    by_cases q : V.testBit k = true
    · rw [hF_y q]; unfold m2; split <;> omega
    · rw [hF_n (b_no q)]; omega
def iv (ca tk : Int → Int) (n V : Nat) : Prop := ∀ i : Nat, i < n → V.testBit i = true → fst0 V n < i → ca i ≤ m2 (hF ca tk V i) (ca (fst0 V n))
theorem fst0_le {V n w : Nat} (hw : V.testBit w = false) : w < n → fst0 V n ≤ w := by
  intro h
  rcases Nat.lt_or_ge w (fst0 V n) with q | q
  · have := (fst0_ok V n).2.1 w q
    rw [hw] at this
    cases this
  · exact q
/-- one more is served: the counter is free by what he takes later -/
theorem hF_in {ca tk : Int → Int} {n V w : Nat} (h : srt ca tk n) (hi : iv ca tk n V) (hw : w < n) (hb : V.testBit w = false) (ht : ca w ≤ m2 (hF ca tk V n) (ca (fst0 V n))) : hF ca tk (V ||| 2 ^ w) n = m2 (hF ca tk V n) (ca (fst0 V n)) + tk w ∧ iv ca tk n (V ||| 2 ^ w) := by
  have fw := fst0_le hb hw
  have fn : fst0 V n < n := by omega
  have T1 : ∀ i : Nat, i < n → fst0 V n < i → V.testBit i = true → m2 (hF ca tk V i) (ca i) = m2 (hF ca tk V i) (ca (fst0 V n)) ∧ m2 (hF ca tk V (i + 1)) (ca (fst0 V n)) = m2 (hF ca tk V i) (ca (fst0 V n)) + tk i := by
    intro i hn hf hv
    have a := hi i hn hv hf
    have b := h.mono (Nat.le_of_lt hf) hn
    have c := h.2 i (by omega) (by omega)
    rw [hF_y hv]
    have e : m2 (hF ca tk V i) (ca i) = m2 (hF ca tk V i) (ca (fst0 V n)) := by
      unfold m2 at a ⊢
      split at a <;> split <;> omega
    refine ⟨e, ?_⟩
    rw [e]
    unfold m2
    split <;> split <;> omega
  have T0 : ∀ i : Nat, V.testBit i = false → m2 (hF ca tk V (i + 1)) (ca (fst0 V n)) = m2 (hF ca tk V i) (ca (fst0 V n)) := fun i hv => by rw [hF_n hv]
  have P : ∀ d : Nat, w + d ≤ n → m2 (hF ca tk V (w + d)) (ca (fst0 V n)) = m2 (hF ca tk V w) (ca (fst0 V n)) ∨ ca w ≤ m2 (hF ca tk V w) (ca (fst0 V n)) := by
    intro d
    induction d with
    | zero => intro _; exact Or.inl rfl
    | succ d ih =>
      intro hd
      rcases ih (by omega) with q | q
      · by_cases v : V.testBit (w + d) = true
        · right
          have hne : w ≠ w + d := fun z => by rw [← z, hb] at v; cases v
          have a := hi (w + d) (by omega) v (by omega)
          have b := h.mono (i := w) (j := w + d) (by omega) (by omega)
          omega
        · left
          rw [show w + (d + 1) = (w + d) + 1 by omega, T0 (w + d) (b_no v)]
          exact q
      · exact Or.inr q
  have cw : ca w ≤ m2 (hF ca tk V w) (ca (fst0 V n)) := by
    have p := P (n - w) (by omega)
    rw [show w + (n - w) = n by omega] at p
    rcases p with q | q
    · omega
    · exact q
  have B : ∀ i : Nat, i ≤ w → hF ca tk (V ||| 2 ^ w) i = hF ca tk V i := by
    intro i
    induction i with
    | zero => intro _; rfl
    | succ i ih =>
      intro hi2
      by_cases v : V.testBit i = true
      · rw [hF_y v, hF_y (b_in.mpr (Or.inl v)), ih (by omega)]
      · rw [hF_n (b_no v), hF_n (b_out.mpr ⟨b_no v, by omega⟩), ih (by omega)]
  have Cc : ∀ d : Nat, w + 1 + d ≤ n → hF ca tk (V ||| 2 ^ w) (w + 1 + d) = m2 (hF ca tk V (w + 1 + d)) (ca (fst0 V n)) + tk w := by
    intro d
    induction d with
    | zero =>
      intro _
      have fc := h.mono fw hw
      rw [Nat.add_zero, hF_y (b_in.mpr (Or.inr rfl)), B w (Nat.le_refl w), T0 w hb]
      have e : m2 (hF ca tk V w) (ca w) = m2 (hF ca tk V w) (ca (fst0 V n)) := by
        unfold m2 at cw ⊢
        split at cw <;> split <;> omega
      rw [e]
    | succ d ih =>
      intro hd
      have ih := ih (by omega)
      rw [show w + 1 + (d + 1) = (w + 1 + d) + 1 by omega]
      have tkw := h.2 w (by omega) (by omega)
      by_cases v : V.testBit (w + 1 + d) = true
      · have t := T1 (w + 1 + d) (by omega) (by omega) v
        have a := hi (w + 1 + d) (by omega) v (by omega)
        rw [hF_y (b_in.mpr (Or.inl v)), ih, t.2]
        rw [m2_n (by omega)]
        omega
      · rw [hF_n (b_out.mpr ⟨b_no v, by omega⟩), ih, T0 _ (b_no v)]
  have Cn : ∀ i : Nat, w < i → i ≤ n → hF ca tk (V ||| 2 ^ w) i = m2 (hF ca tk V i) (ca (fst0 V n)) + tk w := by
    intro i h1 h2
    have := Cc (i - (w + 1)) (by omega)
    rw [show w + 1 + (i - (w + 1)) = i by omega] at this
    exact this
  refine ⟨Cn n hw (Nat.le_refl n), fun i hn hv hf => ?_⟩
  have f'n : fst0 (V ||| 2 ^ w) n < n := by omega
  have fu' := b_out.mp ((fst0_ok (V ||| 2 ^ w) n).2.2 f'n)
  have ff := fst0_le (n := n) fu'.1 f'n
  have cf := h.mono ff f'n
  have tkw := h.2 w (by omega) (by omega)
  have mono : ∀ x : Int, m2 x (ca (fst0 V n)) ≤ m2 x (ca (fst0 (V ||| 2 ^ w) n)) := by
    intro x
    unfold m2
    split <;> split <;> omega
  rcases Nat.lt_or_ge w i with q | q
  · rw [Cn i q (by omega)]
    have vi : V.testBit i = true := by
      rcases b_in.mp hv with z | z
      · exact z
      · omega
    have a := hi i hn vi (by omega)
    unfold m2 at a ⊢
    split at a <;> split <;> split <;> omega
  · rw [B i q]
    by_cases z : i = w
    · rw [z]
      have := mono (hF ca tk V w)
      omega
    · have vi : V.testBit i = true := by
        rcases b_in.mp hv with y | y
        · exact y
        · omega
      have a := hi i hn vi (by omega)
      have := mono (hF ca tk V i)
      omega
/-- a sum over those who stand there -/
def sgK (ca : Int → Int) (V : Nat) (t : Int) (g : Int → Int) : Nat → Int
  | 0 => 0
  | k + 1 => sgK ca V t g k + (if V.testBit k = false ∧ ca k ≤ t then g k else 0)
theorem tot_c {f g : Int → Int} : ∀ n : Nat, (∀ k : Int, 0 ≤ k → k < n → f k = g k) → tot f n = tot g n := by
  intro n
  induction n with
  | zero => intro _; rfl
  | succ n ih =>
    intro h
    rw [tot, tot, ih (fun k a b => h k a (by omega)), h n (by omega) (by omega)]
theorem sg_tot {ca : Int → Int} {V : Nat} {t : Int} {g : Int → Int} : ∀ k : Nat, sgK ca V t g k = tot (fun p => g ((gth ca V t k).2 p)) (gth ca V t k).1.toNat := by
  intro k
  induction k with
  | zero => rfl
  | succ k ih =>
    have o := gth_ok (ca := ca) (V := V) (t := t) k
    rw [sgK]
    by_cases h : V.testBit k = false ∧ ca k ≤ t
    · rw [if_pos h, gth_y h, ih]
      show _ = tot (fun p => g (fu (gth ca V t k).2 (gth ca V t k).1 k p)) ((gth ca V t k).1 + 1).toNat
      rw [show ((gth ca V t k).1 + 1).toNat = (gth ca V t k).1.toNat + 1 by omega, tot]
      have e : (((gth ca V t k).1.toNat : Nat) : Int) = (gth ca V t k).1 := by omega
      rw [e, fu_e]
      congr 1
      refine tot_c _ (fun p p1 p2 => ?_)
      show _ = g (fu (gth ca V t k).2 (gth ca V t k).1 k p)
      rw [fu_n (by omega)]
    · rw [if_neg h, gth_n h, ih]
      omega
def mnF (ca tk : Int → Int) (n : Nat) : Nat → Nat → Int
  | 0, _ => 0
  | d + 1, V => Int.tdiv (sgK ca V (tmv ca V n (hF ca tk V n)) (fun k => 1000 * (tmv ca V n (hF ca tk V n) - ca k) + mnF ca tk n d (V ||| 2 ^ k.toNat)) n) (gth ca V (tmv ca V n (hF ca tk V n)) n).1
def mv (ca tk : Int → Int) (n V : Nat) : Int := mnF ca tk n ((n : Int) - cnV V n).toNat V
/-- what one who stands there adds -/
def gv (ca tk : Int → Int) (n V : Nat) (k : Int) : Int := 1000 * (tmv ca V n (hF ca tk V n) - ca k) + mv ca tk n (V ||| 2 ^ k.toNat)
theorem sgK_c {ca : Int → Int} {V : Nat} {t : Int} {f g : Int → Int} : ∀ n : Nat, (∀ k : Nat, k < n → V.testBit k = false → f k = g k) → sgK ca V t f n = sgK ca V t g n := by
  intro n
  induction n with
  | zero => intro _; rfl
  | succ n ih =>
    intro h
    rw [sgK, sgK, ih (fun k a b => h k (by omega) b)]
    by_cases q : V.testBit n = false ∧ ca n ≤ t
    · rw [if_pos q, if_pos q, h n (by omega) q.1]
    · rw [if_neg q, if_neg q]
theorem mv_s {ca tk : Int → Int} {n V : Nat} (hf : fst0 V n < n) : mv ca tk n V = Int.tdiv (sgK ca V (tmv ca V n (hF ca tk V n)) (gv ca tk n V) n) (gth ca V (tmv ca V n (hF ca tk V n)) n).1 := by
  have o := (fst0_ok V n).2.2 hf
  have c : cnV (V ||| 2 ^ fst0 V n) n = cnV V n + 1 := cn_in o hf
  have r := cn_r (V := V ||| 2 ^ fst0 V n) n
  unfold mv
  obtain ⟨d, ed⟩ : ∃ d : Nat, ((n : Int) - cnV V n).toNat = d + 1 := ⟨((n : Int) - cnV V n).toNat - 1, by omega⟩
  rw [ed, mnF]
  congr 1
  refine sgK_c n (fun k hk hb => ?_)
  have ck := cn_in hb hk
  unfold gv mv
  rw [show ((k : Int)).toNat = k by omega, ck, show ((n : Int) - (cnV V n + 1)).toNat = d by omega]
theorem sgK_r {ca : Int → Int} {V : Nat} {t : Int} {g : Int → Int} {B : Int} (hB : 0 ≤ B) : ∀ n : Nat, (∀ k : Nat, k < n → V.testBit k = false → ca k ≤ t → 0 ≤ g k ∧ g k ≤ B) → 0 ≤ sgK ca V t g n ∧ sgK ca V t g n ≤ B * (gth ca V t n).1 := by
  intro n
  induction n with
  | zero => intro _; exact ⟨Int.le_refl 0, by show (0 : Int) ≤ B * 0; omega⟩
  | succ n ih =>
    intro h
    have a := ih (fun k hk => h k (by omega))
    rw [sgK]
    by_cases q : V.testBit n = false ∧ ca n ≤ t
    · have b := h n (by omega) q.1 q.2
      rw [if_pos q, gth_y q]
      show 0 ≤ _ ∧ _ ≤ B * ((gth ca V t n).1 + 1)
      rw [Int.mul_add]
      omega
    · rw [if_neg q, gth_n q]; omega
theorem mnF_r {ca tk : Int → Int} {n : Nat} (h : srt ca tk n) : ∀ d V : Nat, 0 ≤ mnF ca tk n d V ∧ mnF ca tk n d V ≤ 400000 * d := by
  have n8 := h.1
  intro d
  induction d with
  | zero => intro V; rw [mnF]; omega
  | succ d ih =>
    intro V
    have hr := hF_r (V := V) h n (Nat.le_refl n)
    have t := tmv_r (V := V) h hr.1
    have g := gth_ok (ca := ca) (V := V) (t := tmv ca V n (hF ca tk V n)) n
    rw [mnF]
    have s := sgK_r (ca := ca) (V := V) (t := tmv ca V n (hF ca tk V n)) (g := fun k => 1000 * (tmv ca V n (hF ca tk V n) - ca k) + mnF ca tk n d (V ||| 2 ^ k.toNat)) (B := 400000 * (d + 1)) (by omega) n (fun k hk hb hc => by
      have i := ih (V ||| 2 ^ ((k : Int)).toNat)
      have c := h.2 k (by omega) (by omega)
      show 0 ≤ 1000 * (tmv ca V n (hF ca tk V n) - ca k) + mnF ca tk n d (V ||| 2 ^ ((k : Int)).toNat) ∧ 1000 * (tmv ca V n (hF ca tk V n) - ca k) + mnF ca tk n d (V ||| 2 ^ ((k : Int)).toNat) ≤ _
      omega)
    rw [Int.tdiv_eq_ediv_of_nonneg s.1]
    by_cases z : (gth ca V (tmv ca V n (hF ca tk V n)) n).1 = 0
    · rw [z, Int.ediv_zero]; omega
    · refine ⟨Int.ediv_nonneg s.1 g.1, Int.ediv_le_of_le_mul (by omega) ?_⟩
      rw [show ((d + 1 : Nat) : Int) = (d : Int) + 1 by omega]
      exact s.2
theorem mv_r {ca tk : Int → Int} {n V : Nat} (h : srt ca tk n) : 0 ≤ mv ca tk n V ∧ mv ca tk n V ≤ 3200000 := by
  have n8 := h.1
  have c := cn_r (V := V) n
  have := mnF_r h ((n : Int) - cnV V n).toNat V
  unfold mv
  omega
theorem tm_r {ca tk : Int → Int} {n V : Nat} (h : srt ca tk n) : 0 ≤ tmv ca V n (hF ca tk V n) ∧ tmv ca V n (hF ca tk V n) ≤ 360 := by
  have n8 := h.1
  have hr := hF_r (V := V) h n (Nat.le_refl n)
  have t := tmv_r (V := V) h hr.1
  omega
theorem gv_r {ca tk : Int → Int} {n V : Nat} (h : srt ca tk n) {k : Int} (hk : 0 ≤ k ∧ k < n) (hc : ca k ≤ tmv ca V n (hF ca tk V n)) : 0 ≤ gv ca tk n V k ∧ gv ca tk n V k ≤ 3600000 := by
  have m := mv_r (V := V ||| 2 ^ k.toNat) h
  have t := tm_r (V := V) h
  have c := h.2 k hk.1 hk.2
  unfold gv
  omega
theorem b_big : ∀ V : Nat, V < 256 → ∀ k : Nat, k < 8 → V.testBit k = false → V < V ||| 2 ^ k := by decide +kernel
theorem b_all : ∀ n : Nat, n < 9 → mm_shl 1 (n : Int) - 1 = ((2 ^ n - 1 : Nat) : Int) ∧ mm_shl 1 (mm_min (n : Int) 8) - 1 = ((2 ^ n - 1 : Nat) : Int) ∧ 2 ^ n ≤ 256 ∧ 1 ≤ 2 ^ n ∧ (0 < n → 1 < 2 ^ n) := by decide +kernel
theorem b_fst : ∀ n : Nat, n < 9 → ∀ V : Nat, V < 256 → V < 2 ^ n - 1 → fst0 V n < n := by decide +kernel
theorem b_or2 {n V k : Nat} (hV : V < 2 ^ n) (hk : k < n) : V ||| 2 ^ k < 2 ^ n := Nat.or_lt_two_pow hV (Nat.pow_lt_pow_right (by decide) hk)
theorem t_freeAfter {s : mm_M} {n V : Nat} (c : cR s n) (hV : V < 256) {post : Int → mm_M → Prop} (hp : post (hF (s 200) (s 201) V n) s) : wp_X6_freeAfter 199 V s post := by
  have n8 := c.2.1
  have hr := hF_r (V := V) c.2
  intro L4 h4
  have key : ∀ d x : Nat, x + d = n → L4 (hF (s 200) (s 201) V x) x s := by
    intro d
    induction d with
    | zero =>
      intro x hx
      have : x = n := by omega
      subst this
      apply h4
      rw [c.1]
      exact ⟨fun _ => hp, fun q => absurd (Int.le_refl _) q⟩
    | succ d ih =>
      intro x hx
      have nx := ih (x + 1) (by omega)
      have rx := hr x (by omega)
      have cx := c.2.2 x (by omega) (by omega)
      apply h4
      rw [c.1, n32_id (x := (n : Int)) (by omega) (by omega), n32_id (x := (x : Int)) (by omega) (by omega), b_bt V hV x (by omega), show mm_rt 199 2 = 200 from rfl, show mm_rt 199 3 = 201 from rfl]
      refine ⟨fun q => by omega, fun _ => ⟨fun q => by omega, fun _ => ?_⟩⟩
      by_cases v : V.testBit x = true
      · rw [hF_y v, show ((x + 1 : Nat) : Int) = (x : Int) + 1 by omega] at nx
        have em : mm_max (hF (s 200) (s 201) V x) (s 200 x) = m2 (hF (s 200) (s 201) V x) (s 200 x) := by
          unfold mm_max m2
          rw [n32_id (x := hF (s 200) (s 201) V x) (by omega) (by omega), n32_id (x := s 200 x) (by omega) (by omega)]
        rw [if_pos v, em]
        refine ⟨fun z => absurd rfl z, fun _ => ⟨⟨by omega, by omega⟩, ⟨by omega, by omega⟩, fun v1 e1 v2 e2 => ?_⟩⟩
        rw [e1, e2]
        exact nx
      · rw [hF_n (b_no v), show ((x + 1 : Nat) : Int) = (x : Int) + 1 by omega] at nx
        rw [if_neg v]
        refine ⟨fun _ v1 e1 => ?_, fun z => absurd z (by decide)⟩
        rw [e1]
        exact nx
  exact key n 0 (by omega)
theorem t_meanBehind {s : mm_M} {n V : Nat} (c : cR s n) (hV : V < 256) (hV2 : V < 2 ^ n) (hf : fst0 V n < n) (hm : ∀ k : Nat, k < n → V.testBit k = false → s 205 ((V ||| 2 ^ k : Nat) : Int) = mv (s 200) (s 201) n (V ||| 2 ^ k)) {post : Int → mm_M → Prop} (hp : post (mv (s 200) (s 201) n V) s) : wp_X6_meanBehind 199 V s post := by
  have n8 := c.2.1
  have hr := hF_r (V := V) c.2 n (Nat.le_refl n)
  have t := tm_r (V := V) c.2
  intro L19 L83 h19 h83
  refine t_freeAfter c hV ?_
  refine t_when c hV ⟨hr.1, by omega⟩ ?_
  intro v2 e2
  rw [e2]
  have pos := gth_tm (V := V) (now := hF (s 200) (s 201) V n) c.2 hf
  rw [mv_s hf] at hp
  have key : ∀ d x : Nat, x + d = n → L19 (tmv (s 200) V n (hF (s 200) (s 201) V n)) (sgK (s 200) V (tmv (s 200) V n (hF (s 200) (s 201) V n)) (gv (s 200) (s 201) n V) x) (gth (s 200) V (tmv (s 200) V n (hF (s 200) (s 201) V n)) x).1 x s := by
    intro d
    induction d with
    | zero =>
      intro x hx
      have : x = n := by omega
      subst this
      have go := gth_ok (ca := s 200) (V := V) (t := tmv (s 200) V x (hF (s 200) (s 201) V x)) x
      have sr := sgK_r (ca := s 200) (V := V) (t := tmv (s 200) V x (hF (s 200) (s 201) V x)) (g := gv (s 200) (s 201) x V) (B := 3600000) (by omega) x (fun k hk _ hc => gv_r c.2 ⟨by omega, by omega⟩ hc)
      apply h19
      rw [c.1]
      refine ⟨fun _ => ?_, fun q => absurd (Int.le_refl _) q⟩
      apply h83
      rw [n32_id (x := (gth (s 200) V (tmv (s 200) V x (hF (s 200) (s 201) V x)) x).1) (by omega) (by omega), n32_id (x := sgK (s 200) V (tmv (s 200) V x (hF (s 200) (s 201) V x)) (gv (s 200) (s 201) x V) x) (by omega) (by omega)]
      exact ⟨fun z => ⟨z, hp⟩, fun z => by omega⟩
    | succ d ih =>
      intro x hx
      have nx := ih (x + 1) (by omega)
      rw [sgK, show ((x + 1 : Nat) : Int) = (x : Int) + 1 by omega] at nx
      apply h19
      rw [c.1, n32_id (x := (n : Int)) (by omega) (by omega), n32_id (x := (x : Int)) (by omega) (by omega)]
      refine ⟨fun q => by omega, fun _ => ⟨fun q => by omega, fun _ => ?_⟩⟩
      refine t_stands c hV (by omega) ⟨t.1, by omega⟩ (fun q => ⟨fun z => absurd z (by decide), fun _ => ?_⟩) (fun q => ⟨fun _ v e => ?_, fun z => absurd m_0 z⟩)
      · have bo := b_or V hV x (by omega)
        rw [bo.1, show mm_rt 199 2 = 200 from rfl, show mm_rt 199 7 = 205 from rfl, hm x (by omega) q.1]
        rw [if_pos q, gth_y q] at nx
        refine ⟨⟨by omega, by omega⟩, ⟨by omega, by omega⟩, fun v3 e3 v4 e4 v5 e5 => ?_⟩
        rw [e3, e4, e5]
        unfold gv at nx
        rw [show ((x : Int)).toNat = x by omega] at nx
        exact nx
      · rw [if_neg q, gth_n q, Int.add_zero] at nx
        rw [e]
        exact nx
  exact key n 0 (by omega)
theorem t_lot {s : mm_M} {n : Nat} (c : cR s n) (hn : 0 < n) {post : Int → mm_M → Prop} (hp : ∀ u, ag s u → post (mv (s 200) (s 201) n 0) u) : wp_X6_meanByLot 199 s post := by
  have n8 := c.2.1
  have ba := b_all n (by omega)
  intro L25 h25 v1 e1
  rw [c.1, ba.2.1] at e1
  rw [e1, show mm_rt 199 7 = 205 from rfl]
  refine ⟨⟨by omega, by omega⟩, fun s2 e2 v3 e3 => ?_⟩
  have all0 : mv (s 200) (s 201) n (2 ^ n - 1) = 0 := by
    have q : cnV (2 ^ n - 1) n = n := by
      have : ∀ m : Nat, m < 9 → cnV (2 ^ m - 1) m = m := by decide +kernel
      exact this n (by omega)
    unfold mv
    rw [q, show ((n : Int) - n).toNat = 0 by omega]
    rfl
  have key : ∀ x : Nat, x < 2 ^ n → ∀ u, (∀ a : Nat, a ≠ 205 → u a = s a) → (∀ W : Nat, x ≤ W → W < 2 ^ n → u 205 (W : Int) = mv (s 200) (s 201) n W) → L25 ((x : Int) - 1) u := by
    intro x
    induction x with
    | zero =>
      intro hx u fu hu
      apply h25
      rw [show mm_rt 199 7 = 205 from rfl]
      refine ⟨fun _ => ?_, fun q => absurd (by decide) q⟩
      have u0 : u 205 0 = mv (s 200) (s 201) n 0 := hu 0 (Nat.le_refl 0) hx
      rw [u0]
      refine hp u (fun a j q => ?_)
      by_cases z : a = 205
      · rw [z] at q; cases (show scr 205 j = true from rfl).symm.trans q
      · rw [fu a z]
    | succ x ih =>
      intro hx u fu hu
      have cu : cR u n := ⟨by rw [fu 199 (by omega)]; exact c.1, by rw [fu 200 (by omega), fu 201 (by omega)]; exact c.2⟩
      have f := b_fst n (by omega) x (by omega) (by omega)
      apply h25
      rw [show ((x + 1 : Nat) : Int) - 1 = (x : Int) by omega, n32_id (x := (x : Int)) (by omega) (by omega), show mm_rt 199 7 = 205 from rfl]
      refine ⟨fun q => by omega, fun _ => ?_⟩
      refine t_meanBehind cu (by omega) (by omega) f (fun k hk hb => ?_) ⟨⟨by omega, by omega⟩, fun s6 e6 v2 e2' => ?_⟩
      · rw [fu 200 (by omega), fu 201 (by omega)]
        exact hu _ (by have := b_big x (by omega) k (by omega) hb; omega) (b_or2 (by omega) hk)
      · rw [fu 200 (by omega), fu 201 (by omega)] at e6
        rw [e2']
        refine ih (by omega) s6 (fun a ha => by rw [e6, up_c ha]; exact fu a ha) (fun W w1 w2 => ?_)
        rw [e6]
        by_cases z : W = x
        · rw [z, up_e]
        · rw [up_n (Or.inr (by omega))]
          exact hu W (by omega) w2
  have := key (2 ^ n - 1) (by omega) s2 (fun a ha => by rw [e2, up_c ha]) (fun W w1 w2 => by
    have : W = 2 ^ n - 1 := by omega
    rw [this, e2, up_e, all0])
  rw [e3]
  exact this
