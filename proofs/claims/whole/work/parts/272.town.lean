/-! reading a town: the class -/
noncomputable def cif {α : Type} (p : Prop) (a b : α) : α := @ite α p (Classical.propDecidable p) a b
theorem cif_p {α : Type} {p : Prop} {a b : α} (h : p) : cif p a b = a := by unfold cif; exact if_pos h
theorem cif_n {α : Type} {p : Prop} {a b : α} (h : ¬ p) : cif p a b = b := by unfold cif; exact if_neg h
/-- the fault behind k steps from token j on -/
noncomputable def faF (B : Int → Int) (n : Int) (P : Nat → Prop) (j : Nat) : Nat → Int
  | 0 => -1
  | k + 1 => if faF B n P j k = -1 then cif (P k) (-1) (stf B n (j + k)) else faF B n P j k
theorem faF_y {B : Int → Int} {n : Int} {P : Nat → Prop} {j k : Nat} (h : faF B n P j k = -1) (p : P k) : faF B n P j (k + 1) = -1 := by rw [faF, if_pos h, cif_p p]
theorem faF_n {B : Int → Int} {n : Int} {P : Nat → Prop} {j k : Nat} (h : faF B n P j k = -1) (p : ¬ P k) : faF B n P j (k + 1) = stf B n (j + k) := by rw [faF, if_pos h, cif_n p]
theorem faF_k {B : Int → Int} {n : Int} {P : Nat → Prop} {j k : Nat} (h : faF B n P j k ≠ -1) : ∀ d : Nat, faF B n P j (k + d) = faF B n P j k := by
  intro d
  induction d with
  | zero => rfl
  | succ d ih => rw [show k + (d + 1) = (k + d) + 1 by omega, faF, ih, if_neg h]
theorem faF_r {B : Int → Int} {n : Int} (hb : bok B n) {P : Nat → Prop} {j : Nat} : ∀ k : Nat, faF B n P j k = -1 ∨ 0 ≤ faF B n P j k ∧ faF B n P j k ≤ 500 := by
  intro k
  induction k with
  | zero => left; rfl
  | succ k ih =>
    have s := st_r hb (j + k)
    have hn := hb.1.2
    by_cases h : faF B n P j k = -1
    · by_cases p : P k
      · left; exact faF_y h p
      · right; rw [faF_n h p]; omega
    · have := faF_k h 1
      rw [this]; exact ih
theorem faF_a {B : Int → Int} {n : Int} (hb : bok B n) {P : Nat → Prop} {j : Nat} : ∀ k : Nat, faF B n P j k = -1 → ∀ i, i < k → P i := by
  intro k
  induction k with
  | zero => intro _ i hi; omega
  | succ k ih =>
    intro h i hi
    have s := st_r hb (j + k)
    by_cases q : faF B n P j k = -1
    · by_cases p : P k
      · by_cases z : i = k
        · rw [z]; exact p
        · exact ih q i (by omega)
      · rw [faF_n q p] at h; omega
    · have := faF_k q 1
      rw [this] at h; exact absurd h q
def okN (B : Int → Int) (n lo hi p : Int) : Prop := kdf B n p = 2 ∧ lo ≤ nmf B n p ∧ nmf B n p ≤ hi
/-- the text in hand: token j, or a fault -/
def hnd (u : mm_M) (B : Int → Int) (n : Int) (j : Nat) (fa : Int) : Prop := tx u B n ∧ u 7 6 = fa ∧ (fa = -1 → tkC u B n (stf B n j)) ∧ (fa = -1 ∨ 0 ≤ fa ∧ fa ≤ 500)
def g7 (s u : mm_M) : Prop := (∀ c : Nat, c ≠ 7 → u c = s c) ∧ ∀ j : Int, j < 2 ∨ 6 < j → u 7 j = s 7 j
theorem g7.tr {s t u : mm_M} (h : g7 s t) (g : g7 t u) : g7 s u := ⟨fun c hc => (g.1 c hc).trans (h.1 c hc), fun j hj => (g.2 j hj).trans (h.2 j hj)⟩
theorem g7.rf {s : mm_M} : g7 s s := ⟨fun _ _ => rfl, fun _ _ => rfl⟩
theorem nmf_r {B : Int → Int} {n p : Int} : 0 ≤ nmf B n p ∧ nmf B n p ≤ 100000 := by
  unfold nmf
  split
  · exact dn_r 500 p 0 (by omega)
  · omega
theorem t_hadv {u : mm_M} {B : Int → Int} {n : Int} {j : Nat} (h : hnd u B n j (-1)) {post : mm_M → Prop} (k : ∀ u', g7 u u' → hnd u' B n (j + 1) (-1) → post u') : wp_X8_advance 7 u post := by
  obtain ⟨t, f, tk, -⟩ := h
  have r := st_r t.2.2 j
  have e := en_r (B := B) r.2.1
  refine t_adv t ⟨by omega, e.2.1⟩ (tk rfl).2.1 (fun u' a b c => ?_)
  have t' : tx u' B n := ⟨(a 8 (by decide)).trans t.1, (b 1 (by decide) (by decide) (by decide) (by decide)).trans t.2.1, t.2.2⟩
  exact k u' ⟨a, fun j hj => b j (by omega) (by omega) (by omega) (by omega)⟩ ⟨t', by rw [b 6 (by decide) (by decide) (by decide) (by decide)]; exact f, fun _ => c, Or.inl rfl⟩
theorem t_hbeg {u : mm_M} {B : Int → Int} {n : Int} (t : tx u B n) {post : mm_M → Prop} (k : ∀ u', g7 u u' → hnd u' B n 0 (-1) → post u') : wp_X8_begin 7 u post := by
  intro s1 e1 s2 e2
  have hn := t.2.2.1
  have t2 : tx s2 B n := ⟨by rw [e2, up_c (by decide), e1, up_c (by decide)]; exact t.1, by rw [e2, up_n (by decide), e1, up_n (by decide)]; exact t.2.1, t.2.2⟩
  refine t_adv t2 ⟨Int.le_refl 0, hn.1⟩ (by rw [e2, up_n (by decide), e1, up_e]) (fun u' a b c => ?_)
  have t' : tx u' B n := ⟨(a 8 (by decide)).trans t2.1, (b 1 (by decide) (by decide) (by decide) (by decide)).trans t2.2.1, t2.2.2⟩
  refine k u' ⟨fun c hc => by rw [a c hc, e2, up_c hc, e1, up_c hc], fun j hj => ?_⟩ ⟨t', ?_, fun _ => c, Or.inl rfl⟩
  · rw [b j (by omega) (by omega) (by omega) (by omega), e2, up_n (by omega), e1, up_n (by omega)]
  · rw [b 6 (by decide) (by decide) (by decide) (by decide), e2, up_e]
/-- the first refusal counts -/
theorem t_ref {u : mm_M} {B : Int → Int} {n : Int} {j : Nat} {fa : Int} (h : hnd u B n j fa) {post : mm_M → Prop} (k : ∀ u', g7 u u' → (∀ i, hnd u' B n i (if fa = -1 then stf B n j else fa)) → post u') : wp_X8_refuse 7 u post := by
  obtain ⟨t, f, tk, fr⟩ := h
  have r := st_r t.2.2 j
  have hn := t.2.2.1
  unfold wp_X8_refuse
  rw [f, n32_id (x := fa) (by omega) (by omega)]
  refine ⟨fun z => k u g7.rf (fun i => ?_), fun z s1 e1 => ?_⟩
  · rw [if_neg z]; exact ⟨t, f, fun y => absurd y z, fr⟩
  · rw [(tk z).1] at e1
    refine k s1 ⟨fun c hc => by rw [e1, up_c hc], fun j hj => by rw [e1, up_n (by omega)]⟩ (fun i => ?_)
    rw [if_pos z]
    exact ⟨⟨by rw [e1, up_c (by decide)]; exact t.1, by rw [e1, up_n (by decide)]; exact t.2.1, t.2.2⟩, by rw [e1, up_e], fun y => by omega, Or.inr (by omega)⟩
theorem t_num {u : mm_M} {B : Int → Int} {n lo hi : Int} {P : Nat → Prop} {j k : Nat} (hl : 0 ≤ lo ∧ lo ≤ 1000 ∧ 0 ≤ hi ∧ hi ≤ 10000) (hP : P k ↔ okN B n lo hi (stf B n (j + k))) (h : hnd u B n (j + k) (faF B n P j k)) {post : Int → mm_M → Prop} (hp : ∀ u' r, g7 u u' → hnd u' B n (j + (k + 1)) (faF B n P j (k + 1)) → (faF B n P j (k + 1) = -1 → r = nmf B n (stf B n (j + k))) → post r u') : wp_X8_takeNumber 7 lo hi u post := by
  have h' := h
  obtain ⟨t, f, tk, fr⟩ := h'
  have nr := nmf_r (B := B) (n := n) (p := stf B n (j + k))
  have kr := kd_r (B := B) (n := n) (p := stf B n (j + k))
  have sr := st_r t.2.2 (j + k)
  have hn := t.2.2.1
  intro L32 h32
  have bad : ¬ (faF B n P j k = -1 ∧ P k) → L32 u := by
    intro z
    apply h32
    refine t_ref h (fun u' g hu => hp u' (-1) g ?_ (fun y => ?_))
    · by_cases q : faF B n P j k = -1
      · have e := faF_n (j := j) q (fun p => z ⟨q, p⟩)
        rw [e]
        have := hu (j + (k + 1))
        rw [if_pos q] at this
        exact this
      · have e := faF_k q 1
        rw [e]
        have := hu (j + (k + 1))
        rw [if_neg q] at this
        exact this
    · by_cases q : faF B n P j k = -1
      · rw [faF_n (j := j) q (fun p => z ⟨q, p⟩)] at y; omega
      · have e := faF_k q 1
        rw [e] at y; exact absurd y q
  rw [f, n32_id (x := faF B n P j k) (by omega) (by omega)]
  refine ⟨fun z => bad (fun y => z y.1), fun z => ?_⟩
  have tk' := tk z
  rw [tk'.2.2.1, tk'.2.2.2, n32_id (x := kdf B n (stf B n (j + k))) (by omega) (by omega), n32_id (x := nmf B n (stf B n (j + k))) (by omega) (by omega), n32_id (x := lo) (by omega) (by omega), n32_id (x := hi) (by omega) (by omega)]
  refine ⟨fun y => bad (fun w => y (hP.mp w.2).1), fun y => ⟨fun x => bad (fun w => by have := (hP.mp w.2).2.1; omega), fun x => ⟨fun w v ev => ?_, fun w => bad (fun q => w (hP.mp q.2).2.2)⟩⟩⟩
  have pk' : P k := hP.mpr ⟨y, by omega, w⟩
  rw [z] at h
  refine t_hadv h (fun u' g hu => hp u' v g ?_ (fun _ => ev))
  rw [faF_y z pk']
  exact hu
theorem t_sig {u : mm_M} {B : Int → Int} {n c : Int} {P : Nat → Prop} {j k : Nat} (hc : 0 ≤ c ∧ c ≤ 100) (hP : P k ↔ kdf B n (stf B n (j + k)) = c) (h : hnd u B n (j + k) (faF B n P j k)) {post : Int → mm_M → Prop} (hp : ∀ u' r, g7 u u' → hnd u' B n (j + (k + 1)) (faF B n P j (k + 1)) → (faF B n P j (k + 1) = -1 ∧ r = 1 ∨ faF B n P j (k + 1) ≠ -1 ∧ r = 0) → post r u') : wp_X8_takeSign 7 c u post := by
  have h' := h
  obtain ⟨t, f, tk, fr⟩ := h'
  have kr := kd_r (B := B) (n := n) (p := stf B n (j + k))
  have sr := st_r t.2.2 (j + k)
  have hn := t.2.2.1
  intro L16 h16
  have bad : ¬ (faF B n P j k = -1 ∧ P k) → L16 u := by
    intro z
    apply h16
    refine t_ref h (fun u' g hu => hp u' 0 g ?_ (Or.inr ⟨fun y => ?_, rfl⟩))
    · by_cases q : faF B n P j k = -1
      · have e := faF_n (j := j) q (fun p => z ⟨q, p⟩)
        rw [e]
        have := hu (j + (k + 1))
        rw [if_pos q] at this
        exact this
      · have e := faF_k q 1
        rw [e]
        have := hu (j + (k + 1))
        rw [if_neg q] at this
        exact this
    · by_cases q : faF B n P j k = -1
      · rw [faF_n (j := j) q (fun p => z ⟨q, p⟩)] at y; omega
      · have e := faF_k q 1
        rw [e] at y; exact absurd y q
  rw [f, n32_id (x := faF B n P j k) (by omega) (by omega)]
  refine ⟨fun z => bad (fun y => z y.1), fun z => ?_⟩
  have tk' := tk z
  rw [tk'.2.2.1, n32_id (x := kdf B n (stf B n (j + k))) (by omega) (by omega), n32_id (x := c) (by omega) (by omega)]
  refine ⟨fun y => ?_, fun y => bad (fun w => y (hP.mp w.2))⟩
  have pk' : P k := hP.mpr y
  rw [z] at h
  refine t_hadv h (fun u' g hu => hp u' 1 g ?_ (Or.inl ⟨faF_y z pk', rfl⟩))
  rw [faF_y z pk']
  exact hu
/-! lines -/
def Pc (B : Int → Int) (n : Int) (j k : Nat) : Prop := if k = 0 then okN B n 0 8 (stf B n (j + 1 + 0)) else if k = 1 then okN B n 1 9 (stf B n (j + 1 + 1)) else if k = 2 then okN B n 0 99 (stf B n (j + 1 + 2)) else kdf B n (stf B n (j + 1 + 3)) = 59
def Po (B : Int → Int) (n lo hi : Int) (j k : Nat) : Prop := if k = 0 then okN B n lo hi (stf B n (j + 1 + 0)) else kdf B n (stf B n (j + 1 + 1)) = 59
/-- a name that can be one -/
def nOk (B : Int → Int) (n : Int) (S : Int) (nf : Int → Int) (p : Int) : Prop := kdf B n p = 1 ∧ enf B n p - p ≤ 8 ∧ (∀ w : Nat, w < 5 → ¬ wdP B n p w) ∧ ∀ k : Int, 0 ≤ k → k < S → wvl B n (nf k) ≠ wvl B n p
def Ps (B : Int → Int) (n S : Int) (nf : Int → Int) (j k : Nat) : Prop := if k = 0 then nOk B n S nf (stf B n (j + 1 + 0)) else if k = 1 then okN B n 0 16 (stf B n (j + 1 + 1)) else if k = 2 then okN B n 0 99 (stf B n (j + 1 + 2)) else if k = 3 then okN B n 1 240 (stf B n (j + 1 + 3)) else if k = 4 then okN B n 0 9 (stf B n (j + 1 + 4)) else if k = 5 then okN B n 0 9 (stf B n (j + 1 + 5)) else if k = 6 then okN B n 0 2 (stf B n (j + 1 + 6)) else kdf B n (stf B n (j + 1 + 7)) = 59
theorem t_tellC {u : mm_M} {C w v : Int} (hc : u 14 4 = C) (hC : 0 ≤ C ∧ C < 3) (hw : 0 ≤ w ∧ w < 3) {post : mm_M → Prop} (k : ∀ u', (∀ c : Nat, c ≠ 15 → u' c = u c) → u' 15 = fu (u 15) (3 * C + w) v → post u') : wp_X9_tellCounter 14 w v u post := by
  unfold wp_X9_tellCounter
  rw [hc, n32_id (x := C) (by omega) (by omega), show mm_rt 14 0 = 15 from rfl, show C * 3 + w = 3 * C + w by omega]
  exact ⟨fun z => by omega, fun _ => ⟨fun z => by omega, fun _ => ⟨⟨by omega, by omega⟩, fun s1 e1 => k s1 (fun c hc => by rw [e1, up_c hc]) (by rw [e1, up_f])⟩⟩⟩
theorem t_tellS {u : mm_M} {C w v : Int} (hc : u 14 5 = C) (hC : 0 ≤ C ∧ C < 5) (hw : 0 ≤ w ∧ w < 6) {post : mm_M → Prop} (k : ∀ u', (∀ c : Nat, c ≠ 16 → u' c = u c) → u' 16 = fu (u 16) (6 * C + w) v → post u') : wp_X9_tellSort 14 w v u post := by
  unfold wp_X9_tellSort
  rw [hc, n32_id (x := C) (by omega) (by omega), show mm_rt 14 1 = 16 from rfl, show C * 6 + w = 6 * C + w by omega]
  exact ⟨fun z => by omega, fun _ => ⟨fun z => by omega, fun _ => ⟨⟨by omega, by omega⟩, fun s1 e1 => k s1 (fun c hc => by rw [e1, up_c hc]) (by rw [e1, up_f])⟩⟩⟩
theorem hnd.c {u v : mm_M} {B : Int → Int} {n : Int} {j : Nat} {fa : Int} (h : hnd u B n j fa) (e7 : v 7 = u 7) (e8 : v 8 = u 8) : hnd v B n j fa := by
  unfold hnd tx tkC
  rw [e7, e8]
  exact h
theorem t_counter {u : mm_M} {B : Int → Int} {n C : Int} {j : Nat} (h : hnd u B n j (-1)) (hc : u 14 4 = C) (hC : 0 ≤ C ∧ C < 3) {post : mm_M → Prop} (k : ∀ u', (∀ c : Nat, c ≠ 7 → c ≠ 14 → c ≠ 15 → u' c = u c) → (∀ i : Int, i < 2 ∨ 6 < i → u' 7 i = u 7 i) → hnd u' B n (j + 5) (faF B n (Pc B n j) (j + 1) 4) → (∀ i : Int, i ≠ 4 → u' 14 i = u 14 i) → (faF B n (Pc B n j) (j + 1) 4 = -1 → u' 14 4 = C + 1 ∧ u' 15 = fu (fu (fu (u 15) (3 * C + 0) (nmf B n (stf B n (j + 1 + 0)))) (3 * C + 1) (nmf B n (stf B n (j + 1 + 1)))) (3 * C + 2) (nmf B n (stf B n (j + 1 + 2)))) → post u') : wp_X9_readCounter 14 7 u post := by
  have hb := h.1.2.2
  refine t_hadv h (fun u1 g1 h1 => ?_)
  have h1 : hnd u1 B n (j + 1 + 0) (faF B n (Pc B n j) (j + 1) 0) := h1
  refine t_num (P := Pc B n j) (by omega) (by rfl) h1 (fun u2 r2 g2 h2 v2 => ?_)
  have c2 : u2 14 = u 14 := by rw [g2.1 14 (by decide), g1.1 14 (by decide)]
  refine t_tellC (C := C) (by rw [c2]; exact hc) hC (by omega) (fun u3 f3 e3 => ?_)
  have h3 := h2.c (f3 7 (by decide)) (f3 8 (by decide))
  refine t_num (P := Pc B n j) (by omega) (by rfl) h3 (fun u4 r4 g4 h4 v4 => ?_)
  have c4 : u4 14 = u 14 := by rw [g4.1 14 (by decide), f3 14 (by decide), c2]
  refine t_tellC (C := C) (by rw [c4]; exact hc) hC (by omega) (fun u5 f5 e5 => ?_)
  have h5 := h4.c (f5 7 (by decide)) (f5 8 (by decide))
  refine t_num (P := Pc B n j) (by omega) (by rfl) h5 (fun u6 r6 g6 h6 v6 => ?_)
  have c6 : u6 14 = u 14 := by rw [g6.1 14 (by decide), f5 14 (by decide), c4]
  refine t_tellC (C := C) (by rw [c6]; exact hc) hC (by omega) (fun u7 f7' e7 => ?_)
  have h7 := h6.c (f7' 7 (by decide)) (f7' 8 (by decide))
  refine t_sig (P := Pc B n j) (by omega) (by rfl) h7 (fun u8 r8 g8 h8 v8 => ?_)
  have c8 : u8 14 = u 14 := by rw [g8.1 14 (by decide), f7' 14 (by decide), c6]
  have oth : ∀ c : Nat, c ≠ 7 → c ≠ 15 → u8 c = u c := fun c a b => by rw [g8.1 c a, f7' c b, g6.1 c a, f5 c b, g4.1 c a, f3 c b, g2.1 c a, g1.1 c a]
  have o7 : ∀ i : Int, i < 2 ∨ 6 < i → u8 7 i = u 7 i := fun i a => by rw [g8.2 i a, f7' 7 (by decide), g6.2 i a, f5 7 (by decide), g4.2 i a, f3 7 (by decide), g2.2 i a, g1.2 i a]
  have e15 : faF B n (Pc B n j) (j + 1) 4 = -1 → u8 15 = fu (fu (fu (u 15) (3 * C + 0) (nmf B n (stf B n (j + 1 + 0)))) (3 * C + 1) (nmf B n (stf B n (j + 1 + 1)))) (3 * C + 2) (nmf B n (stf B n (j + 1 + 2))) := by
    intro z
    have y3 : faF B n (Pc B n j) (j + 1) 3 = -1 := by
      by_cases q : faF B n (Pc B n j) (j + 1) 3 = -1
      · exact q
      · have := faF_k q 1; rw [this] at z; exact absurd z q
    have y2 : faF B n (Pc B n j) (j + 1) 2 = -1 := by
      by_cases q : faF B n (Pc B n j) (j + 1) 2 = -1
      · exact q
      · have := faF_k q 1; rw [this] at y3; exact absurd y3 q
    have y1 : faF B n (Pc B n j) (j + 1) 1 = -1 := by
      by_cases q : faF B n (Pc B n j) (j + 1) 1 = -1
      · exact q
      · have := faF_k q 1; rw [this] at y2; exact absurd y2 q
    rw [g8.1 15 (by decide), e7, g6.1 15 (by decide), e5, g4.1 15 (by decide), e3, g2.1 15 (by decide), g1.1 15 (by decide), v6 y3, v4 y2, v2 y1]
  have h8 : hnd u8 B n (j + 5) (faF B n (Pc B n j) (j + 1) 4) := by rw [show j + 5 = j + 1 + (3 + 1) by omega]; exact h8
  rcases v8 with ⟨y, e⟩ | ⟨y, e⟩
  · rw [e]
    refine ⟨fun z => absurd z (by decide), fun _ s17 e17 => ?_⟩
    rw [c8, hc] at e17
    refine k s17 (fun c a b d => by rw [e17, up_c b]; exact oth c a d) (fun i a => by rw [e17, up_c (by decide)]; exact o7 i a) (h8.c (by rw [e17, up_c (by decide)]) (by rw [e17, up_c (by decide)])) (fun i a => by rw [e17, up_n (by omega), c8]) (fun z => ⟨by rw [e17, up_e], by rw [e17, up_c (by decide)]; exact e15 z⟩)
  · rw [e]
    exact ⟨fun _ => k u8 (fun c a b d => oth c a d) o7 h8 (fun i a => by rw [c8]) (fun z => absurd z y), fun z => absurd m_0 z⟩
theorem t_once {u : mm_M} {B : Int → Int} {n lo hi : Int} {j : Nat} (hl : 0 ≤ lo ∧ lo ≤ 1000 ∧ 0 ≤ hi ∧ hi ≤ 10000) (h : hnd u B n j (-1)) {post : Int → mm_M → Prop} (k : ∀ u' r, g7 u u' → hnd u' B n (j + 3) (faF B n (Po B n lo hi j) (j + 1) 2) → (faF B n (Po B n lo hi j) (j + 1) 2 = -1 → r = nmf B n (stf B n (j + 1 + 0))) → post r u') : wp_X9_readOnly 7 lo hi u post := by
  refine t_hadv h (fun u1 g1 h1 => ?_)
  have h1 : hnd u1 B n (j + 1 + 0) (faF B n (Po B n lo hi j) (j + 1) 0) := h1
  refine t_num (P := Po B n lo hi j) hl (by rfl) h1 (fun u2 r2 g2 h2 v2 => ?_)
  intro v3 e3
  refine t_sig (P := Po B n lo hi j) (by omega) (by rfl) h2 (fun u4 r4 g4 h4 v4 => ?_)
  refine k u4 v3 ((g1.tr g2).tr g4) (by rw [show j + 3 = j + 1 + (1 + 1) by omega]; exact h4) (fun z => ?_)
  have y1 : faF B n (Po B n lo hi j) (j + 1) 1 = -1 := by
    by_cases q : faF B n (Po B n lo hi j) (j + 1) 1 = -1
    · exact q
    · have := faF_k q 1; rw [this] at z; exact absurd z q
  rw [e3]
  exact v2 y1
/-- two words of at most eight letters are alike -/
theorem wv_like {B : Int → Int} {n p q : Int} (h1 : kdf B n p = 1) (hp : 0 ≤ p ∧ p ≤ n) (h8 : enf B n p - p ≤ 8) (h2 : kdf B n q = 1) (hq : 0 ≤ q ∧ q ≤ n) (h9 : enf B n q - q ≤ 8) : wvl B n p = wvl B n q ↔ enf B n p - p = enf B n q - q ∧ ∀ i : Int, 0 ≤ i → i < enf B n p - p → B (p + i) = B (q + i) := by
  have e1 := en_r (B := B) hp.2
  have e2 := en_r (B := B) hq.2
  have w1 := en_w h1 hp.2
  have w2 := en_w h2 hq.2
  have b1 : ∀ j : Nat, j < (enf B n p - p).toNat → 1 ≤ (fun i : Nat => B (p + i)) j ∧ (fun i : Nat => B (p + i)) j ≤ 122 := fun j hj => by have := w1 (p + j) (by omega) (by omega); show 1 ≤ B (p + j) ∧ B (p + j) ≤ 122; omega
  have b2 : ∀ j : Nat, j < (enf B n q - q).toNat → 1 ≤ (fun i : Nat => B (q + i)) j ∧ (fun i : Nat => B (q + i)) j ≤ 122 := fun j hj => by have := w2 (q + j) (by omega) (by omega); show 1 ≤ B (q + j) ∧ B (q + j) ≤ 122; omega
  unfold wvl
  rw [if_pos h8, if_pos h9]
  constructor
  · intro e
    have i := pk_i _ _ b1 b2 e
    refine ⟨by omega, fun x x1 x2 => ?_⟩
    have := i.2 x.toNat (by omega)
    have this : B (p + ((x.toNat : Nat) : Int)) = B (q + ((x.toNat : Nat) : Int)) := this
    rw [show ((x.toNat : Nat) : Int) = x by omega] at this
    exact this
  · intro d
    rw [show (enf B n p - p).toNat = (enf B n q - q).toNat by omega]
    exact pk_c _ (fun i hi => d.2 i (by omega) (by omega))
theorem t_like {u : mm_M} {B : Int → Int} {n p q : Int} (h : tx u B n) (hp : 0 ≤ p ∧ p ≤ n) (k : tkC u B n p) (h1 : kdf B n p = 1) (h8 : enf B n p - p ≤ 8) (h2 : kdf B n q = 1) (hq : 0 ≤ q ∧ q ≤ n) (h9 : enf B n q - q ≤ 8) {post : Int → mm_M → Prop} (k1 : wvl B n q = wvl B n p → post 1 u) (k0 : wvl B n q ≠ wvl B n p → post 0 u) : wp_X8_wordIsLike 7 q (enf B n q) u post := by
  obtain ⟨c3, c2, c4, c5⟩ := k
  have hn := h.2.2.1
  have e1 := en_r (B := B) hp.2
  have e2 := en_r (B := B) hq.2
  have lk := wv_like h2 hq h9 h1 hp h8
  intro L58 h58
  rw [c4, c3, c2, h1, n32_id (x := enf B n p - p) (by omega) (by omega), n32_id (x := enf B n q - q) (by omega) (by omega), n32_id (x := p) (by omega) (by omega), n32_id (x := q) (by omega) (by omega), n32_id (x := enf B n p) (by omega) (by omega), n32_id (x := enf B n q) (by omega) (by omega)]
  refine ⟨fun z => absurd rfl z, fun _ => ⟨fun z => k0 (fun y => z (lk.mp y).1.symm), fun z => ⟨fun y => by omega, fun _ => ⟨fun y => by omega, fun _ => ⟨fun y => by omega, fun _ => ⟨fun _ v ev => ?_, fun y => by omega⟩⟩⟩⟩⟩⟩
  rw [ev]
  have key : ∀ d i : Nat, (i : Int) + d = enf B n p - p → (∀ x : Int, 0 ≤ x → x < i → B (q + x) = B (p + x)) → L58 (p + i) u := by
    intro d
    induction d with
    | zero =>
      intro i hi hb
      apply h58
      rw [c2, n32_id (x := enf B n p) (by omega) (by omega), n32_id (x := p + (i : Int)) (by omega) (by omega)]
      exact ⟨fun _ => k1 (lk.mpr ⟨z.symm, fun x x1 x2 => hb x x1 (by omega)⟩), fun y => by omega⟩
    | succ d ih =>
      intro i hi hb
      have b1 := h.2.2.2 (p + i) (by omega) (by omega)
      have b2 := h.2.2.2 (q + i) (by omega) (by omega)
      apply h58
      rw [c2, c3, n32_id (x := enf B n p) (by omega) (by omega), n32_id (x := p + (i : Int)) (by omega) (by omega), show mm_rt 7 0 = 8 from rfl, h.1, show q + (p + (i : Int)) - p = q + (i : Int) by omega, n32_id (x := B (p + (i : Int))) (by omega) (by omega), n32_id (x := B (q + (i : Int))) (by omega) (by omega)]
      refine ⟨fun y => by omega, fun _ => ⟨⟨by omega, by omega⟩, ⟨by omega, by omega⟩, fun y v ev => ?_, fun y => k0 (fun w => y ((lk.mp w).2 i (by omega) (by omega)).symm)⟩⟩
      rw [ev, show p + (i : Int) + 1 = p + ((i + 1 : Nat) : Int) by omega]
      refine ih (i + 1) (by omega) (fun x x1 x2 => ?_)
      by_cases q : x = i
      · rw [q]; exact y.symm
      · exact hb x x1 (by omega)
  have := key (enf B n p - p).toNat 0 (by omega) (fun x x1 x2 => by omega)
  rw [show p + ((0 : Nat) : Int) = p by omega] at this
  exact this
