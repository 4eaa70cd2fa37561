/-! the reference's own steps -/
def uK (s u : mm_M) (B : Int → Int) (n : Int) (m : Nat) (g : Int → Int) (T : List Int) : Prop := fR s u ∧ tx2 u B n ∧ u 211 20 = m ∧ u 211 46 = (T.length : Int) ∧ skk u T ∧ ∀ k : Int, 0 ≤ k → k < m → r_c (g k) (u 219 (2 * k)) (u 219 (2 * k + 1))
def smT (u u' : mm_M) : Prop := ∀ i : Int, 2 ≤ i → i ≤ 5 → u' 211 i = u 211 i
theorem smT.tr {s t u : mm_M} (h : smT s t) (g : smT t u) : smT s u := fun i a b => (g i a b).trans (h i a b)
theorem smT.tk {u u' : mm_M} (h : smT u u') {B : Int → Int} {n p : Int} (t : tkM u B n p) : tkM u' B n p := by
  unfold tkM
  rw [h 2 (by decide) (by decide), h 3 (by decide) (by decide), h 4 (by decide) (by decide), h 5 (by decide) (by decide)]
  exact t
theorem skk_c {u u' : mm_M} : ∀ T : List Int, (∀ i : Int, 0 ≤ i → i < (T.length : Int) → u' 237 i = u 237 i) → skk u T → skk u' T := by
  intro T
  induction T with
  | nil => intro _ _; exact trivial
  | cons o r ih =>
    intro h k
    have e : ((o :: r).length : Int) = (r.length : Int) + 1 := by rw [List.length_cons]; omega
    rw [e] at h
    exact ⟨by rw [h _ (by omega) (by omega)]; exact k.1, k.2.1, ih (fun i a b => h i a (by omega)) k.2.2⟩
theorem uS.k {s u : mm_M} {B : Int → Int} {n : Int} {j m : Nat} {g : Int → Int} {T : List Int} (h : uS s u B n j m g T) : uK s u B n m g T := ⟨h.1, h.2.1, h.2.2.2.1, h.2.2.2.2.1, h.2.2.2.2.2.1, h.2.2.2.2.2.2.2⟩
theorem uK.s {s u : mm_M} {B : Int → Int} {n : Int} {j m : Nat} {g : Int → Int} {T : List Int} (h : uK s u B n m g T) (t : tkM u B n (stf B n j)) (b : m + T.length ≤ j ∧ j ≤ 500) : uS s u B n j m g T := ⟨h.1, h.2.1, t, h.2.2.1, h.2.2.2.1, h.2.2.2.2.1, b, h.2.2.2.2.2⟩
/-- a change of cell 238 alone -/
theorem uK.cm {s u : mm_M} {B : Int → Int} {n : Int} {m : Nat} {g : Int → Int} {T : List Int} (h : uK s u B n m g T) {i v : Int} : uK s (mm_up u 238 i v) B n m g T := by
  obtain ⟨a, t, b, c, d, e⟩ := h
  refine ⟨⟨fun x p q r w => by rw [up_c w]; exact a.1 x p q r w, fun i p q r w x y z => by rw [up_c (by decide)]; exact a.2 i p q r w x y z⟩, ⟨by rw [up_c (by decide)]; exact t.1, by rw [up_c (by decide)]; exact t.2.1, t.2.2⟩, by rw [up_c (by decide)]; exact b, by rw [up_c (by decide)]; exact c, skk_c T (fun i _ _ => by rw [up_c (by decide)]) d, ?_⟩
  rw [up_c (by decide)]
  exact e
theorem v_leads {s u : mm_M} {B : Int → Int} {n : Int} {j m : Nat} {g : Int → Int} {T : List Int} (h : uK s u B n m g T) (t : tkM u B n (stf B n j)) (b : m + T.length ≤ j + 1 ∧ j < 500) {post : mm_M → Prop} (k : ∀ u', uS s u' B n (j + 1) m g T → u' 238 = u 238 → post u') : wp_X11_leads 211 u post := by
  obtain ⟨a, t2, b2, c, d, e⟩ := h
  refine u_hadv t2 t.2.1 (fun u' f1 f2 tk => k u' ⟨⟨fun x p q r w => by rw [f1 x p]; exact a.1 x p q r w, fun i p q r w x y z => by rw [f2 i p q r w]; exact a.2 i p q r w x y z⟩, ⟨by rw [f2 1 (by decide) (by decide) (by decide) (by decide)]; exact t2.1, by rw [f1 212 (by decide)]; exact t2.2.1, t2.2.2⟩, tk, by rw [f2 20 (by decide) (by decide) (by decide) (by decide)]; exact b2, by rw [f2 46 (by decide) (by decide) (by decide) (by decide)]; exact c, skk_c T (fun i _ _ => by rw [f1 237 (by decide)]) d, ⟨by omega, by omega⟩, ?_⟩ (f1 238 (by decide)))
  rw [f1 219 (by decide)]
  exact e
theorem v_lays {s u : mm_M} {B : Int → Int} {n x a1 a2 : Int} {m : Nat} {g : Int → Int} {T : List Int} (h : uK s u B n m g T) (hm : m < 600) (hc : r_c x a1 a2) {post : mm_M → Prop} (k : ∀ u', uK s u' B n (m + 1) (fu g m x) T → smT u u' → u' 238 = u 238 → post u') : wp_X11_lays 211 a1 a2 u post := by
  obtain ⟨a, t, b, c, d, e⟩ := h
  unfold wp_X11_lays
  rw [b, show mm_rt 211 21 = 219 from rfl]
  refine ⟨⟨by omega, by omega⟩, fun s1 e1 => ?_⟩
  have q1 : s1 211 20 = m := by rw [e1, up_c (by decide)]; exact b
  rw [q1]
  refine ⟨⟨by omega, by omega⟩, fun s2 e2 s3 e3 => ?_⟩
  have q2 : s2 211 20 = m := by rw [e2, up_c (by decide)]; exact q1
  rw [q2] at e3
  have o : ∀ c : Nat, c ≠ 211 → c ≠ 219 → s3 c = u c := fun c p q => by rw [e3, up_c p, e2, up_c q, e1, up_c q]
  have o2 : ∀ i : Int, i ≠ 20 → s3 211 i = u 211 i := fun i p => by rw [e3, up_n (Or.inr p), e2, up_c (by decide), e1, up_c (by decide)]
  refine k s3 ⟨⟨fun x p q r w => by rw [o x p q]; exact a.1 x p q r w, fun i p q r w x y z => by rw [o2 i x]; exact a.2 i p q r w x y z⟩, ⟨by rw [o2 1 (by decide)]; exact t.1, by rw [o 212 (by decide) (by decide)]; exact t.2.1, t.2.2⟩, ?_, by rw [o2 46 (by decide)]; exact c, skk_c T (fun i _ _ => by rw [o 237 (by decide) (by decide)]) d, fun i i1 i2 => ?_⟩ (fun i p q => o2 i (by omega)) (o 238 (by decide) (by decide))
  · rw [e3, up_e]; omega
  · rw [e3, up_c (by decide), e2, e1]
    by_cases z : i = m
    · subst z
      rw [up_n (by omega), up_e, up_e, fu_e]
      exact hc
    · rw [up_n (by omega), up_n (by omega), up_n (by omega), up_n (by omega), fu_n z]
      exact e i i1 (by omega)
theorem v_rank {u : mm_M} {o : Int} (ho : o = -1 ∨ 2 ≤ o ∧ o ≤ 6) {post : Int → mm_M → Prop} (k : post (rkf o) u) : wp_X11_rank o u post := by
  unfold wp_X11_rank
  rw [n32_id (x := o) (by omega) (by omega)]
  unfold rkf at k
  refine ⟨fun q => ⟨fun q2 => ?_, fun q2 => ⟨fun q3 => ?_, fun q3 => ?_⟩⟩, fun q => ?_⟩
  · rw [if_neg q, if_pos (Or.inl q2)] at k; exact k
  · rw [if_neg q, if_neg (fun z => by omega)] at k; exact k
  · rw [if_neg q, if_pos (Or.inr q3)] at k; exact k
  · rw [if_pos q] at k; exact k
theorem r_o {o : Int} (h : 2 ≤ o ∧ o ≤ 6) : r_c (cdf o) o 0 := by
  have : o = 2 ∨ o = 3 ∨ o = 4 ∨ o = 5 ∨ o = 6 := by omega
  rcases this with q | q | q | q | q <;> subst q <;> unfold r_c cdf
  · right; right; left; decide
  · right; right; right; left; decide
  · right; right; right; right; left; decide
  · right; right; right; right; right; left; decide
  · right; right; right; right; right; right; decide
theorem rk_r {o : Int} : 0 ≤ rkf o ∧ rkf o ≤ 2 := by
  unfold rkf
  split
  · omega
  · split <;> omega
theorem eml_l {a : Int} : ∀ (T : List Int) (x : Nat × (Int → Int)), (eml a T x).2.1 + (eml a T x).1.length = x.1 + T.length := by
  intro T
  induction T with
  | nil => intro x; rfl
  | cons o r ih =>
    intro x
    rw [eml]
    by_cases q : o = -1 ∨ rkf o < a
    · rw [if_pos q]
    · rw [if_neg q, ih, List.length_cons]
      show x.1 + 1 + r.length = x.1 + (r.length + 1)
      omega
theorem v_emp {s u : mm_M} {B : Int → Int} {n a : Int} (ha : 0 ≤ a ∧ a ≤ 2) {m : Nat} {g : Int → Int} {T T' : List Int} {x : Nat × (Int → Int)} (h : uK s u B n m g T) (hm : m + T.length ≤ 500) (he : eml a T (m, g) = (T', x)) {post : mm_M → Prop} (k : ∀ u', uK s u' B n x.1 x.2 T' → smT u u' → u' 238 = u 238 → post u') : wp_X11_empties 211 a u post := by
  intro L0 h0
  have key : ∀ (T : List Int) (m : Nat) (g : Int → Int) (w : mm_M), uK s w B n m g T → m + T.length ≤ 500 → eml a T (m, g) = (T', x) → smT u w → w 238 = u 238 → L0 w := by
    intro T
    induction T with
    | nil =>
      intro m g w hw _ e f1 f2
      have e : (([] : List Int), (m, g)) = (T', x) := e
      have e1 : [] = T' := congrArg Prod.fst e
      have e2 : (m, g) = x := congrArg Prod.snd e
      rw [← e1, ← e2] at k
      apply h0
      have c : w 211 46 = 0 := hw.2.2.2.1
      rw [c]
      exact ⟨fun _ => k w hw f1 f2, fun q => absurd (by decide) q⟩
    | cons o r ih =>
      intro m g w hw hl e f1 f2
      have c := hw.2.2.2.1
      have sk := hw.2.2.2.2.1
      rw [List.length_cons] at c hl
      rw [eml] at e
      have stop : (o = -1 ∨ rkf o < a) → post w := by
        intro q
        rw [if_pos q] at e
        have e1 : o :: r = T' := congrArg Prod.fst e
        have e2 : (m, g) = x := congrArg Prod.snd e
        rw [← e1, ← e2] at k
        exact k w hw f1 f2
      apply h0
      rw [c, n32_id (x := ((r.length + 1 : Nat) : Int)) (by omega) (by omega), show mm_rt 211 45 = 237 from rfl, show ((r.length + 1 : Nat) : Int) - 1 = (r.length : Int) by omega, sk.1, n32_id (x := o) (by have := sk.2.1; omega) (by have := sk.2.1; omega)]
      refine ⟨fun q => by omega, fun _ => ⟨⟨by omega, by omega⟩, fun q => stop (Or.inl q), fun q => ⟨⟨by omega, by omega⟩, v_rank sk.2.1 ?_⟩⟩⟩
      have rr := rk_r (o := o)
      rw [n32_id (x := rkf o) (by omega) (by omega), n32_id (x := a) (by omega) (by omega)]
      refine ⟨fun z => stop (Or.inr z), fun z s3 e3 => ?_⟩
      rw [if_neg (fun y => by rcases y with y | y; exact q y; exact z y)] at e
      rw [c, show ((r.length + 1 : Nat) : Int) - 1 = (r.length : Int) by omega] at e3
      have o2 : ∀ i : Int, i ≠ 46 → s3 211 i = w 211 i := fun i p => by rw [e3, up_n (Or.inr p)]
      have o1 : ∀ c : Nat, c ≠ 211 → s3 c = w c := fun c p => by rw [e3, up_c p]
      have c3 : s3 211 46 = (r.length : Int) := by rw [e3, up_e]
      rw [c3, o1 237 (by decide), sk.1]
      refine ⟨⟨by omega, by omega⟩, ?_⟩
      have hk3 : uK s s3 B n m g r := ⟨⟨fun x p q r w => by rw [o1 x p]; exact hw.1.1 x p q r w, fun i p q r w x y z => by rw [o2 i z]; exact hw.1.2 i p q r w x y z⟩, ⟨by rw [o2 1 (by decide)]; exact hw.2.1.1, by rw [o1 212 (by decide)]; exact hw.2.1.2.1, hw.2.1.2.2⟩, by rw [o2 20 (by decide)]; exact hw.2.2.1, c3, skk_c r (fun i _ _ => by rw [o1 237 (by decide)]) sk.2.2, by rw [o1 219 (by decide)]; exact hw.2.2.2.2.2⟩
      refine v_lays hk3 (by omega) (r_o (by have := sk.2.1; omega)) (fun u4 h4 f4 g4 => ?_)
      exact ih (m + 1) (fu g m (cdf o)) u4 h4 (by omega) e (f1.tr ((show smT w s3 from fun i p q => o2 i (by omega)).tr f4)) (by rw [g4, o1 238 (by decide)]; exact f2)
  exact key T m g u h hm he (fun _ _ _ => rfl) rfl
theorem v_push {s u : mm_M} {B : Int → Int} {n o : Int} {j m : Nat} {g : Int → Int} {T : List Int} (ho : o = -1 ∨ 2 ≤ o ∧ o ≤ 6) (h : uK s u B n m g T) (t : tkM u B n (stf B n j)) (b : m + T.length ≤ j ∧ j < 500) {post : mm_M → Prop} (k : ∀ u', uS s u' B n (j + 1) m g (o :: T) → u' 238 = u 238 → post u') : wp_X11_waitsFor 211 o u post := by
  obtain ⟨a, t2, b2, c, d, e⟩ := h
  unfold wp_X11_waitsFor
  rw [c, show mm_rt 211 45 = 237 from rfl]
  refine ⟨⟨by omega, by omega⟩, fun s1 e1 s2 e2 => ?_⟩
  have c1 : s1 211 46 = (T.length : Int) := by rw [e1, up_c (by decide)]; exact c
  rw [c1] at e2
  have o2 : ∀ i : Int, i ≠ 46 → s2 211 i = u 211 i := fun i p => by rw [e2, up_n (Or.inr p), e1, up_c (by decide)]
  have o1 : ∀ c : Nat, c ≠ 211 → c ≠ 237 → s2 c = u c := fun c p q => by rw [e2, up_c p, e1, up_c q]
  have hk : uK s s2 B n m g (o :: T) := ⟨⟨fun x p q r w => by rw [o1 x p r]; exact a.1 x p q r w, fun i p q r w x y z => by rw [o2 i z]; exact a.2 i p q r w x y z⟩, ⟨by rw [o2 1 (by decide)]; exact t2.1, by rw [o1 212 (by decide) (by decide)]; exact t2.2.1, t2.2.2⟩, by rw [o2 20 (by decide)]; exact b2, by rw [e2, up_e, List.length_cons]; omega, ⟨by rw [e2, up_c (by decide), e1, up_e], ho, skk_c T (fun i i1 i2 => by rw [e2, up_c (by decide), e1, up_n (by omega)]) d⟩, by rw [o1 219 (by decide) (by decide)]; exact e⟩
  refine v_leads hk ((show smT u s2 from fun i p q => o2 i (by omega)).tk t) ⟨by rw [List.length_cons]; omega, b.2⟩ (fun u' hu f => k u' hu (by rw [f, o1 238 (by decide) (by decide)]))
theorem wd_q {B : Int → Int} {n p : Int} {a b : Nat} (h : mm_sl a = mm_sl b ∧ ∀ i : Nat, i < mm_sl a → mm_byt a i = mm_byt b i) : wdP B n p a ↔ wdP B n p b := by
  unfold wdP
  refine ⟨fun q => ⟨q.1, by rw [← h.1]; exact q.2.1, fun i hi => by rw [← h.2 i (by rw [h.1]; exact hi)]; exact q.2.2 i (by rw [h.1]; exact hi)⟩, fun q => ⟨q.1, by rw [h.1]; exact q.2.1, fun i hi => by rw [h.2 i hi]; exact q.2.2 i (by rw [← h.1]; exact hi)⟩⟩
theorem v_name {u : mm_M} {B : Int → Int} {n p : Int} (hp : 0 ≤ p ∧ p ≤ n) (hn : n ≤ 500) (tk : tkM u B n p) {post : Int → mm_M → Prop} (k : post (nmI B n p) u) : wp_X11_nameHere 211 u post := by
  unfold nmI at k
  refine u_word (by decide) hp hn tk (fun w => ⟨fun y => absurd y (by decide), fun _ => by rw [cif_p ((wd_q (by decide +kernel)).1 w)] at k; exact k⟩) (fun w => ⟨fun _ => ?_, fun y => absurd m_0 y⟩)
  rw [cif_n (fun z => w ((wd_q (by decide +kernel)).1 z))] at k
  refine u_word (by decide) hp hn tk (fun w => ⟨fun y => absurd y (by decide), fun _ => by rw [cif_p ((wd_q (by decide +kernel)).1 w)] at k; exact k⟩) (fun w => ⟨fun _ => ?_, fun y => absurd m_0 y⟩)
  rw [cif_n (fun z => w ((wd_q (by decide +kernel)).1 z))] at k
  refine u_word (by decide) hp hn tk (fun w => ⟨fun y => absurd y (by decide), fun _ => by rw [cif_p ((wd_q (by decide +kernel)).1 w)] at k; exact k⟩) (fun w => ⟨fun _ => ?_, fun y => absurd m_0 y⟩)
  rw [cif_n (fun z => w ((wd_q (by decide +kernel)).1 z))] at k
  refine u_word (by decide) hp hn tk (fun w => ⟨fun y => absurd y (by decide), fun _ => by rw [cif_p ((wd_q (by decide +kernel)).1 w)] at k; exact k⟩) (fun w => ⟨fun _ => ?_, fun y => absurd m_0 y⟩)
  rw [cif_n (fun z => w ((wd_q (by decide +kernel)).1 z))] at k
  refine u_word (by decide) hp hn tk (fun w => ⟨fun y => absurd y (by decide), fun _ => by rw [cif_p ((wd_q (by decide +kernel)).1 w)] at k; exact k⟩) (fun w => ⟨fun _ => ?_, fun y => absurd m_0 y⟩)
  rw [cif_n (fun z => w ((wd_q (by decide +kernel)).1 z))] at k
  refine u_word (by decide) hp hn tk (fun w => ⟨fun y => absurd y (by decide), fun _ => by rw [cif_p ((wd_q (by decide +kernel)).1 w)] at k; exact k⟩) (fun w => ⟨fun _ => ?_, fun y => absurd m_0 y⟩)
  rw [cif_n (fun z => w ((wd_q (by decide +kernel)).1 z))] at k
  refine u_word (by decide) hp hn tk (fun w => ⟨fun y => absurd y (by decide), fun _ => by rw [cif_p ((wd_q (by decide +kernel)).1 w)] at k; exact k⟩) (fun w => ⟨fun _ => ?_, fun y => absurd m_0 y⟩)
  rw [cif_n (fun z => w ((wd_q (by decide +kernel)).1 z))] at k
  refine u_word (by decide) hp hn tk (fun w => ⟨fun y => absurd y (by decide), fun _ => by rw [cif_p ((wd_q (by decide +kernel)).1 w)] at k; exact k⟩) (fun w => ⟨fun _ => ?_, fun y => absurd m_0 y⟩)
  rw [cif_n (fun z => w ((wd_q (by decide +kernel)).1 z))] at k
  refine u_word (by decide) hp hn tk (fun w => ⟨fun y => absurd y (by decide), fun _ => by rw [cif_p ((wd_q (by decide +kernel)).1 w)] at k; exact k⟩) (fun w => ⟨fun _ => ?_, fun y => absurd m_0 y⟩)
  rw [cif_n (fun z => w ((wd_q (by decide +kernel)).1 z))] at k
  refine u_word (by decide) hp hn tk (fun w => ⟨fun y => absurd y (by decide), fun _ => by rw [cif_p ((wd_q (by decide +kernel)).1 w)] at k; exact k⟩) (fun w => ⟨fun _ => ?_, fun y => absurd m_0 y⟩)
  rw [cif_n (fun z => w ((wd_q (by decide +kernel)).1 z))] at k
  exact k
