/-! reading a town: the reference -/
def gM (s u : mm_M) : Prop := (∀ c : Nat, c ≠ 211 → u c = s c) ∧ ∀ i : Int, i ≠ 2 → i ≠ 3 → i ≠ 4 → i ≠ 5 → i ≠ 44 → u 211 i = s 211 i
theorem gM.tx {s u : mm_M} (h : gM s u) {B : Int → Int} {n : Int} (t : tx2 s B n) : tx2 u B n := ⟨by rw [h.2 1 (by decide) (by decide) (by decide) (by decide) (by decide)]; exact t.1, by rw [h.1 212 (by decide)]; exact t.2.1, t.2.2⟩
theorem u_hadv {u : mm_M} {B : Int → Int} {n : Int} {j : Nat} (t : tx2 u B n) (h : u 211 2 = enf B n (stf B n j)) {post : mm_M → Prop} (k : ∀ u', (∀ c : Nat, c ≠ 211 → u' c = u c) → (∀ i : Int, i ≠ 2 → i ≠ 3 → i ≠ 4 → i ≠ 5 → u' 211 i = u 211 i) → tkM u' B n (stf B n (j + 1)) → post u') : wp_X11_leads 211 u post := by
  have r := st_r t.2.2 j
  have e := en_r (B := B) r.2.1
  exact u_leads t ⟨by omega, e.2.1⟩ h k
theorem km_2 {B : Int → Int} {n p : Int} : kmf B n p = 2 ↔ kdf B n p = 2 := by
  unfold kmf
  by_cases z : kdf B n p ≤ 2
  · rw [if_pos z]
  · rw [if_neg z]
    split <;> omega
theorem km_0 {B : Int → Int} {n p : Int} : kmf B n p = 0 ↔ kdf B n p = 0 := by
  unfold kmf
  by_cases z : kdf B n p ≤ 2
  · rw [if_pos z]
  · rw [if_neg z]
    split <;> omega
theorem km_3 {B : Int → Int} {n p : Int} (h : kdf B n p ≠ 3) : kmf B n p = 3 ↔ 5 ≤ kdf B n p := by
  unfold kmf
  by_cases z : kdf B n p ≤ 2
  · rw [if_pos z]; omega
  · rw [if_neg z]
    split <;> omega
theorem km_r {B : Int → Int} {n p : Int} : 0 ≤ kmf B n p ∧ kmf B n p ≤ 4 := by
  have := kd_r (B := B) (n := n) (p := p)
  unfold kmf
  split
  · omega
  · split <;> omega
theorem u_num {u : mm_M} {B : Int → Int} {n lo hi : Int} {j : Nat} (hl : 0 ≤ lo ∧ lo ≤ 1000 ∧ 0 ≤ hi ∧ hi ≤ 10000) (t : tx2 u B n) (h : tkM u B n (stf B n j)) {post : Int → mm_M → Prop} (k1 : okN B n lo hi (stf B n j) → ∀ u', gM u u' → u' 211 44 = nmf B n (stf B n j) → tkM u' B n (stf B n (j + 1)) → post 1 u') (k0 : ¬ okN B n lo hi (stf B n j) → post 0 u) : wp_X11_number 211 lo hi u post := by
  obtain ⟨c4, c2, c3, cw, cn, cs⟩ := h
  have kr := km_r (B := B) (n := n) (p := stf B n j)
  have k2 := km_2 (B := B) (n := n) (p := stf B n j)
  have nr := nmf_r (B := B) (n := n) (p := stf B n j)
  unfold wp_X11_number
  rw [c3, n32_id (x := kmf B n (stf B n j)) (by omega) (by omega)]
  refine ⟨fun z => k0 (fun y => z (k2.mpr y.1)), fun z => ?_⟩
  have cn := cn (k2.mp z)
  rw [n32_id (x := lo) (by omega) (by omega), n32_id (x := hi) (by omega) (by omega), n64_id (x := lo) (by omega) (by omega), n64_id (x := hi) (by omega) (by omega), n64_id (x := u 211 5) (by omega) (by omega)]
  refine ⟨fun y => k0 (fun w => by have := w.2.1; omega), fun y => ⟨fun w s1 e1 => ?_, fun w => k0 (fun x => by have := x.2.2; omega)⟩⟩
  have t1 : tx2 s1 B n := ⟨by rw [e1, up_n (by decide)]; exact t.1, by rw [e1, up_c (by decide)]; exact t.2.1, t.2.2⟩
  refine u_hadv t1 (by rw [e1, up_n (by decide)]; exact c2) (fun u' a b c => k1 ⟨k2.mp z, by omega, by omega⟩ u' ⟨fun c hc => by rw [a c hc, e1, up_c hc], fun i i1 i2 i3 i4 i5 => by rw [b i i1 i2 i3 i4, e1, up_n (by omega)]⟩ ?_ c)
  rw [b 44 (by decide) (by decide) (by decide) (by decide), e1, up_e]
  omega
theorem u_sign {u : mm_M} {B : Int → Int} {n c : Int} {j : Nat} (hc : isS c) (t : tx2 u B n) (h : tkM u B n (stf B n j)) {post : Int → mm_M → Prop} (k1 : kdf B n (stf B n j) = c → post 1 u) (k0 : kdf B n (stf B n j) ≠ c → post 0 u) : wp_X11_isSign 211 c u post := by
  obtain ⟨c4, c2, c3, cw, cn, cs⟩ := h
  have sr := st_r t.2.2 j
  have kr := km_r (B := B) (n := n) (p := stf B n j)
  have k3 := km_3 (B := B) (n := n) (p := stf B n j) sr.2.2
  have ks := kd_s (B := B) (n := n) (p := stf B n j) hc
  have hc' := hc
  unfold isS at hc'
  unfold wp_X11_isSign
  rw [c3, n32_id (x := kmf B n (stf B n j)) (by omega) (by omega), n32_id (x := c) (by omega) (by omega), n64_id (x := c) (by omega) (by omega)]
  refine ⟨fun z => k0 (fun y => z (k3.mpr (by omega))), fun z => ?_⟩
  have h5 := k3.mp z
  have pn : stf B n j < n := by
    by_cases w : stf B n j < n
    · exact w
    · have := kd_e (B := B).mpr w; omega
  have b := t.2.2.2 _ sr.1 pn
  rw [cs h5, n64_id (x := B (stf B n j)) (by omega) (by omega)]
  exact ⟨fun y => k0 (fun w => y (ks.mp w).2), fun y => k1 (ks.mpr ⟨pn, y⟩)⟩
theorem u_ends {u : mm_M} {B : Int → Int} {n : Int} {j : Nat} (t : tx2 u B n) (h : tkM u B n (stf B n j)) {post : Int → mm_M → Prop} (k1 : kdf B n (stf B n j) = 59 → ∀ u', gM u u' → u' 211 44 = u 211 44 → tkM u' B n (stf B n (j + 1)) → post 1 u') (k0 : kdf B n (stf B n j) ≠ 59 → post 0 u) : wp_X11_ends 211 u post := by
  refine u_sign (by unfold isS; omega) t h (fun z => ⟨fun _ => u_hadv t h.2.1 (fun u' a b c => k1 z u' ⟨a, fun i i1 i2 i3 i4 i5 => b i i1 i2 i3 i4⟩ (b 44 (by decide) (by decide) (by decide) (by decide)) c), fun y => absurd y (by decide)⟩) (fun z => ⟨fun y => absurd m_0 y, fun _ => k0 z⟩)
/-- what the reading of a town moves -/
def fM (s u : mm_M) : Prop := (∀ c : Nat, c ≠ 211 → ¬ (213 ≤ c ∧ c ≤ 216) → u c = s c) ∧ ∀ i : Int, i ≠ 2 → i ≠ 3 → i ≠ 4 → i ≠ 5 → i ≠ 6 → i ≠ 8 → i ≠ 44 → u 211 i = s 211 i
theorem fM.tr {s t u : mm_M} (h : fM s t) (g : fM t u) : fM s u := ⟨fun c a b => (g.1 c a b).trans (h.1 c a b), fun i a b c d e f g' => (g.2 i a b c d e f g').trans (h.2 i a b c d e f g')⟩
theorem fM.rf {s : mm_M} : fM s s := ⟨fun _ _ _ => rfl, fun _ _ _ _ _ _ _ _ => rfl⟩
theorem gM.f {s u : mm_M} (h : gM s u) : fM s u := ⟨fun c a _ => h.1 c a, fun i a b c d _ _ e => h.2 i a b c d e⟩
theorem fM.ag {s u : mm_M} (h : fM s u) : ag s u := fun a j q => by
  by_cases z : a = 211
  · rw [z] at q ⊢
    refine h.2 j (fun y => ?_) (fun y => ?_) (fun y => ?_) (fun y => ?_) (fun y => ?_) (fun y => ?_) (fun y => ?_) <;> (rw [y] at q; cases q)
  · refine congrFun (h.1 a z (fun w => ?_)) j
    have h2 : decide (213 ≤ a ∧ a ≤ 216) = true := decide_eq_true w
    have : scr a j = true := by
      unfold scr
      rw [h2]
      simp
    rw [this] at q
    cases q
def mT (u : mm_M) (B : Int → Int) (n : Int) (Z : Tw) : Prop := tx2 u B n ∧ tkM u B n (stf B n (zj Z)) ∧ (u 211 6 = zC Z ∧ u 211 8 = zS Z ∧ u 216 0 = zcl Z ∧ u 216 1 = zfe Z ∧ u 216 2 = zbo Z) ∧ (∀ i : Int, 0 ≤ i → i < 3 * zC Z → u 213 i = zcf Z i) ∧ (∀ i : Int, 0 ≤ i → i < 6 * zS Z → u 215 i = zsf Z i) ∧ ∀ i : Int, 0 ≤ i → i < zS Z → u 214 i = wvl B n (znf Z i)
theorem w18 : ∀ w : Nat, w < 5 → mm_sl (18 + w) = mm_sl w ∧ ∀ i : Nat, i < mm_sl w → mm_byt (18 + w) i = mm_byt w i := by decide +kernel
theorem wd18 {B : Int → Int} {n p : Int} {w : Nat} (hw : w < 5) : wdP B n p (18 + w) ↔ wdP B n p w := by
  obtain ⟨e1, e2⟩ := w18 w hw
  unfold wdP
  rw [e1]
  constructor
  · intro h; exact ⟨h.1, h.2.1, fun i hi => by rw [← e2 i hi]; exact h.2.2 i hi⟩
  · intro h; exact ⟨h.1, h.2.1, fun i hi => by rw [e2 i hi]; exact h.2.2 i hi⟩
theorem u_wd {u : mm_M} {B : Int → Int} {n : Int} {w j : Nat} (hw : w < 5) (t : tx2 u B n) (h : tkM u B n (stf B n j)) {post : Int → mm_M → Prop} (k1 : wdP B n (stf B n j) w → post 1 u) (k0 : ¬ wdP B n (stf B n j) w → post 0 u) : wp_X11_isWord 211 (18 + w) u post := by
  have sr := st_r t.2.2 j
  exact u_word (by have : mm_nS = 35 := rfl; omega) ⟨sr.1, sr.2.1⟩ t.2.2.1.2 h (fun z => k1 ((wd18 hw).mp z)) (fun z => k0 (fun y => z ((wd18 hw).mpr y)))
/-- a line: right to the end, or wrong at a token -/
theorem faF_l {B : Int → Int} {n : Int} {P : Nat → Prop} {j k m : Nat} (hb : bok B n) (h : faF B n P j k = -1) (p : ¬ P k) (hk : k < m) : faF B n P j m = stf B n (j + k) ∧ faF B n P j m ≠ -1 := by
  have e := faF_n (j := j) h p
  have sr := st_r hb (j + k)
  have ne : faF B n P j (k + 1) ≠ -1 := by rw [e]; omega
  have := faF_k ne (m - (k + 1))
  rw [show k + 1 + (m - (k + 1)) = m by omega] at this
  rw [this, e]
  exact ⟨rfl, by omega⟩
theorem u_counter {u : mm_M} {B : Int → Int} {n : Int} {Z : Tw} (h : mT u B n Z) (ok : zok B n Z) (w0 : wdP B n (stf B n (zj Z)) 0) (hC : zC Z < 3) {post : Int → mm_M → Prop} (k1 : ∀ u', faF B n (Pc B n (zj Z)) (zj Z + 1) 4 = -1 → fM u u' → mT u' B n (zj Z + 5, zC Z + 1, zS Z, zcl Z, zfe Z, zbo Z, faF B n (Pc B n (zj Z)) (zj Z + 1) 4, lnC B n Z, zsf Z, znf Z) → post 1 u') (k0 : ∀ u', faF B n (Pc B n (zj Z)) (zj Z + 1) 4 ≠ -1 → fM u u' → u' 211 4 = faF B n (Pc B n (zj Z)) (zj Z + 1) 4 → post 0 u') : wp_X11_counterLine 211 u post := by
  obtain ⟨t, tk, ⟨r6, r8, rl, rf, rb⟩, rc, rs, rn⟩ := h
  have o1 := ok.1
  have hb := t.2.2
  intro L16 L32 L53 h16 h32 h53
  rw [r6, n32_id (x := zC Z) (by omega) (by omega)]
  refine ⟨fun _ => u_hadv t tk.2.1 (fun u1 a1 b1 tk1 => ?_), fun z => by omega⟩
  have g1 : gM u u1 := ⟨a1, fun i i1 i2 i3 i4 i5 => b1 i i1 i2 i3 i4⟩
  -- k numbers are read
  have key : ∀ d x : Nat, x + d = 3 → faF B n (Pc B n (zj Z)) (zj Z + 1) x = -1 → ∀ w, fM u w → tx2 w B n → tkM w B n (stf B n (zj Z + 1 + x)) → (∀ c : Nat, c ≠ 211 → c ≠ 213 → w c = u c) → (w 211 6 = zC Z ∧ w 211 8 = zS Z) → w 213 = rdv (u 213) (3 * zC Z) (fun k => nmf B n (stf B n (zj Z + 1 + k))) x → L16 x w := by
    intro d
    induction d with
    | zero =>
      intro x hx fx w fw tw tkw ow w6 w13
      have : x = 3 := by omega
      subst this
      apply h16
      refine ⟨fun _ s4 e4 => ?_, fun z => absurd (by decide) z⟩
      rw [w6.1] at e4
      have t4 : tx2 s4 B n := ⟨by rw [e4, up_n (by decide)]; exact tw.1, by rw [e4, up_c (by decide)]; exact tw.2.1, tw.2.2⟩
      have tk4 : tkM s4 B n (stf B n (zj Z + 1 + 3)) := by
        unfold tkM
        rw [e4, up_n (by decide), up_n (by decide), up_n (by decide), up_n (by decide)]
        exact tkw
      have f4 : fM u s4 := fw.tr ⟨fun c a b => by rw [e4, up_c a], fun i _ _ _ _ i6 _ _ => by rw [e4, up_n (by omega)]⟩
      refine u_ends t4 tk4 (fun z u' g e44 tk' => ⟨Or.inr rfl, k1 u' (faF_y fx z) (f4.tr g.f) ⟨g.tx t4, tk', ⟨?_, ?_, ?_, ?_, ?_⟩, fun i a b => ?_, ?_, ?_⟩⟩) (fun z => ⟨Or.inl rfl, ?_⟩)
      · rw [g.2 6 (by decide) (by decide) (by decide) (by decide) (by decide), e4, up_e]; rfl
      · rw [g.2 8 (by decide) (by decide) (by decide) (by decide) (by decide), e4, up_n (by decide)]; exact w6.2
      · rw [g.1 216 (by decide), e4, up_c (by decide), ow 216 (by decide) (by decide)]; exact rl
      · rw [g.1 216 (by decide), e4, up_c (by decide), ow 216 (by decide) (by decide)]; exact rf
      · rw [g.1 216 (by decide), e4, up_c (by decide), ow 216 (by decide) (by decide)]; exact rb
      · have b : i < 3 * (zC Z + 1) := b
        rw [g.1 213 (by decide), e4, up_c (by decide), w13]
        exact rdv_g (f := u 213) (g := zcf Z) (b := 3 * zC Z) (v := fun k => nmf B n (stf B n (zj Z + 1 + k))) (fun i a b => rc i a b) 3 i a (by omega)
      · rw [g.1 215 (by decide), e4, up_c (by decide), ow 215 (by decide) (by decide)]; exact rs
      · rw [g.1 214 (by decide), e4, up_c (by decide), ow 214 (by decide) (by decide)]; exact rn
      · have l := faF_l (P := Pc B n (zj Z)) (m := 4) hb fx z (by omega)
        exact k0 s4 l.2 f4 (by rw [l.1]; exact tk4.1)
    | succ d ih =>
      intro x hx fx w fw tw tkw ow w6 w13
      have num : ∀ lo hi : Int, (0 ≤ lo ∧ lo ≤ 1000 ∧ 0 ≤ hi ∧ hi ≤ 10000) → (Pc B n (zj Z) x ↔ okN B n lo hi (stf B n (zj Z + 1 + x))) → L53 x hi lo w := by
        intro lo hi hl hP
        apply h53
        refine u_num hl tw tkw (fun z w' g e44 tk' => ⟨fun _ => ?_, fun y => absurd y (by decide)⟩) (fun z => ⟨fun y => absurd m_0 y, fun _ => ?_⟩)
        · have q6 : w' 211 6 = zC Z := by rw [g.2 6 (by decide) (by decide) (by decide) (by decide) (by decide)]; exact w6.1
          rw [q6, e44, show mm_rt 211 7 = 213 from rfl]
          refine ⟨⟨by omega, by omega⟩, fun s9 e9 v ev => ?_⟩
          rw [ev, show (x : Int) + 1 = ((x + 1 : Nat) : Int) by omega]
          refine ih (x + 1) (by omega) (faF_y fx (hP.mpr z)) s9 (fw.tr (g.f.tr ⟨fun c a b => by rw [e9, up_c (by omega)], fun i _ _ _ _ _ _ _ => by rw [e9, up_c (by decide)]⟩)) ?_ ?_ (fun c a b => by rw [e9, up_c b, g.1 c a]; exact ow c a b) ⟨by rw [e9, up_c (by decide)]; exact q6, ?_⟩ ?_
          · have tw' := g.tx tw
            exact ⟨by rw [e9, up_c (by decide)]; exact tw'.1, by rw [e9, up_c (by decide)]; exact tw'.2.1, tw'.2.2⟩
          · unfold tkM
            rw [e9, up_c (b := 211) (by decide)]
            exact tk'
          · rw [e9, up_c (by decide), g.2 8 (by decide) (by decide) (by decide) (by decide) (by decide)]; exact w6.2
          · rw [e9, up_f, g.1 213 (by decide), w13]
            rfl
        · have l := faF_l (P := Pc B n (zj Z)) (m := 4) hb fx (fun y => z (hP.mp y)) (by omega)
          exact k0 w l.2 fw (by rw [l.1]; exact tkw.1)
      apply h16
      rw [n32_id (x := (x : Int)) (by omega) (by omega)]
      refine ⟨fun z => by omega, fun _ => ⟨fun z => ?_, fun z => ?_⟩⟩
      · apply h32
        rw [n32_id (x := (x : Int)) (by omega) (by omega)]
        refine ⟨fun y => ⟨fun _ => ?_, fun q => absurd q z⟩, fun y => ?_⟩
        · have : x = 2 := by omega
          subst this
          exact num 0 99 (by omega) (by rfl)
        · have : x = 0 := by omega
          subst this
          exact num 0 8 (by omega) (by rfl)
      · have : x = 1 := by omega
        subst this
        apply h32
        exact ⟨fun _ => ⟨fun q => absurd rfl q, fun _ => num 1 9 (by omega) (by rfl)⟩, fun y => absurd y (by decide)⟩
  exact key 3 0 (by omega) rfl u1 g1.f (g1.tx t) tk1 (fun c a _ => g1.1 c a) ⟨by rw [b1 6 (by decide) (by decide) (by decide) (by decide)]; exact r6, by rw [b1 8 (by decide) (by decide) (by decide) (by decide)]; exact r8⟩ (by rw [g1.1 213 (by decide)]; rfl)
theorem u_once {u : mm_M} {B : Int → Int} {n lo hi i : Int} {Z : Tw} {j : Nat} (hi3 : 0 ≤ i ∧ i < 3) (hl : 0 ≤ lo ∧ lo ≤ 1000 ∧ 0 ≤ hi ∧ hi ≤ 10000) (t : tx2 u B n) (tk : tkM u B n (stf B n j)) (hr : -1 ≤ u 216 i ∧ u 216 i ≤ 10000) {post : Int → mm_M → Prop} (k1 : u 216 i = -1 → ∀ u', faF B n (Po B n lo hi j) (j + 1) 2 = -1 → (∀ c : Nat, c ≠ 211 → c ≠ 216 → u' c = u c) → fM u u' → tx2 u' B n → tkM u' B n (stf B n (j + 3)) → u' 216 = fu (u 216) i (nmf B n (stf B n (j + 1 + 0))) → (∀ x : Int, x ≠ 2 → x ≠ 3 → x ≠ 4 → x ≠ 5 → x ≠ 44 → u' 211 x = u 211 x) → post 1 u') (k0 : u 216 i = -1 → ∀ u', faF B n (Po B n lo hi j) (j + 1) 2 ≠ -1 → fM u u' → u' 211 4 = faF B n (Po B n lo hi j) (j + 1) 2 → post 0 u') (k2 : u 216 i ≠ -1 → post 0 u) : wp_X11_onceLine 211 i lo hi u post := by
  have hb := t.2.2
  unfold wp_X11_onceLine
  rw [show mm_rt 211 11 = 216 from rfl, n32_id (x := u 216 i) (by omega) (by omega)]
  refine ⟨hi3, fun z => u_hadv t tk.2.1 (fun u1 a1 b1 tk1 => ?_), fun z => k2 z⟩
  have g1 : gM u u1 := ⟨a1, fun i i1 i2 i3 i4 i5 => b1 i i1 i2 i3 i4⟩
  have t1 := g1.tx t
  have f0 : faF B n (Po B n lo hi j) (j + 1) 0 = -1 := rfl
  refine u_num hl t1 tk1 (fun y u2 g2 e44 tk2 => ⟨fun _ => ⟨hi3, fun s5 e5 => ?_⟩, fun w => absurd w (by decide)⟩) (fun y => ⟨fun w => absurd m_0 w, fun _ => ?_⟩)
  · have f1 := faF_y (P := Po B n lo hi j) (j := j + 1) (k := 0) f0 y
    rw [e44] at e5
    have t2 := g2.tx t1
    have t5 : tx2 s5 B n := ⟨by rw [e5, up_c (by decide)]; exact t2.1, by rw [e5, up_c (by decide)]; exact t2.2.1, t2.2.2⟩
    have tk5 : tkM s5 B n (stf B n (j + 1 + 1)) := by
      unfold tkM
      rw [e5, up_c (b := 211) (by decide)]
      exact tk2
    have f5 : fM u s5 := (g1.f.tr g2.f).tr ⟨fun c a b => by rw [e5, up_c (by omega)], fun i _ _ _ _ _ _ _ => by rw [e5, up_c (by decide)]⟩
    refine u_ends t5 tk5 (fun w u' g e44' tk' => ⟨Or.inr rfl, k1 z u' (faF_y f1 w) (fun c a b => by rw [g.1 c a, e5, up_c b, g2.1 c a, g1.1 c a]) (f5.tr g.f) (g.tx t5) tk' ?_ (fun x x1 x2 x3 x4 x5 => by rw [g.2 x x1 x2 x3 x4 x5, e5, up_c (by decide), g2.2 x x1 x2 x3 x4 x5, g1.2 x x1 x2 x3 x4 x5])⟩) (fun w => ⟨Or.inl rfl, ?_⟩)
    · rw [g.1 216 (by decide), e5, up_f, g2.1 216 (by decide), g1.1 216 (by decide)]
    · have l := faF_l (P := Po B n lo hi j) (m := 2) hb f1 w (by omega)
      exact k0 z s5 l.2 f5 (by rw [l.1]; exact tk5.1)
  · have l := faF_l (P := Po B n lo hi j) (m := 2) hb f0 y (by omega)
    exact k0 z u1 l.2 g1.f (by rw [l.1]; exact tk1.1)
