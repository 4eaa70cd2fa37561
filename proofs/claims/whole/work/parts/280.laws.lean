/-! reading laws: the model, a descent over tokens -/
abbrev Pq : Type := Int × Nat × Nat × (Int → Int)
def pf (X : Pq) : Int := X.1
def pj (X : Pq) : Nat := X.2.1
def pm (X : Pq) : Nat := X.2.2.1
def pg (X : Pq) : Int → Int := X.2.2.2
def pw (X : Pq) (v : Int) : Pq := (pf X, pj X, pm X + 1, fu (pg X) (pm X) v)
noncomputable def nmI (B : Int → Int) (n p : Int) : Int := cif (wdP B n p 8) 0 (cif (wdP B n p 9) 1 (cif (wdP B n p 10) 2 (cif (wdP B n p 11) 3 (cif (wdP B n p 12) 4 (cif (wdP B n p 13) 5 (cif (wdP B n p 14) 6 (cif (wdP B n p 15) 7 (cif (wdP B n p 16) 8 (cif (wdP B n p 17) 9 (-1))))))))))
noncomputable def rF (B : Int → Int) (n : Int) (Br : Nat → Nat → (Int → Int) → Pq) (b : Prop) (j m : Nat) (g : Int → Int) : Pq :=
  cif (nmI B n (stf B n j) ≠ -1) (-1, j + 1, m + 1, fu g m (10000 + nmI B n (stf B n j)))
  (cif (kdf B n (stf B n j) = 2 ∧ nmf B n (stf B n j) ≤ 9999) (-1, j + 1, m + 1, fu g m (nmf B n (stf B n j)))
  (cif (kdf B n (stf B n j) = 40 ∧ b) (Br (j + 1) m g) (stf B n j, j, m, g)))
def rPl (B : Int → Int) (n : Int) (F : Nat → Nat → (Int → Int) → Pq) : Nat → Pq → Pq
  | 0, X => X
  | k + 1, X => if pf X = -1 ∧ kdf B n (stf B n (pj X)) = 42 then rPl B n F k (pw (F (pj X + 1) (pm X) (pg X)) 20042) else X
def rP (B : Int → Int) (n : Int) (F : Nat → Nat → (Int → Int) → Pq) (j m : Nat) (g : Int → Int) : Pq := rPl B n F 500 (F j m g)
def rSl (B : Int → Int) (n : Int) (P : Nat → Nat → (Int → Int) → Pq) : Nat → Pq → Pq
  | 0, X => X
  | k + 1, X => if pf X = -1 ∧ (kdf B n (stf B n (pj X)) = 43 ∨ kdf B n (stf B n (pj X)) = 45) then rSl B n P k (pw (P (pj X + 1) (pm X) (pg X)) (20000 + kdf B n (stf B n (pj X)))) else X
def rS (B : Int → Int) (n : Int) (P : Nat → Nat → (Int → Int) → Pq) (j m : Nat) (g : Int → Int) : Pq := rSl B n P 500 (P j m g)
def rC (B : Int → Int) (n : Int) (S : Nat → Nat → (Int → Int) → Pq) (X : Pq) : Pq := if pf X = -1 ∧ (kdf B n (stf B n (pj X)) = 60 ∨ kdf B n (stf B n (pj X)) = 61) then pw (S (pj X + 1) (pm X) (pg X)) (20000 + kdf B n (stf B n (pj X))) else X
def rE (B : Int → Int) (n : Int) (X : Pq) : Pq := if pf X = -1 then (if kdf B n (stf B n (pj X)) = 41 then (-1, pj X + 1, pm X, pg X) else (stf B n (pj X), pj X, pm X, pg X)) else X
def rB (B : Int → Int) (n : Int) (S : Nat → Nat → (Int → Int) → Pq) (j m : Nat) (g : Int → Int) : Pq := rE B n (rC B n S (S j m g))
noncomputable def lvF (B : Int → Int) (n : Int) : Nat → Nat → Nat → (Int → Int) → Pq
  | 0 => rF B n (fun j m g => (0, j, m, g)) False
  | e + 1 => rF B n (rB B n (rS B n (rP B n (lvF B n e)))) True
/-- what a sound reading consumes and lays -/
def szF (F : Nat → Nat → (Int → Int) → Pq) : Prop := ∀ j m g, (pf (F j m g) = -1 → j + 1 ≤ pj (F j m g) ∧ pj (F j m g) ≤ 500 ∧ pm (F j m g) + j ≤ m + pj (F j m g) ∧ m + 1 ≤ pm (F j m g)) ∧ (pf (F j m g) = -1 ∨ 0 ≤ pf (F j m g) ∧ pf (F j m g) ≤ 500)
theorem tok_lt {B : Int → Int} {n : Int} (hb : bok B n) {j : Nat} (h : kdf B n (stf B n j) ≠ 0) : j < 500 := by
  rcases Nat.lt_or_ge j 500 with q | q
  · exact q
  · exact absurd (st_end hb q) h
theorem nmI_r {B : Int → Int} {n p : Int} : -1 ≤ nmI B n p ∧ nmI B n p ≤ 9 ∧ (nmI B n p ≠ -1 → kdf B n p = 1) := by
  unfold nmI
  by_cases h0 : wdP B n p 8
  · rw [cif_p h0]; exact ⟨by omega, by omega, fun _ => h0.1⟩
  rw [cif_n h0]
  by_cases h1 : wdP B n p 9
  · rw [cif_p h1]; exact ⟨by omega, by omega, fun _ => h1.1⟩
  rw [cif_n h1]
  by_cases h2 : wdP B n p 10
  · rw [cif_p h2]; exact ⟨by omega, by omega, fun _ => h2.1⟩
  rw [cif_n h2]
  by_cases h3 : wdP B n p 11
  · rw [cif_p h3]; exact ⟨by omega, by omega, fun _ => h3.1⟩
  rw [cif_n h3]
  by_cases h4 : wdP B n p 12
  · rw [cif_p h4]; exact ⟨by omega, by omega, fun _ => h4.1⟩
  rw [cif_n h4]
  by_cases h5 : wdP B n p 13
  · rw [cif_p h5]; exact ⟨by omega, by omega, fun _ => h5.1⟩
  rw [cif_n h5]
  by_cases h6 : wdP B n p 14
  · rw [cif_p h6]; exact ⟨by omega, by omega, fun _ => h6.1⟩
  rw [cif_n h6]
  by_cases h7 : wdP B n p 15
  · rw [cif_p h7]; exact ⟨by omega, by omega, fun _ => h7.1⟩
  rw [cif_n h7]
  by_cases h8 : wdP B n p 16
  · rw [cif_p h8]; exact ⟨by omega, by omega, fun _ => h8.1⟩
  rw [cif_n h8]
  by_cases h9 : wdP B n p 17
  · rw [cif_p h9]; exact ⟨by omega, by omega, fun _ => h9.1⟩
  rw [cif_n h9]
  exact ⟨by omega, by omega, fun z => absurd rfl z⟩
theorem rF_sz {B : Int → Int} {n : Int} (hb : bok B n) {Br : Nat → Nat → (Int → Int) → Pq} {b : Prop} (h : b → szF Br) : szF (rF B n Br b) := by
  intro j m g
  have nr := nmI_r (B := B) (n := n) (p := stf B n j)
  have sr := st_r hb j
  have hn := hb.1.2
  unfold rF
  by_cases h1 : nmI B n (stf B n j) ≠ -1
  · rw [cif_p h1]
    have k := nr.2.2 h1
    have := tok_lt hb (j := j) (by omega)
    exact ⟨fun _ => ⟨Nat.le_refl _, by show j + 1 ≤ 500; omega, by show m + 1 + j ≤ m + (j + 1); omega, Nat.le_refl _⟩, Or.inl rfl⟩
  rw [cif_n h1]
  by_cases h2 : kdf B n (stf B n j) = 2 ∧ nmf B n (stf B n j) ≤ 9999
  · rw [cif_p h2]
    have := tok_lt hb (j := j) (by omega)
    exact ⟨fun _ => ⟨Nat.le_refl _, by show j + 1 ≤ 500; omega, by show m + 1 + j ≤ m + (j + 1); omega, Nat.le_refl _⟩, Or.inl rfl⟩
  rw [cif_n h2]
  by_cases h3 : kdf B n (stf B n j) = 40 ∧ b
  · rw [cif_p h3]
    have q := h h3.2 (j + 1) m g
    exact ⟨fun z => ⟨by have := (q.1 z).1; omega, (q.1 z).2.1, by have := (q.1 z).2.2.1; omega, (q.1 z).2.2.2⟩, q.2⟩
  rw [cif_n h3]
  refine ⟨fun z => ?_, Or.inr ⟨sr.1, by show stf B n j ≤ 500; omega⟩⟩
  have z : stf B n j = -1 := z
  omega
/-- a state of reading behind token j0 with m0 codes -/
def szX (j0 m0 : Nat) (X : Pq) : Prop := (pf X = -1 → j0 + 1 ≤ pj X ∧ pj X ≤ 500 ∧ pm X + j0 ≤ m0 + pj X ∧ m0 + 1 ≤ pm X) ∧ (pf X = -1 ∨ 0 ≤ pf X ∧ pf X ≤ 500)
theorem szX_w {F : Nat → Nat → (Int → Int) → Pq} (hF : szF F) {j0 m0 : Nat} {X : Pq} (h : szX j0 m0 X) (z : pf X = -1) (v : Int) : szX j0 m0 (pw (F (pj X + 1) (pm X) (pg X)) v) := by
  have a := h.1 z
  have q := hF (pj X + 1) (pm X) (pg X)
  refine ⟨fun y => ?_, q.2⟩
  have r := q.1 y
  show j0 + 1 ≤ pj (F (pj X + 1) (pm X) (pg X)) ∧ pj (F (pj X + 1) (pm X) (pg X)) ≤ 500 ∧ pm (F (pj X + 1) (pm X) (pg X)) + 1 + j0 ≤ m0 + pj (F (pj X + 1) (pm X) (pg X)) ∧ m0 + 1 ≤ pm (F (pj X + 1) (pm X) (pg X)) + 1
  omega
theorem rPl_sz {B : Int → Int} {n : Int} {F : Nat → Nat → (Int → Int) → Pq} (hF : szF F) {j0 m0 : Nat} : ∀ (k : Nat) (X : Pq), szX j0 m0 X → szX j0 m0 (rPl B n F k X) := by
  intro k
  induction k with
  | zero => intro X h; exact h
  | succ k ih =>
    intro X h
    rw [rPl]
    by_cases z : pf X = -1 ∧ kdf B n (stf B n (pj X)) = 42
    · rw [if_pos z]; exact ih _ (szX_w hF h z.1 _)
    · rw [if_neg z]; exact h
theorem rSl_sz {B : Int → Int} {n : Int} {F : Nat → Nat → (Int → Int) → Pq} (hF : szF F) {j0 m0 : Nat} : ∀ (k : Nat) (X : Pq), szX j0 m0 X → szX j0 m0 (rSl B n F k X) := by
  intro k
  induction k with
  | zero => intro X h; exact h
  | succ k ih =>
    intro X h
    rw [rSl]
    by_cases z : pf X = -1 ∧ (kdf B n (stf B n (pj X)) = 43 ∨ kdf B n (stf B n (pj X)) = 45)
    · rw [if_pos z]; exact ih _ (szX_w hF h z.1 _)
    · rw [if_neg z]; exact h
theorem rP_sz {B : Int → Int} {n : Int} {F : Nat → Nat → (Int → Int) → Pq} (hF : szF F) : szF (rP B n F) := fun j m g => rPl_sz hF 500 _ (hF j m g)
theorem rS_sz {B : Int → Int} {n : Int} {F : Nat → Nat → (Int → Int) → Pq} (hF : szF F) : szF (rS B n F) := fun j m g => rSl_sz hF 500 _ (hF j m g)
theorem rC_sz {B : Int → Int} {n : Int} {F : Nat → Nat → (Int → Int) → Pq} (hF : szF F) {j0 m0 : Nat} {X : Pq} (h : szX j0 m0 X) : szX j0 m0 (rC B n F X) := by
  unfold rC
  by_cases z : pf X = -1 ∧ (kdf B n (stf B n (pj X)) = 60 ∨ kdf B n (stf B n (pj X)) = 61)
  · rw [if_pos z]; exact szX_w hF h z.1 _
  · rw [if_neg z]; exact h
theorem rE_sz {B : Int → Int} {n : Int} (hb : bok B n) {j0 m0 : Nat} {X : Pq} (h : szX j0 m0 X) : szX j0 m0 (rE B n X) := by
  have sr := st_r hb (pj X)
  have hn := hb.1.2
  unfold rE
  by_cases z : pf X = -1
  · rw [if_pos z]
    have a := h.1 z
    by_cases y : kdf B n (stf B n (pj X)) = 41
    · rw [if_pos y]
      have := tok_lt hb (j := pj X) (by omega)
      refine ⟨fun _ => ?_, Or.inl rfl⟩
      show j0 + 1 ≤ pj X + 1 ∧ pj X + 1 ≤ 500 ∧ pm X + j0 ≤ m0 + (pj X + 1) ∧ m0 + 1 ≤ pm X
      omega
    · rw [if_neg y]
      refine ⟨fun w => ?_, Or.inr ⟨sr.1, by show stf B n (pj X) ≤ 500; omega⟩⟩
      have w : stf B n (pj X) = -1 := w
      omega
  · rw [if_neg z]; exact h
theorem rB_sz {B : Int → Int} {n : Int} (hb : bok B n) {F : Nat → Nat → (Int → Int) → Pq} (hF : szF F) : szF (rB B n F) := fun j m g => rE_sz hb (rC_sz hF (hF j m g))
theorem lvF_sz {B : Int → Int} {n : Int} (hb : bok B n) : ∀ e : Nat, szF (lvF B n e) := by
  intro e
  induction e with
  | zero => exact rF_sz hb (fun z => z.elim)
  | succ e ih => exact rF_sz hb (fun _ => rB_sz hb (rS_sz (rP_sz ih)))
/-! the class -/
def cL (u : mm_M) (B : Int → Int) (n : Int) (X : Pq) : Prop := hnd u B n (pj X) (pf X) ∧ (0 ≤ u 24 5 ∧ u 24 5 ≤ 500) ∧ (pf X = -1 → u 24 5 = pm X ∧ u 25 = pg X)
def fL (s u : mm_M) : Prop := (∀ c : Nat, c ≠ 7 → c ≠ 24 → c ≠ 25 → u c = s c) ∧ (∀ i : Int, i ≠ 5 → u 24 i = s 24 i) ∧ ∀ i : Int, i < 2 ∨ 6 < i → u 7 i = s 7 i
theorem fL.tr {s t u : mm_M} (h : fL s t) (g : fL t u) : fL s u := ⟨fun c a b d => (g.1 c a b d).trans (h.1 c a b d), fun i a => (g.2.1 i a).trans (h.2.1 i a), fun i a => (g.2.2 i a).trans (h.2.2 i a)⟩
theorem fL.rf {s : mm_M} : fL s s := ⟨fun _ _ _ _ => rfl, fun _ _ => rfl, fun _ _ => rfl⟩
theorem g7.fL {s u : mm_M} (h : g7 s u) : fL s u := ⟨fun c a _ _ => h.1 c a, fun i _ => by rw [h.1 24 (by decide)], h.2⟩
theorem c_wr {u : mm_M} {v : Int} (h : 0 ≤ u 24 5 ∧ u 24 5 ≤ 500) {post : mm_M → Prop} (k : ∀ u', (∀ c : Nat, c ≠ 24 → c ≠ 25 → u' c = u c) → fL u u' → (0 ≤ u' 24 5 ∧ u' 24 5 ≤ 500) → (u 24 5 < 500 → u' 24 5 = u 24 5 + 1 ∧ u' 25 = fu (u 25) (u 24 5) v) → post u') : wp_X3_write 24 v u post := by
  unfold wp_X3_write
  rw [n32_id (x := u 24 5) (by omega) (by omega), show mm_rt 24 0 = 25 from rfl]
  refine ⟨fun z => by omega, fun _ => ⟨fun z => k u (fun _ _ _ => rfl) fL.rf h (fun y => by omega), fun z => ⟨⟨by omega, by omega⟩, fun s1 e1 s2 e2 => ?_⟩⟩⟩
  have q : s1 24 5 = u 24 5 := by rw [e1, up_c (by decide)]
  rw [q] at e2
  refine k s2 (fun c a b => by rw [e2, up_c a, e1, up_c b]) ⟨fun c _ a b => by rw [e2, up_c a, e1, up_c b], fun i a => by rw [e2, up_n (by omega), e1, up_c (by decide)], fun i _ => by rw [e2, up_c (by decide), e1, up_c (by decide)]⟩ ⟨by rw [e2, up_e]; omega, by rw [e2, up_e]; omega⟩ (fun _ => ⟨by rw [e2, up_e], by rw [e2, up_c (by decide), e1, up_f]⟩)
/-- an operator is laid behind what it joins -/
theorem c_op {u : mm_M} {B : Int → Int} {n v : Int} {X : Pq} (h : cL u B n X) (hm : pf X = -1 → pm X < 500) {post : mm_M → Prop} (k : ∀ u', cL u' B n (pw X v) → fL u u' → post u') : wp_X3_write 24 v u post := by
  refine c_wr h.2.1 (fun u' a f r w => k u' ⟨h.1.c (a 7 (by decide) (by decide)) (a 8 (by decide) (by decide)), r, fun z => ?_⟩ f)
  have z : pf X = -1 := z
  have q := h.2.2 z
  have := hm z
  have ww := w (by rw [q.1]; omega)
  rw [q.1, q.2] at ww
  exact ⟨by rw [ww.1]; show (pm X : Int) + 1 = ((pm X + 1 : Nat) : Int); omega, ww.2⟩
theorem c_sound {u : mm_M} {B : Int → Int} {n : Int} {X : Pq} (h : cL u B n X) {post : Int → mm_M → Prop} (k1 : pf X = -1 → post 1 u) (k0 : pf X ≠ -1 → post 0 u) : wp_X8_isSound 7 u post := by
  have fr := h.1.2.2.2
  unfold wp_X8_isSound
  rw [h.1.2.1, n32_id (x := pf X) (by omega) (by omega)]
  exact ⟨fun z => k0 z, fun z => k1 z⟩
def isF (B : Int → Int) (n : Int) (R : Nat → Nat → Nat → Int → mm_M → (mm_M → Prop) → Prop) (t : Nat) (d : Int) (F : Nat → Nat → (Int → Int) → Pq) : Prop := ∀ (u : mm_M) (j m : Nat) (g : Int → Int) (post : mm_M → Prop), cL u B n (-1, j, m, g) → m ≤ j → (∀ u', cL u' B n (F j m g) → fL u u' → post u') → R t 24 7 d u post
theorem c_prod {B : Int → Int} {n : Int} {R : Nat → Nat → Nat → Int → mm_M → (mm_M → Prop) → Prop} {d : Int} {F : Nat → Nat → (Int → Int) → Pq} (hb : bok B n) (hF : szF F) (h : isF B n R 2 d F) (u : mm_M) (j m : Nat) (g : Int → Int) (post : mm_M → Prop) (c : cL u B n (-1, j, m, g)) (hm : m ≤ j) (k : ∀ u', cL u' B n (rP B n F j m g) → fL u u' → post u') : wpb_X3_readProduct R 24 7 d u post := by
  intro L8 h8
  have key : ∀ (x y : Nat) (X : Pq) (w : mm_M), x + y = 500 → cL w B n X → szX j m X → fL u w → rP B n F j m g = rPl B n F x X → L8 y w := by
    intro x
    induction x with
    | zero =>
      intro y X w hy cw sw fw e
      have : y = 500 := by omega
      subst this
      apply h8
      exact ⟨fun _ => k w (by rw [e]; exact cw) fw, fun z => absurd (by decide) z⟩
    | succ x ih =>
      intro y X w hy cw sw fw e
      rw [rPl] at e
      apply h8
      rw [n32_id (x := (y : Int)) (by omega) (by omega)]
      refine ⟨fun z => by omega, fun _ => c_sound cw (fun z => ⟨fun q => absurd q (by decide), fun _ => ?_⟩) (fun z => ⟨fun _ => ?_, fun q => absurd m_0 q⟩)⟩
      · have kr := kd_r (B := B) (n := n) (p := stf B n (pj X))
        rw [(cw.1.2.2.1 z).2.2.1, n32_id (x := kdf B n (stf B n (pj X))) (by omega) (by omega)]
        refine ⟨fun q => ?_, fun q => ?_⟩
        · rw [if_neg (fun p => q p.2)] at e
          exact k w (by rw [e]; exact cw) fw
        · rw [if_pos ⟨z, q⟩] at e
          have sx := sw.1 z
          have h1 := cw.1
          rw [z] at h1
          refine t_hadv h1 (fun w1 g1 hw1 => ?_)
          have m1 := cw.2.2 z
          refine h w1 (pj X + 1) (pm X) (pg X) _ ⟨hw1, by rw [g1.1 24 (by decide)]; exact cw.2.1, fun _ => by rw [g1.1 24 (by decide), g1.1 25 (by decide)]; exact m1⟩ (by omega) (fun w2 c2 f2 => ?_)
          have s2 := hF (pj X + 1) (pm X) (pg X)
          refine c_op c2 (fun y => by have := s2.1 y; omega) (fun w3 c3 f3 v ev => ?_)
          rw [ev, show (y : Int) + 1 = ((y + 1 : Nat) : Int) by omega]
          exact ih (y + 1) _ w3 (by omega) c3 (szX_w hF sw z _) (fw.tr (g1.fL.tr (f2.tr f3))) e
      · rw [if_neg (fun p => z p.1)] at e
        exact k w (by rw [e]; exact cw) fw
  refine h u j m g _ c hm (fun w cw fw => key 500 0 _ w (by omega) cw (hF j m g) fw rfl)
theorem c_sum {B : Int → Int} {n : Int} {R : Nat → Nat → Nat → Int → mm_M → (mm_M → Prop) → Prop} {d : Int} {F : Nat → Nat → (Int → Int) → Pq} (hb : bok B n) (hF : szF F) (h : isF B n R 1 d F) (u : mm_M) (j m : Nat) (g : Int → Int) (post : mm_M → Prop) (c : cL u B n (-1, j, m, g)) (hm : m ≤ j) (k : ∀ u', cL u' B n (rS B n F j m g) → fL u u' → post u') : wpb_X3_readSum R 24 7 d u post := by
  intro L8 L43 h8 h43
  have key : ∀ (x y : Nat) (X : Pq) (w : mm_M), x + y = 500 → cL w B n X → szX j m X → fL u w → rS B n F j m g = rSl B n F x X → L8 y w := by
    intro x
    induction x with
    | zero =>
      intro y X w hy cw sw fw e
      have : y = 500 := by omega
      subst this
      apply h8
      exact ⟨fun _ => k w (by rw [e]; exact cw) fw, fun z => absurd (by decide) z⟩
    | succ x ih =>
      intro y X w hy cw sw fw e
      rw [rSl] at e
      apply h8
      rw [n32_id (x := (y : Int)) (by omega) (by omega)]
      refine ⟨fun z => by omega, fun _ => c_sound cw (fun z => ⟨fun q => absurd q (by decide), fun _ v4 e4 => ?_⟩) (fun z => ⟨fun _ => ?_, fun q => absurd m_0 q⟩)⟩
      · have kr := kd_r (B := B) (n := n) (p := stf B n (pj X))
        rw [(cw.1.2.2.1 z).2.2.1] at e4
        have go : (kdf B n (stf B n (pj X)) = 43 ∨ kdf B n (stf B n (pj X)) = 45) → L43 y (kdf B n (stf B n (pj X))) w := by
          intro q
          rw [if_pos ⟨z, q⟩] at e
          have sx := sw.1 z
          have h1 := cw.1
          rw [z] at h1
          apply h43
          refine t_hadv h1 (fun w1 g1 hw1 => ?_)
          have m1 := cw.2.2 z
          refine h w1 (pj X + 1) (pm X) (pg X) _ ⟨hw1, by rw [g1.1 24 (by decide)]; exact cw.2.1, fun _ => by rw [g1.1 24 (by decide), g1.1 25 (by decide)]; exact m1⟩ (by omega) (fun w2 c2 f2 => ?_)
          have s2 := hF (pj X + 1) (pm X) (pg X)
          refine c_op c2 (fun y => by have := s2.1 y; omega) (fun w3 c3 f3 v ev => ?_)
          rw [ev, show (y : Int) + 1 = ((y + 1 : Nat) : Int) by omega]
          exact ih (y + 1) _ w3 (by omega) c3 (szX_w hF sw z _) (fw.tr (g1.fL.tr (f2.tr f3))) e
        rw [e4, n32_id (x := kdf B n (stf B n (pj X))) (by omega) (by omega)]
        refine ⟨fun q => go (Or.inl q), fun q => ⟨fun q2 => go (Or.inr q2), fun q2 => ?_⟩⟩
        rw [if_neg (fun p => by rcases p.2 with p | p; exact q p; exact q2 p)] at e
        exact k w (by rw [e]; exact cw) fw
      · rw [if_neg (fun p => z p.1)] at e
        exact k w (by rw [e]; exact cw) fw
  refine h u j m g _ c hm (fun w cw fw => key 500 0 _ w (by omega) cw (hF j m g) fw rfl)
theorem c_brk {B : Int → Int} {n : Int} {R : Nat → Nat → Nat → Int → mm_M → (mm_M → Prop) → Prop} {d : Int} {F : Nat → Nat → (Int → Int) → Pq} (hb : bok B n) (hF : szF F) (h : isF B n R 0 d F) (u : mm_M) (j m : Nat) (g : Int → Int) (post : mm_M → Prop) (c : cL u B n (-1, j, m, g)) (hm : m ≤ j) (k : ∀ u', cL u' B n (rB B n F j m g) → fL u u' → post u') : wpb_X3_readBrackets R 24 7 d u post := by
  intro L30 L49 h30 h49
  have last : ∀ (X : Pq) (w : mm_M), cL w B n X → szX j m X → fL u w → rB B n F j m g = rE B n X → L49 w := by
    intro X w cw sw fw e
    have fr := cw.1.2.2.2
    apply h49
    by_cases z : pf X = -1
    · have h1 := cw.1
      have kk : hnd w B n (pj X + 0) (faF B n (fun _ => kdf B n (stf B n (pj X)) = 41) (pj X) 0) := by rw [z] at h1; exact h1
      refine t_sig (P := fun _ => kdf B n (stf B n (pj X)) = 41) (by omega) (by rfl) kk (fun w1 r1 g1 hw1 v1 => k w1 ?_ (fw.tr g1.fL))
      rw [e]
      unfold rE
      rw [if_pos z]
      have m1 := cw.2.2 z
      by_cases y : kdf B n (stf B n (pj X)) = 41
      · rw [if_pos y]
        have f1 := faF_y (B := B) (n := n) (P := fun _ => kdf B n (stf B n (pj X)) = 41) (j := pj X) (k := 0) rfl y
        rw [f1] at hw1
        exact ⟨hw1, by rw [g1.1 24 (by decide)]; exact cw.2.1, fun _ => by rw [g1.1 24 (by decide), g1.1 25 (by decide)]; exact m1⟩
      · rw [if_neg y]
        have f1 := faF_n (B := B) (n := n) (P := fun _ => kdf B n (stf B n (pj X)) = 41) (j := pj X) (k := 0) rfl y
        rw [f1] at hw1
        have sr := st_r hb (pj X)
        refine ⟨⟨hw1.1, hw1.2.1, fun q => ?_, hw1.2.2.2⟩, by rw [g1.1 24 (by decide)]; exact cw.2.1, fun q => ?_⟩
        · have q : stf B n (pj X) = -1 := q
          omega
        · have q : stf B n (pj X) = -1 := q
          omega
    · intro L16 h16
      have re : rE B n X = X := by unfold rE; rw [if_neg z]
      have l16 : L16 w := by
        apply h16
        refine t_ref cw.1 (fun w1 g1 hw1 => k w1 ?_ (fw.tr g1.fL))
        rw [e, re]
        have := hw1 (pj X)
        rw [if_neg z] at this
        exact ⟨this, by rw [g1.1 24 (by decide)]; exact cw.2.1, fun q => absurd q z⟩
      rw [cw.1.2.1, n32_id (x := pf X) (by omega) (by omega)]
      exact ⟨fun _ => l16, fun y => absurd y z⟩
  refine h u j m g _ c hm (fun w cw fw => ?_)
  have sw := hF j m g
  intro v3 e3
  refine c_sound cw (fun z => ⟨fun q => absurd q (by decide), fun _ => ?_⟩) (fun z => ⟨fun _ => last _ w cw sw fw ?_, fun q => absurd m_0 q⟩)
  · have kr := kd_r (B := B) (n := n) (p := stf B n (pj (F j m g)))
    rw [(cw.1.2.2.1 z).2.2.1] at e3
    have go : (kdf B n (stf B n (pj (F j m g))) = 60 ∨ kdf B n (stf B n (pj (F j m g))) = 61) → L30 (kdf B n (stf B n (pj (F j m g)))) w := by
      intro q
      have sx := sw.1 z
      have h1 := cw.1
      rw [z] at h1
      apply h30
      refine t_hadv h1 (fun w1 g1 hw1 => ?_)
      have m1 := cw.2.2 z
      refine h w1 (pj (F j m g) + 1) (pm (F j m g)) (pg (F j m g)) _ ⟨hw1, by rw [g1.1 24 (by decide)]; exact cw.2.1, fun _ => by rw [g1.1 24 (by decide), g1.1 25 (by decide)]; exact m1⟩ (by omega) (fun w2 c2 f2 => ?_)
      have s2 := hF (pj (F j m g) + 1) (pm (F j m g)) (pg (F j m g))
      refine c_op c2 (fun y => by have := s2.1 y; omega) (fun w3 c3 f3 => last _ w3 c3 (szX_w hF sw z _) (fw.tr (g1.fL.tr (f2.tr f3))) ?_)
      unfold rB rC
      rw [if_pos ⟨z, q⟩]
    rw [e3, n32_id (x := kdf B n (stf B n (pj (F j m g)))) (by omega) (by omega)]
    have stop : ¬ (kdf B n (stf B n (pj (F j m g))) = 60 ∨ kdf B n (stf B n (pj (F j m g))) = 61) → L49 w := fun q => last _ w cw sw fw (by unfold rB rC; rw [if_neg (fun p => q p.2)])
    exact ⟨fun q => go (Or.inl q), fun q => ⟨fun q2 => stop (fun p => by rcases p with p | p; exact q p; exact q2 p), fun q2 => go (Or.inr q2)⟩⟩
  · unfold rB rC
    rw [if_neg (fun p => z p.1)]
