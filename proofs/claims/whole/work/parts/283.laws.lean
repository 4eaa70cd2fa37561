/-! reading laws: the reference's rows of waiting signs -/
def rkf (o : Int) : Int := if o = 4 then 2 else if o = 2 ∨ o = 3 then 1 else 0
def cdf (o : Int) : Int := if o = 2 then 20043 else if o = 3 then 20045 else if o = 4 then 20042 else if o = 5 then 20060 else 20061
def flu : List Int → Nat × (Int → Int) → Nat × (Int → Int)
  | [], x => x
  | o :: r, x => flu r (x.1 + 1, fu x.2 x.1 (cdf o))
def eml (a : Int) : List Int → Nat × (Int → Int) → List Int × Nat × (Int → Int)
  | [], x => ([], x)
  | o :: r, x => if o = -1 ∨ rkf o < a then (o :: r, x) else eml a r (x.1 + 1, fu x.2 x.1 (cdf o))
def bse (a : Int) (T : List Int) : Prop := T = [] ∨ ∃ o r, T = o :: r ∧ (o = -1 ∨ rkf o < a)
def prk (a : Int) (Q : List Int) : Prop := ∀ o, o ∈ Q → o ≠ -1 ∧ a ≤ rkf o
theorem eml_s {a : Int} {T : List Int} {x : Nat × (Int → Int)} (h : bse a T) : eml a T x = (T, x) := by
  rcases h with h | ⟨o, r, h, q⟩
  · rw [h]; rfl
  · rw [h, eml, if_pos q]
theorem eml_f {a : Int} {T : List Int} : ∀ (Q : List Int) (x : Nat × (Int → Int)), prk a Q → eml a (Q ++ T) x = eml a T (flu Q x) := by
  intro Q
  induction Q with
  | nil => intro x _; rfl
  | cons o r ih =>
    intro x h
    have h0 := h o (List.mem_cons_self ..)
    rw [List.cons_append, eml, if_neg (fun q => by rcases q with q | q; exact h0.1 q; omega), flu]
    exact ih _ (fun p hp => h p (List.mem_cons_of_mem _ hp))
theorem flu_a {R : List Int} : ∀ (Q : List Int) (x : Nat × (Int → Int)), flu (Q ++ R) x = flu R (flu Q x) := by
  intro Q
  induction Q with
  | nil => intro x; rfl
  | cons o r ih => intro x; rw [List.cons_append, flu, flu]; exact ih _
theorem prk_n {a : Int} : prk a [] := fun o h => by cases h
theorem prk_1 {a o : Int} (h : o ≠ -1 ∧ a ≤ rkf o) : prk a [o] := fun p hp => by
  rcases List.mem_cons.1 hp with q | q
  · rw [q]; exact h
  · cases q
theorem prk_a {a : Int} {Q R : List Int} (h : prk a Q) (g : prk a R) : prk a (Q ++ R) := fun o ho => by
  rcases List.mem_append.1 ho with q | q
  · exact h o q
  · exact g o q
theorem prk_w {a b : Int} {Q : List Int} (h : prk a Q) (hab : b ≤ a) : prk b Q := fun o ho => ⟨(h o ho).1, by have := (h o ho).2; omega⟩
theorem eml_q {a : Int} {T Q : List Int} {x : Nat × (Int → Int)} {y : Nat × (Int → Int)} (h : bse a T) (q : prk a Q) (f : flu Q x = y) : eml a (Q ++ T) x = (T, y) := by rw [eml_f Q x q, f]; exact eml_s h
def skk (u : mm_M) : List Int → Prop
  | [] => True
  | o :: r => u 237 (r.length : Int) = o ∧ (o = -1 ∨ 2 ≤ o ∧ o ≤ 6) ∧ skk u r
def fR (s u : mm_M) : Prop := (∀ c : Nat, c ≠ 211 → c ≠ 219 → c ≠ 237 → c ≠ 238 → u c = s c) ∧ ∀ i : Int, i ≠ 2 → i ≠ 3 → i ≠ 4 → i ≠ 5 → i ≠ 20 → i ≠ 44 → i ≠ 46 → u 211 i = s 211 i
/-- the reference at token j with m codes laid and T waiting -/
def uS (s u : mm_M) (B : Int → Int) (n : Int) (j m : Nat) (g : Int → Int) (T : List Int) : Prop := fR s u ∧ tx2 u B n ∧ tkM u B n (stf B n j) ∧ u 211 20 = m ∧ u 211 46 = (T.length : Int) ∧ skk u T ∧ (m + T.length ≤ j ∧ j ≤ 500) ∧ ∀ k : Int, 0 ≤ k → k < m → r_c (g k) (u 219 (2 * k)) (u 219 (2 * k + 1))
def cq (d : Int) (u u' : mm_M) : Prop := ∀ i : Int, i ≤ d → u' 238 i = u 238 i
theorem cq.tr {d : Int} {s t u : mm_M} (h : cq d s t) (g : cq d t u) : cq d s u := fun i hi => (g i hi).trans (h i hi)
theorem cq.le {d e : Int} {s t : mm_M} (h : cq d s t) (q : e ≤ d) : cq e s t := fun i hi => h i (by omega)
abbrev Lab : Type := Int → mm_M → Prop
abbrev Fn : Type := Nat → Nat → (Int → Int) → Pq
def bad (s : mm_M) (B : Int → Int) (n : Int) (post : Lab) (f : Int) : Prop := ∀ u' j' m' g' T', uS s u' B n j' m' g' T' → stf B n j' = f → post 0 u'
def hFa (s : mm_M) (B : Int → Int) (n : Int) (L13 L57 post : Lab) (d : Int) (F : Fn) : Prop := ∀ u j m g T, uS s u B n j m g T → (pf (F j m g) = -1 → ∀ u', uS s u' B n (pj (F j m g)) (pm (F j m g)) (pg (F j m g)) T → cq d u u' → L57 d u') → (pf (F j m g) ≠ -1 → bad s B n post (pf (F j m g))) → L13 d u
def hQ (s : mm_M) (B : Int → Int) (n : Int) (L13 L57 post : Lab) (a d : Int) (ok : Int → Prop) (F : Fn) : Prop := ∀ u j m g T, bse a T → uS s u B n j m g T → (pf (F j m g) = -1 → ∀ u' Q (x : Nat × (Int → Int)), uS s u' B n (pj (F j m g)) x.1 x.2 (Q ++ T) → flu Q x = (pm (F j m g), pg (F j m g)) → prk a Q → ok (kdf B n (stf B n (pj (F j m g)))) → cq d u u' → L57 d u') → (pf (F j m g) ≠ -1 → bad s B n post (pf (F j m g))) → L13 d u
def ruB (s : mm_M) (B : Int → Int) (n : Int) (L13 : Lab) : Prop := ∀ d u j m g T, 0 ≤ d → d < 8 → uS s u B n j m g T → kdf B n (stf B n j) = 40 → (∀ u', uS s u' B n (j + 1) m g (-1 :: T) → cq d u u' → u' 238 (d + 1) = 0 → L13 (d + 1) u') → L13 d u
def ruN (s : mm_M) (B : Int → Int) (n : Int) (L13 L57 : Lab) : Prop := ∀ d u j m g T, 0 ≤ d → d ≤ 8 → uS s u B n j m g T → nmI B n (stf B n j) ≠ -1 → (∀ u', uS s u' B n (j + 1) (m + 1) (fu g m (10000 + nmI B n (stf B n j))) T → cq d u u' → L57 d u') → L13 d u
def ruI (s : mm_M) (B : Int → Int) (n : Int) (L13 L57 : Lab) : Prop := ∀ d u j m g T, 0 ≤ d → d ≤ 8 → uS s u B n j m g T → kdf B n (stf B n j) = 2 ∧ nmf B n (stf B n j) ≤ 9999 → (∀ u', uS s u' B n (j + 1) (m + 1) (fu g m (nmf B n (stf B n j))) T → cq d u u' → L57 d u') → L13 d u
def ruX (s : mm_M) (B : Int → Int) (n : Int) (L13 post : Lab) : Prop := ∀ d u j m g T, 0 ≤ d → d ≤ 8 → uS s u B n j m g T → ¬ (nmI B n (stf B n j) ≠ -1) → ¬ (kdf B n (stf B n j) = 2 ∧ nmf B n (stf B n j) ≤ 9999) → ¬ (kdf B n (stf B n j) = 40 ∧ d < 8) → post 0 u → L13 d u
def ruC (s : mm_M) (B : Int → Int) (n : Int) (L57 : Lab) : Prop := ∀ d u j m g T T' (x : Nat × (Int → Int)), 0 ≤ d → d < 8 → uS s u B n j m g T → kdf B n (stf B n j) = 41 → eml 0 T (m, g) = (-1 :: T', x) → (∀ u', uS s u' B n (j + 1) x.1 x.2 T' → cq (d + 1) u u' → L57 d u') → L57 (d + 1) u
def ruO (s : mm_M) (B : Int → Int) (n : Int) (L13 L57 : Lab) : Prop := ∀ d u j m g T T' (x : Nat × (Int → Int)) o, 0 ≤ d → d ≤ 8 → uS s u B n j m g T → (o = 2 ∧ kdf B n (stf B n j) = 43 ∨ o = 3 ∧ kdf B n (stf B n j) = 45 ∨ o = 4 ∧ kdf B n (stf B n j) = 42) → eml (rkf o) T (m, g) = (T', x) → (∀ u', uS s u' B n (j + 1) x.1 x.2 (o :: T') → cq d u u' → L13 d u') → L57 d u
def ruQ (s : mm_M) (B : Int → Int) (n : Int) (L13 L57 : Lab) : Prop := ∀ d u j m g T T' (x : Nat × (Int → Int)) o, 0 < d → d ≤ 8 → uS s u B n j m g T → (o = 5 ∧ kdf B n (stf B n j) = 60 ∨ o = 6 ∧ kdf B n (stf B n j) = 61) → u 238 d = 0 → eml 1 T (m, g) = (T', x) → (∀ u', uS s u' B n (j + 1) x.1 x.2 (o :: T') → cq (d - 1) u u' → u' 238 d = 1 → L13 d u') → L57 d u
def ruR (s : mm_M) (B : Int → Int) (n : Int) (L57 post : Lab) : Prop := ∀ d u j m g T, 0 ≤ d → d ≤ 8 → uS s u B n j m g T → (kdf B n (stf B n j) = 60 ∨ kdf B n (stf B n j) = 61) → (d = 0 ∨ u 238 d = 1) → post 0 u → L57 d u
def noS (k : Int) : Prop := k ≠ 42 ∧ k ≠ 43 ∧ k ≠ 45
def ruE (s : mm_M) (B : Int → Int) (n : Int) (L57 post : Lab) : Prop := ∀ d u j m g T, 0 < d → d ≤ 8 → uS s u B n j m g T → noS (kdf B n (stf B n j)) → kdf B n (stf B n j) ≠ 41 → kdf B n (stf B n j) ≠ 60 → kdf B n (stf B n j) ≠ 61 → post 0 u → L57 d u
def ruZ (s : mm_M) (B : Int → Int) (n : Int) (L57 post : Lab) : Prop := ∀ u j m g T T' (x : Nat × (Int → Int)), uS s u B n j m g T → noS (kdf B n (stf B n j)) → kdf B n (stf B n j) ≠ 60 → kdf B n (stf B n j) ≠ 61 → eml 0 T (m, g) = (T', x) → (∀ u', uS s u' B n j x.1 x.2 T' → post 1 u') → L57 0 u
theorem rPl_k {B : Int → Int} {n : Int} {F : Fn} {X : Pq} (h : pf X ≠ -1) (x : Nat) : rPl B n F x X = X := by
  cases x with
  | zero => rfl
  | succ x => rw [rPl, if_neg (fun p => h p.1)]
theorem rSl_k {B : Int → Int} {n : Int} {F : Fn} {X : Pq} (h : pf X ≠ -1) (x : Nat) : rSl B n F x X = X := by
  cases x with
  | zero => rfl
  | succ x => rw [rSl, if_neg (fun p => h p.1)]
theorem v_prod {s : mm_M} {B : Int → Int} {n : Int} {L13 L57 post : Lab} {d : Int} {F : Fn} (hd : 0 ≤ d ∧ d ≤ 8) (rO : ruO s B n L13 L57) (hz : szF F) (h : hFa s B n L13 L57 post d F) : hQ s B n L13 L57 post 2 d (fun k => k ≠ 42) (rP B n F) := by
  intro u j m g T hb hu k1 k0
  have key : ∀ (x : Nat) (X : Pq) (w : mm_M) (Q : List Int) (y : Nat × (Int → Int)), rP B n F j m g = rPl B n F x X → pf X = -1 → szX j m X → 501 ≤ pj X + x → uS s w B n (pj X) y.1 y.2 (Q ++ T) → flu Q y = (pm X, pg X) → prk 2 Q → cq d u w → L57 d w := by
    intro x
    induction x with
    | zero =>
      intro X w Q y e z sz hx hw f q c
      have := sz.1 z
      omega
    | succ x ih =>
      intro X w Q y e z sz hx hw f q c
      rw [rPl] at e
      by_cases t : kdf B n (stf B n (pj X)) = 42
      · rw [if_pos ⟨z, t⟩] at e
        have em : eml (rkf 4) (Q ++ T) (y.1, y.2) = (T, (pm X, pg X)) := eml_q hb q f
        have sF := hz (pj X + 1) (pm X) (pg X)
        refine rO d w (pj X) y.1 y.2 (Q ++ T) T (pm X, pg X) 4 hd.1 hd.2 hw (Or.inr (Or.inr ⟨rfl, t⟩)) em (fun w1 h1 c1 => h w1 (pj X + 1) (pm X) (pg X) (4 :: T) h1 (fun p w2 h2 c2 => ?_) (fun p => ?_))
        · refine ih (pw (F (pj X + 1) (pm X) (pg X)) 20042) w2 [4] (pm (F (pj X + 1) (pm X) (pg X)), pg (F (pj X + 1) (pm X) (pg X))) e p (szX_w hz sz z _) ?_ h2 rfl (prk_1 (by decide)) (c.tr (c1.tr c2))
          have := sF.1 p
          show 501 ≤ pj (F (pj X + 1) (pm X) (pg X)) + x
          omega
        · have p2 : pf (pw (F (pj X + 1) (pm X) (pg X)) 20042) ≠ -1 := p
          have k0' := k0
          rw [e, rPl_k p2] at k0'
          exact k0' p2
      · rw [if_neg (fun p => t p.2)] at e
        rw [e] at k1
        exact k1 z w Q y hw f q t c
  refine h u j m g T hu (fun p u' h' c' => key 500 _ u' [] (pm (F j m g), pg (F j m g)) rfl p (hz j m g) ?_ h' rfl prk_n c') (fun p => ?_)
  · have := (hz j m g).1 p
    omega
  · have e : rP B n F j m g = F j m g := rPl_k p 500
    rw [e] at k0
    exact k0 p
theorem v_sum {s : mm_M} {B : Int → Int} {n : Int} {L13 L57 post : Lab} {d : Int} {F : Fn} (hd : 0 ≤ d ∧ d ≤ 8) (rO : ruO s B n L13 L57) (hz : szF F) (h : hQ s B n L13 L57 post 2 d (fun k => k ≠ 42) F) : hQ s B n L13 L57 post 1 d noS (rS B n F) := by
  intro u j m g T hb hu k1 k0
  have key : ∀ (x : Nat) (X : Pq) (w : mm_M) (Q : List Int) (y : Nat × (Int → Int)), rS B n F j m g = rSl B n F x X → pf X = -1 → szX j m X → 501 ≤ pj X + x → uS s w B n (pj X) y.1 y.2 (Q ++ T) → flu Q y = (pm X, pg X) → prk 1 Q → kdf B n (stf B n (pj X)) ≠ 42 → cq d u w → L57 d w := by
    intro x
    induction x with
    | zero =>
      intro X w Q y e z sz hx hw f q _ c
      have := sz.1 z
      omega
    | succ x ih =>
      intro X w Q y e z sz hx hw f q t42 c
      rw [rSl] at e
      by_cases t : kdf B n (stf B n (pj X)) = 43 ∨ kdf B n (stf B n (pj X)) = 45
      · rw [if_pos ⟨z, t⟩] at e
        have sF := hz (pj X + 1) (pm X) (pg X)
        have go : ∀ o : Int, (o = 2 ∧ kdf B n (stf B n (pj X)) = 43 ∨ o = 3 ∧ kdf B n (stf B n (pj X)) = 45) → L57 d w := by
          intro o ho
          have r1 : rkf o = 1 := by rcases ho with q | q <;> rw [q.1] <;> rfl
          have o1 : o ≠ -1 := by omega
          have co : cdf o = 20000 + kdf B n (stf B n (pj X)) := by rcases ho with q | q <;> rw [q.1, q.2] <;> rfl
          have em : eml (rkf o) (Q ++ T) (y.1, y.2) = (T, (pm X, pg X)) := by rw [r1]; exact eml_q hb q f
          refine rO d w (pj X) y.1 y.2 (Q ++ T) T (pm X, pg X) o hd.1 hd.2 hw (by rcases ho with q | q; exact Or.inl q; exact Or.inr (Or.inl q)) em (fun w1 h1 c1 => h w1 (pj X + 1) (pm X) (pg X) (o :: T) (Or.inr ⟨o, T, rfl, Or.inr (by omega)⟩) h1 (fun p w2 Q2 y2 h2 f2 q2 t2 c2 => ?_) (fun p => ?_))
          · refine ih (pw (F (pj X + 1) (pm X) (pg X)) (20000 + kdf B n (stf B n (pj X)))) w2 (Q2 ++ [o]) y2 e p (szX_w hz sz z _) ?_ ?_ ?_ (prk_a (prk_w q2 (by omega)) (prk_1 ⟨o1, by omega⟩)) t2 (c.tr (c1.tr c2))
            · have := sF.1 p
              show 501 ≤ pj (F (pj X + 1) (pm X) (pg X)) + x
              omega
            · rw [List.append_assoc]; exact h2
            · rw [flu_a, f2]
              show (pm (F (pj X + 1) (pm X) (pg X)) + 1, fu (pg (F (pj X + 1) (pm X) (pg X))) (pm (F (pj X + 1) (pm X) (pg X))) (cdf o)) = _
              rw [co]
              rfl
          · have p2 : pf (pw (F (pj X + 1) (pm X) (pg X)) (20000 + kdf B n (stf B n (pj X)))) ≠ -1 := p
            have k0' := k0
            rw [e, rSl_k p2] at k0'
            exact k0' p2
        rcases t with t | t
        · exact go 2 (Or.inl ⟨rfl, t⟩)
        · exact go 3 (Or.inr ⟨rfl, t⟩)
      · rw [if_neg (fun p => t p.2)] at e
        rw [e] at k1
        exact k1 z w Q y hw f q ⟨t42, fun r => t (Or.inl r), fun r => t (Or.inr r)⟩ c
  refine h u j m g T ?_ hu (fun p u' Q x h' f' q' t' c' => key 500 _ u' Q x rfl p (hz j m g) ?_ h' f' (prk_w q' (by omega)) t' c') (fun p => ?_)
  · rcases hb with hb | ⟨o, r, e, q⟩
    · exact Or.inl hb
    · exact Or.inr ⟨o, r, e, by rcases q with q | q; exact Or.inl q; exact Or.inr (by omega)⟩
  · have := (hz j m g).1 p
    omega
  · have e : rS B n F j m g = F j m g := rSl_k p 500
    rw [e] at k0
    exact k0 p
