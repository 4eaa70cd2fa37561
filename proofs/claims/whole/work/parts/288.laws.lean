/-! how deep the codes of a told law stand -/
def dpf (g : Int → Int) : Nat → Int
  | 0 => 0
  | k + 1 => dpf g k + (if g k < 20000 then 1 else -1)
theorem dpf_c {f g : Int → Int} : ∀ k : Nat, (∀ i : Nat, i < k → f i = g i) → dpf f k = dpf g k := by
  intro k
  induction k with
  | zero => intro _; rfl
  | succ k ih => intro h; rw [dpf, dpf, ih (fun i hi => h i (by omega)), h k (by omega)]
def sg (g : Int → Int) (a b : Nat) (U : Int) : Prop := a < b ∧ dpf g b = dpf g a + 1 ∧ ∀ k : Nat, a ≤ k → k < b → dpf g a ≤ dpf g k ∧ (g k < 20000 → dpf g k - dpf g a < U) ∧ (¬ g k < 20000 → 2 ≤ dpf g k - dpf g a)
theorem sg_c {f g : Int → Int} {a b : Nat} {U : Int} (h : sg g a b U) (e : ∀ i : Nat, i < b → f i = g i) : sg f a b U := by
  obtain ⟨h1, h2, h3⟩ := h
  have d : ∀ k : Nat, k ≤ b → dpf f k = dpf g k := fun k hk => dpf_c k (fun i hi => e i (by omega))
  refine ⟨h1, by rw [d b (by omega), d a (by omega)]; exact h2, fun k k1 k2 => ?_⟩
  rw [d a (by omega), d k (by omega), e k k2]
  exact h3 k k1 k2
theorem sg_w {g : Int → Int} {a b : Nat} {U V : Int} (h : sg g a b U) (q : U ≤ V) : sg g a b V := ⟨h.1, h.2.1, fun k k1 k2 => by have := h.2.2 k k1 k2; exact ⟨this.1, fun z => by have := this.2.1 z; omega, this.2.2⟩⟩
theorem sg_j {g : Int → Int} {a b c : Nat} {U V : Int} (h : sg g a b U) (h2 : sg g b c V) (hU : U ≤ V + 1) (ho : ¬ g c < 20000) : sg g a (c + 1) (V + 1) := by
  obtain ⟨a1, a2, a3⟩ := h
  obtain ⟨b1, b2, b3⟩ := h2
  refine ⟨by omega, ?_, fun k k1 k2 => ?_⟩
  · rw [dpf, if_neg ho]; omega
  · rcases Nat.lt_or_ge k b with q | q
    · have := a3 k k1 q
      exact ⟨this.1, fun z => by have := this.2.1 z; omega, this.2.2⟩
    · rcases Nat.lt_or_ge k c with r | r
      · have := b3 k q r
        exact ⟨by omega, fun z => by have := this.2.1 z; omega, fun z => by have := this.2.2 z; omega⟩
      · have e : k = c := by omega
        subst e
        exact ⟨by omega, fun z => absurd z ho, fun _ => by omega⟩
def dX (m : Nat) (g0 : Int → Int) (U : Int) (X : Pq) : Prop := pf X = -1 → (∀ i : Nat, i < m → pg X i = g0 i) ∧ sg (pg X) m (pm X) U
def dF (U : Int) (F : Fn) : Prop := ∀ j m g, dX m g U (F j m g)
theorem dX_v {m : Nat} {g0 : Int → Int} {U V : Int} {X : Pq} (h : dX m g0 U X) (q : U ≤ V) : dX m g0 V X := fun z => ⟨(h z).1, sg_w (h z).2 q⟩
theorem dX_w {F : Fn} {U V v : Int} {m : Nat} {g0 : Int → Int} {X : Pq} (hF : dF V F) (h : dX m g0 U X) (z : pf X = -1) (hv : ¬ v < 20000) (hU : U ≤ V + 1) : dX m g0 (V + 1) (pw (F (pj X + 1) (pm X) (pg X)) v) := by
  intro y
  obtain ⟨a1, a2⟩ := h z
  obtain ⟨b1, b2⟩ := hF (pj X + 1) (pm X) (pg X) y
  have l1 := a2.1
  have l2 := b2.1
  generalize F (pj X + 1) (pm X) (pg X) = Y at *
  have fe : ∀ i : Nat, i < pm Y → fu (pg Y) (pm Y) v i = pg Y i := fun i hi => fu_n (by omega)
  refine ⟨fun i hi => ?_, ?_⟩
  · show fu (pg Y) (pm Y) v i = g0 i
    rw [fe i (by omega), b1 i (by omega), a1 i hi]
  · show sg (fu (pg Y) (pm Y) v) m (pm Y + 1) (V + 1)
    refine sg_j (sg_c a2 (fun i hi => ?_)) (sg_c b2 (fun i hi => fe i hi)) hU ?_
    · rw [fe i (by omega), b1 i hi]
    · rw [fu_e]; exact hv
theorem rPl_d {B : Int → Int} {n : Int} {F : Fn} {V : Int} {m : Nat} {g : Int → Int} (hF : dF V F) : ∀ (k : Nat) (X : Pq), dX m g (V + 1) X → dX m g (V + 1) (rPl B n F k X) := by
  intro k
  induction k with
  | zero => intro X h; exact h
  | succ k ih =>
    intro X h
    rw [rPl]
    by_cases z : pf X = -1 ∧ kdf B n (stf B n (pj X)) = 42
    · rw [if_pos z]; exact ih _ (dX_w hF h z.1 (by omega) (by omega))
    · rw [if_neg z]; exact h
theorem rSl_d {B : Int → Int} {n : Int} {F : Fn} {V : Int} {m : Nat} {g : Int → Int} (hF : dF V F) : ∀ (k : Nat) (X : Pq), dX m g (V + 1) X → dX m g (V + 1) (rSl B n F k X) := by
  intro k
  induction k with
  | zero => intro X h; exact h
  | succ k ih =>
    intro X h
    rw [rSl]
    by_cases z : pf X = -1 ∧ (kdf B n (stf B n (pj X)) = 43 ∨ kdf B n (stf B n (pj X)) = 45)
    · rw [if_pos z]; exact ih _ (dX_w hF h z.1 (by omega) (by omega))
    · rw [if_neg z]; exact h
theorem rP_d {B : Int → Int} {n : Int} {F : Fn} {V : Int} (hF : dF V F) : dF (V + 1) (rP B n F) := fun j m g => rPl_d hF 500 _ (dX_v (hF j m g) (by omega))
theorem rS_d {B : Int → Int} {n : Int} {F : Fn} {V : Int} (hF : dF V F) : dF (V + 1) (rS B n F) := fun j m g => rSl_d hF 500 _ (dX_v (hF j m g) (by omega))
theorem rB_d {B : Int → Int} {n : Int} {F : Fn} {V : Int} (hF : dF V F) : dF (V + 1) (rB B n F) := by
  intro j m g
  have hC : dX m g (V + 1) (rC B n F (F j m g)) := by
    unfold rC
    by_cases z : pf (F j m g) = -1 ∧ (kdf B n (stf B n (pj (F j m g))) = 60 ∨ kdf B n (stf B n (pj (F j m g))) = 61)
    · rw [if_pos z]; exact dX_w hF (hF j m g) z.1 (by omega) (by omega)
    · rw [if_neg z]; exact dX_v (hF j m g) (by omega)
  unfold rB rE
  by_cases z : pf (rC B n F (F j m g)) = -1
  · rw [if_pos z]
    by_cases y : kdf B n (stf B n (pj (rC B n F (F j m g)))) = 41
    · rw [if_pos y]; intro _; exact hC z
    · rw [if_neg y]; intro _; exact hC z
  · rw [if_neg z]; exact hC
theorem rF_d {B : Int → Int} {n : Int} {Br : Fn} {b : Prop} {V : Int} (hV : 1 ≤ V) (hF : dF V Br) (hb : bok B n) : dF V (rF B n Br b) := by
  intro j m g
  have one : ∀ v : Int, v < 20000 → dX m g V (-1, j + 1, m + 1, fu g m v) := by
    intro v hv _
    have fe : ∀ i : Nat, i < m → fu g m v i = g i := fun i hi => fu_n (by omega)
    refine ⟨fun i hi => fe i hi, ?_⟩
    show sg (fu g m v) m (m + 1) V
    refine ⟨by omega, by rw [dpf, fu_e, if_pos hv], fun k k1 k2 => ?_⟩
    have e : k = m := by omega
    subst e
    rw [fu_e]
    exact ⟨Int.le_refl _, fun _ => by omega, fun z => absurd hv z⟩
  unfold rF
  have ir := nmI_r (B := B) (n := n) (p := stf B n j)
  by_cases q1 : nmI B n (stf B n j) ≠ -1
  · rw [cif_p q1]; exact one _ (by omega)
  rw [cif_n q1]
  by_cases q2 : kdf B n (stf B n j) = 2 ∧ nmf B n (stf B n j) ≤ 9999
  · rw [cif_p q2]; exact one _ (by omega)
  rw [cif_n q2]
  by_cases q3 : kdf B n (stf B n j) = 40 ∧ b
  · rw [cif_p q3]; exact hF _ _ _
  · rw [cif_n q3]
    intro z
    have z : stf B n j = -1 := z
    have := st_r hb j
    omega
theorem lvF_d {B : Int → Int} {n : Int} (hb : bok B n) : ∀ e : Nat, dF (1 + 3 * (e : Int)) (lvF B n e) := by
  intro e
  induction e with
  | zero =>
    refine rF_d (by omega) (fun j m g z => ?_) hb
    have z : (0 : Int) = -1 := z
    omega
  | succ e ih =>
    have h := rB_d (B := B) (n := n) (rS_d (B := B) (n := n) (rP_d (B := B) (n := n) ih))
    refine rF_d (by omega) ?_ hb
    rw [show 1 + 3 * ((e + 1 : Nat) : Int) = 1 + 3 * (e : Int) + 1 + 1 + 1 by omega]
    exact h
theorem lwS_d {B : Int → Int} {n : Int} (hb : bok B n) : dF 27 (lwS B n) := by
  have h := rS_d (B := B) (n := n) (rP_d (B := B) (n := n) (lvF_d (n := n) hb 8))
  exact h
def yst (Z : Lq) (i : Int) : Int := if i = 0 then 0 else yen Z (i - 1)
def ydn (Z : Lq) : Prop := ∀ i : Int, 0 ≤ i → i < yk Z → (ymo Z i = 0 ∨ ymo Z i = 1) ∧ ∃ a b : Nat, yst Z i = a ∧ yen Z i = b ∧ b ≤ ym Z ∧ sg (yg Z) a b 27
theorem lre_d {B : Int → Int} {n : Int} {g0 : Int → Int} (hb : bok B n) : ∀ k : Nat, yf (lre B n g0 k) = -1 → ydn (lre B n g0 k) := by
  intro k
  induction k with
  | zero =>
    intro _ i a b
    have b : i < 0 := b
    omega
  | succ k ih =>
    intro h
    rcases lli_c hb h with ⟨e, z, -⟩ | ⟨z, -, p, e⟩
    · rw [lre, e]; exact ih z
    · have yi := lre_in (g0 := g0) hb k z
      have ih := ih z
      rw [lre, e]
      generalize lre B n g0 k = Z at *
      obtain ⟨d1, d2⟩ := lwS_d (n := n) hb (yj Z + 2) (ym Z) (yg Z) p
      have d1 : ∀ i : Nat, i < ym Z → pg (yS B n Z) i = yg Z i := d1
      have d2 : sg (pg (yS B n Z)) (ym Z) (pm (yS B n Z)) 27 := d2
      have l2 := d2.1
      intro i i1 i2
      have i2 : i < ((yk Z + 1 : Nat) : Int) := i2
      show (fu (ymo Z) (yk Z) (cif (wdP B n (stf B n (yj Z + 1)) 6) 1 0) i = 0 ∨ fu (ymo Z) (yk Z) (cif (wdP B n (stf B n (yj Z + 1)) 6) 1 0) i = 1) ∧ ∃ a b : Nat, (if i = 0 then 0 else fu (yen Z) (yk Z) (pm (yS B n Z)) (i - 1)) = (a : Int) ∧ fu (yen Z) (yk Z) (pm (yS B n Z)) i = (b : Int) ∧ b ≤ pm (yS B n Z) ∧ sg (pg (yS B n Z)) a b 27
      have ep : fu (yen Z) (yk Z) (pm (yS B n Z)) (i - 1) = yen Z (i - 1) := fu_n (by omega)
      rw [ep]
      by_cases x : i = yk Z
      · subst x
        rw [fu_e, fu_e]
        refine ⟨?_, ym Z, pm (yS B n Z), ?_, rfl, Nat.le_refl _, d2⟩
        · by_cases w : wdP B n (stf B n (yj Z + 1)) 6
          · rw [cif_p w]; right; rfl
          · rw [cif_n w]; left; rfl
        · by_cases y : (yk Z : Int) = 0
          · rw [if_pos y, yi.1 (by omega)]; rfl
          · rw [if_neg y]; exact yi.2 (by omega)
      · rw [fu_n x, fu_n x]
        obtain ⟨c1, a, b, c2, c3, c4, c5⟩ := ih i i1 (by omega)
        exact ⟨c1, a, b, c2, c3, by omega, sg_c c5 (fun i hi => d1 i (by omega))⟩
