theorem c_name {u : mm_M} {B : Int → Int} {n : Int} {j : Nat} (h : hnd u B n j (-1)) {post : Int → mm_M → Prop} (k : post (nmI B n (stf B n j)) u) : wp_X3_nameInHand 7 u post := by
  have sr := st_r h.1.2.2 j
  have tk := h.2.2.1 rfl
  have hp : 0 ≤ stf B n j ∧ stf B n j ≤ n := ⟨sr.1, sr.2.1⟩
  unfold nmI at k
  refine t_word (by decide) h.1 hp tk (fun w => ⟨fun y => absurd y (by decide), fun _ => by rw [cif_p w] at k; exact k⟩) (fun w => ⟨fun _ => ?_, fun y => absurd m_0 y⟩)
  rw [cif_n w] at k
  refine t_word (by decide) h.1 hp tk (fun w => ⟨fun y => absurd y (by decide), fun _ => by rw [cif_p w] at k; exact k⟩) (fun w => ⟨fun _ => ?_, fun y => absurd m_0 y⟩)
  rw [cif_n w] at k
  refine t_word (by decide) h.1 hp tk (fun w => ⟨fun y => absurd y (by decide), fun _ => by rw [cif_p w] at k; exact k⟩) (fun w => ⟨fun _ => ?_, fun y => absurd m_0 y⟩)
  rw [cif_n w] at k
  refine t_word (by decide) h.1 hp tk (fun w => ⟨fun y => absurd y (by decide), fun _ => by rw [cif_p w] at k; exact k⟩) (fun w => ⟨fun _ => ?_, fun y => absurd m_0 y⟩)
  rw [cif_n w] at k
  refine t_word (by decide) h.1 hp tk (fun w => ⟨fun y => absurd y (by decide), fun _ => by rw [cif_p w] at k; exact k⟩) (fun w => ⟨fun _ => ?_, fun y => absurd m_0 y⟩)
  rw [cif_n w] at k
  refine t_word (by decide) h.1 hp tk (fun w => ⟨fun y => absurd y (by decide), fun _ => by rw [cif_p w] at k; exact k⟩) (fun w => ⟨fun _ => ?_, fun y => absurd m_0 y⟩)
  rw [cif_n w] at k
  refine t_word (by decide) h.1 hp tk (fun w => ⟨fun y => absurd y (by decide), fun _ => by rw [cif_p w] at k; exact k⟩) (fun w => ⟨fun _ => ?_, fun y => absurd m_0 y⟩)
  rw [cif_n w] at k
  refine t_word (by decide) h.1 hp tk (fun w => ⟨fun y => absurd y (by decide), fun _ => by rw [cif_p w] at k; exact k⟩) (fun w => ⟨fun _ => ?_, fun y => absurd m_0 y⟩)
  rw [cif_n w] at k
  refine t_word (by decide) h.1 hp tk (fun w => ⟨fun y => absurd y (by decide), fun _ => by rw [cif_p w] at k; exact k⟩) (fun w => ⟨fun _ => ?_, fun y => absurd m_0 y⟩)
  rw [cif_n w] at k
  refine t_word (by decide) h.1 hp tk (fun w => ⟨fun y => absurd y (by decide), fun _ => by rw [cif_p w] at k; exact k⟩) (fun w => ⟨fun _ => ?_, fun y => absurd m_0 y⟩)
  rw [cif_n w] at k
  exact k
theorem nmI_w {B : Int → Int} {n p : Int} (h : nmI B n p ≠ -1) : kdf B n p = 1 := by
  have c : ∀ (w : Nat) (a b : Int), cif (wdP B n p w) a b ≠ -1 → (b ≠ -1 → kdf B n p = 1) → kdf B n p = 1 := by
    intro w a b h1 h2
    by_cases q : wdP B n p w
    · exact q.1
    · rw [cif_n q] at h1; exact h2 h1
  unfold nmI at h
  exact c _ _ _ h (fun h => c _ _ _ h (fun h => c _ _ _ h (fun h => c _ _ _ h (fun h => c _ _ _ h (fun h => c _ _ _ h (fun h => c _ _ _ h (fun h => c _ _ _ h (fun h => c _ _ _ h (fun h => c _ _ _ h (fun h => absurd rfl h))))))))))
theorem c_put {u : mm_M} {B : Int → Int} {n v : Int} {j m : Nat} {g : Int → Int} (hb : bok B n) (c : cL u B n (-1, j, m, g)) (hm : m ≤ j) (hk : kdf B n (stf B n j) ≠ 0) {post : mm_M → Prop} (k : ∀ u', cL u' B n (-1, j + 1, m + 1, fu g m v) → fL u u' → post u') : wp_X3_write 24 v u (fun s_4 => (wp_X8_advance 7 s_4 (fun s_6 => post s_6))) := by
  have := tok_lt hb hk
  have hh : hnd u B n j (-1) := c.1
  have q : u 24 5 = (m : Int) ∧ u 25 = g := c.2.2 rfl
  refine c_wr c.2.1 (fun u1 a f r w => ?_)
  have ww := w (by rw [q.1]; omega)
  rw [q.1, q.2] at ww
  refine t_hadv (hh.c (a 7 (by decide) (by decide)) (a 8 (by decide) (by decide))) (fun u2 g2 h2 => k u2 ⟨h2, by rw [g2.1 24 (by decide)]; exact r, fun _ => ?_⟩ (f.tr g2.fL))
  rw [g2.1 24 (by decide), g2.1 25 (by decide)]
  exact ⟨by rw [ww.1]; show (m : Int) + 1 = ((m + 1 : Nat) : Int); omega, ww.2⟩
theorem c_fac {B : Int → Int} {n : Int} {R : Nat → Nat → Nat → Int → mm_M → (mm_M → Prop) → Prop} {d : Int} {Br : Nat → Nat → (Int → Int) → Pq} {b : Prop} (hb : bok B n) (hd : 0 ≤ d ∧ d ≤ 8) (hbd : b ↔ d < 8) (h : b → isF B n R 3 (d + 1) Br) (u : mm_M) (j m : Nat) (g : Int → Int) (post : mm_M → Prop) (c : cL u B n (-1, j, m, g)) (hm : m ≤ j) (k : ∀ u', cL u' B n (rF B n Br b j m g) → fL u u' → post u') : wpb_X3_readFactor R 24 7 d u post := by
  intro L59 L89 h59 h89
  have hh : hnd u B n j (-1) := c.1
  have tk := hh.2.2.1 rfl
  have sr := st_r hb j
  have kr := kd_r (B := B) (n := n) (p := stf B n j)
  have nr := nmf_r (B := B) (n := n) (p := stf B n j)
  have ir := nmI_r (B := B) (n := n) (p := stf B n j)
  have l89 : ¬ (nmI B n (stf B n j) ≠ -1) → ¬ (kdf B n (stf B n j) = 2 ∧ nmf B n (stf B n j) ≤ 9999) → ¬ (kdf B n (stf B n j) = 40 ∧ b) → L89 u := by
    intro q1 q2 q3
    apply h89
    refine t_ref hh (fun u' g' hu => k u' ?_ g'.fL)
    unfold rF
    rw [cif_n q1, cif_n q2, cif_n q3]
    refine ⟨?_, by rw [g'.1 24 (by decide)]; exact c.2.1, fun z => ?_⟩
    · have := hu j
      rw [if_pos rfl] at this
      exact this
    · have z : stf B n j = -1 := z
      omega
  have l59 : ¬ (nmI B n (stf B n j) ≠ -1) → ¬ (kdf B n (stf B n j) = 2 ∧ nmf B n (stf B n j) ≤ 9999) → L59 u := by
    intro q1 q2
    apply h59
    rw [tk.2.2.1, n32_id (x := kdf B n (stf B n j)) (by omega) (by omega), n32_id (x := d) (by omega) (by omega)]
    refine ⟨fun z => l89 q1 q2 (fun p => z p.1), fun z => ⟨fun y => l89 q1 q2 (fun p => by have := hbd.1 p.2; omega), fun y => ?_⟩⟩
    have hy : b := hbd.2 (by omega)
    refine t_hadv hh (fun u1 g1 h1 => h hy u1 (j + 1) m g _ ⟨h1, by rw [g1.1 24 (by decide)]; exact c.2.1, fun _ => by rw [g1.1 24 (by decide), g1.1 25 (by decide)]; exact c.2.2 rfl⟩ (by omega) (fun u2 c2 f2 => k u2 ?_ (g1.fL.tr f2)))
    unfold rF
    rw [cif_n q1, cif_n q2, cif_p ⟨z, hy⟩]
    exact c2
  refine c_name hh (fun v3 e3 => ?_)
  rw [e3, n32_id (x := nmI B n (stf B n j)) (by omega) (by omega), tk.2.2.1, n32_id (x := kdf B n (stf B n j)) (by omega) (by omega), tk.2.2.2, n32_id (x := nmf B n (stf B n j)) (by omega) (by omega)]
  refine ⟨fun z => ⟨fun y => l59 (fun p => p z) (fun p => y p.1), fun y => ⟨fun x => l59 (fun p => p z) (fun p => by omega), fun x => ?_⟩⟩, fun z => ?_⟩
  · refine c_put hb c hm (by omega) (fun u' c' f' => k u' ?_ f')
    unfold rF
    rw [cif_n (fun p => p z), cif_p ⟨y, by omega⟩]
    exact c'
  · have := nmI_w z
    refine c_put hb c hm (by omega) (fun u' c' f' => k u' ?_ f')
    unfold rF
    rw [cif_p z]
    exact c'
theorem c_lv {B : Int → Int} {n : Int} (hb : bok B n) : ∀ e : Nat, e ≤ 8 → ∀ f : Nat, 4 * e + 1 ≤ f → isF B n (wp_X3_rec f) 2 (8 - (e : Int)) (lvF B n e) := by
  intro e
  induction e with
  | zero =>
    intro _ f hf
    obtain ⟨f, rfl⟩ : ∃ x, f = x + 1 := ⟨f - 1, by omega⟩
    intro u j m g post c hm k
    rw [wp_X3_rec_s, if_neg (by decide), if_neg (by decide), if_pos rfl]
    exact c_fac hb ⟨by omega, by omega⟩ ⟨fun z => z.elim, fun z => by omega⟩ (fun z => z.elim) u j m g post c hm k
  | succ e ih =>
    intro he f hf
    obtain ⟨f, rfl⟩ : ∃ x, f = x + 4 := ⟨f - 4, by omega⟩
    intro u j m g post c hm k
    rw [wp_X3_rec_s, if_neg (by decide), if_neg (by decide), if_pos rfl]
    have i0 := ih (by omega) f (by omega)
    have s0 := lvF_sz hb e
    have i1 : isF B n (wp_X3_rec (f + 1)) 1 (8 - (e : Int)) (rP B n (lvF B n e)) := by
      intro u j m g post c hm k
      rw [wp_X3_rec_s, if_neg (by decide), if_pos rfl]
      exact c_prod hb s0 i0 u j m g post c hm k
    have i2 : isF B n (wp_X3_rec (f + 2)) 0 (8 - (e : Int)) (rS B n (rP B n (lvF B n e))) := by
      intro u j m g post c hm k
      rw [wp_X3_rec_s, if_pos rfl]
      exact c_sum hb (rP_sz s0) i1 u j m g post c hm k
    have i3 : isF B n (wp_X3_rec (f + 3)) 3 (8 - (e : Int)) (rB B n (rS B n (rP B n (lvF B n e)))) := by
      intro u j m g post c hm k
      rw [wp_X3_rec_s, if_neg (by decide), if_neg (by decide), if_neg (by decide)]
      exact c_brk hb (rS_sz (rP_sz s0)) i2 u j m g post c hm k
    refine c_fac hb ⟨by omega, by omega⟩ ⟨fun _ => by omega, fun _ => trivial⟩ (fun _ => ?_) u j m g post c hm k
    rw [show 8 - ((e + 1 : Nat) : Int) + 1 = 8 - (e : Int) by omega]
    exact i3
/-- a told law's sum -/
noncomputable def lwS (B : Int → Int) (n : Int) (j m : Nat) (g : Int → Int) : Pq := rS B n (rP B n (lvF B n 8)) j m g
theorem lwS_sz {B : Int → Int} {n : Int} (hb : bok B n) : szF (lwS B n) := rS_sz (rP_sz (lvF_sz hb 8))
theorem c_readSum {B : Int → Int} {n : Int} {u : mm_M} {j m : Nat} {g : Int → Int} {post : mm_M → Prop} (hb : bok B n) (c : cL u B n (-1, j, m, g)) (hm : m ≤ j) (k : ∀ u', cL u' B n (lwS B n j m g) → fL u u' → post u') : wp_X3_readSum 24 7 0 u post := by
  unfold wp_X3_readSum
  rw [wp_X3_rec_s, if_pos rfl]
  refine c_sum hb (rP_sz (lvF_sz hb 8)) ?_ u j m g post c hm k
  intro u j m g post c hm k
  rw [wp_X3_rec_s, if_neg (by decide), if_pos rfl]
  exact c_prod hb (lvF_sz hb 8) (c_lv hb 8 (by decide) 58 (by decide)) u j m g post c hm k
/-! lines of laws: fault, token, codes, code row, lines, ends, most -/
abbrev Lq : Type := Int × Nat × Nat × (Int → Int) × Nat × (Int → Int) × (Int → Int)
def yf (Z : Lq) : Int := Z.1
def yj (Z : Lq) : Nat := Z.2.1
def ym (Z : Lq) : Nat := Z.2.2.1
def yg (Z : Lq) : Int → Int := Z.2.2.2.1
def yk (Z : Lq) : Nat := Z.2.2.2.2.1
def yen (Z : Lq) : Int → Int := Z.2.2.2.2.2.1
def ymo (Z : Lq) : Int → Int := Z.2.2.2.2.2.2
def yX (B : Int → Int) (n : Int) (Z : Lq) (f : Int) : Lq := (f, yj Z, ym Z, yg Z, yk Z, yen Z, ymo Z)
noncomputable def yS (B : Int → Int) (n : Int) (Z : Lq) : Pq := lwS B n (yj Z + 2) (ym Z) (yg Z)
noncomputable def lli (B : Int → Int) (n : Int) (Z : Lq) : Lq :=
  cif (yf Z ≠ -1 ∨ kdf B n (stf B n (yj Z)) = 0) Z
  (cif (¬ (wdP B n (stf B n (yj Z)) 5 ∧ yk Z < 5)) (yX B n Z (stf B n (yj Z)))
  (cif (¬ (wdP B n (stf B n (yj Z + 1)) 6 ∨ wdP B n (stf B n (yj Z + 1)) 7)) (yX B n Z (stf B n (yj Z + 1)))
  (cif (pf (yS B n Z) ≠ -1) (yX B n Z (pf (yS B n Z)))
  (cif (kdf B n (stf B n (pj (yS B n Z))) = 59) (-1, pj (yS B n Z) + 1, pm (yS B n Z), pg (yS B n Z), yk Z + 1, fu (yen Z) (yk Z) (pm (yS B n Z)), fu (ymo Z) (yk Z) (cif (wdP B n (stf B n (yj Z + 1)) 6) 1 0))
  (yX B n Z (stf B n (pj (yS B n Z))))))))
noncomputable def lre (B : Int → Int) (n : Int) (g0 : Int → Int) : Nat → Lq
  | 0 => (-1, 0, 0, g0, 0, fun _ => 0, fun _ => 0)
  | k + 1 => lli B n (lre B n g0 k)
/-- the class's draft against the lines read -/
def cK (u : mm_M) (B : Int → Int) (n : Int) (Z : Lq) : Prop := hnd u B n (yj Z) (yf Z) ∧ (0 ≤ u 24 5 ∧ u 24 5 ≤ 500) ∧ (0 ≤ u 24 4 ∧ u 24 4 ≤ 5) ∧ (yf Z = -1 → u 24 4 = yk Z ∧ u 24 5 = ym Z ∧ u 25 = yg Z ∧ ∀ i : Int, 0 ≤ i → i < yk Z → u 26 i = yen Z i ∧ u 27 i = ymo Z i)
def fK (s u : mm_M) : Prop := (∀ c : Nat, c ≠ 7 → ¬ (24 ≤ c ∧ c ≤ 27) → u c = s c) ∧ (∀ i : Int, i < 2 ∨ 6 < i → u 7 i = s 7 i) ∧ ∀ i : Int, u 27 i = s 27 i ∨ u 27 i = 0 ∨ u 27 i = 1
theorem fK.tr {s t u : mm_M} (h : fK s t) (g : fK t u) : fK s u := ⟨fun c a b => (g.1 c a b).trans (h.1 c a b), fun i a => (g.2.1 i a).trans (h.2.1 i a), fun i => by have := h.2.2 i; have := g.2.2 i; omega⟩
theorem fK.rf {s : mm_M} : fK s s := ⟨fun _ _ _ => rfl, fun _ _ => rfl, fun _ => Or.inl rfl⟩
theorem fL.fK {s u : mm_M} (h : fL s u) : fK s u := ⟨fun c a b => h.1 c a (by omega) (by omega), h.2.2, fun i => Or.inl (by rw [h.1 27 (by decide) (by decide) (by decide)])⟩
/-- what the lines read keep to -/
def yok (Z : Lq) : Prop := yk Z ≤ 5 ∧ ym Z ≤ yj Z ∧ yj Z ≤ 500
theorem lli_ok {B : Int → Int} {n : Int} (hb : bok B n) {Z : Lq} (h : yf Z = -1 → yok Z) : yf (lli B n Z) = -1 → yok (lli B n Z) := by
  have bad : ∀ p : Nat, yf (yX B n Z (stf B n p)) = -1 → False := by
    intro p z
    have z : stf B n p = -1 := z
    have := st_r hb p
    omega
  unfold lli
  by_cases q0 : yf Z ≠ -1 ∨ kdf B n (stf B n (yj Z)) = 0
  · rw [cif_p q0]; exact h
  rw [cif_n q0]
  have z1 : yf Z = -1 := by
    by_cases z : yf Z = -1
    · exact z
    · exact absurd (Or.inl z) q0
  have ok := h z1
  by_cases q1 : ¬ (wdP B n (stf B n (yj Z)) 5 ∧ yk Z < 5)
  · rw [cif_p q1]; intro z; exact (bad _ z).elim
  rw [cif_n q1]
  by_cases q2 : ¬ (wdP B n (stf B n (yj Z + 1)) 6 ∨ wdP B n (stf B n (yj Z + 1)) 7)
  · rw [cif_p q2]; intro z; exact (bad _ z).elim
  rw [cif_n q2]
  by_cases q3 : pf (yS B n Z) ≠ -1
  · rw [cif_p q3]; intro z; exact absurd z q3
  rw [cif_n q3]
  by_cases q4 : kdf B n (stf B n (pj (yS B n Z))) = 59
  · rw [cif_p q4]
    intro _
    have s := (lwS_sz hb (yj Z + 2) (ym Z) (yg Z)).1 (by
      by_cases z : pf (yS B n Z) = -1
      · exact z
      · exact absurd z q3)
    have t := tok_lt hb (j := pj (yS B n Z)) (by omega)
    have k5 : yk Z < 5 := by
      by_cases z : yk Z < 5
      · exact z
      · exact absurd (fun y => z y.2) q1
    refine ⟨?_, ?_, ?_⟩
    · show yk Z + 1 ≤ 5
      omega
    · show pm (lwS B n (yj Z + 2) (ym Z) (yg Z)) ≤ pj (lwS B n (yj Z + 2) (ym Z) (yg Z)) + 1
      have := ok.2.1
      omega
    · show pj (yS B n Z) + 1 ≤ 500
      omega
  · rw [cif_n q4]; intro z; exact (bad _ z).elim
theorem lre_ok {B : Int → Int} {n : Int} {g0 : Int → Int} (hb : bok B n) : ∀ k : Nat, yf (lre B n g0 k) = -1 → yok (lre B n g0 k) := by
  intro k
  induction k with
  | zero => intro _; exact ⟨Nat.zero_le _, Nat.le_refl _, Nat.zero_le _⟩
  | succ k ih => exact lli_ok hb ih
theorem lre_stop {B : Int → Int} {n : Int} {g0 : Int → Int} {k : Nat} (h : yf (lre B n g0 k) ≠ -1 ∨ kdf B n (stf B n (yj (lre B n g0 k))) = 0) : ∀ d : Nat, lre B n g0 (k + d) = lre B n g0 k := by
  intro d
  induction d with
  | zero => rfl
  | succ d ih =>
    rw [show k + (d + 1) = (k + d) + 1 by omega, lre, ih]
    unfold lli
    rw [cif_p h]
/-- the fault of a text read as laws -/
noncomputable def lfa (B : Int → Int) (n : Int) (g0 : Int → Int) : Int := if yf (lre B n g0 500) = -1 then (if yk (lre B n g0 500) = 0 then stf B n (yj (lre B n g0 500)) else -1) else yf (lre B n g0 500)
