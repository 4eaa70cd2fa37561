/-! lines of laws, the reference -/
def fQ (s u : mm_M) : Prop := (∀ c : Nat, c ≠ 211 → c ≠ 219 → c ≠ 220 → c ≠ 221 → c ≠ 237 → c ≠ 238 → u c = s c) ∧ (∀ i : Int, i ≠ 2 → i ≠ 3 → i ≠ 4 → i ≠ 5 → i ≠ 19 → i ≠ 20 → i ≠ 44 → i ≠ 46 → u 211 i = s 211 i) ∧ ∀ i : Int, u 221 i = s 221 i ∨ u 221 i = 0 ∨ u 221 i = 1
theorem fQ.tr {s t u : mm_M} (h : fQ s t) (g : fQ t u) : fQ s u := ⟨fun c a b d e f x => (g.1 c a b d e f x).trans (h.1 c a b d e f x), fun i a b c d e f x y => (g.2.1 i a b c d e f x y).trans (h.2.1 i a b c d e f x y), fun i => by have := h.2.2 i; have := g.2.2 i; omega⟩
theorem fQ.rf {s : mm_M} : fQ s s := ⟨fun _ _ _ _ _ _ _ => rfl, fun _ _ _ _ _ _ _ _ _ => rfl, fun _ => Or.inl rfl⟩
theorem fR.q {s u : mm_M} (h : fR s u) : fQ s u := ⟨fun c a b _ _ e f => h.1 c a b e f, fun i a b c d _ f x y => h.2 i a b c d f x y, fun i => Or.inl (by rw [h.1 221 (by decide) (by decide) (by decide) (by decide)])⟩
theorem gM.q {s u : mm_M} (h : gM s u) : fQ s u := ⟨fun c a _ _ _ _ _ => h.1 c a, fun i a b c d _ _ x _ => h.2 i a b c d x, fun i => Or.inl (by rw [h.1 221 (by decide)])⟩
def mK (u : mm_M) (B : Int → Int) (n : Int) (Z : Lq) : Prop := tx2 u B n ∧ tkM u B n (stf B n (yj Z)) ∧ u 211 19 = yk Z ∧ u 211 20 = ym Z ∧ (∀ k : Int, 0 ≤ k → k < ym Z → r_c (yg Z k) (u 219 (2 * k)) (u 219 (2 * k + 1))) ∧ (∀ i : Int, 0 ≤ i → i < yk Z → u 221 i = ymo Z i ∧ u 220 (i + 1) = yen Z i) ∧ (0 < yk Z → u 220 0 = 0)
def yin (Z : Lq) : Prop := (yk Z = 0 → ym Z = 0) ∧ (0 < yk Z → yen Z ((yk Z : Int) - 1) = ym Z)
theorem lli_y {B : Int → Int} {n : Int} {Z : Lq} (z1 : yf Z = -1) (zk : kdf B n (stf B n (yj Z)) ≠ 0) (q1 : wdP B n (stf B n (yj Z)) 5 ∧ yk Z < 5) (q2 : wdP B n (stf B n (yj Z + 1)) 6 ∨ wdP B n (stf B n (yj Z + 1)) 7) : (pf (yS B n Z) ≠ -1 → lli B n Z = yX B n Z (pf (yS B n Z))) ∧ (pf (yS B n Z) = -1 → kdf B n (stf B n (pj (yS B n Z))) ≠ 59 → lli B n Z = yX B n Z (stf B n (pj (yS B n Z)))) ∧ (pf (yS B n Z) = -1 → kdf B n (stf B n (pj (yS B n Z))) = 59 → lli B n Z = (-1, pj (yS B n Z) + 1, pm (yS B n Z), pg (yS B n Z), yk Z + 1, fu (yen Z) (yk Z) (pm (yS B n Z)), fu (ymo Z) (yk Z) (cif (wdP B n (stf B n (yj Z + 1)) 6) 1 0))) := by
  have n0 : ¬ (yf Z ≠ -1 ∨ kdf B n (stf B n (yj Z)) = 0) := fun y => by rcases y with y | y; exact y z1; exact zk y
  refine ⟨fun z => ?_, fun z y => ?_, fun z y => ?_⟩
  · unfold lli
    rw [cif_n n0, cif_n (fun y => y q1), cif_n (fun y => y q2), cif_p z]
  · unfold lli
    rw [cif_n n0, cif_n (fun y => y q1), cif_n (fun y => y q2), cif_n (fun y => y z), cif_n y]
  · unfold lli
    rw [cif_n n0, cif_n (fun y => y q1), cif_n (fun y => y q2), cif_n (fun y => y z), cif_p y]
/-- a line that reads well came by the sum -/
theorem lli_c {B : Int → Int} {n : Int} (hb : bok B n) {Z : Lq} (h : yf (lli B n Z) = -1) : lli B n Z = Z ∧ yf Z = -1 ∧ kdf B n (stf B n (yj Z)) = 0 ∨ yf Z = -1 ∧ yk Z < 5 ∧ pf (yS B n Z) = -1 ∧ lli B n Z = (-1, pj (yS B n Z) + 1, pm (yS B n Z), pg (yS B n Z), yk Z + 1, fu (yen Z) (yk Z) (pm (yS B n Z)), fu (ymo Z) (yk Z) (cif (wdP B n (stf B n (yj Z + 1)) 6) 1 0)) := by
  have bad : ∀ p : Nat, yf (yX B n Z (stf B n p)) = -1 → False := by
    intro p z
    have z : stf B n p = -1 := z
    have := st_r hb p
    omega
  by_cases q0 : yf Z ≠ -1 ∨ kdf B n (stf B n (yj Z)) = 0
  · left
    have e : lli B n Z = Z := by unfold lli; rw [cif_p q0]
    rw [e] at h
    exact ⟨e, h, by rcases q0 with q | q; exact absurd h q; exact q⟩
  · right
    have z1 : yf Z = -1 := by
      by_cases z : yf Z = -1
      · exact z
      · exact absurd (Or.inl z) q0
    have zk : kdf B n (stf B n (yj Z)) ≠ 0 := fun z => q0 (Or.inr z)
    by_cases q1 : wdP B n (stf B n (yj Z)) 5 ∧ yk Z < 5
    · by_cases q2 : wdP B n (stf B n (yj Z + 1)) 6 ∨ wdP B n (stf B n (yj Z + 1)) 7
      · obtain ⟨a, b, c⟩ := lli_y z1 zk q1 q2
        by_cases q3 : pf (yS B n Z) = -1
        · by_cases q4 : kdf B n (stf B n (pj (yS B n Z))) = 59
          · exact ⟨z1, q1.2, q3, c q3 q4⟩
          · rw [b q3 q4] at h; exact (bad _ h).elim
        · rw [a q3] at h; exact absurd h q3
      · exfalso
        have e : lli B n Z = yX B n Z (stf B n (yj Z + 1)) := by unfold lli; rw [cif_n q0, cif_n (fun y => y q1), cif_p q2]
        rw [e] at h; exact bad _ h
    · exfalso
      have e : lli B n Z = yX B n Z (stf B n (yj Z)) := by unfold lli; rw [cif_n q0, cif_p q1]
      rw [e] at h; exact bad _ h
theorem lre_in {B : Int → Int} {n : Int} {g0 : Int → Int} (hb : bok B n) : ∀ k : Nat, yf (lre B n g0 k) = -1 → yin (lre B n g0 k) := by
  intro k
  induction k with
  | zero => intro _; exact ⟨fun _ => rfl, fun z => absurd z (Nat.lt_irrefl 0)⟩
  | succ k ih =>
    intro h
    rcases lli_c hb h with ⟨e, z, -⟩ | ⟨-, -, -, e⟩
    · rw [lre, e]; exact ih z
    · rw [lre, e]
      refine ⟨fun z => absurd z (Nat.succ_ne_zero _), fun _ => ?_⟩
      show fu (yen (lre B n g0 k)) (yk (lre B n g0 k)) (pm (yS B n (lre B n g0 k))) (((yk (lre B n g0 k) + 1 : Nat) : Int) - 1) = pm (yS B n (lre B n g0 k))
      rw [show ((yk (lre B n g0 k) + 1 : Nat) : Int) - 1 = yk (lre B n g0 k) by omega, fu_e]
theorem lre_j {B : Int → Int} {n : Int} {g0 : Int → Int} (hb : bok B n) : ∀ k : Nat, yf (lre B n g0 k) = -1 → k ≤ yj (lre B n g0 k) ∨ kdf B n (stf B n (yj (lre B n g0 k))) = 0 := by
  intro k
  induction k with
  | zero => intro _; exact Or.inl (Nat.zero_le _)
  | succ k ih =>
    intro h
    rcases lli_c hb h with ⟨e, z, y⟩ | ⟨z, -, p, e⟩
    · rw [lre, e]; exact Or.inr y
    · left
      have sz := (lwS_sz hb (yj (lre B n g0 k) + 2) (ym (lre B n g0 k)) (yg (lre B n g0 k))).1 p
      rw [lre, e]
      show k + 1 ≤ pj (lwS B n (yj (lre B n g0 k) + 2) (ym (lre B n g0 k)) (yg (lre B n g0 k))) + 1
      rcases ih z with q | q
      · omega
      · have e2 := lre_stop (k := k) (Or.inr q) 1
        have e3 : lli B n (lre B n g0 k) = lre B n g0 k := e2
        rw [e3] at e
        have e4 : yk (lre B n g0 k) = yk (lre B n g0 k) + 1 := congrArg yk e
        omega
set_option maxHeartbeats 4000000 in
theorem u_lline {u : mm_M} {B : Int → Int} {n : Int} {Z : Lq} (h : mK u B n Z) (z1 : yf Z = -1) (zk : kdf B n (stf B n (yj Z)) ≠ 0) (ok : yok Z) (yi : yin Z) {post : Int → mm_M → Prop} (k1 : yf (lli B n Z) = -1 → ∀ u', mK u' B n (lli B n Z) → fQ u u' → post 1 u') (k0 : yf (lli B n Z) ≠ -1 → ∀ u', u' 211 4 = yf (lli B n Z) → fQ u u' → post 0 u') : wp_X11_lawLine 211 u post := by
  obtain ⟨t, tk, r19, r20, rc, rr, r0⟩ := h
  obtain ⟨o1, o2, o3⟩ := ok
  have hb := t.2.2
  have hn := hb.1.2
  have sr := st_r hb (yj Z)
  have sr1 := st_r hb (yj Z + 1)
  have n0 : ¬ (yf Z ≠ -1 ∨ kdf B n (stf B n (yj Z)) = 0) := fun y => by rcases y with y | y; exact y z1; exact zk y
  have tl := tok_lt hb zk
  have w23 : ∀ p, wdP B n p 23 ↔ wdP B n p 5 := fun p => wd_q (by decide +kernel)
  have w24 : ∀ p, wdP B n p 24 ↔ wdP B n p 7 := fun p => wd_q (by decide +kernel)
  have w25 : ∀ p, wdP B n p 25 ↔ wdP B n p 6 := fun p => wd_q (by decide +kernel)
  intro L46 h46
  have no : ¬ (wdP B n (stf B n (yj Z)) 5 ∧ yk Z < 5) → post 0 u := by
    intro q
    have e : lli B n Z = yX B n Z (stf B n (yj Z)) := by unfold lli; rw [cif_n n0, cif_p q]
    rw [e] at k0
    refine k0 (fun z => ?_) u tk.1 fQ.rf
    have z : stf B n (yj Z) = -1 := z
    omega
  refine u_word (by decide) ⟨sr.1, sr.2.1⟩ hn tk (fun w => ⟨fun y => absurd y (by decide), fun _ => ?_⟩) (fun w => ⟨fun _ => no (fun y => w ((w23 _).2 y.1)), fun y => absurd m_0 y⟩)
  rw [r19, n32_id (x := (yk Z : Int)) (by omega) (by omega)]
  refine ⟨fun y5 => ?_, fun y => no (fun x => by omega)⟩
  have q1 : wdP B n (stf B n (yj Z)) 5 ∧ yk Z < 5 := ⟨(w23 _).1 w, by omega⟩
  refine u_hadv t tk.2.1 (fun u1 a1 b1 tk1 => ?_)
  have g1 : gM u u1 := ⟨a1, fun i i1 i2 i3 i4 i5 => b1 i i1 i2 i3 i4⟩
  have l46 : (wdP B n (stf B n (yj Z + 1)) 6 ∨ wdP B n (stf B n (yj Z + 1)) 7) → L46 u1 := by
    intro q2
    obtain ⟨ly1, ly2, ly3⟩ := lli_y z1 zk q1 q2
    apply h46
    have e19 : u1 211 19 = yk Z := by rw [b1 19 (by decide) (by decide) (by decide) (by decide)]; exact r19
    have e20 : u1 211 20 = ym Z := by rw [b1 20 (by decide) (by decide) (by decide) (by decide)]; exact r20
    rw [e19, show mm_rt 211 23 = 221 from rfl, show mm_rt 211 22 = 220 from rfl]
    have fin : ∀ r : Int, r = cif (wdP B n (stf B n (yj Z + 1)) 6) 1 0 → (r = 0 ∨ r = 1) → ((0 ≤ (yk Z : Int) ∧ (yk Z : Int) < 5) ∧ ((r = 0 ∨ r = 1) ∧ (∀ s_11 : mm_M, s_11 = mm_up u1 221 (yk Z : Int) r → ((0 ≤ s_11 211 19 ∧ s_11 211 19 < 6) ∧ (∀ s_12 : mm_M, s_12 = mm_up s_11 220 (s_11 211 19) (s_11 211 20) → (wp_X11_leads 211 s_12 (fun s_13 => (wp_X11_sumHere 211 s_13 (fun r_16 s_15 => ((¬ n32 r_16 = 0 → (∀ s_17 : mm_M, s_17 = mm_up s_15 211 19 ((s_15 211 19) + 1) → ((0 ≤ s_17 211 19 ∧ s_17 211 19 < 6) ∧ (∀ s_18 : mm_M, s_18 = mm_up s_17 220 (s_17 211 19) (s_17 211 20) → (wp_X11_ends 211 s_18 (fun r_20 s_19 => ((r_20 = 0 ∨ r_20 = 1) ∧ post r_20 s_19))))))) ∧ (n32 r_16 = 0 → post 0 s_15)))))))))))  := by
      intro r er r01
      refine ⟨⟨by omega, by omega⟩, r01, fun s11 e11 => ?_⟩
      have f19 : s11 211 19 = yk Z := by rw [e11, up_c (by decide)]; exact e19
      have f20 : s11 211 20 = ym Z := by rw [e11, up_c (by decide)]; exact e20
      rw [f19, f20]
      refine ⟨⟨by omega, by omega⟩, fun s12 e12 => ?_⟩
      have c12 : ∀ c : Nat, c ≠ 220 → c ≠ 221 → s12 c = u1 c := fun c p q => by rw [e12, up_c p, e11, up_c q]
      have t12 : tx2 s12 B n := ⟨by rw [c12 211 (by decide) (by decide), b1 1 (by decide) (by decide) (by decide) (by decide)]; exact t.1, by rw [c12 212 (by decide) (by decide), a1 212 (by decide)]; exact t.2.1, hb⟩
      have q12 : fQ u1 s12 := ⟨fun c _ _ p q _ _ => c12 c p q, fun i _ _ _ _ _ _ _ _ => by rw [c12 211 (by decide) (by decide)], fun i => by
        rw [e12, up_c (by decide), e11]
        by_cases x : i = yk Z
        · rw [x, up_e]; exact Or.inr r01
        · rw [up_n (Or.inr x)]; exact Or.inl rfl⟩
      refine u_hadv (j := yj Z + 1) t12 (by rw [c12 211 (by decide) (by decide)]; exact tk1.2.1) (fun s13 a13 b13 tk13 => ?_)
      have g13 : gM s12 s13 := ⟨a13, fun i i1 i2 i3 i4 i5 => b13 i i1 i2 i3 i4⟩
      have q13 : fQ u s13 := g1.q.tr (q12.tr g13.q)
      have h219 : s13 219 = u 219 := by rw [a13 219 (by decide), c12 219 (by decide) (by decide), a1 219 (by decide)]
      have h20 : s13 211 20 = ym Z := by rw [b13 20 (by decide) (by decide) (by decide) (by decide), c12 211 (by decide) (by decide)]; exact e20
      have h19 : s13 211 19 = yk Z := by rw [b13 19 (by decide) (by decide) (by decide) (by decide), c12 211 (by decide) (by decide)]; exact e19
      have h221 : ∀ i : Int, s13 221 i = if i = yk Z then r else u 221 i := fun i => by
        rw [a13 221 (by decide), e12, up_c (by decide), e11]
        by_cases x : i = yk Z
        · rw [x, up_e, if_pos rfl]
        · rw [up_n (Or.inr x), if_neg x, a1 221 (by decide)]
      have h220 : ∀ i : Int, s13 220 i = if i = yk Z then (ym Z : Int) else u 220 i := fun i => by
        rw [a13 220 (by decide), e12]
        by_cases x : i = yk Z
        · rw [x, up_e, if_pos rfl]
        · rw [up_n (Or.inr x), if_neg x, e11, up_c (by decide), a1 220 (by decide)]
      have wk1 : kdf B n (stf B n (yj Z + 1)) = 1 := by rcases q2 with q | q <;> exact q.1
      have tl1 := tok_lt hb (j := yj Z + 1) (by omega)
      have sz := lwS_sz hb (yj Z + 2) (ym Z) (yg Z)
      refine u_sumH (j := yj Z + 2) (m := ym Z) (g := yg Z) (g13.tx t12) tk13 h20 ⟨by omega, by omega⟩ (by rw [h219]; exact rc) (fun p u' hu => ?_) (fun p p9 u' j' m' g' T' hu ej => ?_) (fun p u' j' m' g' T' hu ej => ?_)
      · have hu : uS s13 u' B n (pj (yS B n Z)) (pm (yS B n Z)) (pg (yS B n Z)) [] := hu
        refine ⟨fun _ s17 e17 => ?_, fun q => absurd q (by decide)⟩
        have i19 : u' 211 19 = yk Z := by rw [hu.1.2 19 (by decide) (by decide) (by decide) (by decide) (by decide) (by decide) (by decide)]; exact h19
        rw [i19] at e17
        have j19 : s17 211 19 = (yk Z : Int) + 1 := by rw [e17, up_e]
        have j20 : s17 211 20 = pm (yS B n Z) := by rw [e17, up_n (by decide)]; exact hu.2.2.2.1
        rw [j19, j20]
        refine ⟨⟨by omega, by omega⟩, fun s18 e18 => ?_⟩
        have c18 : ∀ c : Nat, c ≠ 211 → c ≠ 220 → s18 c = u' c := fun c p q => by rw [e18, up_c q, e17, up_c p]
        have d18 : ∀ i : Int, i ≠ 19 → s18 211 i = u' 211 i := fun i p => by rw [e18, up_c (by decide), e17, up_n (Or.inr p)]
        have t18 : tx2 s18 B n := ⟨by rw [d18 1 (by decide)]; exact hu.2.1.1, by rw [c18 212 (by decide) (by decide)]; exact hu.2.1.2.1, hb⟩
        have k18 : tkM s18 B n (stf B n (pj (yS B n Z))) := (show smT u' s18 from fun i p q => d18 i (by omega)).tk hu.2.2.1
        have q18 : fQ u s18 := q13.tr (hu.1.q.tr ⟨fun c p _ q _ _ _ => c18 c p q, fun i _ _ _ _ p _ _ _ => d18 i p, fun i => Or.inl (by rw [c18 221 (by decide) (by decide)])⟩)
        refine u_ends t18 k18 (fun y u2 g2 _ tk2 => ⟨Or.inr rfl, ?_⟩) (fun y => ⟨Or.inl rfl, ?_⟩)
        · have e := ly3 p y
          rw [e] at k1
          refine k1 rfl u2 ⟨g2.tx t18, tk2, ?_, ?_, ?_, fun i i1 i2 => ?_, fun _ => ?_⟩ (q18.tr g2.q)
          · rw [g2.2 19 (by decide) (by decide) (by decide) (by decide) (by decide), e18, up_c (by decide), j19]
            show (yk Z : Int) + 1 = ((yk Z + 1 : Nat) : Int)
            omega
          · rw [g2.2 20 (by decide) (by decide) (by decide) (by decide) (by decide), d18 20 (by decide)]; exact hu.2.2.2.1
          · rw [g2.1 219 (by decide), c18 219 (by decide) (by decide)]; exact hu.2.2.2.2.2.2.2
          · have i2 : i < ((yk Z + 1 : Nat) : Int) := i2
            show u2 221 i = fu (ymo Z) (yk Z) (cif (wdP B n (stf B n (yj Z + 1)) 6) 1 0) i ∧ u2 220 (i + 1) = fu (yen Z) (yk Z) (pm (yS B n Z)) i
            rw [g2.1 221 (by decide), g2.1 220 (by decide), c18 221 (by decide) (by decide), hu.1.1 221 (by decide) (by decide) (by decide) (by decide), h221, e18]
            by_cases x : i = yk Z
            · rw [if_pos x, x, fu_e, up_e, fu_e]; exact ⟨er, rfl⟩
            · rw [if_neg x, fu_n x, fu_n x, up_n (Or.inr (by omega)), e17, up_c (by decide), hu.1.1 220 (by decide) (by decide) (by decide) (by decide), h220]
              have r := rr i i1 (by omega)
              refine ⟨r.1, ?_⟩
              by_cases x2 : i + 1 = yk Z
              · rw [if_pos x2]
                have := yi.2 (by omega)
                rw [show (yk Z : Int) - 1 = i by omega] at this
                exact this.symm
              · rw [if_neg x2]; exact r.2
          · rw [g2.1 220 (by decide), e18, up_n (Or.inr (by omega)), e17, up_c (by decide), hu.1.1 220 (by decide) (by decide) (by decide) (by decide), h220]
            by_cases x : (0 : Int) = yk Z
            · rw [if_pos x]
              have := yi.1 (by omega)
              omega
            · rw [if_neg x]; exact r0 (by omega)
        · have e := ly2 p y
          rw [e] at k0
          have sr2 := st_r hb (pj (yS B n Z))
          refine k0 (fun z => ?_) s18 k18.1 q18
          have z : stf B n (pj (yS B n Z)) = -1 := z
          omega
      · have e := ly2 p p9
        rw [e] at k0
        have sr2 := st_r hb (pj (yS B n Z))
        refine ⟨fun q => absurd m_0 q, fun _ => k0 (fun z => ?_) u' ?_ (q13.tr hu.1.q)⟩
        · have z : stf B n (pj (yS B n Z)) = -1 := z
          omega
        · rw [hu.2.2.1.1]; exact ej
      · have e := ly1 p
        rw [e] at k0
        refine ⟨fun q => absurd m_0 q, fun _ => k0 p u' ?_ (q13.tr hu.1.q)⟩
        rw [hu.2.2.1.1]; exact ej
    exact u_word (by decide) ⟨sr1.1, sr1.2.1⟩ hn tk1 (fun w6 => fin 1 (by rw [cif_p ((w25 _).1 w6)]) (Or.inr rfl)) (fun w6 => fin 0 (by rw [cif_n (fun y => w6 ((w25 _).2 y))]) (Or.inl rfl))
  refine u_word (by decide) ⟨sr1.1, sr1.2.1⟩ hn tk1 (fun w7 => ⟨fun _ => l46 (Or.inr ((w24 _).1 w7)), fun y => absurd y (by decide)⟩) (fun w7 => ⟨fun y => absurd m_0 y, fun _ => ?_⟩)
  refine u_word (by decide) ⟨sr1.1, sr1.2.1⟩ hn tk1 (fun w6 => ⟨fun _ => l46 (Or.inl ((w25 _).1 w6)), fun y => absurd y (by decide)⟩) (fun w6 => ⟨fun y => absurd m_0 y, fun _ => ?_⟩)
  have e : lli B n Z = yX B n Z (stf B n (yj Z + 1)) := by
    unfold lli
    rw [cif_n n0, cif_n (fun y => y q1), cif_p (fun x => by rcases x with x | x; exact w6 ((w25 _).2 x); exact w7 ((w24 _).2 x))]
  rw [e] at k0
  refine k0 (fun z => ?_) u1 tk1.1 g1.q
  have z : stf B n (yj Z + 1) = -1 := z
  omega
theorem u_readL {u : mm_M} {B : Int → Int} {n : Int} {g0 : Int → Int} (t : tx2 u B n) {post : Int → mm_M → Prop} (k : ∀ u', fQ u u' → (lfa B n g0 = -1 → mK u' B n (lre B n g0 500)) → post (lfa B n g0) u') : wp_X11_lawsFault 211 u post := by
  have hb := t.2.2
  have hn := hb.1
  intro L19 h19 s1 e1 s2 e2 s3 e3
  have loop : ∀ d x : Nat, x + d = 500 → yf (lre B n g0 x) = -1 → ∀ w, fQ u w → mK w B n (lre B n g0 x) → L19 w := by
    intro d
    have done : ∀ x : Nat, x ≤ 500 → yf (lre B n g0 x) = -1 → kdf B n (stf B n (yj (lre B n g0 x))) = 0 → ∀ w, fQ u w → mK w B n (lre B n g0 x) → L19 w := by
      intro x hx zx kx w fw mw
      have e := lre_stop (k := x) (Or.inr kx) (500 - x)
      rw [show x + (500 - x) = 500 by omega] at e
      have ok := lre_ok hb x zx
      have o1 := ok.1
      have sr := st_r hb (yj (lre B n g0 x))
      apply h19
      rw [mw.2.1.2.2.1, km_0.mpr kx, mw.2.2.1, n32_id (x := (yk (lre B n g0 x) : Int)) (by omega) (by omega), mw.2.1.1]
      have fin := k w fw
      unfold lfa at fin
      rw [e, if_pos zx] at fin
      refine ⟨fun _ => ⟨fun q => ?_, fun q => ?_⟩, fun y => absurd rfl y⟩
      · rw [if_neg (by omega)] at fin
        exact fin (fun _ => mw)
      · rw [if_pos (by omega)] at fin
        exact fin (fun y => by omega)
    induction d with
    | zero =>
      intro x hx zx w fw mw
      refine done x (by omega) zx ?_ w fw mw
      rcases lre_j hb x zx with q | q
      · exact st_end hb (by omega)
      · exact q
    | succ d ih =>
      intro x hx zx w fw mw
      by_cases kx : kdf B n (stf B n (yj (lre B n g0 x))) = 0
      · exact done x (by omega) zx kx w fw mw
      · have kr := km_r (B := B) (n := n) (p := stf B n (yj (lre B n g0 x)))
        have k0' := km_0 (B := B) (n := n) (p := stf B n (yj (lre B n g0 x)))
        apply h19
        rw [mw.2.1.2.2.1, n32_id (x := kmf B n (stf B n (yj (lre B n g0 x)))) (by omega) (by omega)]
        refine ⟨fun y => absurd (k0'.mp y) kx, fun _ => u_lline mw zx kx (lre_ok hb x zx) (lre_in hb x zx) (fun z w' m' f' => ⟨fun _ => ih (x + 1) (by omega) z w' (fw.tr f') m', fun y => absurd y (by decide)⟩) (fun z w' e' f' => ⟨fun y => absurd m_0 y, fun _ => ?_⟩)⟩
        have e := lre_stop (g0 := g0) (k := x + 1) (Or.inl z) (500 - (x + 1))
        rw [show x + 1 + (500 - (x + 1)) = 500 by omega] at e
        have fin := k w' (fw.tr f')
        unfold lfa at fin
        have z' : yf (lre B n g0 (x + 1)) ≠ -1 := z
        rw [e, if_neg z'] at fin
        rw [e']
        exact fin (fun y => absurd y z')
  have c3 : ∀ c : Nat, c ≠ 211 → s3 c = u c := fun c p => by rw [e3, up_c p, e2, up_c p, e1, up_c p]
  have d3 : ∀ i : Int, i ≠ 2 → i ≠ 19 → i ≠ 20 → s3 211 i = u 211 i := fun i p q r => by rw [e3, up_n (Or.inr p), e2, up_n (Or.inr r), e1, up_n (Or.inr q)]
  have t3 : tx2 s3 B n := ⟨by rw [d3 1 (by decide) (by decide) (by decide)]; exact t.1, by rw [c3 212 (by decide)]; exact t.2.1, hb⟩
  refine u_leads t3 ⟨Int.le_refl 0, hn.1⟩ (by rw [e3, up_e]) (fun u' a b c => ?_)
  have g : gM s3 u' := ⟨a, fun i i1 i2 i3 i4 i5 => b i i1 i2 i3 i4⟩
  have q3 : fQ u s3 := ⟨fun c p _ _ _ _ _ => c3 c p, fun i p _ _ _ q r _ _ => d3 i p q r, fun i => Or.inl (by rw [c3 221 (by decide)])⟩
  refine loop 500 0 (by omega) rfl u' (q3.tr g.q) ⟨g.tx t3, c, ?_, ?_, fun i a b => ?_, fun i a b => ?_, fun q => absurd q (Nat.lt_irrefl 0)⟩
  · rw [b 19 (by decide) (by decide) (by decide) (by decide), e3, up_n (by decide), e2, up_n (by decide), e1, up_e]; rfl
  · rw [b 20 (by decide) (by decide) (by decide) (by decide), e3, up_n (by decide), e2, up_e]; rfl
  · have b : i < 0 := b
    omega
  · have b : i < 0 := b
    omega
