set_option maxHeartbeats 4000000 in
theorem c_line {u : mm_M} {B : Int → Int} {n : Int} {Z : Lq} (h : cK u B n Z) (z1 : yf Z = -1) (zk : kdf B n (stf B n (yj Z)) ≠ 0) (ok : yok Z) {post : mm_M → Prop} (k : ∀ u', cK u' B n (lli B n Z) → fK u u' → post u') : wp_X3_readLine 24 7 u post := by
  obtain ⟨hh, h5, h4, hr⟩ := h
  obtain ⟨r4, r5, rg, rr⟩ := hr z1
  obtain ⟨o1, o2, o3⟩ := ok
  have hb := hh.1.2.2
  have sr := st_r hb (yj Z)
  have sr1 := st_r hb (yj Z + 1)
  have tk := hh.2.2.1 z1
  rw [z1] at hh
  have tx := hh.1
  have n0 : ¬ (yf Z ≠ -1 ∨ kdf B n (stf B n (yj Z)) = 0) := fun y => by rcases y with y | y; exact y z1; exact zk y
  intro L24 L58 h24 h58
  have l24 : ¬ (wdP B n (stf B n (yj Z)) 5 ∧ yk Z < 5) → L24 u := by
    intro q1
    apply h24
    refine t_ref hh (fun u' g hu => k u' ?_ g.fL.fK)
    have e : lli B n Z = yX B n Z (stf B n (yj Z)) := by
      unfold lli
      rw [cif_n n0, cif_p q1]
    rw [e]
    refine ⟨?_, by rw [g.1 24 (by decide)]; exact h5, by rw [g.1 24 (by decide)]; exact h4, fun y => ?_⟩
    · have := hu (yj Z)
      rw [if_pos rfl] at this
      exact this
    · have y : stf B n (yj Z) = -1 := y
      omega
  refine t_word (by decide) tx ⟨sr.1, sr.2.1⟩ tk (fun w => ⟨fun y => absurd y (by decide), fun _ => ?_⟩) (fun w => ⟨fun _ => l24 (fun y => w y.1), fun y => absurd m_0 y⟩)
  rw [r4, n32_id (x := (yk Z : Int)) (by omega) (by omega)]
  refine ⟨fun y => by omega, fun _ => ⟨fun y5 => ?_, fun y => l24 (fun x => by omega)⟩⟩
  refine t_hadv hh (fun u1 g1 h1 => ?_)
  have tk1 := h1.2.2.1 rfl
  have q1 : ¬ ¬ (wdP B n (stf B n (yj Z)) 5 ∧ yk Z < 5) := fun y => y ⟨w, by omega⟩
  have l58 : ∀ v, (v = 0 ∨ v = 1) → v = cif (wdP B n (stf B n (yj Z + 1)) 6) 1 0 → (wdP B n (stf B n (yj Z + 1)) 6 ∨ wdP B n (stf B n (yj Z + 1)) 7) → L58 v u1 := by
    intro v v01 ev hw
    have q2 : ¬ ¬ (wdP B n (stf B n (yj Z + 1)) 6 ∨ wdP B n (stf B n (yj Z + 1)) 7) := fun y => y hw
    apply h58
    refine t_hadv h1 (fun u2 g2 h2 => ?_)
    have c24 : u2 24 = u 24 := by rw [g2.1 24 (by decide), g1.1 24 (by decide)]
    have c25 : u2 25 = u 25 := by rw [g2.1 25 (by decide), g1.1 25 (by decide)]
    refine c_readSum (j := yj Z + 2) (m := ym Z) (g := yg Z) hb ⟨h2, by rw [c24]; exact h5, fun _ => by rw [c24, c25]; exact ⟨r5, rg⟩⟩ (by omega) (fun u3 c3 f3 => ?_)
    have f13 : fK u u3 := (g1.fL.fK).tr ((g2.fL.fK).tr f3.fK)
    have d4 : u3 24 4 = yk Z := by rw [f3.2.1 4 (by decide), c24]; exact r4
    have d26 : u3 26 = u 26 := by rw [f3.1 26 (by decide) (by decide) (by decide), g2.1 26 (by decide), g1.1 26 (by decide)]
    have d27 : u3 27 = u 27 := by rw [f3.1 27 (by decide) (by decide) (by decide), g2.1 27 (by decide), g1.1 27 (by decide)]
    have sz := lwS_sz hb (yj Z + 2) (ym Z) (yg Z)
    have c3 : cL u3 B n (yS B n Z) := c3
    have fr := c3.1.2.2.2
    by_cases z : pf (yS B n Z) = -1
    · have q3 : ¬ (pf (yS B n Z) ≠ -1) := fun y => y z
      have hc := c3.1
      have kk : hnd u3 B n (pj (yS B n Z) + 0) (faF B n (fun _ => kdf B n (stf B n (pj (yS B n Z))) = 59) (pj (yS B n Z)) 0) := by rw [z] at hc; exact hc
      have m1 := c3.2.2 z
      refine t_sig (P := fun _ => kdf B n (stf B n (pj (yS B n Z))) = 59) (by omega) (by rfl) kk (fun u4 r4' g4 h4' v4 => ?_)
      have d4' : u4 24 4 = yk Z := by rw [g4.1 24 (by decide)]; exact d4
      by_cases y : kdf B n (stf B n (pj (yS B n Z))) = 59
      · have f1 := faF_y (B := B) (n := n) (P := fun _ => kdf B n (stf B n (pj (yS B n Z))) = 59) (j := pj (yS B n Z)) (k := 0) rfl y
        rw [f1] at h4' v4
        have er : r4' = 1 := by rcases v4 with q | q; exact q.2; exact absurd rfl q.1
        rw [er]
        refine ⟨fun x => absurd x (by decide), fun _ => ?_⟩
        rw [d4', show mm_rt 24 2 = 27 from rfl, show mm_rt 24 1 = 26 from rfl]
        refine ⟨⟨by omega, by omega⟩, v01, fun s20 e20 => ?_⟩
        have a4 : s20 24 4 = yk Z := by rw [e20, up_c (by decide)]; exact d4'
        have a5 : s20 24 5 = pm (yS B n Z) := by rw [e20, up_c (by decide), g4.1 24 (by decide)]; exact m1.1
        rw [a4, a5]
        refine ⟨⟨by omega, by omega⟩, fun s21 e21 s22 e22 => k s22 ?_ ?_⟩
        · have b4 : s21 24 4 = yk Z := by rw [e21, up_c (by decide)]; exact a4
          rw [b4] at e22
          have e : lli B n Z = (-1, pj (yS B n Z) + 1, pm (yS B n Z), pg (yS B n Z), yk Z + 1, fu (yen Z) (yk Z) (pm (yS B n Z)), fu (ymo Z) (yk Z) (cif (wdP B n (stf B n (yj Z + 1)) 6) 1 0)) := by
            unfold lli
            rw [cif_n n0, cif_n q1, cif_n q2, cif_n q3, cif_p y]
          rw [e]
          have p24 : ∀ i : Int, i ≠ 4 → s22 24 i = u4 24 i := fun i hi => by rw [e22, up_n (Or.inr hi), e21, up_c (by decide), e20, up_c (by decide)]
          have po : ∀ c : Nat, c ≠ 24 → c ≠ 26 → c ≠ 27 → s22 c = u4 c := fun c a b d => by rw [e22, up_c a, e21, up_c b, e20, up_c d]
          refine ⟨h4'.c (po 7 (by decide) (by decide) (by decide)) (po 8 (by decide) (by decide) (by decide)), ?_, ?_, fun _ => ⟨?_, ?_, ?_, fun i i1 i2 => ?_⟩⟩
          · rw [p24 5 (by decide), g4.1 24 (by decide)]; exact c3.2.1
          · rw [e22, up_e]; omega
          · rw [e22, up_e]; show (yk Z : Int) + 1 = ((yk Z + 1 : Nat) : Int); omega
          · rw [p24 5 (by decide), g4.1 24 (by decide)]; exact m1.1
          · rw [po 25 (by decide) (by decide) (by decide), g4.1 25 (by decide)]; exact m1.2
          · have i2 : i < ((yk Z + 1 : Nat) : Int) := i2
            show s22 26 i = fu (yen Z) (yk Z) (pm (yS B n Z)) i ∧ s22 27 i = fu (ymo Z) (yk Z) (cif (wdP B n (stf B n (yj Z + 1)) 6) 1 0) i
            rw [e22, up_c (by decide), up_c (by decide), e21, up_c (a := 26) (b := 27) (by decide), e20]
            by_cases x : i = yk Z
            · rw [x, up_e, up_e, fu_e, fu_e]; exact ⟨rfl, ev⟩
            · rw [up_n (Or.inr x), up_n (Or.inr x), up_n (Or.inr x), fu_n x, fu_n x, g4.1 26 (by decide), g4.1 27 (by decide), d26, d27]
              exact rr i i1 (by omega)
        · refine f13.tr (g4.fL.fK.tr ⟨fun c a b => ?_, fun i _ => ?_, fun i => ?_⟩)
          · rw [e22, up_c (by omega), e21, up_c (by omega), e20, up_c (by omega)]
          · rw [e22, up_c (by decide), e21, up_c (by decide), e20, up_c (by decide)]
          · rw [e22, up_c (by decide), e21, up_c (by decide), e20]
            by_cases x : i = yk Z
            · rw [x, up_e]; exact Or.inr v01
            · rw [up_n (Or.inr x)]; exact Or.inl rfl
      · have f1 := faF_n (B := B) (n := n) (P := fun _ => kdf B n (stf B n (pj (yS B n Z))) = 59) (j := pj (yS B n Z)) (k := 0) rfl y
        rw [f1] at h4' v4
        have sr := st_r hb (pj (yS B n Z))
        have er : r4' = 0 := by
          rcases v4 with q | q
          · have q1 : stf B n (pj (yS B n Z)) = -1 := q.1
            omega
          · exact q.2
        rw [er]
        refine ⟨fun _ => k u4 ?_ (f13.tr g4.fL.fK), fun x => absurd m_0 x⟩
        have e : lli B n Z = yX B n Z (stf B n (pj (yS B n Z))) := by
          unfold lli
          rw [cif_n n0, cif_n q1, cif_n q2, cif_n q3, cif_n y]
        rw [e]
        have no : ¬ stf B n (pj (yS B n Z)) = -1 := by omega
        refine ⟨⟨h4'.1, h4'.2.1, fun q => absurd q no, h4'.2.2.2⟩, by rw [g4.1 24 (by decide)]; exact c3.2.1, by rw [d4']; omega, fun q => absurd q no⟩
    · intro L16 h16
      have l16 : L16 u3 := by
        apply h16
        refine t_ref c3.1 (fun u4 g4 h4' => ⟨fun _ => k u4 ?_ (f13.tr g4.fL.fK), fun x => absurd m_0 x⟩)
        have e : lli B n Z = yX B n Z (pf (yS B n Z)) := by
          unfold lli
          rw [cif_n n0, cif_n q1, cif_n q2, cif_p z]
        rw [e]
        have := h4' (yj Z)
        rw [if_neg z] at this
        exact ⟨this, by rw [g4.1 24 (by decide)]; exact c3.2.1, by rw [g4.1 24 (by decide), d4]; omega, fun q => absurd q z⟩
      rw [c3.1.2.1, n32_id (x := pf (yS B n Z)) (by omega) (by omega)]
      exact ⟨fun _ => l16, fun y => absurd y z⟩
  refine t_word (by decide) h1.1 ⟨sr1.1, sr1.2.1⟩ tk1 (fun w6 v7 e7 => ?_) (fun w6 v7 e7 => ?_)
  · rw [e7]
    exact ⟨fun _ => l58 1 (Or.inr rfl) (by rw [cif_p w6]) (Or.inl w6), fun y => absurd y (by decide)⟩
  · rw [e7]
    refine ⟨fun y => absurd m_0 y, fun _ => t_word (by decide) h1.1 ⟨sr1.1, sr1.2.1⟩ tk1 (fun w7 => ⟨fun _ => l58 0 (Or.inl rfl) (by rw [cif_n w6]) (Or.inr w7), fun y => absurd y (by decide)⟩) (fun w7 => ⟨fun y => absurd m_0 y, fun _ => ?_⟩)⟩
    refine t_ref h1 (fun u' g hu => k u' ?_ (g1.fL.fK.tr g.fL.fK))
    have e : lli B n Z = yX B n Z (stf B n (yj Z + 1)) := by
      unfold lli
      rw [cif_n n0, cif_n q1, cif_p (fun x => by rcases x with x | x; exact w6 x; exact w7 x)]
    rw [e]
    refine ⟨?_, by rw [g.1 24 (by decide), g1.1 24 (by decide)]; exact h5, by rw [g.1 24 (by decide), g1.1 24 (by decide)]; exact h4, fun y => ?_⟩
    · have := hu (yj Z)
      rw [if_pos rfl] at this
      exact this
    · have y : stf B n (yj Z + 1) = -1 := y
      omega
theorem c_readL {u : mm_M} {B : Int → Int} {n : Int} (t : tx u B n) {post : Int → mm_M → Prop} (k : ∀ u', fK u u' → (lfa B n (u 25) = -1 → cK u' B n (lre B n (u 25) 500)) → post (lfa B n (u 25)) u') : wp_X3_read 24 7 u post := by
  have hb := t.2.2
  have hn := hb.1
  intro L16 L41 h16 h41 s1 e1 s2 e2
  have o2 : ∀ c : Nat, c ≠ 24 → s2 c = u c := fun c hc => by rw [e2, up_c hc, e1, up_c hc]
  have t2 : tx s2 B n := ⟨by rw [o2 8 (by decide)]; exact t.1, by rw [o2 7 (by decide)]; exact t.2.1, hb⟩
  have last : ∀ w, fK u w → cK w B n (lre B n (u 25) 500) → L41 w := by
    intro w fw cw
    have sr := st_r hb (yj (lre B n (u 25) 500))
    have fin : ∀ w', g7 w w' → w' 7 6 = lfa B n (u 25) → (lfa B n (u 25) = -1 → cK w' B n (lre B n (u 25) 500)) → post (w' 7 6) w' := by
      intro w' g e c
      rw [e]
      exact k w' (fw.tr g.fL.fK) c
    apply h41
    have h4 := cw.2.2.1
    rw [n32_id (x := w 24 4) (by omega) (by omega)]
    refine ⟨fun z => fin w g7.rf ?_ (fun _ => cw), fun z => ?_⟩
    · rw [cw.1.2.1]
      unfold lfa
      by_cases q : yf (lre B n (u 25) 500) = -1
      · have := (cw.2.2.2 q).1
        rw [if_pos q, if_neg (by omega), q]
      · rw [if_neg q]
    · refine t_ref cw.1 (fun w' g hw => fin w' g ?_ (fun y => ?_))
      · rw [(hw 0).2.1]
        unfold lfa
        by_cases q : yf (lre B n (u 25) 500) = -1
        · have := (cw.2.2.2 q).1
          rw [if_pos q, if_pos q, if_pos (by omega)]
        · rw [if_neg q, if_neg q]
      · unfold lfa at y
        by_cases q : yf (lre B n (u 25) 500) = -1
        · have := (cw.2.2.2 q).1
          rw [if_pos q, if_pos (by omega)] at y; omega
        · rw [if_neg q] at y; exact absurd y q
  refine t_hbeg t2 (fun s6 g6 h6 => ?_)
  have key : ∀ d x : Nat, x + d = 500 → ∀ w, fK u w → cK w B n (lre B n (u 25) x) → L16 x w := by
    intro d
    induction d with
    | zero =>
      intro x hx w fw cw
      have : x = 500 := by omega
      subst this
      apply h16
      exact ⟨fun _ => last w fw cw, fun z => absurd (by decide) z⟩
    | succ d ih =>
      intro x hx w fw cw
      have fr := cw.1.2.2.2
      apply h16
      rw [n32_id (x := (x : Int)) (by omega) (by omega)]
      refine ⟨fun z => by omega, fun _ => ?_⟩
      unfold wp_X8_goesOn
      rw [cw.1.2.1, n32_id (x := yf (lre B n (u 25) x)) (by omega) (by omega)]
      have stop : (yf (lre B n (u 25) x) ≠ -1 ∨ kdf B n (stf B n (yj (lre B n (u 25) x))) = 0) → L41 w := by
        intro z
        have e := lre_stop z (500 - x)
        rw [show x + (500 - x) = 500 by omega] at e
        exact last w fw (by rw [e]; exact cw)
      refine ⟨fun z => ⟨fun _ => stop (Or.inl z), fun y => absurd m_0 y⟩, fun z => ?_⟩
      have kr := kd_r (B := B) (n := n) (p := stf B n (yj (lre B n (u 25) x)))
      rw [(cw.1.2.2.1 z).2.2.1, n32_id (x := kdf B n (stf B n (yj (lre B n (u 25) x)))) (by omega) (by omega)]
      refine ⟨fun y => ⟨fun _ => stop (Or.inr y), fun y => absurd m_0 y⟩, fun y => ⟨fun q => absurd q (by decide), fun _ => ?_⟩⟩
      refine c_line cw z y (lre_ok hb x z) (fun w' cw' f' v ev => ?_)
      rw [ev, show (x : Int) + 1 = ((x + 1 : Nat) : Int) by omega]
      exact ih (x + 1) (by omega) w' (fw.tr f') cw'
  have z4 : s6 24 4 = 0 := by rw [g6.1 24 (by decide), e2, up_n (by decide), e1, up_e]
  have z5 : s6 24 5 = 0 := by rw [g6.1 24 (by decide), e2, up_e]
  refine key 500 0 (by omega) s6 ⟨fun c a b => by rw [g6.1 c a, o2 c (by omega)], fun i a => by rw [g6.2 i a, o2 7 (by decide)], fun i => Or.inl (by rw [g6.1 27 (by decide), o2 27 (by decide)])⟩ ⟨h6, by omega, by omega, fun _ => ⟨z4, z5, by rw [g6.1 25 (by decide), o2 25 (by decide)]; rfl, fun i a b => ?_⟩⟩
  have b : i < 0 := b
  omega
