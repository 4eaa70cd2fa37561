theorem Rel.sh {s : mm_M} (hR : Rel s) (h : 0 < s 9 4) : rep s 29 (s 9 4) (s 9 5) (vo s) ∧ wf (s 9 4) (s 9 5) (vo s) := rs_to (hR.2.2.2.1 h)
theorem tw.cl {C S : Int} {s : mm_M} (h : tw C S s) : 10 ≤ s 211 16 ∧ s 211 16 ≤ 240 ∧ (s 9 6 = -1 ∧ s 211 16 = 120 ∨ s 9 6 ≠ -1 ∧ s 211 16 = s 9 6) := by
  have a := h.w.2.2.2.2.2.2.2.2.2.2.2.2.2.1
  have b := h.w.2.2.2.2.2.2.2.2.2.2.2.2.2.2.1
  have c := h.c0
  have d := h.cc
  rw [if_neg (by omega)] at b
  by_cases q : s 9 6 = -1
  · rw [if_pos q] at b; omega
  · rw [if_neg q] at b; omega
theorem t_close {C S : Int} {s : mm_M} {post : Int → mm_M → Prop} (hW : tw C S s) (k : post (s 211 16) s) : wp_X9_closing 9 s post := by
  have a := hW.cl
  unfold wp_X9_closing
  have e : n32 (s 9 6) = s 9 6 := n32_id (by omega) (by omega)
  rw [e]
  refine ⟨fun q => ?_, fun q => ?_⟩
  · have : s 9 6 = s 211 16 := by omega
    rw [this]; exact k
  · have : (120 : Int) = s 211 16 := by omega
    rw [this]; exact k
theorem tw.bo {C S : Int} {s : mm_M} (h : tw C S s) : 0 ≤ s 211 18 ∧ s 211 18 ≤ 9 := by
  have hb : s 211 18 = (if s 9 8 < 0 then 0 else s 9 8) := h.w.2.2.2.2.2.2.2.2.2.2.2.2.1
  have hb2 := h.w.2.2.2.2.2.2.2.2.2.2.2.1
  rw [hb]
  split <;> omega
/-- promise 10 -/
theorem q_come {s : mm_M} {a1 a2 : Int} (hR : Rel s) (h1 : n32 a1 = a1) (h2 : n32 a2 = a2) (post : Int → mm_M → Prop) (hp : ∀ r1 s1, Gd (wp_X11_come 211 a1 a2 s1) r1 → post r1 s1) : wp_X10_come 0 a1 a2 s post := by
  unfold wp_X10_come
  rw [show mm_rt 0 1 = 9 from rfl, show mm_rt 0 5 = 29 from rfl]
  refine s_hasS hR (fun b1 b2 => ⟨fun z => absurd z (by decide), fun _ => s_hasC hR (fun d1 d2 => ⟨fun z => absurd z (by decide), fun _ => ?_⟩) (fun z => ⟨fun _ => hp _ _ ?_, fun z => absurd m_0 z⟩)⟩) (fun z => ⟨fun _ => hp _ _ ?_, fun z => absurd m_0 z⟩)
  · rw [h1] at b1 b2
    rw [h2] at d1 d2
    have hW := hR.tw (by omega)
    obtain ⟨r, w⟩ := hR.sh (by omega)
    refine t_close hW ?_
    have cl := hW.cl
    have m0 : s 29 7 = s 211 28 := r.mn
    have mm : 0 ≤ s 211 28 ∧ s 211 28 ≤ 240 := w.mn0
    rw [m0, n32_id (x := s 211 28) (by omega) (by omega), n32_id (x := s 211 16) (by omega) (by omega)]
    have rf : ∀ (t : mm_M) (p2 : Int → mm_M → Prop), agC s t → (s 211 16 ≤ s 211 28 → p2 (-1) t) → (¬ s 211 16 ≤ s 211 28 → wp_X11_free 211 t (fun r_6 s_5 => ((¬ n32 r_6 = (-1) → (wp_X11_free 211 s_5 (fun r_8 s_7 => (∀ v3_9 : Int, v3_9 = r_8 → (wp_X11_arrives 211 v3_9 a1 a2 1 s_7 (fun s_10 => p2 v3_9 s_10)))))) ∧ (n32 r_6 = (-1) → p2 (-1) s_5)))) → wp_X11_come 211 a1 a2 t p2 := by
      intro t p2 a k1 k2
      have e16 := a 211 16 rfl
      have e28 := a 211 28 rfl
      have e12 := a 211 12 rfl
      have e14 := a 211 14 rfl
      have nC := hR.nC
      have nS := hR.nS
      unfold wp_X11_come wp_X11_isSort wp_X11_isCounter
      rw [e14, nS.2.2.2]
      have q1 : n32 (s 9 5 - 1) = s 9 5 - 1 := n32_id (by omega) (by omega)
      have q2 : n32 (s 9 4 - 1) = s 9 4 - 1 := n32_id (by omega) (by omega)
      refine s_in (fun u v => ⟨Or.inr rfl, fun z => absurd z (by decide), fun _ => ?_⟩) (fun u => by rw [h1, m_0, q1] at u; omega)
      rw [e12, nC.2.2.2]
      refine s_in (fun u v => ⟨Or.inr rfl, fun z => absurd z (by decide), fun _ => ?_⟩) (fun u => by rw [h2, m_0, q2] at u; omega)
      rw [e16, e28, n32_id (x := s 211 28) (by omega) (by omega), n32_id (x := s 211 16) (by omega) (by omega)]
      exact ⟨k1, k2⟩
    refine ⟨fun q => ?_, fun q => hp _ _ (fun p2 k3 => rf s p2 agC.rf (fun _ => k3 _ _ rfl hR) (fun z => by omega))⟩
    have fo := freN_ok (vo s)
    refine t_arrive hW r w ⟨b1, b2⟩ ⟨d1, d2⟩ rfl (fun qf s1 r1 g1 => hp _ _ ?_) (fun qf => hp _ _ ?_)
    · intro p2 k3
      refine rf s1 p2 g1 (fun z => by omega) (fun _ => ?_)
      have v1 : vo s1 = vo s := g1.vo
      refine u_free v1 w ?_
      rw [if_pos qf, n32_id (x := freN (vo s)) (by omega) (by omega)]
      refine ⟨fun _ => u_free v1 w ?_, fun z => by omega⟩
      rw [if_pos qf]
      intro v ev
      rw [ev]
      refine u_arr hW.c0.2 hW.s0.2 v1 w ⟨fo.1, qf⟩ (fo.2.2 qf) ⟨b1, b2⟩ ⟨d1, d2⟩ rfl (fun t v2 g2 => ?_)
      rw [g1 211 17 rfl] at v2
      exact k3 _ _ rfl (hR.shop hW.c0.1 g1 g2 r1 (w.arr fo.1 qf (fo.2.2 qf) ⟨b1, b2⟩ ⟨d1, d2⟩) v2)
    · intro p2 k3
      refine rf s p2 agC.rf (fun z => by omega) (fun _ => ?_)
      refine u_free rfl w ?_
      rw [if_neg qf, m_m1]
      exact ⟨fun z => absurd rfl z, fun _ => k3 _ _ rfl hR⟩
  · intro p2 k3
    unfold wp_X11_come
    refine s_isS hR (fun _ _ => ⟨fun z => absurd z (by decide), fun _ => ?_⟩) (fun u => by omega)
    exact s_isC hR (fun u v => by omega) (fun _ => ⟨fun _ => k3 _ _ rfl hR, fun z => absurd m_0 z⟩)
  · intro p2 k3
    unfold wp_X11_come
    exact s_isS hR (fun u v => by omega) (fun _ => ⟨fun _ => k3 _ _ rfl hR, fun z => absurd m_0 z⟩)
/-- is one there, in the reference, behind a step of the class -/
theorem u_here {C S : Int} {t : mm_M} {T : Sh} (hW : tw C S t) (e : vo t = T) (w : wf C S T) {a : Int} {post : Int → mm_M → Prop} (ha : 0 ≤ a ∧ a < 30) (hg : T.pe (7 * a + 2) ≠ -1) (k : post 1 t) : wp_X11_isHere 211 a t post := by
  unfold wp_X11_isHere
  have h12 : t 211 12 = C := by rw [hW.w.2.2.2.2.1]; exact hW.cc
  have c0 := hW.c0
  have hh := w.ho a ha.1 ha.2
  have k29 : n32 29 = 29 := rfl
  rw [h12, n32_id (x := C) (by omega) (by omega)]
  refine ⟨fun q => by omega, fun _ => s_in (fun u v => ⟨fun z => absurd z (by decide), fun _ => u_of e (by omega) ?_⟩) (fun u => by rw [n32_id (x := a) (by omega) (by omega), m_0, k29] at u; omega)⟩
  rw [n32_id (x := T.pe (7 * a + 2)) (by omega) (by omega)]
  exact ⟨fun z => absurd z hg, fun _ => k⟩
/-- promise 11 -/
theorem q_turn {s : mm_M} {a1 : Int} (hR : Rel s) (h1 : n32 a1 = a1) (post : Int → mm_M → Prop) (hp : ∀ r1 s1, Gd (wp_X11_turn 211 a1 s1) r1 → post r1 s1) : wp_X10_turn 0 a1 s post := by
  unfold wp_X10_turn
  rw [show mm_rt 0 5 = 29 from rfl]
  refine s_who hR h1 (fun b1 b2 b3 => ⟨fun z => (by cases z), fun t ht => ?_⟩) (fun b => ⟨fun _ => hp _ _ ?_, fun t ht => (by cases ht)⟩)
  · cases ht
    have pr := hR.pr b1 b2 b3
    have hW := hR.tw pr.1
    obtain ⟨r, w⟩ := hR.sh pr.1
    have ea : ((a1.toNat : Nat) : Int) = a1 := by omega
    have e0 : s (35 + a1.toNat) 0 = (vo s).pe (7 * a1 + 2) := pr.2.1
    have hh := w.ho a1 b1 b2
    rw [e0] at b3
    rw [e0, n32_id (x := (vo s).pe (7 * a1 + 2)) (by omega) (by omega)]
    refine ⟨fun q => ?_, fun q => hp _ _ ?_⟩
    · have tg := t_goOut (p := a1.toNat) (post := fun s_4 => post 1 s_4) hW r w (by omega) (by rw [ea]; exact q) (fun s1 r1 g1 => hp _ _ ?_)
      · rw [ea] at tg
        exact tg
      · intro p2 k3
        rw [ea] at r1
        have v1 : vo s1 = vo s := g1.vo
        have hW1 := hW.fC g1
        unfold wp_X11_turn
        refine u_here hW1 v1 w ⟨b1, b2⟩ b3 ⟨fun z => absurd z (by decide), fun _ => u_of v1 (by omega) ?_⟩
        rw [q]
        refine ⟨fun _ => ?_, fun z => absurd m_0 z⟩
        refine u_tur hW.c0.2 hW.s0.2 v1 w ⟨b1, b2⟩ q hW1.bo (fun t v2 g2 => ?_)
        rw [g1 211 17 rfl, g1 211 18 rfl] at v2
        exact k3 _ _ rfl (hR.shop hW.c0.1 g1 g2 r1 (w.tur b1 b2 q hW.bo) v2)
    · intro p2 k3
      unfold wp_X11_turn
      refine u_here hW rfl w ⟨b1, b2⟩ b3 ⟨fun z => absurd z (by decide), fun _ => u_of rfl (by omega) ?_⟩
      rw [n32_id (x := (vo s).pe (7 * a1 + 2)) (by omega) (by omega)]
      exact ⟨fun z => absurd z q, fun _ => k3 _ _ rfl hR⟩
  · intro p2 k3
    unfold wp_X11_turn
    refine s_here hR h1 (fun u1 u2 u3 u4 => ?_) (fun _ => ⟨fun _ => k3 _ _ rfl hR, fun z => absurd m_0 z⟩)
    exfalso
    obtain ⟨r, w⟩ := hR.sh u1
    have e0 := (r.pp a1.toNat (by omega)).1
    rw [show ((a1.toNat : Nat) : Int) = a1 by omega, show 29 + 6 + a1.toNat = 35 + a1.toNat by omega] at e0
    have e0 : s (35 + a1.toNat) 0 = s 229 (7 * a1 + 2) := e0
    omega
/-- promise 12 -/
theorem q_leave {s : mm_M} {a1 : Int} (hR : Rel s) (h1 : n32 a1 = a1) (post : Int → mm_M → Prop) (hp : ∀ r1 s1, Gd (wp_X11_leave 211 a1 s1) r1 → post r1 s1) : wp_X10_leave 0 a1 s post := by
  unfold wp_X10_leave
  rw [show mm_rt 0 5 = 29 from rfl]
  refine s_who hR h1 (fun b1 b2 b3 => ⟨fun z => (by cases z), fun t ht => ?_⟩) (fun b => ⟨fun _ => hp _ _ ?_, fun t ht => (by cases ht)⟩)
  · cases ht
    have pr := hR.pr b1 b2 b3
    have hW := hR.tw pr.1
    obtain ⟨r, w⟩ := hR.sh pr.1
    have ea : ((a1.toNat : Nat) : Int) = a1 := by omega
    have e0 : s (35 + a1.toNat) 0 = (vo s).pe (7 * a1 + 2) := pr.2.1
    rw [e0] at b3
    have tg := t_giveUp (p := a1.toNat) (post := fun s_4 => post 1 s_4) hW r w (by omega) (by rw [ea]; exact b3) (fun s1 r1 g1 => hp _ _ ?_)
    · rw [ea] at tg
      exact tg
    · intro p2 k3
      rw [ea] at r1
      have v1 : vo s1 = vo s := g1.vo
      have hW1 := hW.fC g1
      unfold wp_X11_leave
      refine u_here hW1 v1 w ⟨b1, b2⟩ b3 ⟨fun _ => ?_, fun z => absurd z (by decide)⟩
      refine u_giv hW.c0.2 hW.s0.2 v1 w ⟨b1, b2⟩ b3 (fun t v2 g2 => ?_)
      exact k3 _ _ rfl (hR.shop hW.c0.1 g1 g2 r1 (w.giv b1 b2) v2)
  · intro p2 k3
    unfold wp_X11_leave
    refine s_here hR h1 (fun u1 u2 u3 u4 => ?_) (fun _ => ⟨fun z => absurd m_0 z, fun _ => k3 _ _ rfl hR⟩)
    exfalso
    obtain ⟨r, w⟩ := hR.sh u1
    have e0 := (r.pp a1.toNat (by omega)).1
    rw [show ((a1.toNat : Nat) : Int) = a1 by omega, show 29 + 6 + a1.toNat = 35 + a1.toNat by omega] at e0
    have e0 : s (35 + a1.toNat) 0 = s 229 (7 * a1 + 2) := e0
    omega
