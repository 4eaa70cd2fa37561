def opc (k : Int) : Int := if k = 43 then 2 else if k = 45 then 3 else if k = 42 then 4 else if k = 60 then 5 else if k = 61 then 6 else -1
set_option maxHeartbeats 4000000 in
/-- the reference reads a sum -/
theorem u_sumH {u : mm_M} {B : Int → Int} {n : Int} {j m : Nat} {g : Int → Int} (t : tx2 u B n) (tk : tkM u B n (stf B n j)) (hm : u 211 20 = m) (hj : m ≤ j ∧ j ≤ 500) (hc : ∀ k : Int, 0 ≤ k → k < m → r_c (g k) (u 219 (2 * k)) (u 219 (2 * k + 1))) {post : Int → mm_M → Prop}
    (k1 : pf (lwS B n j m g) = -1 → ∀ u', uS u u' B n (pj (lwS B n j m g)) (pm (lwS B n j m g)) (pg (lwS B n j m g)) [] → post 1 u')
    (k2 : pf (lwS B n j m g) = -1 → kdf B n (stf B n (pj (lwS B n j m g))) ≠ 59 → bad u B n post (stf B n (pj (lwS B n j m g))))
    (k0 : pf (lwS B n j m g) ≠ -1 → bad u B n post (pf (lwS B n j m g))) : wp_X11_sumHere 211 u post := by
  have hb := t.2.2
  intro L9 L13 L57 L95 L162 L179 L201 L211 L231 L245 h9 h13 h57 h95 h162 h179 h201 h211 h231 h245 s0 e0
  have rB' : ruB u B n L13 := by
    intro d w j m g T d0 d1 hw hk kk
    have := tok_lt hb (j := j) (by omega)
    apply h13
    refine u_sign (c := 40) (Or.inl rfl) hw.2.1 hw.2.2.1 (fun _ => ⟨fun q => absurd q (by decide), fun _ => ⟨fun _ v ev => ?_, fun q => ?_⟩⟩) (fun z => absurd hk z)
    · rw [ev, show mm_rt 211 47 = 238 from rfl]
      refine ⟨⟨by omega, by omega⟩, fun s11 e11 => ?_⟩
      rw [e11]
      refine v_push (Or.inl rfl) hw.k.cm ((show smT w (mm_up w 238 (d + 1) 0) from fun i _ _ => by rw [up_c (by decide)]).tk hw.2.2.1) ⟨hw.2.2.2.2.2.2.1.1, this⟩ (fun u' h' f' => kk u' h' (fun i hi => ?_) ?_)
      · rw [f', up_n (Or.inr (by omega))]
      · rw [f', up_e]
    · rw [n32_id (x := d) (by omega) (by omega)] at q; omega
  have rN : ruN u B n L13 L57 := by
    intro d w j m g T d0 d1 hw hk kk
    have ir := nmI_r (B := B) (n := n) (p := stf B n j)
    have k1' := ir.2.2 hk
    have tl := tok_lt hb (j := j) (by omega)
    have sr := st_r hb j
    have bd := hw.2.2.2.2.2.2.1
    apply h13
    refine u_sign (c := 40) (Or.inl rfl) hw.2.1 hw.2.2.1 (fun z => by omega) (fun z => ⟨fun _ => ?_, fun q => absurd m_0 q⟩)
    unfold wp_X11_factor
    have kr := km_r (B := B) (n := n) (p := stf B n j)
    rw [hw.2.2.1.2.2.1, n32_id (x := kmf B n (stf B n j)) (by omega) (by omega)]
    refine ⟨fun _ => v_name ⟨sr.1, sr.2.1⟩ hb.1.2 hw.2.2.1 (fun v ev => ?_), fun q => by rw [km_2] at q; omega⟩
    rw [ev, n32_id (x := nmI B n (stf B n j)) (by omega) (by omega)]
    refine ⟨fun _ => v_lays hw.k (by omega) (Or.inr (Or.inl ⟨rfl, rfl, by omega, by omega⟩)) (fun u1 h1 f1 g1 => v_leads h1 (f1.tk hw.2.2.1) ⟨by omega, tl⟩ (fun u2 h2 g2 => ⟨fun _ => kk u2 h2 (fun i _ => by rw [g2, g1]), fun q => absurd q (by decide)⟩)), fun q => absurd q hk⟩
  have rI : ruI u B n L13 L57 := by
    intro d w j m g T d0 d1 hw hk kk
    have nr := nmf_r (B := B) (n := n) (p := stf B n j)
    have tl := tok_lt hb (j := j) (by omega)
    have bd := hw.2.2.2.2.2.2.1
    apply h13
    refine u_sign (c := 40) (Or.inl rfl) hw.2.1 hw.2.2.1 (fun z => by omega) (fun z => ⟨fun _ => ?_, fun q => absurd m_0 q⟩)
    unfold wp_X11_factor
    have kr := km_r (B := B) (n := n) (p := stf B n j)
    rw [hw.2.2.1.2.2.1, n32_id (x := kmf B n (stf B n j)) (by omega) (by omega)]
    refine ⟨fun q => absurd (km_2.2 hk.1) q, fun _ => u_num (by omega) hw.2.1 hw.2.2.1 (fun _ u1 g1 e1 t1 => ⟨fun _ => ?_, fun q => absurd q (by decide)⟩) (fun q => absurd ⟨hk.1, nr.1, hk.2⟩ q)⟩
    have k1' : uK u u1 B n m g T := by
      obtain ⟨a, b, c, d, e, f⟩ := hw.k
      exact ⟨⟨fun x p q r w => by rw [g1.1 x p]; exact a.1 x p q r w, fun i p q r w x y z => by rw [g1.2 i p q r w y]; exact a.2 i p q r w x y z⟩, g1.tx b, by rw [g1.2 20 (by decide) (by decide) (by decide) (by decide) (by decide)]; exact c, by rw [g1.2 46 (by decide) (by decide) (by decide) (by decide) (by decide)]; exact d, skk_c T (fun i _ _ => by rw [g1.1 237 (by decide)]) e, by rw [g1.1 219 (by decide)]; exact f⟩
    rw [e1]
    refine v_lays (x := nmf B n (stf B n j)) k1' (by omega) (Or.inl ⟨rfl, rfl, nr.1, hk.2⟩) (fun u2 h2 f2 g2 => ⟨fun _ => kk u2 (h2.s (f2.tk t1) ⟨by omega, by omega⟩) (fun i _ => by rw [g2, g1.1 238 (by decide)]), fun q => absurd q (by decide)⟩)
  have rX : ruX u B n L13 post := by
    intro d w j m g T d0 d1 hw q1 q2 q3 kk
    have sr := st_r hb j
    apply h13
    refine u_sign (c := 40) (Or.inl rfl) hw.2.1 hw.2.2.1 (fun z => ⟨fun q => absurd q (by decide), fun _ => ⟨fun q => ?_, fun _ => kk⟩⟩) (fun z => ⟨fun _ => ?_, fun q => absurd m_0 q⟩)
    · rw [n32_id (x := d) (by omega) (by omega)] at q
      exact absurd ⟨z, by omega⟩ q3
    · unfold wp_X11_factor
      have kr := km_r (B := B) (n := n) (p := stf B n j)
      rw [hw.2.2.1.2.2.1, n32_id (x := kmf B n (stf B n j)) (by omega) (by omega)]
      refine ⟨fun _ => v_name ⟨sr.1, sr.2.1⟩ hb.1.2 hw.2.2.1 (fun v ev => ?_), fun q => u_num (by omega) hw.2.1 hw.2.2.1 (fun y => absurd ⟨y.1, y.2.2⟩ q2) (fun _ => ⟨fun q => absurd m_0 q, fun _ => ⟨fun q => absurd m_0 q, fun _ => kk⟩⟩)⟩
      have ir := nmI_r (B := B) (n := n) (p := stf B n j)
      rw [ev, n32_id (x := nmI B n (stf B n j)) (by omega) (by omega)]
      exact ⟨fun q => absurd q q1, fun _ => ⟨fun q => absurd m_0 q, fun _ => kk⟩⟩
  -- behind a factor, to the sign's number
  have c162 : ∀ d w j m g T, 0 ≤ d → d ≤ 8 → uS u w B n j m g T → (kdf B n (stf B n j) ≠ 41 ∨ d = 0) → L162 d (opc (kdf B n (stf B n j))) w → L57 d w := by
    intro d w j m g T d0 d1 hw hk kk
    have l95 : L95 d w := by
      apply h95
      unfold opc at kk
      refine u_sign (c := 43) (by unfold isS; omega) hw.2.1 hw.2.2.1 (fun z => ⟨fun q => absurd q (by decide), fun _ => by rw [if_pos z] at kk; exact kk⟩) (fun z => ⟨fun _ => ?_, fun q => absurd m_0 q⟩)
      rw [if_neg z] at kk
      refine u_sign (c := 45) (by unfold isS; omega) hw.2.1 hw.2.2.1 (fun z => ⟨fun q => absurd q (by decide), fun _ => by rw [if_pos z] at kk; exact kk⟩) (fun z => ⟨fun _ => ?_, fun q => absurd m_0 q⟩)
      rw [if_neg z] at kk
      refine u_sign (c := 42) (by unfold isS; omega) hw.2.1 hw.2.2.1 (fun z => ⟨fun q => absurd q (by decide), fun _ => by rw [if_pos z] at kk; exact kk⟩) (fun z => ⟨fun _ => ?_, fun q => absurd m_0 q⟩)
      rw [if_neg z] at kk
      refine u_sign (c := 60) (by unfold isS; omega) hw.2.1 hw.2.2.1 (fun z => ⟨fun q => absurd q (by decide), fun _ => by rw [if_pos z] at kk; exact kk⟩) (fun z => ⟨fun _ => ?_, fun q => absurd m_0 q⟩)
      rw [if_neg z] at kk
      refine u_sign (c := 61) (by unfold isS; omega) hw.2.1 hw.2.2.1 (fun z => ⟨fun q => absurd q (by decide), fun _ => by rw [if_pos z] at kk; exact kk⟩) (fun z => ⟨fun _ => ?_, fun q => absurd m_0 q⟩)
      rw [if_neg z] at kk
      exact kk
    apply h57
    refine u_sign (c := 41) (by unfold isS; omega) hw.2.1 hw.2.2.1 (fun z => ⟨fun q => absurd q (by decide), fun _ => ⟨fun _ => l95, fun q => ?_⟩⟩) (fun z => ⟨fun _ => l95, fun q => absurd m_0 q⟩)
    rw [n32_id (x := d) (by omega) (by omega)] at q
    omega
  -- the sign is laid to wait
  have c245 : ∀ d w j m g T T' (x : Nat × (Int → Int)) o a, uS u w B n j m g T → j < 500 → 2 ≤ o ∧ o ≤ 6 → 0 ≤ a ∧ a ≤ 2 → eml a T (m, g) = (T', x) → (∀ u', uS u u' B n (j + 1) x.1 x.2 (o :: T') → u' 238 = w 238 → L13 d u') → L245 d 1 o a w := by
    intro d w j m g T T' x o a hw hj5 ho ha he kk
    have bd := hw.2.2.2.2.2.2.1
    have el := eml_l (a := a) T (m, g)
    rw [he] at el
    have el : x.1 + T'.length = m + T.length := el
    apply h245
    refine v_emp ha hw.k (by omega) he (fun u1 h1 f1 g1 => v_push (Or.inr ho) h1 (f1.tk hw.2.2.1) ⟨by omega, hj5⟩ (fun u2 h2 g2 => ?_))
    apply h9
    exact ⟨fun q => absurd q (by decide), fun _ => kk u2 h2 (by rw [g2, g1])⟩
  have rC' : ruC u B n L57 := by
    intro d w j m g T T' x d0 d1 hw hk he kk
    have tl := tok_lt hb (j := j) (by omega)
    have bd := hw.2.2.2.2.2.2.1
    have el := eml_l (a := 0) T (m, g)
    rw [he] at el
    have el : x.1 + (-1 :: T').length = m + T.length := el
    rw [List.length_cons] at el
    apply h57
    refine u_sign (c := 41) (by unfold isS; omega) hw.2.1 hw.2.2.1 (fun z => ⟨fun q => absurd q (by decide), fun _ => ⟨fun q => ?_, fun _ => ?_⟩⟩) (fun z => absurd hk z)
    · rw [n32_id (x := d + 1) (by omega) (by omega)] at q
      omega
    · refine v_emp (by omega) hw.k (by omega) he (fun u1 h1 f1 g1 s18 e18 v ev => ?_)
      have c := h1.2.2.2.1
      rw [List.length_cons] at c
      rw [c] at e18
      have o2 : ∀ i : Int, i ≠ 46 → s18 211 i = u1 211 i := fun i p => by rw [e18, up_n (Or.inr p)]
      have o1 : ∀ c : Nat, c ≠ 211 → s18 c = u1 c := fun c p => by rw [e18, up_c p]
      have hk18 : uK u s18 B n x.1 x.2 T' := ⟨⟨fun x p q r w => by rw [o1 x p]; exact h1.1.1 x p q r w, fun i p q r w x y z => by rw [o2 i z]; exact h1.1.2 i p q r w x y z⟩, ⟨by rw [o2 1 (by decide)]; exact h1.2.1.1, by rw [o1 212 (by decide)]; exact h1.2.1.2.1, h1.2.1.2.2⟩, by rw [o2 20 (by decide)]; exact h1.2.2.1, by rw [e18, up_e]; omega, skk_c T' (fun i _ _ => by rw [o1 237 (by decide)]) h1.2.2.2.2.1.2.2, by rw [o1 219 (by decide)]; exact h1.2.2.2.2.2⟩
      rw [ev, show d + 1 + (-1) = d by omega]
      exact v_leads hk18 ((f1.tr (show smT u1 s18 from fun i p q => o2 i (by omega))).tk hw.2.2.1) ⟨by omega, tl⟩ (fun u2 h2 g2 => kk u2 h2 (fun i _ => by rw [g2, o1 238 (by decide), g1]))
  have rO : ruO u B n L13 L57 := by
    intro d w j m g T T' x o d0 d1 hw ho he kk
    have tl := tok_lt hb (j := j) (by omega)
    have oe : opc (kdf B n (stf B n j)) = o := by rcases ho with q | q | q <;> rw [q.1, q.2] <;> rfl
    have rr := rk_r (o := o)
    have no : n32 o = o := n32_id (by omega) (by omega)
    refine c162 d w j m g T d0 d1 hw (by omega) ?_
    rw [oe]
    apply h162
    intro v ev
    rw [ev, no]
    have l231 : L231 d 1 o 0 w := by
      apply h231
      refine ⟨fun _ => v_rank (by omega) ?_, fun q => absurd m_0 q⟩
      exact c245 d w j m g T T' x o (rkf o) hw tl (by omega) rr he (fun u' h' g' => kk u' h' (fun i _ => by rw [g']))
    have l179 : L179 d o 0 w := by
      apply h179
      intro v4 e4
      rw [e4]
      refine ⟨fun _ => ?_, fun q => absurd m_0 q⟩
      apply h201
      rw [no]
      refine ⟨fun q => by omega, fun _ => ?_⟩
      apply h211
      intro v2 e2
      rw [e2]
      exact ⟨fun _ => ⟨fun _ => l231, fun q => absurd m_0 q⟩, fun q => absurd q (by decide)⟩
    exact ⟨fun q => by omega, fun _ => ⟨fun _ => l179, fun q => by omega⟩⟩
  have rQ : ruQ u B n L13 L57 := by
    intro d w j m g T T' x o d0 d1 hw ho hz he kk
    have tl := tok_lt hb (j := j) (by omega)
    have oe : opc (kdf B n (stf B n j)) = o := by rcases ho with q | q <;> rw [q.1, q.2] <;> rfl
    have no : n32 o = o := n32_id (by omega) (by omega)
    have nd : n32 d = d := n32_id (by omega) (by omega)
    refine c162 d w j m g T (by omega) d1 hw (by omega) ?_
    rw [oe]
    apply h162
    intro v ev
    rw [ev, no]
    have l231 : L231 d 1 o 1 (mm_up w 238 d 1) := by
      apply h231
      refine ⟨fun q => absurd q (by decide), fun _ => ?_⟩
      refine c245 d (mm_up w 238 d 1) j m g T T' x o 1 (hw.k.cm.s ((show smT w (mm_up w 238 d 1) from fun i _ _ => by rw [up_c (by decide)]).tk hw.2.2.1) hw.2.2.2.2.2.2.1) tl (by omega) (by omega) he (fun u' h' g' => kk u' h' (fun i hi => ?_) ?_)
      · rw [g', up_n (Or.inr (by omega))]
      · rw [g', up_e]
    have l179 : L179 d o 1 w := by
      apply h179
      intro v4 e4
      rw [e4, nd, show mm_rt 211 47 = 238 from rfl, hz]
      refine ⟨fun q => absurd q (by decide), fun _ => ⟨fun q => by omega, fun _ => ⟨⟨by omega, by omega⟩, fun _ => ?_, fun q => absurd m_0 q⟩⟩⟩
      apply h201
      rw [no]
      refine ⟨fun q => by omega, fun _ => ?_⟩
      apply h211
      intro v2 e2
      rw [e2, show mm_rt 211 47 = 238 from rfl]
      exact ⟨fun _ => ⟨fun q => absurd q (by decide), fun _ => ⟨⟨by omega, by omega⟩, fun s35 e35 => by rw [e35]; exact l231⟩⟩, fun q => absurd q (by decide)⟩
    exact ⟨fun _ => l179, fun q => ⟨fun q2 => by omega, fun _ => l179⟩⟩
  have rR : ruR u B n L57 post := by
    intro d w j m g T d0 d1 hw ho hz kk
    have nd : n32 d = d := n32_id (by omega) (by omega)
    refine c162 d w j m g T d0 d1 hw (by omega) ?_
    have l179 : ∀ o, L179 d o 1 w := by
      intro o
      apply h179
      intro v4 e4
      rw [e4, nd, show mm_rt 211 47 = 238 from rfl]
      refine ⟨fun q => absurd q (by decide), fun _ => ⟨fun _ => kk, fun q => ⟨⟨by omega, by omega⟩, fun y => ?_, fun _ => kk⟩⟩⟩
      rcases hz with z | z
      · exact absurd z q
      · rw [z] at y
        exact absurd y (by decide)
    apply h162
    intro v ev
    have e56 : v = 5 ∨ v = 6 := by
      rw [ev]
      rcases ho with q | q <;> rw [q]
      · left; rfl
      · right; rfl
    rcases e56 with e | e <;> rw [e]
    · exact ⟨fun _ => l179 5, fun q => absurd (by decide) q⟩
    · exact ⟨fun _ => l179 6, fun q => ⟨fun q2 => absurd (by decide) q2, fun _ => l179 6⟩⟩
  have c9 : ∀ d w, L9 d 0 w → L162 d (-1) w := by
    intro d w kk
    apply h162
    intro v ev
    rw [ev]
    refine ⟨fun q => absurd q (by decide), fun _ => ⟨fun _ => ?_, fun q => absurd q (by decide)⟩⟩
    apply h179
    intro v4 e4
    rw [e4]
    refine ⟨fun _ => ?_, fun q => absurd m_0 q⟩
    apply h201
    refine ⟨fun _ => ?_, fun q => absurd (by decide) q⟩
    apply h211
    intro v2 e2
    rw [e2]
    exact ⟨fun q => absurd m_0 q, fun _ => kk⟩
  have o1' : ∀ k : Int, noS k → k ≠ 60 → k ≠ 61 → opc k = -1 := by
    intro k h1 h2 h3
    unfold opc
    rw [if_neg h1.2.1, if_neg h1.2.2, if_neg h1.1, if_neg h2, if_neg h3]
  have rE' : ruE u B n L57 post := by
    intro d w j m g T d0 d1 hw hn h41 h60 h61 kk
    refine c162 d w j m g T (by omega) d1 hw (Or.inl h41) ?_
    rw [o1' _ hn h60 h61]
    refine c9 d w ?_
    apply h9
    rw [n32_id (x := d) (by omega) (by omega)]
    exact ⟨fun _ => ⟨fun q => by omega, fun _ => kk⟩, fun q => absurd m_0 q⟩
  have rZ : ruZ u B n L57 post := by
    intro w j m g T T' x hw hn h60 h61 he kk
    have bd := hw.2.2.2.2.2.2.1
    have el := eml_l (a := 0) T (m, g)
    rw [he] at el
    have el : x.1 + T'.length = m + T.length := el
    refine c162 0 w j m g T (by omega) (by omega) hw (Or.inr rfl) ?_
    rw [o1' _ hn h60 h61]
    refine c9 0 w ?_
    apply h9
    refine ⟨fun _ => ⟨fun _ => v_emp (by omega) hw.k (by omega) he (fun u1 h1 f1 _ => kk u1 (h1.s (f1.tk hw.2.2.1) ⟨by omega, bd.2⟩)), fun q => absurd (by decide) q⟩, fun q => absurd m_0 q⟩
  apply h9
  refine ⟨fun q => absurd q (by decide), fun _ => ?_⟩
  refine v_all hb rB' rN rI rX rC' rO rQ rR rE' rZ (j := j) (m := m) (g := g) ?_ k1 k2 k0
  subst e0
  refine ⟨⟨fun c p _ _ _ => up_c p, fun i _ _ _ _ _ _ z => up_n (Or.inr z)⟩, ⟨by rw [up_n (by decide)]; exact t.1, by rw [up_c (by decide)]; exact t.2.1, hb⟩, (show smT u (mm_up u 211 46 0) from fun i _ _ => up_n (Or.inr (by omega))).tk tk, by rw [up_n (by decide)]; exact hm, by rw [up_e]; rfl, trivial, ⟨hj.1, hj.2⟩, ?_⟩
  rw [up_c (by decide)]
  exact hc
