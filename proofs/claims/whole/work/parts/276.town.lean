theorem mo_v {x : Nat} {u : mm_M} (hx : x < 6) {post : Int → mm_M → Prop} (k : post (if x = 0 then 16 else if x = 1 then 99 else if x = 2 then 240 else if x = 5 then 2 else 9) u) : wp_X11_mostOf x u post := by
  unfold wp_X11_mostOf
  rw [n32_id (x := (x : Int)) (by omega) (by omega)]
  have : x = 0 ∨ x = 1 ∨ x = 2 ∨ x = 3 ∨ x = 4 ∨ x = 5 := by omega
  rcases this with e | e | e | e | e | e <;> subst e
  · exact ⟨fun z => absurd rfl z, fun _ => k⟩
  · exact ⟨fun _ => ⟨fun z => absurd rfl z, fun _ => k⟩, fun z => absurd z (by decide)⟩
  · exact ⟨fun _ => ⟨fun _ => ⟨fun z => absurd rfl z, fun _ => k⟩, fun z => absurd z (by decide)⟩, fun z => absurd z (by decide)⟩
  · exact ⟨fun _ => ⟨fun _ => ⟨fun _ => ⟨fun _ => k, fun z => absurd z (by decide)⟩, fun z => absurd z (by decide)⟩, fun z => absurd z (by decide)⟩, fun z => absurd z (by decide)⟩
  · exact ⟨fun _ => ⟨fun _ => ⟨fun _ => ⟨fun _ => k, fun z => absurd z (by decide)⟩, fun z => absurd z (by decide)⟩, fun z => absurd z (by decide)⟩, fun z => absurd z (by decide)⟩
  · exact ⟨fun _ => ⟨fun _ => ⟨fun _ => ⟨fun z => absurd rfl z, fun _ => k⟩, fun z => absurd z (by decide)⟩, fun z => absurd z (by decide)⟩, fun z => absurd z (by decide)⟩
set_option maxHeartbeats 4000000 in
theorem u_sort {u : mm_M} {B : Int → Int} {n : Int} {Z : Tw} (h : mT u B n Z) (ok : zok B n Z) (hS : zS Z < 5) {post : Int → mm_M → Prop} (k1 : ∀ u', faF B n (Ps B n (zS Z) (znf Z) (zj Z)) (zj Z + 1) 8 = -1 → fM u u' → mT u' B n (zj Z + 9, zC Z, zS Z + 1, zcl Z, zfe Z, zbo Z, faF B n (Ps B n (zS Z) (znf Z) (zj Z)) (zj Z + 1) 8, zcf Z, lnS B n Z, fu (znf Z) (zS Z) (stf B n (zj Z + 1))) → post 1 u') (k0 : ∀ u', faF B n (Ps B n (zS Z) (znf Z) (zj Z)) (zj Z + 1) 8 ≠ -1 → fM u u' → u' 211 4 = faF B n (Ps B n (zS Z) (znf Z) (zj Z)) (zj Z + 1) 8 → post 0 u') : wp_X11_sortLine 211 u post := by
  obtain ⟨t, tk, ⟨r6, r8, rl, rf, rb⟩, rc, rs, rn⟩ := h
  have o2 := ok.2.1
  have no := ok.2.2.2.2.2.1
  have hb := t.2.2
  have f0 : faF B n (Ps B n (zS Z) (znf Z) (zj Z)) (zj Z + 1) 0 = -1 := rfl
  intro L84 L147 L164 h84 h147 h164
  rw [r8, n32_id (x := zS Z) (by omega) (by omega)]
  refine ⟨fun _ => u_hadv t tk.2.1 (fun u1 a1 b1 tk1 => ?_), fun z => by omega⟩
  have g1 : gM u u1 := ⟨a1, fun i i1 i2 i3 i4 i5 => b1 i i1 i2 i3 i4⟩
  have t1 := g1.tx t
  have sr := st_r hb (zj Z + 1)
  have s8 : u1 211 8 = zS Z := by rw [b1 8 (by decide) (by decide) (by decide) (by decide)]; exact r8
  have s6 : u1 211 6 = zC Z := by rw [b1 6 (by decide) (by decide) (by decide) (by decide)]; exact r6
  -- k numbers are read
  have key : ∀ d x : Nat, x + d = 6 → faF B n (Ps B n (zS Z) (znf Z) (zj Z)) (zj Z + 1) (x + 1) = -1 → ∀ w, fM u w → tx2 w B n → tkM w B n (stf B n (zj Z + 1 + (x + 1))) → (∀ c : Nat, c ≠ 211 → c ≠ 214 → c ≠ 215 → w c = u c) → (w 211 6 = zC Z ∧ w 211 8 = zS Z) → w 214 = fu (u 214) (zS Z) (wvl B n (stf B n (zj Z + 1))) → w 215 = rdv (u 215) (6 * zS Z) (fun k => nmf B n (stf B n (zj Z + 1 + 1 + k))) x → L147 x w := by
    intro d
    induction d with
    | zero =>
      intro x hx fx w fw tw tkw ow w6 w14 w15
      have : x = 6 := by omega
      subst this
      apply h147
      refine ⟨fun _ s4 e4 => ?_, fun z => absurd (by decide) z⟩
      rw [w6.2] at e4
      have t4 : tx2 s4 B n := ⟨by rw [e4, up_n (by decide)]; exact tw.1, by rw [e4, up_c (by decide)]; exact tw.2.1, tw.2.2⟩
      have tk4 : tkM s4 B n (stf B n (zj Z + 1 + 7)) := by
        unfold tkM
        rw [e4, up_n (by decide), up_n (by decide), up_n (by decide), up_n (by decide)]
        exact tkw
      have f4 : fM u s4 := fw.tr ⟨fun c a b => by rw [e4, up_c a], fun i _ _ _ _ _ i8 _ => by rw [e4, up_n (by omega)]⟩
      refine u_ends t4 tk4 (fun z u' g e44 tk' => ⟨Or.inr rfl, k1 u' (faF_y fx z) (f4.tr g.f) ⟨g.tx t4, tk', ⟨?_, ?_, ?_, ?_, ?_⟩, ?_, fun i a b => ?_, fun i a b => ?_⟩⟩) (fun z => ⟨Or.inl rfl, ?_⟩)
      · rw [g.2 6 (by decide) (by decide) (by decide) (by decide) (by decide), e4, up_n (by decide)]; exact w6.1
      · rw [g.2 8 (by decide) (by decide) (by decide) (by decide) (by decide), e4, up_e]; rfl
      · rw [g.1 216 (by decide), e4, up_c (by decide), ow 216 (by decide) (by decide) (by decide)]; exact rl
      · rw [g.1 216 (by decide), e4, up_c (by decide), ow 216 (by decide) (by decide) (by decide)]; exact rf
      · rw [g.1 216 (by decide), e4, up_c (by decide), ow 216 (by decide) (by decide) (by decide)]; exact rb
      · rw [g.1 213 (by decide), e4, up_c (by decide), ow 213 (by decide) (by decide) (by decide)]; exact rc
      · have b : i < 6 * (zS Z + 1) := b
        rw [g.1 215 (by decide), e4, up_c (by decide), w15]
        exact rdv_g (f := u 215) (g := zsf Z) (b := 6 * zS Z) (v := fun k => nmf B n (stf B n (zj Z + 1 + 1 + k))) (fun i a b => rs i a b) 6 i a (by omega)
      · have b : i < zS Z + 1 := b
        rw [g.1 214 (by decide), e4, up_c (by decide), w14]
        show fu (u 214) (zS Z) (wvl B n (stf B n (zj Z + 1))) i = wvl B n (fu (znf Z) (zS Z) (stf B n (zj Z + 1)) i)
        by_cases q : i = zS Z
        · rw [q, fu_e, fu_e]
        · rw [fu_n q, fu_n q]; exact rn i a (by omega)
      · have l := faF_l (P := Ps B n (zS Z) (znf Z) (zj Z)) (m := 8) hb fx z (by omega)
        exact k0 s4 l.2 f4 (by rw [l.1]; exact tk4.1)
    | succ d ih =>
      intro x hx fx w fw tw tkw ow w6 w14 w15
      have num : ∀ lo hi : Int, (0 ≤ lo ∧ lo ≤ 1000 ∧ 0 ≤ hi ∧ hi ≤ 10000) → (Ps B n (zS Z) (znf Z) (zj Z) (x + 1) ↔ okN B n lo hi (stf B n (zj Z + 1 + (x + 1)))) → hi = (if x = 0 then 16 else if x = 1 then 99 else if x = 2 then 240 else if x = 5 then 2 else 9) → L164 x lo w := by
        intro lo hi hl hP eh
        apply h164
        refine mo_v (by omega) ?_
        rw [← eh]
        refine u_num hl tw tkw (fun z w' g e44 tk' => ⟨fun _ => ?_, fun y => absurd y (by decide)⟩) (fun z => ⟨fun y => absurd m_0 y, fun _ => ?_⟩)
        · have q8 : w' 211 8 = zS Z := by rw [g.2 8 (by decide) (by decide) (by decide) (by decide) (by decide)]; exact w6.2
          rw [q8, e44, show mm_rt 211 10 = 215 from rfl]
          refine ⟨⟨by omega, by omega⟩, fun s9 e9 v ev => ?_⟩
          rw [ev, show (x : Int) + 1 = ((x + 1 : Nat) : Int) by omega]
          refine ih (x + 1) (by omega) (faF_y fx (hP.mpr z)) s9 (fw.tr (g.f.tr ⟨fun c a b => by rw [e9, up_c (by omega)], fun i _ _ _ _ _ _ _ => by rw [e9, up_c (by decide)]⟩)) ?_ ?_ (fun c a b d => by rw [e9, up_c d, g.1 c a]; exact ow c a b d) ⟨?_, by rw [e9, up_c (by decide)]; exact q8⟩ ?_ ?_
          · have tw' := g.tx tw
            exact ⟨by rw [e9, up_c (by decide)]; exact tw'.1, by rw [e9, up_c (by decide)]; exact tw'.2.1, tw'.2.2⟩
          · unfold tkM
            rw [e9, up_c (b := 211) (by decide)]
            exact tk'
          · rw [e9, up_c (by decide), g.2 6 (by decide) (by decide) (by decide) (by decide) (by decide)]; exact w6.1
          · rw [e9, up_c (by decide), g.1 214 (by decide)]; exact w14
          · rw [e9, up_f, g.1 215 (by decide), w15, rdv, show zj Z + 1 + (x + 1) = zj Z + 1 + 1 + x by omega]
        · have l := faF_l (P := Ps B n (zS Z) (znf Z) (zj Z)) (m := 8) hb fx (fun y => z (hP.mp y)) (by omega)
          exact k0 w l.2 fw (by rw [l.1]; exact tkw.1)
      apply h147
      rw [n32_id (x := (x : Int)) (by omega) (by omega)]
      refine ⟨fun z => by omega, fun _ => ⟨fun z => ?_, fun z => ?_⟩⟩
      · have : x = 0 ∨ x = 1 ∨ x = 3 ∨ x = 4 ∨ x = 5 := by omega
        rcases this with e | e | e | e | e <;> subst e
        · exact num 0 16 (by omega) (by rfl) rfl
        · exact num 0 99 (by omega) (by rfl) rfl
        · exact num 0 9 (by omega) (by rfl) rfl
        · exact num 0 9 (by omega) (by rfl) rfl
        · exact num 0 2 (by omega) (by rfl) rfl
      · have : x = 2 := by omega
        subst this
        exact num 1 240 (by omega) (by rfl) rfl
  have bad : ¬ nOk B n (zS Z) (znf Z) (stf B n (zj Z + 1)) → post 0 u1 := by
    intro z
    have l := faF_l (P := Ps B n (zS Z) (znf Z) (zj Z)) (m := 8) hb f0 z (by omega)
    exact k0 u1 l.2 g1.f (by rw [l.1]; exact tk1.1)
  -- the names so far
  have names : ∀ d x : Nat, (x : Int) + d = zS Z → ∀ v1 : Int, n32 v1 = v1 → (v1 ≠ 0 ↔ kdf B n (stf B n (zj Z + 1)) = 1 ∧ enf B n (stf B n (zj Z + 1)) - stf B n (zj Z + 1) ≤ 8 ∧ (∀ w : Nat, w < 5 → ¬ wdP B n (stf B n (zj Z + 1)) w) ∧ ∀ k : Int, 0 ≤ k → k < x → wvl B n (znf Z k) ≠ wvl B n (stf B n (zj Z + 1))) → L84 v1 x u1 := by
    intro d
    induction d with
    | zero =>
      intro x hx v1 n1 hv
      apply h84
      rw [s8, n32_id (x := zS Z) (by omega) (by omega), n32_id (x := (x : Int)) (by omega) (by omega), n1, show mm_rt 211 9 = 214 from rfl]
      refine ⟨fun _ => ⟨fun z => ⟨⟨by omega, by omega⟩, fun s29 e29 => ?_⟩, fun z => bad (fun y => ?_)⟩, fun z => by omega⟩
      · have q := hv.mp z
        have nk : nOk B n (zS Z) (znf Z) (stf B n (zj Z + 1)) := ⟨q.1, q.2.1, q.2.2.1, fun k a b => q.2.2.2 k a (by omega)⟩
        rw [tk1.2.2.2.1 q.1] at e29
        have t29 : tx2 s29 B n := ⟨by rw [e29, up_c (by decide)]; exact t1.1, by rw [e29, up_c (by decide)]; exact t1.2.1, t1.2.2⟩
        refine u_hadv t29 (by rw [e29, up_c (by decide)]; exact tk1.2.1) (fun u2 a2 b2 tk2 => ?_)
        have g2 : gM s29 u2 := ⟨a2, fun i i1 i2 i3 i4 i5 => b2 i i1 i2 i3 i4⟩
        refine key 6 0 (by omega) (faF_y f0 nk) u2 (g1.f.tr ((show fM u1 s29 from ⟨fun c a b => by rw [e29, up_c (by omega)], fun i _ _ _ _ _ _ _ => by rw [e29, up_c (by decide)]⟩).tr g2.f)) (g2.tx t29) tk2 (fun c a b d => by rw [a2 c a, e29, up_c b]; exact a1 c a) ⟨?_, ?_⟩ ?_ ?_
        · rw [b2 6 (by decide) (by decide) (by decide) (by decide), e29, up_c (by decide)]; exact s6
        · rw [b2 8 (by decide) (by decide) (by decide) (by decide), e29, up_c (by decide)]; exact s8
        · rw [a2 214 (by decide), e29, up_f, a1 214 (by decide)]
        · rw [a2 215 (by decide), e29, up_c (by decide), a1 215 (by decide)]; rfl
      · exact hv.mpr ⟨y.1, y.2.1, y.2.2.1, fun k a b => y.2.2.2 k a (by omega)⟩ z
    | succ d ih =>
      intro x hx v1 n1 hv
      have nx := ih (x + 1) (by omega)
      rw [show ((x + 1 : Nat) : Int) = (x : Int) + 1 by omega] at nx
      apply h84
      rw [s8, n32_id (x := zS Z) (by omega) (by omega), n32_id (x := (x : Int)) (by omega) (by omega), n1, show mm_rt 211 9 = 214 from rfl]
      refine ⟨fun z => by omega, fun _ => ⟨fun z v ev => ?_, fun z => ⟨⟨by omega, by omega⟩, ?_⟩⟩⟩
      · rw [ev]
        refine nx 0 rfl ⟨fun y => absurd rfl y, fun y => absurd z (hv.mpr ⟨y.1, y.2.1, y.2.2.1, fun k a b => y.2.2.2 k a (by omega)⟩)⟩
      · have q := hv.mp z
        have w1 := wv_r q.1 ⟨sr.1, sr.2.1⟩
        have nk := no x (by omega) (by omega)
        have w2 := wv_r nk.1 nk.2.1
        rw [a1 214 (by decide), rn x (by omega) (by omega), tk1.2.2.2.1 q.1, n64_id (x := wvl B n (stf B n (zj Z + 1))) (by omega) (by omega), n64_id (x := wvl B n (znf Z x)) (by omega) (by omega)]
        refine ⟨fun y v ev => ?_, fun y v ev => ?_⟩
        · rw [ev]
          exact nx 0 rfl ⟨fun w => absurd rfl w, fun w => absurd y (w.2.2.2 x (by omega) (by omega))⟩
        · rw [ev]
          refine nx 1 rfl ⟨fun _ => ⟨q.1, q.2.1, q.2.2.1, fun k a b => ?_⟩, fun _ => by decide⟩
          by_cases e : k = x
          · rw [e]; exact y
          · exact q.2.2.2 k a (by omega)
  have l0 : ¬ (kdf B n (stf B n (zj Z + 1)) = 1 ∧ enf B n (stf B n (zj Z + 1)) - stf B n (zj Z + 1) ≤ 8 ∧ (∀ w : Nat, w < 5 → ¬ wdP B n (stf B n (zj Z + 1)) w)) → L84 0 0 u1 := fun z => names (zS Z).toNat 0 (by omega) 0 rfl ⟨fun y => absurd rfl y, fun y => absurd ⟨y.1, y.2.1, y.2.2.1⟩ z⟩
  have kr := km_r (B := B) (n := n) (p := stf B n (zj Z + 1))
  have km1 : kmf B n (stf B n (zj Z + 1)) = 1 ↔ kdf B n (stf B n (zj Z + 1)) = 1 := by
    unfold kmf
    by_cases z : kdf B n (stf B n (zj Z + 1)) ≤ 2
    · rw [if_pos z]
    · rw [if_neg z]
      split <;> omega
  rw [tk1.2.2.1, n32_id (x := kmf B n (stf B n (zj Z + 1))) (by omega) (by omega)]
  refine ⟨fun z => l0 (fun y => z (km1.mpr y.1)), fun z => ?_⟩
  have k1' := km1.mp z
  have wr := wv_r k1' ⟨sr.1, sr.2.1⟩
  rw [tk1.2.2.2.1 k1', n64_id (x := wvl B n (stf B n (zj Z + 1))) (by omega) (by omega), show n64 0 = 0 by decide]
  refine ⟨fun y => l0 (fun w => by have := wr.2.2.mp y; have := w.2.1; omega), fun y => ?_⟩
  have len : enf B n (stf B n (zj Z + 1)) - stf B n (zj Z + 1) ≤ 8 := by
    by_cases q : enf B n (stf B n (zj Z + 1)) - stf B n (zj Z + 1) ≤ 8
    · exact q
    · exact absurd (wr.2.2.mpr (by omega)) y
  refine u_wd (w := 0) (by decide) t1 tk1 (fun w => ⟨fun _ => l0 (fun q => q.2.2 0 (by decide) w), fun q => absurd q (by decide)⟩) (fun w0 => ⟨fun q => absurd m_0 q, fun _ => ?_⟩)
  refine u_wd (w := 1) (by decide) t1 tk1 (fun w => ⟨fun _ => l0 (fun q => q.2.2 1 (by decide) w), fun q => absurd q (by decide)⟩) (fun w1 => ⟨fun q => absurd m_0 q, fun _ => ?_⟩)
  refine u_wd (w := 2) (by decide) t1 tk1 (fun w => ⟨fun _ => l0 (fun q => q.2.2 2 (by decide) w), fun q => absurd q (by decide)⟩) (fun w2 => ⟨fun q => absurd m_0 q, fun _ => ?_⟩)
  refine u_wd (w := 3) (by decide) t1 tk1 (fun w => ⟨fun _ => l0 (fun q => q.2.2 3 (by decide) w), fun q => absurd q (by decide)⟩) (fun w3 => ⟨fun q => absurd m_0 q, fun _ => ?_⟩)
  refine u_wd (w := 4) (by decide) t1 tk1 (fun w => ⟨fun _ => l0 (fun q => q.2.2 4 (by decide) w), fun q => absurd q (by decide)⟩) (fun w4 => ⟨fun q => absurd m_0 q, fun _ => ?_⟩)
  refine names (zS Z).toNat 0 (by omega) 1 rfl ⟨fun _ => ⟨k1', len, fun w hw => ?_, fun k a b => by omega⟩, fun _ => by decide⟩
  have : w = 0 ∨ w = 1 ∨ w = 2 ∨ w = 3 ∨ w = 4 := by omega
  rcases this with e | e | e | e | e <;> subst e
  · exact w0
  · exact w1
  · exact w2
  · exact w3
  · exact w4
