theorem u_line {u : mm_M} {B : Int → Int} {n : Int} {Z : Tw} (h : mT u B n Z) (z1 : zfa Z = -1) (zk : kdf B n (stf B n (zj Z)) ≠ 0) (ok : zok B n Z) {post : Int → mm_M → Prop} (k1 : zfa (tli B n Z) = -1 → ∀ u', fM u u' → mT u' B n (tli B n Z) → post 1 u') (k0 : zfa (tli B n Z) ≠ -1 → ∀ u', fM u u' → u' 211 4 = zfa (tli B n Z) → post 0 u') : wp_X11_townLine 211 u post := by
  have h' := h
  obtain ⟨t, tk, ⟨r6, r8, rl, rf, rb⟩, rc, rs, rn⟩ := h'
  have ok' := ok
  obtain ⟨o1, o2, o3, o4, o5, o6, o7, o8⟩ := ok'
  have hb := t.2.2
  have sr := st_r hb (zj Z)
  have n0 : ¬ (zfa Z ≠ -1 ∨ kdf B n (stf B n (zj Z)) = 0) := fun y => by rcases y with y | y; exact y z1; exact zk y
  have un : ∀ a b : Nat, a < 5 → b < 5 → a ≠ b → wdP B n (stf B n (zj Z)) a → ¬ wdP B n (stf B n (zj Z)) b := fun a b ha hb' ne h1 h2 => ne (wd_u ha hb' h1 h2)
  have bad : ¬ (wdP B n (stf B n (zj Z)) 0 ∧ zC Z < 3) → ¬ (wdP B n (stf B n (zj Z)) 1 ∧ zS Z < 5) → ¬ (wdP B n (stf B n (zj Z)) 2 ∧ zcl Z = -1) → ¬ (wdP B n (stf B n (zj Z)) 3 ∧ zfe Z = -1) → ¬ (wdP B n (stf B n (zj Z)) 4 ∧ zbo Z = -1) → post 0 u := by
    intro q1 q2 q3 q4 q5
    have e : tli B n Z = (zj Z, zC Z, zS Z, zcl Z, zfe Z, zbo Z, stf B n (zj Z), zcf Z, zsf Z, znf Z) := by
      unfold tli
      rw [cif_n n0, cif_n q1, cif_n q2, cif_n q3, cif_n q4, cif_n q5]
    rw [e] at k0
    exact k0 (by show stf B n (zj Z) ≠ -1; omega) u fM.rf tk.1
  unfold wp_X11_townLine
  refine u_wd (w := 0) (by decide) t tk (fun w => ⟨fun y => absurd y (by decide), fun _ => ?_⟩) (fun w0 => ⟨fun _ => ?_, fun y => absurd m_0 y⟩)
  · by_cases q : zC Z < 3
    · have e : tli B n Z = (zj Z + 5, zC Z + 1, zS Z, zcl Z, zfe Z, zbo Z, faF B n (Pc B n (zj Z)) (zj Z + 1) 4, lnC B n Z, zsf Z, znf Z) := by
        unfold tli
        rw [cif_n n0, cif_p ⟨w, q⟩]
      rw [e] at k1 k0
      exact u_counter h ok w q (fun u' a b c => ⟨Or.inr rfl, k1 a u' b c⟩) (fun u' a b c => ⟨Or.inl rfl, k0 a u' b c⟩)
    · intro L16 L32 L53 h16 h32 h53
      rw [r6, n32_id (x := zC Z) (by omega) (by omega)]
      exact ⟨fun z => by omega, fun _ => ⟨Or.inl rfl, bad (fun y => q y.2) (fun y => un 0 1 (by decide) (by decide) (by decide) w y.1) (fun y => un 0 2 (by decide) (by decide) (by decide) w y.1) (fun y => un 0 3 (by decide) (by decide) (by decide) w y.1) (fun y => un 0 4 (by decide) (by decide) (by decide) w y.1)⟩⟩
  refine u_wd (w := 1) (by decide) t tk (fun w => ⟨fun y => absurd y (by decide), fun _ => ?_⟩) (fun w1 => ⟨fun _ => ?_, fun y => absurd m_0 y⟩)
  · by_cases q : zS Z < 5
    · have e : tli B n Z = (zj Z + 9, zC Z, zS Z + 1, zcl Z, zfe Z, zbo Z, faF B n (Ps B n (zS Z) (znf Z) (zj Z)) (zj Z + 1) 8, zcf Z, lnS B n Z, fu (znf Z) (zS Z) (stf B n (zj Z + 1))) := by
        unfold tli
        rw [cif_n n0, cif_n (fun y => w0 y.1), cif_p ⟨w, q⟩]
      rw [e] at k1 k0
      exact u_sort h ok q (fun u' a b c => ⟨Or.inr rfl, k1 a u' b c⟩) (fun u' a b c => ⟨Or.inl rfl, k0 a u' b c⟩)
    · intro L84 L147 L164 h84 h147 h164
      rw [r8, n32_id (x := zS Z) (by omega) (by omega)]
      exact ⟨fun z => by omega, fun _ => ⟨Or.inl rfl, bad (fun y => w0 y.1) (fun y => q y.2) (fun y => un 1 2 (by decide) (by decide) (by decide) w y.1) (fun y => un 1 3 (by decide) (by decide) (by decide) w y.1) (fun y => un 1 4 (by decide) (by decide) (by decide) w y.1)⟩⟩
  refine u_wd (w := 2) (by decide) t tk (fun w => ⟨fun y => absurd y (by decide), fun _ => ?_⟩) (fun w2 => ⟨fun _ => ?_, fun y => absurd m_0 y⟩)
  · refine u_once (Z := Z) (j := zj Z) (by omega) (by omega) t tk (by rw [rl]; omega) (fun z u' a b c d e f g => ⟨Or.inr rfl, ?_⟩) (fun z u' a c d => ⟨Or.inl rfl, ?_⟩) (fun z => ⟨Or.inl rfl, bad (fun y => w0 y.1) (fun y => w1 y.1) (fun y => z (by rw [rl]; exact y.2)) (fun y => un 2 3 (by decide) (by decide) (by decide) w y.1) (fun y => un 2 4 (by decide) (by decide) (by decide) w y.1)⟩)
    · rw [rl] at z
      have e' : tli B n Z = (zj Z + 3, zC Z, zS Z, nmf B n (stf B n (zj Z + 1 + 0)), zfe Z, zbo Z, faF B n (Po B n 10 240 (zj Z)) (zj Z + 1) 2, zcf Z, zsf Z, znf Z) := by
        unfold tli
        rw [cif_n n0, cif_n (fun y => w0 y.1), cif_n (fun y => w1 y.1), cif_p ⟨w, z⟩]
      rw [e'] at k1
      refine k1 a u' c ⟨d, e, ⟨?_, ?_, ?_, ?_, ?_⟩, ?_, ?_, ?_⟩
      · rw [g 6 (by decide) (by decide) (by decide) (by decide) (by decide)]; exact r6
      · rw [g 8 (by decide) (by decide) (by decide) (by decide) (by decide)]; exact r8
      · rw [f, fu_e]; rfl
      · rw [f, fu_n (by decide)]; exact rf
      · rw [f, fu_n (by decide)]; exact rb
      · rw [b 213 (by decide) (by decide)]; exact rc
      · rw [b 215 (by decide) (by decide)]; exact rs
      · rw [b 214 (by decide) (by decide)]; exact rn
    · rw [rl] at z
      have e' : tli B n Z = (zj Z + 3, zC Z, zS Z, nmf B n (stf B n (zj Z + 1 + 0)), zfe Z, zbo Z, faF B n (Po B n 10 240 (zj Z)) (zj Z + 1) 2, zcf Z, zsf Z, znf Z) := by
        unfold tli
        rw [cif_n n0, cif_n (fun y => w0 y.1), cif_n (fun y => w1 y.1), cif_p ⟨w, z⟩]
      rw [e'] at k0
      exact k0 a u' c d
  refine u_wd (w := 3) (by decide) t tk (fun w => ⟨fun y => absurd y (by decide), fun _ => ?_⟩) (fun w3 => ⟨fun _ => ?_, fun y => absurd m_0 y⟩)
  · refine u_once (Z := Z) (j := zj Z) (by omega) (by omega) t tk (by rw [rf]; omega) (fun z u' a b c d e f g => ⟨Or.inr rfl, ?_⟩) (fun z u' a c d => ⟨Or.inl rfl, ?_⟩) (fun z => ⟨Or.inl rfl, bad (fun y => w0 y.1) (fun y => w1 y.1) (fun y => w2 y.1) (fun y => z (by rw [rf]; exact y.2)) (fun y => un 3 4 (by decide) (by decide) (by decide) w y.1)⟩)
    · rw [rf] at z
      have e' : tli B n Z = (zj Z + 3, zC Z, zS Z, zcl Z, nmf B n (stf B n (zj Z + 1 + 0)), zbo Z, faF B n (Po B n 0 99 (zj Z)) (zj Z + 1) 2, zcf Z, zsf Z, znf Z) := by
        unfold tli
        rw [cif_n n0, cif_n (fun y => w0 y.1), cif_n (fun y => w1 y.1), cif_n (fun y => w2 y.1), cif_p ⟨w, z⟩]
      rw [e'] at k1
      refine k1 a u' c ⟨d, e, ⟨?_, ?_, ?_, ?_, ?_⟩, ?_, ?_, ?_⟩
      · rw [g 6 (by decide) (by decide) (by decide) (by decide) (by decide)]; exact r6
      · rw [g 8 (by decide) (by decide) (by decide) (by decide) (by decide)]; exact r8
      · rw [f, fu_n (by decide)]; exact rl
      · rw [f, fu_e]; rfl
      · rw [f, fu_n (by decide)]; exact rb
      · rw [b 213 (by decide) (by decide)]; exact rc
      · rw [b 215 (by decide) (by decide)]; exact rs
      · rw [b 214 (by decide) (by decide)]; exact rn
    · rw [rf] at z
      have e' : tli B n Z = (zj Z + 3, zC Z, zS Z, zcl Z, nmf B n (stf B n (zj Z + 1 + 0)), zbo Z, faF B n (Po B n 0 99 (zj Z)) (zj Z + 1) 2, zcf Z, zsf Z, znf Z) := by
        unfold tli
        rw [cif_n n0, cif_n (fun y => w0 y.1), cif_n (fun y => w1 y.1), cif_n (fun y => w2 y.1), cif_p ⟨w, z⟩]
      rw [e'] at k0
      exact k0 a u' c d
  refine u_wd (w := 4) (by decide) t tk (fun w => ⟨fun y => absurd y (by decide), fun _ => ?_⟩) (fun w4 => ⟨fun _ => bad (fun y => w0 y.1) (fun y => w1 y.1) (fun y => w2 y.1) (fun y => w3 y.1) (fun y => w4 y.1), fun y => absurd m_0 y⟩)
  refine u_once (Z := Z) (j := zj Z) (by omega) (by omega) t tk (by rw [rb]; omega) (fun z u' a b c d e f g => ⟨fun y => absurd y (by decide), fun _ => ?_⟩) (fun z u' a c d => ⟨fun _ => ?_, fun y => absurd m_0 y⟩) (fun z => ⟨fun _ => bad (fun y => w0 y.1) (fun y => w1 y.1) (fun y => w2 y.1) (fun y => w3 y.1) (fun y => z (by rw [rb]; exact y.2)), fun y => absurd m_0 y⟩)
  · rw [rb] at z
    have e' : tli B n Z = (zj Z + 3, zC Z, zS Z, zcl Z, zfe Z, nmf B n (stf B n (zj Z + 1 + 0)), faF B n (Po B n 0 9 (zj Z)) (zj Z + 1) 2, zcf Z, zsf Z, znf Z) := by
      unfold tli
      rw [cif_n n0, cif_n (fun y => w0 y.1), cif_n (fun y => w1 y.1), cif_n (fun y => w2 y.1), cif_n (fun y => w3 y.1), cif_p ⟨w, z⟩]
    rw [e'] at k1
    refine k1 a u' c ⟨d, e, ⟨?_, ?_, ?_, ?_, ?_⟩, ?_, ?_, ?_⟩
    · rw [g 6 (by decide) (by decide) (by decide) (by decide) (by decide)]; exact r6
    · rw [g 8 (by decide) (by decide) (by decide) (by decide) (by decide)]; exact r8
    · rw [f, fu_n (by decide)]; exact rl
    · rw [f, fu_n (by decide)]; exact rf
    · rw [f, fu_e]; rfl
    · rw [b 213 (by decide) (by decide)]; exact rc
    · rw [b 215 (by decide) (by decide)]; exact rs
    · rw [b 214 (by decide) (by decide)]; exact rn
  · rw [rb] at z
    have e' : tli B n Z = (zj Z + 3, zC Z, zS Z, zcl Z, zfe Z, nmf B n (stf B n (zj Z + 1 + 0)), faF B n (Po B n 0 9 (zj Z)) (zj Z + 1) 2, zcf Z, zsf Z, znf Z) := by
      unfold tli
      rw [cif_n n0, cif_n (fun y => w0 y.1), cif_n (fun y => w1 y.1), cif_n (fun y => w2 y.1), cif_n (fun y => w3 y.1), cif_p ⟨w, z⟩]
    rw [e'] at k0
    exact k0 a u' c d
theorem tli_j {B : Int → Int} {n : Int} (hb : bok B n) {Z : Tw} (h : zfa (tli B n Z) = -1) : tli B n Z = Z ∧ kdf B n (stf B n (zj Z)) = 0 ∨ zj Z + 1 ≤ zj (tli B n Z) ∧ zfa Z = -1 := by
  have sr := st_r hb (zj Z)
  unfold tli at h ⊢
  by_cases q0 : zfa Z ≠ -1 ∨ kdf B n (stf B n (zj Z)) = 0
  · rw [cif_p q0] at h ⊢
    rcases q0 with q | q
    · exact absurd h q
    · exact Or.inl ⟨rfl, q⟩
  rw [cif_n q0] at h ⊢
  have z1 : zfa Z = -1 := by
    by_cases z : zfa Z = -1
    · exact z
    · exact absurd (Or.inl z) q0
  right
  refine ⟨?_, z1⟩
  by_cases q1 : wdP B n (stf B n (zj Z)) 0 ∧ zC Z < 3
  · rw [cif_p q1]; show zj Z + 1 ≤ zj Z + 5; omega
  rw [cif_n q1] at h ⊢
  by_cases q2 : wdP B n (stf B n (zj Z)) 1 ∧ zS Z < 5
  · rw [cif_p q2]; show zj Z + 1 ≤ zj Z + 9; omega
  rw [cif_n q2] at h ⊢
  by_cases q3 : wdP B n (stf B n (zj Z)) 2 ∧ zcl Z = -1
  · rw [cif_p q3]; show zj Z + 1 ≤ zj Z + 3; omega
  rw [cif_n q3] at h ⊢
  by_cases q4 : wdP B n (stf B n (zj Z)) 3 ∧ zfe Z = -1
  · rw [cif_p q4]; show zj Z + 1 ≤ zj Z + 3; omega
  rw [cif_n q4] at h ⊢
  by_cases q5 : wdP B n (stf B n (zj Z)) 4 ∧ zbo Z = -1
  · rw [cif_p q5]; show zj Z + 1 ≤ zj Z + 3; omega
  rw [cif_n q5] at h
  have h : stf B n (zj Z) = -1 := h
  omega
theorem tre_j {B : Int → Int} {n : Int} (hb : bok B n) : ∀ k : Nat, zfa (tre B n k) = -1 → k ≤ zj (tre B n k) ∨ kdf B n (stf B n (zj (tre B n k))) = 0 := by
  intro k
  induction k with
  | zero => intro _; left; exact Nat.zero_le _
  | succ k ih =>
    intro h
    rcases tli_j hb h with q | q
    · right
      have e : tre B n (k + 1) = tre B n k := q.1
      rw [e]; exact q.2
    · rcases ih q.2 with r | r
      · left
        have : zj (tre B n k) + 1 ≤ zj (tre B n (k + 1)) := q.1
        omega
      · right
        have e := tre_stop (k := k) (Or.inr r) 1
        rw [e]; exact r
theorem u_readT {u : mm_M} {B : Int → Int} {n : Int} (t : tx2 u B n) {post : Int → mm_M → Prop} (k : ∀ u', fM u u' → (tfa B n = -1 → mT u' B n (tre B n 500)) → post (tfa B n) u') : wp_X11_townFault 211 u post := by
  have hb := t.2.2
  have hn := hb.1
  intro L12 L39 h12 h39 s1 e1 s2 e2
  have loop : ∀ d x : Nat, x + d = 500 → zfa (tre B n x) = -1 → ∀ w, fM u w → mT w B n (tre B n x) → L39 w := by
    intro d
    have done : ∀ x : Nat, x ≤ 500 → zfa (tre B n x) = -1 → kdf B n (stf B n (zj (tre B n x))) = 0 → ∀ w, fM u w → mT w B n (tre B n x) → L39 w := by
      intro x hx zx kx w fw mw
      have e := tre_stop (k := x) (Or.inr kx) (500 - x)
      rw [show x + (500 - x) = 500 by omega] at e
      have ok := tre_ok hb x zx
      have o1 := ok.1
      have o2 := ok.2.1
      have mw' := mw
      obtain ⟨tw, tkw, ⟨w6, w8, -⟩, -⟩ := mw'
      have sr := st_r hb (zj (tre B n x))
      apply h39
      rw [tkw.2.2.1, km_0.mpr kx, w6, w8, n32_id (x := zC (tre B n x)) (by omega) (by omega), n32_id (x := zS (tre B n x)) (by omega) (by omega), tkw.1]
      have fin := k w fw
      unfold tfa at fin
      rw [e, if_pos zx] at fin
      have bad : (zC (tre B n x) = 0 ∨ zS (tre B n x) = 0) → post (stf B n (zj (tre B n x))) w := by
        intro q
        rw [if_pos q] at fin
        exact fin (fun y => by omega)
      refine ⟨fun _ => ⟨fun q => bad (Or.inl q), fun q => ⟨fun q2 => ?_, fun q2 => bad (Or.inr q2)⟩⟩, fun y => absurd rfl y⟩
      rw [if_neg (fun y => by rcases y with y | y; exact q y; exact q2 y)] at fin
      exact fin (fun _ => mw)
    induction d with
    | zero =>
      intro x hx zx w fw mw
      refine done x (by omega) zx ?_ w fw mw
      rcases tre_j hb x zx with q | q
      · exact st_end hb (by omega)
      · exact q
    | succ d ih =>
      intro x hx zx w fw mw
      by_cases kx : kdf B n (stf B n (zj (tre B n x))) = 0
      · exact done x (by omega) zx kx w fw mw
      · have kr := km_r (B := B) (n := n) (p := stf B n (zj (tre B n x)))
        have k0' := km_0 (B := B) (n := n) (p := stf B n (zj (tre B n x)))
        apply h39
        rw [mw.2.1.2.2.1, n32_id (x := kmf B n (stf B n (zj (tre B n x)))) (by omega) (by omega)]
        refine ⟨fun y => absurd (k0'.mp y) kx, fun _ => u_line mw zx kx (tre_ok hb x zx) (fun z w' f' m' => ⟨fun _ => ih (x + 1) (by omega) z w' (fw.tr f') m', fun y => absurd y (by decide)⟩) (fun z w' f' e' => ⟨fun y => absurd m_0 y, fun _ => ?_⟩)⟩
        have e := tre_stop (k := x + 1) (Or.inl z) (500 - (x + 1))
        rw [show x + 1 + (500 - (x + 1)) = 500 by omega] at e
        have fin := k w' (fw.tr f')
        unfold tfa at fin
        have z' : zfa (tre B n (x + 1)) ≠ -1 := z
        rw [e, if_neg z'] at fin
        rw [e']
        exact fin (fun y => absurd y z')
  have start : ∀ w, (∀ c : Nat, c ≠ 211 → c ≠ 216 → w c = u c) → (∀ i : Int, i ≠ 2 → i ≠ 3 → i ≠ 4 → i ≠ 5 → i ≠ 6 → i ≠ 8 → w 211 i = u 211 i) → w 211 6 = 0 → w 211 8 = 0 → (∀ i : Int, 0 ≤ i → i < 3 → w 216 i = -1) → w 211 2 = 0 → wp_X11_leads 211 w (fun s_5 => L39 s_5) := by
    intro w f1 f2 w6 w8 w16 w2
    have tw : tx2 w B n := ⟨by rw [f2 1 (by decide) (by decide) (by decide) (by decide) (by decide) (by decide)]; exact t.1, by rw [f1 212 (by decide) (by decide)]; exact t.2.1, t.2.2⟩
    refine u_leads tw ⟨Int.le_refl 0, hn.1⟩ w2 (fun u' a b c => ?_)
    have g : gM w u' := ⟨a, fun i i1 i2 i3 i4 i5 => b i i1 i2 i3 i4⟩
    have fw : fM u w := ⟨fun c a b => f1 c a (by omega), fun i a b c d e f _ => f2 i a b c d e f⟩
    refine loop 500 0 (by omega) rfl u' (fw.tr g.f) ⟨g.tx tw, c, ⟨?_, ?_, ?_, ?_, ?_⟩, fun i a b => ?_, fun i a b => ?_, fun i a b => ?_⟩
    · rw [b 6 (by decide) (by decide) (by decide) (by decide)]; exact w6
    · rw [b 8 (by decide) (by decide) (by decide) (by decide)]; exact w8
    · rw [a 216 (by decide)]; exact w16 0 (by omega) (by omega)
    · rw [a 216 (by decide)]; exact w16 1 (by omega) (by omega)
    · rw [a 216 (by decide)]; exact w16 2 (by omega) (by omega)
    · have b : i < 0 := b
      omega
    · have b : i < 0 := b
      omega
    · have b : i < 0 := b
      omega
  have key : ∀ d x : Nat, x + d = 3 → ∀ w, (∀ c : Nat, c ≠ 211 → c ≠ 216 → w c = u c) → (∀ i : Int, i ≠ 6 → i ≠ 8 → w 211 i = u 211 i) → w 211 6 = 0 → w 211 8 = 0 → (∀ i : Int, 0 ≤ i → i < x → w 216 i = -1) → L12 x w := by
    intro d
    induction d with
    | zero =>
      intro x hx w f1 f2 w6 w8 w16
      have : x = 3 := by omega
      subst this
      apply h12
      refine ⟨fun _ s4 e4 => start s4 (fun c a b => by rw [e4, up_c a]; exact f1 c a b) (fun i a b c d e f => by rw [e4, up_n (by omega)]; exact f2 i e f) (by rw [e4, up_n (by decide)]; exact w6) (by rw [e4, up_n (by decide)]; exact w8) (fun i a b => by rw [e4, up_c (by decide)]; exact w16 i a b) (by rw [e4, up_e]), fun z => absurd (by decide) z⟩
    | succ d ih =>
      intro x hx w f1 f2 w6 w8 w16
      apply h12
      rw [n32_id (x := (x : Int)) (by omega) (by omega), show mm_rt 211 11 = 216 from rfl]
      refine ⟨fun z => by omega, fun _ => ⟨⟨by omega, by omega⟩, fun s7 e7 v ev => ?_⟩⟩
      rw [ev, show (x : Int) + 1 = ((x + 1 : Nat) : Int) by omega]
      refine ih (x + 1) (by omega) s7 (fun c a b => by rw [e7, up_c b]; exact f1 c a b) (fun i a b => by rw [e7, up_c (by decide)]; exact f2 i a b) (by rw [e7, up_c (by decide)]; exact w6) (by rw [e7, up_c (by decide)]; exact w8) (fun i a b => ?_)
      rw [e7]
      by_cases q : i = x
      · rw [q, up_e]
      · rw [up_n (Or.inr q)]; exact w16 i a (by omega)
  exact key 3 0 (by omega) s2 (fun c a _ => by rw [e2, up_c a, e1, up_c a]) (fun i a b => by rw [e2, up_n (by omega), e1, up_n (by omega)]) (by rw [e2, up_n (by decide), e1, up_e]) (by rw [e2, up_e]) (fun i a b => by omega)
